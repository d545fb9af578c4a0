section
-- ===== PART A: goes FIRST, ahead of the names: the tables' words, and 'selects' of the private methods out of them =====
/-- a private method of a class that the tables say can be made, by its rows of tables_1 -/
def lw_okq (q : MethodName × Nat) : Prop := (q.1.cls ≠ "java/lang/invoke/MethodHandle" ∧ q.1.cls ≠ "java/lang/invoke/VarHandle") ∧ Cond.instantiable q.1.cls q.2 ∈ tables_1 ∧ Cond.privateMethod q.1 ∈ tables_1 ∧ Cond.instanceMethod q.1 ∈ tables_1
theorem lw_p0 : lw_okq (⟨"ParcelChutes", "chuteAt", "(I)LParcelChutes$Chute;"⟩, 10) := ⟨⟨by decide +kernel, by decide +kernel⟩, List.mem_of_getElem? (i := 13) (by decide +kernel), List.mem_of_getElem? (i := 102) (by decide +kernel), List.mem_of_getElem? (i := 103) (by decide +kernel)⟩
theorem lw_p1 : lw_okq (⟨"java/lang/Throwable", "fillInStackTrace", "(I)Ljava/lang/Throwable;"⟩, 6) := ⟨⟨by decide +kernel, by decide +kernel⟩, List.mem_of_getElem? (i := 145) (by decide +kernel), List.mem_of_getElem? (i := 143) (by decide +kernel), List.mem_of_getElem? (i := 144) (by decide +kernel)⟩
theorem lw_p2 : lw_okq (⟨"ParcelChutes", "readGauges", "(II)V"⟩, 10) := ⟨⟨by decide +kernel, by decide +kernel⟩, List.mem_of_getElem? (i := 13) (by decide +kernel), List.mem_of_getElem? (i := 247) (by decide +kernel), List.mem_of_getElem? (i := 248) (by decide +kernel)⟩
theorem lw_p3 : lw_okq (⟨"ParcelChutes", "putAside", "(II)V"⟩, 10) := ⟨⟨by decide +kernel, by decide +kernel⟩, List.mem_of_getElem? (i := 13) (by decide +kernel), List.mem_of_getElem? (i := 264) (by decide +kernel), List.mem_of_getElem? (i := 265) (by decide +kernel)⟩
theorem lw_p4 : lw_okq (⟨"ParcelChutesModel", "many", "(I)I"⟩, 20) := ⟨⟨by decide +kernel, by decide +kernel⟩, List.mem_of_getElem? (i := 396) (by decide +kernel), List.mem_of_getElem? (i := 478) (by decide +kernel), List.mem_of_getElem? (i := 479) (by decide +kernel)⟩
theorem lw_p5 : lw_okq (⟨"ParcelChutesModel", "gaugeAll", "(II)V"⟩, 20) := ⟨⟨by decide +kernel, by decide +kernel⟩, List.mem_of_getElem? (i := 396) (by decide +kernel), List.mem_of_getElem? (i := 504) (by decide +kernel), List.mem_of_getElem? (i := 505) (by decide +kernel)⟩
theorem lw_p6 : lw_okq (⟨"ParcelChutesModel", "fitsChute", "(III)Z"⟩, 20) := ⟨⟨by decide +kernel, by decide +kernel⟩, List.mem_of_getElem? (i := 396) (by decide +kernel), List.mem_of_getElem? (i := 508) (by decide +kernel), List.mem_of_getElem? (i := 509) (by decide +kernel)⟩
theorem lw_p7 : lw_okq (⟨"ParcelChutesModel", "putIn", "(III)V"⟩, 20) := ⟨⟨by decide +kernel, by decide +kernel⟩, List.mem_of_getElem? (i := 396) (by decide +kernel), List.mem_of_getElem? (i := 512) (by decide +kernel), List.mem_of_getElem? (i := 513) (by decide +kernel)⟩
theorem lw_p8 : lw_okq (⟨"ParcelChutesModel", "putAside", "(II)V"⟩, 20) := ⟨⟨by decide +kernel, by decide +kernel⟩, List.mem_of_getElem? (i := 396) (by decide +kernel), List.mem_of_getElem? (i := 516) (by decide +kernel), List.mem_of_getElem? (i := 517) (by decide +kernel)⟩
theorem lw_p9 : lw_okq (⟨"ParcelChutesModel", "unknownIn", "(IZ)I"⟩, 20) := ⟨⟨by decide +kernel, by decide +kernel⟩, List.mem_of_getElem? (i := 396) (by decide +kernel), List.mem_of_getElem? (i := 532) (by decide +kernel), List.mem_of_getElem? (i := 533) (by decide +kernel)⟩
theorem lw_p10 : lw_okq (⟨"ParcelChutesModel", "askedFor", "(II)I"⟩, 20) := ⟨⟨by decide +kernel, by decide +kernel⟩, List.mem_of_getElem? (i := 396) (by decide +kernel), List.mem_of_getElem? (i := 540) (by decide +kernel), List.mem_of_getElem? (i := 541) (by decide +kernel)⟩
theorem lw_p11 : lw_okq (⟨"ParcelChutesModel", "parcelAt", "(II)I"⟩, 20) := ⟨⟨by decide +kernel, by decide +kernel⟩, List.mem_of_getElem? (i := 396) (by decide +kernel), List.mem_of_getElem? (i := 544) (by decide +kernel), List.mem_of_getElem? (i := 545) (by decide +kernel)⟩
theorem lw_p12 : lw_okq (⟨"ParcelChutesModel", "placeOf", "(I)I"⟩, 20) := ⟨⟨by decide +kernel, by decide +kernel⟩, List.mem_of_getElem? (i := 396) (by decide +kernel), List.mem_of_getElem? (i := 548) (by decide +kernel), List.mem_of_getElem? (i := 549) (by decide +kernel)⟩
theorem lw_p13 : lw_okq (⟨"ParcelChutesModel", "isAhead", "(II)Z"⟩, 20) := ⟨⟨by decide +kernel, by decide +kernel⟩, List.mem_of_getElem? (i := 396) (by decide +kernel), List.mem_of_getElem? (i := 552) (by decide +kernel), List.mem_of_getElem? (i := 553) (by decide +kernel)⟩
theorem lw_p14 : lw_okq (⟨"ParcelChutesModel", "heaviestIn", "(I)I"⟩, 20) := ⟨⟨by decide +kernel, by decide +kernel⟩, List.mem_of_getElem? (i := 396) (by decide +kernel), List.mem_of_getElem? (i := 580) (by decide +kernel), List.mem_of_getElem? (i := 581) (by decide +kernel)⟩
def lw_privs_1 : List (MethodName × Nat) := [(⟨"ParcelChutes", "chuteAt", "(I)LParcelChutes$Chute;"⟩, 10), (⟨"java/lang/Throwable", "fillInStackTrace", "(I)Ljava/lang/Throwable;"⟩, 6), (⟨"ParcelChutes", "readGauges", "(II)V"⟩, 10), (⟨"ParcelChutes", "putAside", "(II)V"⟩, 10), (⟨"ParcelChutesModel", "many", "(I)I"⟩, 20), (⟨"ParcelChutesModel", "gaugeAll", "(II)V"⟩, 20), (⟨"ParcelChutesModel", "fitsChute", "(III)Z"⟩, 20), (⟨"ParcelChutesModel", "putIn", "(III)V"⟩, 20), (⟨"ParcelChutesModel", "putAside", "(II)V"⟩, 20), (⟨"ParcelChutesModel", "unknownIn", "(IZ)I"⟩, 20), (⟨"ParcelChutesModel", "askedFor", "(II)I"⟩, 20), (⟨"ParcelChutesModel", "parcelAt", "(II)I"⟩, 20), (⟨"ParcelChutesModel", "placeOf", "(I)I"⟩, 20), (⟨"ParcelChutesModel", "isAhead", "(II)Z"⟩, 20), (⟨"ParcelChutesModel", "heaviestIn", "(I)I"⟩, 20)]
theorem lw_r1 : ∀ q ∈ lw_privs_1, lw_okq q := List.forall_mem_cons.mpr ⟨lw_p0, List.forall_mem_cons.mpr ⟨lw_p1, List.forall_mem_cons.mpr ⟨lw_p2, List.forall_mem_cons.mpr ⟨lw_p3, List.forall_mem_cons.mpr ⟨lw_p4, List.forall_mem_cons.mpr ⟨lw_p5, List.forall_mem_cons.mpr ⟨lw_p6, List.forall_mem_cons.mpr ⟨lw_p7, List.forall_mem_cons.mpr ⟨lw_p8, List.forall_mem_cons.mpr ⟨lw_p9, List.forall_mem_cons.mpr ⟨lw_p10, List.forall_mem_cons.mpr ⟨lw_p11, List.forall_mem_cons.mpr ⟨lw_p12, List.forall_mem_cons.mpr ⟨lw_p13, List.forall_mem_cons.mpr ⟨lw_p14, fun _ h => absurd h List.not_mem_nil⟩⟩⟩⟩⟩⟩⟩⟩⟩⟩⟩⟩⟩⟩⟩
def lw_privs : List (MethodName × Nat) := lw_privs_1
def lw_tbl : List Cond := k2_sels lw_privs ++ tables_1
theorem lw_privs_ok : ∀ q ∈ lw_privs, lw_okq q := lw_r1
end
section
/-! ===== BEGIN words of one list among another's, by their places ===== -/
theorem goodIn_r {big : List Cond} (ws : List Cond) (ps : List Nat) (hp : ws = ps.filterMap (fun i => big[i]?)) (h : ws.all goodWord = true) : GoodIn big ws := by
  intro w hw
  have h1 := List.all_eq_true.mp h w hw
  rw [hp] at hw
  obtain ⟨i, -, hi⟩ := List.mem_filterMap.mp hw
  have hm : w ∈ big := by first | exact List.mem_of_getElem? hi | exact List.getElem?_mem hi
  exact ⟨hm, good_of_word h1⟩
theorem goodIn_app {big a b : List Cond} (ha : GoodIn big a) (hb : GoodIn big b) : GoodIn big (a ++ b) := fun w h => (List.mem_append.mp h).elim (ha w) (hb w)
theorem goodIn_ca {big a b : List Cond} {c : Cond} (ha : GoodIn big (c :: a)) (hb : GoodIn big b) : GoodIn big (c :: (a ++ b)) := fun w h => (List.mem_cons.mp h).elim (fun e => ha w (List.mem_cons.mpr (Or.inl e))) (fun h => (List.mem_append.mp h).elim (fun h => ha w (List.mem_cons.mpr (Or.inr h))) (hb w))
theorem goodIn_sub {big ws : List Cond} (hm : ∀ w ∈ ws, w ∈ big) (h : ws.all goodWord = true) : GoodIn big ws := fun w hw => ⟨hm w hw, good_of_word (List.all_eq_true.mp h w hw)⟩
/-! ===== END ===== -/

/-! ===== BEGIN exceptions that leave a method, and their catching by the caller (launches without stack traces) ===== -/
section VXA
/-! The laws vx_back, vx_callV, vx_callS, vx_callSW, vx_throw0, vx_throwS follow proofs of the library, with one case more: JvmDerived/Free/Laws.lean (Back.of_free), Shelf42/LK1.lean (callV, callS), Shelf/KitTraced.lean (throwNew0V, throwNewS). -/
/-- where a method has thrown q: the class by its name, the cell, what was written, the world -/
def vx_T (XC : String → State → State → Prop) (st : State) (q : Addr) (t : State) (mc ms : Nat) (free : Addr → Prop) : Prop :=
  ∃ (E : String) (ce : Cell) (L : List Loc), XC E st t ∧ t.heap[q]? = some ce ∧ ce.vm = .none ∧ st.vm.findClass E = some ce.cls ∧ st.WarmedH t.vm ∧ st.sameButNew ({ t with vm := st.vm } : State) L mc ms ∧ ∀ z ∈ L, free z.base
def vx_Q (Qc : Array Value → State → Outcome → State → Prop) (XC : String → State → State → Prop) (mc ms : Nat) (free : Addr → Prop) : Array Value → State → Outcome → State → Prop := fun a st o t =>
  (Qc a st o t ∧ ∃ L, FrameEnd st o t L mc ms ∧ ∀ q ∈ L, free q.base) ∨ ∃ q, o = .threw q ∧ vx_T XC st q t mc ms free
/-- a callee that returns or throws -/
def vx_Met (l : Launch) (y : MethodName) (ws : List Cond) (rm : Room) (Pc : Array Value → State → Prop) (Qc : Array Value → State → Outcome → State → Prop) (XC : String → State → State → Prop) (mc ms : Nat) (free : Addr → Prop) : Prop :=
  MetFree l y (headSpec ws rm) Pc (fun _ _ _ _ _ => True) (vx_Q Qc XC mc ms free)
def vx_Post (XC : String → State → State → Prop) (mc ms : Nat) (free : Addr → Prop) : Pt → Array Value → Addr → Pt → Prop := fun A a q B =>
  ∃ (g : JFrame) (mk : MethodId) (t : State) (L : List Loc) (E : String) (ce : Cell), B.U.heap = t.heap ∧ B.U.vm = t.vm ∧ XC E (A.U.calling g mk a) t ∧ t.heap[q]? = some ce ∧ ce.vm = .none ∧ A.U.vm.findClass E = some ce.cls ∧ B.locs = A.locs ++ L ∧ (∀ z ∈ L, free z.base) ∧ B.cells = A.cells + mc ∧ B.slots = A.slots + ms
def vx_Back (l : Launch) (R : Room) (p : Program) (e : Env) (below : List Frame) (s : State) (sargs : Array Value) (y : MethodName) (len W9 : Nat)
    (Pre : Pt → Array Value → Prop) (Post : Pt → Array Value → Option Value → Pt → Prop) (PostX : Pt → Array Value → Addr → Pt → Prop) : Prop :=
  ∀ (m : MethodId) (meth : Method) (c : Code) (A : Pt) (g : JFrame) (ig : Instr) (mk : MethodId) (a : Array Value),
    Stand p l e R s m sargs below meth c A.U A.locs A.cells A.slots → g.method = m → g.locals.size = c.maxLocals → decode c.code g.pc = .ok (ig, len) →
    2 * g.monitorRoom + (g.stack.map fun v => v.category).sum ≤ W9 → A.U.methodNamed? y = some mk → Pre A a →
    (∃ (v : Option Value) (B : Pt), Stand p l e R s m sargs below meth c B.U B.locs B.cells B.slots ∧ Post A a v B ∧
      Steps p.tables e below (doInvoke e (A.U.setTop g) [] mk a).1 (B.U.setTop { g with pc := g.pc + len, stack := v.toList ++ g.stack })) ∨
    (∃ (q : Addr) (B : Pt), Stand p l e R s m sargs below meth c B.U B.locs B.cells B.slots ∧ PostX A a q B ∧
      Steps p.tables e below (doInvoke e (A.U.setTop g) [] mk a).1 ((B.U.setTop g).pushFrame (.throwing q)))
section Payer
variable {l : Launch} {R : Room} {p : Program} {e : Env} {below : List Frame} {s : State} {sargs : Array Value} {y : MethodName} {len W9 : Nat}
theorem vx_back {ws : List Cond} {rm : Room} {Pc : Array Value → State → Prop} {Qc : Array Value → State → Outcome → State → Prop} {XC : String → State → State → Prop} {mc ms : Nat} {free : Addr → Prop} {bytes : ByteArray} {maxL : Nat} {ret : Option FieldType}
    (hM : vx_Met l y ws rm Pc Qc XC mc ms free) (hblind : FrameBlind Pc) (hrc : rm.cells = mc) (hrs : rm.slots = ms)
    (hframes : rm.frames + 1 ≤ R.frames) (hlocals : W9 + (maxL + 11) + rm.locals ≤ R.locals)
    (hws : ∀ w ∈ ws, ∀ a' U, s.WarmedH U.vm → w.before a' U = true) (hcode : Cond.code y bytes maxL ret ∈ ws) (hinit : ∀ a' U, s.WarmedH U.vm → (Cond.initialized y.cls).before a' U = true) :
    vx_Back l R p e below s sargs y len W9 (PreOf R mc ms Pc) (PostOf Qc mc ms free) (vx_Post XC mc ms free) := by
  intro m meth c A g ig mk a X hg hsize hdg hW hn hp
  have h1 : (headSpec ws rm).pre.before a A.U = true := atoms_intro fun w hw => hws w hw _ _ X.warmed
  have h2 : (Cond.code y bytes maxL ret).before a A.U = true := hws _ hcode _ _ X.warmed
  have h3 : (Cond.initialized y.cls).before a A.U = true := hinit _ _ X.warmed
  have h4 : A.cells + (headSpec ws rm).room.cells ≤ R.cells := by rw [show (headSpec ws rm).room.cells = mc from hrc]; exact hp.1
  have h5 : A.slots + (headSpec ws rm).room.slots ≤ R.slots := by rw [show (headSpec ws rm).room.slots = ms from hrs]; exact hp.2.1
  have hPc : Pc a (A.U.calling g mk a) := hblind _ _ _ _ hp.2.2
  obtain ⟨U, Ls, c0, s0⟩ := A
  dsimp only [Pt.U, Pt.locs, Pt.cells, Pt.slots] at h1 h2 h3 h4 h5 X hn hPc ⊢
  obtain ⟨methY, cY, hmY, hcY, -, hlY, -, -, -, -⟩ := Cond.code_spec hn h2
  obtain ⟨kY, hkY, -⟩ := className_of_methodNamed hn
  have hinitY : kY.init = .initialized := Cond.initialized_spec (findClass_of_methodNamed hn) hkY h3
  have h : At U g.method c below := by rw [hg]; exact X.here
  have hlocals9 : W9 + (maxL + 11) + (headSpec ws rm).room.locals ≤ R.locals := hlocals
  have happ : (headSpec ws rm).appliesLoose y e.platform (U.calling g mk a) = true :=
    Spec.appliesLoose_calling (g := g) h hdg hn hkY hinitY
      (X.room_calling (g := g) (R' := (headSpec ws rm).room) hsize hmY hcY hframes (by rw [hlY]; omega) h4 h5) h1
  obtain ⟨mid, hmid⟩ := h.above
  have hfr : (U.setTop g).frames = (.java g :: mid) ++ below := by rw [State.frames_setTop' g h.top, hmid]; rfl
  obtain ⟨o, s₂, hsteps, -, hend, hq⟩ := Steps.callFree hM p X.admits X.cas X.clock (acts := []) hfr happ hPc trivial
  have hq' : vx_Q Qc XC mc ms free a (U.calling g mk a) o s₂ := hq
  rw [State.frames_setTop' g h.top] at hend
  obtain ⟨g₀, hg0⟩ := Option.isSome_iff_exists.mp h.top
  obtain ⟨r, hr⟩ := State.topJava?_eq_some.mp hg0
  have hr' : (({ U with heap := s₂.heap, slotsUsed := s₂.slotsUsed } : State).setVm s₂.vm).frames = .java g₀ :: r := hr
  rcases hq' with ⟨hqc, L, hfe, hL⟩ | ⟨q, rfl, E, ce, L, hx, hce, hcv, hcl, hW₂, hsm, hL⟩
  · obtain ⟨⟨v, rfl⟩, hW₂, e2, q2, q3, q4, q5, q6⟩ := id hfe
    have e3 : s₂ = ({ (U.calling g mk a).setFrames s₂.frames with heap := s₂.heap, slotsUsed := s₂.slotsUsed } : State).setVm s₂.vm := by
      have : s₂ = ({ s₂ with vm := (U.calling g mk a).vm } : State).setVm s₂.vm := rfl
      rw [e2] at this
      exact this
    obtain ⟨c₂, i₂, len₂, hc₂, hd₂, hf₂⟩ := hend
    have hW' : U.WarmedH s₂.vm := hW₂
    have hcc : c₂ = c := by
      have h1 : s₂.code? g.method = U.code? g.method := by
        rw [State.code?_eq, State.code?_eq, hW'.alike.method?]
      exact Option.some.inj (hc₂.symm.trans (h1.trans h.code))
    subst hcc
    have hlen : len₂ = len := by rw [hdg] at hd₂; cases hd₂; rfl
    subst hlen
    have hs₂ : s₂ = (({ U with heap := s₂.heap, slotsUsed := s₂.slotsUsed } : State).setVm s₂.vm).setTop { g with pc := g.pc + len₂, stack := v.toList ++ g.stack } := by
      refine e3.trans ?_
      rw [hf₂, State.calling_eq h.top, State.setFrames_setFrames, State.setTop_of_frames _ hr', hr]
      rfl
    have hsame : U.sameButNew ({ U with heap := s₂.heap, slotsUsed := s₂.slotsUsed } : State) L mc ms := by
      refine ⟨?_, q2, q3, q4, q5, q6⟩
      obtain ⟨t, ht, -⟩ := State.frames_cons hr
      show ({ U with heap := s₂.heap, slotsUsed := s₂.slotsUsed } : State) = { U.setFrames U.frames with heap := s₂.heap, slotsUsed := s₂.slotsUsed }
      rw [State.setFrames_self ht]
    subst hg
    refine Or.inl ⟨v, ⟨(({ U with heap := s₂.heap, slotsUsed := s₂.slotsUsed } : State).setVm s₂.vm), Ls ++ L, c0 + mc, s0 + ms⟩,
      ⟨X.admits, X.cas, X.clock, X.frames, X.room, X.hears, X.method, X.code, (X.here.setHeapUsed s₂.heap s₂.slotsUsed).setVm hW'.alike, X.tail, State.WarmedH.trans X.warmed hW', X.limits, X.bytes, X.same.trans (hsame.setVm s.vm)⟩,
      ⟨g, mk, s₂, L, rfl, rfl, hqc, rfl, hL, rfl, rfl⟩, ?_⟩
    show Steps p.tables e below _ ((({ U with heap := s₂.heap, slotsUsed := s₂.slotsUsed } : State).setVm s₂.vm).setTop { g with pc := g.pc + len₂, stack := v.toList ++ g.stack })
    rw [← hs₂]
    exact hsteps
  · obtain ⟨e2, q2, q3, q4, q5, q6⟩ := id hsm
    have e3 : s₂ = ({ (U.calling g mk a).setFrames s₂.frames with heap := s₂.heap, slotsUsed := s₂.slotsUsed } : State).setVm s₂.vm := by
      have : s₂ = ({ s₂ with vm := (U.calling g mk a).vm } : State).setVm s₂.vm := rfl
      rw [e2] at this
      exact this
    have hf₂ : s₂.frames = .throwing q :: .java g :: U.frames.tail := hend
    have hW' : U.WarmedH s₂.vm := hW₂
    have hs₂ : s₂ = ((({ U with heap := s₂.heap, slotsUsed := s₂.slotsUsed } : State).setVm s₂.vm).setTop g).pushFrame (.throwing q) := by
      refine e3.trans ?_
      rw [hf₂, State.calling_eq h.top, State.setFrames_setFrames, State.pushFrame, State.frames_setTop _ hr', State.setTop_of_frames _ hr', State.setFrames_setFrames, hr]
      rfl
    have hsame : U.sameButNew ({ U with heap := s₂.heap, slotsUsed := s₂.slotsUsed } : State) L mc ms := by
      refine ⟨?_, q2, q3, q4, q5, q6⟩
      obtain ⟨t, ht, -⟩ := State.frames_cons hr
      show ({ U with heap := s₂.heap, slotsUsed := s₂.slotsUsed } : State) = { U.setFrames U.frames with heap := s₂.heap, slotsUsed := s₂.slotsUsed }
      rw [State.setFrames_self ht]
    subst hg
    refine Or.inr ⟨q, ⟨(({ U with heap := s₂.heap, slotsUsed := s₂.slotsUsed } : State).setVm s₂.vm), Ls ++ L, c0 + mc, s0 + ms⟩,
      ⟨X.admits, X.cas, X.clock, X.frames, X.room, X.hears, X.method, X.code, (X.here.setHeapUsed s₂.heap s₂.slotsUsed).setVm hW'.alike, X.tail, State.WarmedH.trans X.warmed hW', X.limits, X.bytes, X.same.trans (hsame.setVm s.vm)⟩,
      ⟨g, mk, s₂, L, E, ce, rfl, rfl, hx, hce, hcv, hcl, rfl, hL, rfl, rfl⟩, ?_⟩
    show Steps p.tables e below _ (((({ U with heap := s₂.heap, slotsUsed := s₂.slotsUsed } : State).setVm s₂.vm).setTop g).pushFrame (.throwing q))
    rw [← hs₂]
    exact hsteps
end Payer
section Calls
variable {p : Program} {l : Launch} {e : Env} {R : Room} {s : State} {m : MethodId} {args : Array Value} {below : List Frame} {meth : Method} {c : Code} {T : State} {locs : List Loc} {cells slots : Nat}
theorem vx_callV (X : Stand p l e R s m args below meth c T locs cells slots) (hexec : p.tables.exec = Jvm.exec) {own C : String} {index : Nat} {y : MethodName} {bytes : ByteArray} {maxL : Nat} {ret : Option FieldType}
    (hown : s.vm.findClass own = some m.cls) (hlink : (Cond.methodLink own index y).before args s = true) (hinst : (Cond.instanceMethod y).before args s = true) (hsel : (Cond.selects C y y).before args s = true)
    (hcode : (Cond.code y bytes maxL ret).before args s = true) (hy : y.cls ≠ "java/lang/invoke/MethodHandle" ∧ y.cls ≠ "java/lang/invoke/VarHandle")
    {W9 : Nat} {Pre : Pt → Array Value → Prop} {Post : Pt → Array Value → Option Value → Pt → Prop} {PostX : Pt → Array Value → Addr → Pt → Prop} (hK : vx_Back l R p e below s args y 3 W9 Pre Post PostX)
    {b : Addr} {cellB : Cell} (hcell : T.heap[b]? = some cellB) (hobj : cellB.vm.isStatics = false) (hcls : s.vm.findClass C = some cellB.cls)
    {g : JFrame} (hg : g.method = m) (hsize : g.locals.size = c.maxLocals) {argsL rest : List Value} (hlen : ∀ sig, parseMethodDescriptor y.desc = some sig → argsL.length = sig.parameters.length)
    (hstack : g.stack = argsL.reverse ++ .ref b :: rest) (hW : 2 * g.monitorRoom + (rest.map fun v => v.category).sum ≤ W9) (hdg : decode c.code g.pc = .ok (.invokevirtual index, 3))
    (hpre : ∀ vm₁, s.WarmedH vm₁ → Pre ⟨T.setVm vm₁, locs, cells, slots⟩ (Value.ref b :: argsL).toArray) :
    (∃ (v : Option Value) (vm₁ : Vm) (B : Pt), s.WarmedH vm₁ ∧ Stand p l e R s m args below meth c B.U B.locs B.cells B.slots ∧ Post ⟨T.setVm vm₁, locs, cells, slots⟩ (Value.ref b :: argsL).toArray v B ∧
      ∀ target, Steps p.tables e below (B.U.setTop { g with pc := g.pc + 3, stack := v.toList ++ rest }) target → Steps p.tables e below (T.setTop g) target) ∨
    (∃ (q : Addr) (vm₁ : Vm) (B : Pt), s.WarmedH vm₁ ∧ Stand p l e R s m args below meth c B.U B.locs B.cells B.slots ∧ PostX ⟨T.setVm vm₁, locs, cells, slots⟩ (Value.ref b :: argsL).toArray q B ∧
      Steps p.tables e below (T.setTop g) ((B.U.setTop { g with stack := rest }).pushFrame (.throwing q))) := by
  obtain ⟨mk, methM, hnamed, hmethM, hstM, habM⟩ := Cond.instanceMethod_spec hinst
  obtain ⟨methM', cM, hmethM', -, -, -, -, -, -, hsigM⟩ := Cond.code_spec hnamed hcode
  cases hmethM.symm.trans hmethM'
  obtain ⟨c2, r2, m2, q1, q2, q3, q4, kP, hkP, hkPi⟩ := Cond.selects_spec hsel
  cases hcls.symm.trans q1
  cases (State.methodFound?_of_named hnamed hy).symm.trans q2
  cases hnamed.symm.trans q3
  have hselP : selectMethod e.platform s.vm cellB.cls mk = .method mk := by rw [Launch.admits_selectMethod X.admits]; exact q4
  obtain ⟨vm₁, X₁, hstep₁⟩ := X.invokevirtual hexec hown hlink hnamed hmethM hstM hkP hkPi hy (a := b) (cell := cellB) hcell
    (fun z h => by rw [h] at hobj; cases hobj) hselP hmethM habM hkP hkPi (g := g) hg (argsL := argsL) (rest := rest) (hlen _ hsigM) hstack hdg
  rcases hK m meth c ⟨T.setVm vm₁, locs, cells, slots⟩ { g with stack := rest } (.invokevirtual index) mk (Value.ref b :: argsL).toArray X₁ hg hsize hdg hW (X₁.named hnamed) (hpre vm₁ X₁.warmed) with ⟨v, B, X', hpost, hsteps⟩ | ⟨q, B, X', hpost, hsteps⟩
  · exact Or.inl ⟨v, vm₁, B, X₁.warmed, X', hpost, fun target h => hstep₁ _ fun acts => by rw [doInvoke_state]; exact hsteps.trans h⟩
  · exact Or.inr ⟨q, vm₁, B, X₁.warmed, X', hpost, hstep₁ _ fun acts => by rw [doInvoke_state]; exact hsteps⟩
theorem vx_callS (X : Stand p l e R s m args below meth c T locs cells slots) (hexec : p.tables.exec = Jvm.exec) {own : String} {index : Nat} {y : MethodName} {bytes : ByteArray} {maxL : Nat} {ret : Option FieldType}
    (hown : s.vm.findClass own = some m.cls) (hlink : (Cond.methodLink own index y).before args s = true) (hstat : (Cond.static y).before args s = true) (hinit : (Cond.initialized y.cls).before args s = true)
    (hcode : (Cond.code y bytes maxL ret).before args s = true) (hy : y.cls ≠ "java/lang/invoke/MethodHandle" ∧ y.cls ≠ "java/lang/invoke/VarHandle")
    {W9 : Nat} {Pre : Pt → Array Value → Prop} {Post : Pt → Array Value → Option Value → Pt → Prop} {PostX : Pt → Array Value → Addr → Pt → Prop} (hK : vx_Back l R p e below s args y 3 W9 Pre Post PostX)
    {g : JFrame} (hg : g.method = m) (hsize : g.locals.size = c.maxLocals) {argsL rest : List Value} (hlen : ∀ sig, parseMethodDescriptor y.desc = some sig → argsL.length = sig.parameters.length)
    (hstack : g.stack = argsL.reverse ++ rest) (hW : 2 * g.monitorRoom + (rest.map fun v => v.category).sum ≤ W9) (hdg : decode c.code g.pc = .ok (.invokestatic index, 3))
    (hpre : ∀ vm₁, s.WarmedH vm₁ → Pre ⟨T.setVm vm₁, locs, cells, slots⟩ argsL.toArray) :
    (∃ (v : Option Value) (vm₁ : Vm) (B : Pt), s.WarmedH vm₁ ∧ Stand p l e R s m args below meth c B.U B.locs B.cells B.slots ∧ Post ⟨T.setVm vm₁, locs, cells, slots⟩ argsL.toArray v B ∧
      ∀ target, Steps p.tables e below (B.U.setTop { g with pc := g.pc + 3, stack := v.toList ++ rest }) target → Steps p.tables e below (T.setTop g) target) ∨
    (∃ (q : Addr) (vm₁ : Vm) (B : Pt), s.WarmedH vm₁ ∧ Stand p l e R s m args below meth c B.U B.locs B.cells B.slots ∧ PostX ⟨T.setVm vm₁, locs, cells, slots⟩ argsL.toArray q B ∧
      Steps p.tables e below (T.setTop g) ((B.U.setTop { g with stack := rest }).pushFrame (.throwing q))) := by
  obtain ⟨mk, hnamed⟩ := Cond.code_named hcode
  obtain ⟨methM, cM, hmethM, -, -, -, -, -, -, hsigM⟩ := Cond.code_spec hnamed hcode
  have hstatic : methM.isStatic = true := Cond.static_spec hnamed hmethM hstat
  obtain ⟨kP, hkP, -⟩ := className_of_methodNamed hnamed
  have hinitP : kP.init = .initialized := Cond.initialized_spec (findClass_of_methodNamed hnamed) hkP hinit
  obtain ⟨vm₁, X₁, hstep₁⟩ := X.invokestatic hexec hown hlink hnamed hmethM hstatic hkP hinitP hy (g := g) hg (argsL := argsL) (rest := rest) (hlen _ hsigM) hstack hdg
  rcases hK m meth c ⟨T.setVm vm₁, locs, cells, slots⟩ { g with stack := rest } (.invokestatic index) mk argsL.toArray X₁ hg hsize hdg hW (X₁.named hnamed) (hpre vm₁ X₁.warmed) with ⟨v, B, X', hpost, hsteps⟩ | ⟨q, B, X', hpost, hsteps⟩
  · exact Or.inl ⟨v, vm₁, B, X₁.warmed, X', hpost, fun target h => hstep₁ _ fun acts => by rw [doInvoke_state]; exact hsteps.trans h⟩
  · exact Or.inr ⟨q, vm₁, B, X₁.warmed, X', hpost, hstep₁ _ fun acts => by rw [doInvoke_state]; exact hsteps⟩
end Calls
theorem vx_cls {s : State} {T : State} {vm₁ : Vm} {E : String} {k : ClassId} (hW : s.WarmedH vm₁) (h : (T.setVm vm₁).vm.findClass E = some k) : s.vm.findClass E = some k := by
  have h1 : vm₁.findClass E = some k := h
  rw [hW.alike.findClass] at h1
  exact h1
/-- the method's frame g, with q thrown over it -/
def vx_W (p : Program) (l : Launch) (e : Env) (R : Room) (s : State) (m : MethodId) (args : Array Value) (below : List Frame) (meth : Method) (c : Code) (H : Heap) (locs : List Loc) (cells slots : Nat) (Q : State → Prop) (g : JFrame) (q : Addr) : Prop :=
  ∀ T : State, T.heap = H → Stand p l e R s m args below meth c T locs cells slots → ∃ t, Steps p.tables e below ((T.setTop g).pushFrame (.throwing q)) t ∧ Q t
def vx_Run (p : Program) (l : Launch) (e : Env) (R : Room) (s : State) (m : MethodId) (args : Array Value) (below : List Frame) (meth : Method) (c : Code) (H : Heap) (locs : List Loc) (cells slots mc ms : Nat) (g : JFrame) (rest : List Value) (Qa : State → Outcome → State → Prop) (XC : String → State → State → Prop) (free : Addr → Prop) : Prop :=
  ∀ T : State, T.heap = H → Stand p l e R s m args below meth c T locs cells slots →
    (∃ (v : Option Value) (st₀ t T' : State) (L : List Loc), st₀.heap = H ∧ Stand p l e R s m args below meth c T' (locs ++ L) (cells + mc) (slots + ms) ∧ (∀ q ∈ L, free q.base) ∧ T'.heap = t.heap ∧ T'.vm = t.vm ∧ Qa st₀ (.returned v) t ∧
      Goes p e below T g T' { g with pc := g.pc + 3, stack := v.toList ++ rest }) ∨
    (∃ (q : Addr) (st₀ t T' : State) (L : List Loc) (E : String) (ce : Cell), st₀.heap = H ∧ Stand p l e R s m args below meth c T' (locs ++ L) (cells + mc) (slots + ms) ∧ (∀ z ∈ L, free z.base) ∧ T'.heap = t.heap ∧ T'.vm = t.vm ∧ XC E st₀ t ∧ t.heap[q]? = some ce ∧ ce.vm = .none ∧ s.vm.findClass E = some ce.cls ∧
      Steps p.tables e below (T.setTop g) ((T'.setTop { g with stack := rest }).pushFrame (.throwing q)))
def vx_X {S : Type} (px : S → Prop) (B : String → S → State → Prop) (A : Nat → Prop) : String → State → State → Prop := fun E st t => ∃ u : S, px u ∧ B E u t ∧ va_F A st t
section Runs
variable {p : Program} {l : Launch} {e : Env} {R : Room} {s : State} {m : MethodId} {args : Array Value} {below : List Frame} {meth : Method} {c : Code} {H : Heap} {locs : List Loc} {cells slots : Nat}
variable {y : MethodName} {bytes cc : ByteArray} {maxL nL mc ms n index : Nat} {ret : Option FieldType} {ws : List Cond} {rm : Room} {Pc : Array Value → State → Prop} {Qc : Array Value → State → Outcome → State → Prop} {XC : String → State → State → Prop} {free : Addr → Prop} {Ts : List Cond} {own C : String} {b : Addr} {As rest : List Value} {g : JFrame}
theorem vx_callBack (cb : CallB R s args own index y bytes maxL ret ws rm mc ms n) (hM : vx_Met l y ws rm Pc Qc XC mc ms free) (hbl : FrameBlind Pc) : vx_Back l R p e below s args y 3 8 (PreOf R mc ms Pc) (PostOf Qc mc ms free) (vx_Post XC mc ms free) := by
  obtain ⟨hrc, hrs, hfr, hlo, hws, hcw, -, hini, -⟩ := cb
  exact vx_back (bytes := bytes) (maxL := maxL) (ret := ret) hM hbl hrc hrs hfr hlo hws hcw (fun a' U hW => word_at hW (Or.inl (by first | rfl | simp [Cond.onTables, Cond.keeps, Cond.steady])) hini)
theorem vx_runV (S : CallFix p m c cc nL s args Ts own) (hM : vx_Met l y ws rm Pc Qc XC mc ms free) (cw : CallW R s args own C index y bytes maxL ret ws rm mc ms n) (hp : PreV s H C b Pc As)
    (hg : g.method = m) (hn : As.length = n) (hsize : g.locals.size = nL) (hstack : g.stack = As.reverse ++ .ref b :: rest) (hW : 2 * g.monitorRoom + (rest.map fun v => v.category).sum ≤ 8) (hdg : decode cc g.pc = .ok (.invokevirtual index, 3)) (hf : cells + mc ≤ R.cells ∧ slots + ms ≤ R.slots) :
    vx_Run p l e R s m args below meth c H locs cells slots mc ms g rest (Qc (Value.ref b :: As).toArray) XC free := by
  have hK : vx_Back l R p e below s args y 3 8 (PreOf R mc ms Pc) (PostOf Qc mc ms free) (vx_Post XC mc ms free) := vx_callBack cw.1 hM hp.1
  obtain ⟨⟨-, -, -, -, -, -, hcode, -, hy, hlen, hl⟩, hin, hse⟩ := cw
  obtain ⟨hx, hb, hml, ho, -⟩ := S
  obtain ⟨-, ⟨cellB, hcB, hoB, hclB⟩, hPc⟩ := hp
  intro T hT X
  rcases vx_callV X hx (C := C) (bytes := bytes) (maxL := maxL) (ret := ret) ho hl hin hse hcode hy hK (by rw [hT]; exact hcB) hoB hclB hg (hsize.trans hml.symm) (argsL := As) (rest := rest) (fun sig h => hn.trans (hlen sig h)) hstack hW (by rw [hb]; exact hdg)
    (fun vm₁ hW₁ => ⟨hf.1, hf.2, hPc (T.setVm vm₁) hT hW₁⟩) with ⟨v, vm₁, ⟨U', l2, c2, s2⟩, hW₁, X', ⟨g', mk, t, L, e1, e2, hq, h1, hL, h2, h3⟩, st⟩ | ⟨q, vm₁, ⟨U', l2, c2, s2⟩, hW₁, X', ⟨g', mk, t, L, E, ce, e1, e2, hq, hce, hcv, hcl, h1, hL, h2, h3⟩, st⟩
  · dsimp only [Pt.U, Pt.locs, Pt.cells, Pt.slots] at X' e1 e2 h1 h2 h3 st
    subst h1; subst h2; subst h3
    exact Or.inl ⟨v, (T.setVm vm₁).calling g' mk (Value.ref b :: As).toArray, t, U', L, hT, X', hL, e1, e2, hq, st⟩
  · dsimp only [Pt.U, Pt.locs, Pt.cells, Pt.slots] at X' e1 e2 h1 h2 h3 st hcl
    subst h1; subst h2; subst h3
    exact Or.inr ⟨q, (T.setVm vm₁).calling g' mk (Value.ref b :: As).toArray, t, U', L, E, ce, hT, X', hL, e1, e2, hq, hce, hcv, vx_cls hW₁ hcl, st⟩
theorem vx_runS (S : CallFix p m c cc nL s args Ts own) (hM : vx_Met l y ws rm Pc Qc XC mc ms free) (cw : CallB R s args own index y bytes maxL ret ws rm mc ms n ∧ (Cond.static y).before args s = true) (hp : PreS s H Pc As)
    (hg : g.method = m) (hn : As.length = n) (hsize : g.locals.size = nL) (hstack : g.stack = As.reverse ++ rest) (hW : 2 * g.monitorRoom + (rest.map fun v => v.category).sum ≤ 8) (hdg : decode cc g.pc = .ok (.invokestatic index, 3)) (hf : cells + mc ≤ R.cells ∧ slots + ms ≤ R.slots) :
    vx_Run p l e R s m args below meth c H locs cells slots mc ms g rest (Qc As.toArray) XC free := by
  have hK : vx_Back l R p e below s args y 3 8 (PreOf R mc ms Pc) (PostOf Qc mc ms free) (vx_Post XC mc ms free) := vx_callBack cw.1 hM hp.1
  obtain ⟨⟨-, -, -, -, -, -, hcode, hini, hy, hlen, hl⟩, hstt⟩ := cw
  obtain ⟨hx, hb, hml, ho, -⟩ := S
  intro T hT X
  rcases vx_callS X hx (bytes := bytes) (maxL := maxL) (ret := ret) ho hl hstt hini hcode hy hK hg (hsize.trans hml.symm) (argsL := As) (rest := rest) (fun sig h => hn.trans (hlen sig h)) hstack hW (by rw [hb]; exact hdg)
    (fun vm₁ hW₁ => ⟨hf.1, hf.2, hp.2 (T.setVm vm₁) hT hW₁⟩) with ⟨v, vm₁, ⟨U', l2, c2, s2⟩, hW₁, X', ⟨g', mk, t, L, e1, e2, hq, h1, hL, h2, h3⟩, st⟩ | ⟨q, vm₁, ⟨U', l2, c2, s2⟩, hW₁, X', ⟨g', mk, t, L, E, ce, e1, e2, hq, hce, hcv, hcl, h1, hL, h2, h3⟩, st⟩
  · dsimp only [Pt.U, Pt.locs, Pt.cells, Pt.slots] at X' e1 e2 h1 h2 h3 st
    subst h1; subst h2; subst h3
    exact Or.inl ⟨v, (T.setVm vm₁).calling g' mk As.toArray, t, U', L, hT, X', hL, e1, e2, hq, st⟩
  · dsimp only [Pt.U, Pt.locs, Pt.cells, Pt.slots] at X' e1 e2 h1 h2 h3 st hcl
    subst h1; subst h2; subst h3
    exact Or.inr ⟨q, (T.setVm vm₁).calling g' mk As.toArray, t, U', L, E, ce, hT, X', hL, e1, e2, hq, hce, hcv, vx_cls hW₁ hcl, st⟩
end Runs
section Rows
variable {p : Program} {l : Launch} {e : Env} {R : Room} {s : State} {m : MethodId} {args : Array Value} {below : List Frame} {meth : Method} {c : Code} {H : Heap} {locs : List Loc} {cells slots : Nat} {Q : State → Prop}
variable {mc ms : Nat} {free : Addr → Prop} {A0 A1 : Nat → Prop} {H0 : Heap} {a : Array Value} {pc : Nat} {ls : Array Slot} {st0 rest : List Value}
theorem vx_keep {st₀ t T' : State} {L : List Loc} (h0 : st₀.heap = H) (e1 : T'.heap = t.heap) (hS : va_S A0 H0 H locs) (hA : ∀ q, q < H.size → A1 q → A0 q) (hf : ∀ q, free q → A0 q) (hL : ∀ q ∈ L, free q.base) (hF : va_F A1 st₀ t) :
    H.size ≤ T'.heap.size ∧ (∀ q : Nat, q < H.size → ¬ A1 q → T'.heap[q]? = H[q]?) ∧ va_S A0 H0 T'.heap (locs ++ L) := by
  obtain ⟨hz, hk⟩ := hF
  rw [h0] at hz hk
  exact ⟨by rw [e1]; exact hz, fun q h1 h2 => by rw [e1]; exact hk q h1 h2,
    ⟨Nat.le_trans hS.1 (by rw [e1]; exact hz), fun q h1 h2 => by rw [e1, hk q (Nat.lt_of_lt_of_le h1 hS.1) (fun z => h2 (hA q (Nat.lt_of_lt_of_le h1 hS.1) z))]; exact hS.2.1 q h1 h2, fun q hq => by
      rcases List.mem_append.mp hq with h | h
      · exact hS.2.2 q h
      · exact hf _ (hL q h)⟩⟩
theorem vx_calli {S SX : Type} {post : Int32 → S → Prop} {px : SX → Prop} {B : S → State → Prop} {BX : String → SX → State → Prop} {AX : Nat → Prop} (hr : vx_Run p l e R s m args below meth c H locs cells slots mc ms (F0 m pc ls st0) rest (va_Qi post B A1 a) (vx_X px BX AX) free) (hS : va_S A0 H0 H locs) (hA : ∀ q, q < H.size → A1 q → A0 q) (hf : ∀ q, free q → A0 q) (hAX : ∀ q, q < H.size → AX q → A0 q)
    (kx : ∀ (E : String) (ce : Cell) (q9 : Addr) (u : SX) (t : State) (H1 : Heap) (locs1 : List Loc), t.heap = H1 → s.vm.Alike t.vm → px u → BX E u t → H.size ≤ H1.size → (∀ q : Nat, q < H.size → ¬ AX q → H1[q]? = H[q]?) → va_S A0 H0 H1 locs1 → H1[q9]? = some ce → ce.vm = .none → s.vm.findClass E = some ce.cls → vx_W p l e R s m args below meth c H1 locs1 (cells + mc) (slots + ms) Q (F0 m pc ls rest) q9)
    (kk : ∀ (r : Int32) (u : S) (t : State) (H1 : Heap) (locs1 : List Loc), t.heap = H1 → s.vm.Alike t.vm → post r u → B u t → H.size ≤ H1.size → (∀ q : Nat, q < H.size → ¬ A1 q → H1[q]? = H[q]?) → va_S A0 H0 H1 locs1 → W p l e R s m args below meth c H1 locs1 (cells + mc) (slots + ms) Q (F0 m (pc + 3) ls (.int r :: rest))) : W p l e R s m args below meth c H locs cells slots Q (F0 m pc ls st0) := by
  intro T hT X
  rcases hr T hT X with ⟨v, st₀, t, T', L, h0, X', hL, e1, e2, ⟨⟨r, u, hv, hp, hb⟩, hF⟩, st⟩ | ⟨q, st₀, t, T', L, E, ce, h0, X', hL, e1, e2, ⟨u, hp, hb, hF⟩, hce, hcv, hcl, st⟩
  · cases hv
    obtain ⟨k1, k2, k3⟩ := vx_keep h0 e1 hS hA hf hL hF
    obtain ⟨t2, a1, b1⟩ := kk r u t T'.heap (locs ++ L) e1.symm (by rw [← e2]; exact X'.warmed.alike) hp hb k1 k2 k3 T' rfl X'
    exact ⟨t2, st t2 a1, b1⟩
  · obtain ⟨k1, k2, k3⟩ := vx_keep h0 e1 hS hAX hf hL hF
    obtain ⟨t2, a1, b1⟩ := kx E ce q u t T'.heap (locs ++ L) e1.symm (by rw [← e2]; exact X'.warmed.alike) hp hb k1 k2 k3 (by rw [e1]; exact hce) hcv hcl T' rfl X'
    exact ⟨t2, st.trans a1, b1⟩
theorem vx_calll {S SX : Type} {post : Int64 → S → Prop} {px : SX → Prop} {B : S → State → Prop} {BX : String → SX → State → Prop} {AX : Nat → Prop} (hr : vx_Run p l e R s m args below meth c H locs cells slots mc ms (F0 m pc ls st0) rest (va_Ql post B A1 a) (vx_X px BX AX) free) (hS : va_S A0 H0 H locs) (hA : ∀ q, q < H.size → A1 q → A0 q) (hf : ∀ q, free q → A0 q) (hAX : ∀ q, q < H.size → AX q → A0 q)
    (kx : ∀ (E : String) (ce : Cell) (q9 : Addr) (u : SX) (t : State) (H1 : Heap) (locs1 : List Loc), t.heap = H1 → s.vm.Alike t.vm → px u → BX E u t → H.size ≤ H1.size → (∀ q : Nat, q < H.size → ¬ AX q → H1[q]? = H[q]?) → va_S A0 H0 H1 locs1 → H1[q9]? = some ce → ce.vm = .none → s.vm.findClass E = some ce.cls → vx_W p l e R s m args below meth c H1 locs1 (cells + mc) (slots + ms) Q (F0 m pc ls rest) q9)
    (kk : ∀ (r : Int64) (u : S) (t : State) (H1 : Heap) (locs1 : List Loc), t.heap = H1 → s.vm.Alike t.vm → post r u → B u t → H.size ≤ H1.size → (∀ q : Nat, q < H.size → ¬ A1 q → H1[q]? = H[q]?) → va_S A0 H0 H1 locs1 → W p l e R s m args below meth c H1 locs1 (cells + mc) (slots + ms) Q (F0 m (pc + 3) ls (.long r :: rest))) : W p l e R s m args below meth c H locs cells slots Q (F0 m pc ls st0) := by
  intro T hT X
  rcases hr T hT X with ⟨v, st₀, t, T', L, h0, X', hL, e1, e2, ⟨⟨r, u, hv, hp, hb⟩, hF⟩, st⟩ | ⟨q, st₀, t, T', L, E, ce, h0, X', hL, e1, e2, ⟨u, hp, hb, hF⟩, hce, hcv, hcl, st⟩
  · cases hv
    obtain ⟨k1, k2, k3⟩ := vx_keep h0 e1 hS hA hf hL hF
    obtain ⟨t2, a1, b1⟩ := kk r u t T'.heap (locs ++ L) e1.symm (by rw [← e2]; exact X'.warmed.alike) hp hb k1 k2 k3 T' rfl X'
    exact ⟨t2, st t2 a1, b1⟩
  · obtain ⟨k1, k2, k3⟩ := vx_keep h0 e1 hS hAX hf hL hF
    obtain ⟨t2, a1, b1⟩ := kx E ce q u t T'.heap (locs ++ L) e1.symm (by rw [← e2]; exact X'.warmed.alike) hp hb k1 k2 k3 (by rw [e1]; exact hce) hcv hcl T' rfl X'
    exact ⟨t2, st.trans a1, b1⟩
theorem vx_callf {S SX : Type} {post : UInt32 → S → Prop} {px : SX → Prop} {B : S → State → Prop} {BX : String → SX → State → Prop} {AX : Nat → Prop} (hr : vx_Run p l e R s m args below meth c H locs cells slots mc ms (F0 m pc ls st0) rest (va_Qf post B A1 a) (vx_X px BX AX) free) (hS : va_S A0 H0 H locs) (hA : ∀ q, q < H.size → A1 q → A0 q) (hf : ∀ q, free q → A0 q) (hAX : ∀ q, q < H.size → AX q → A0 q)
    (kx : ∀ (E : String) (ce : Cell) (q9 : Addr) (u : SX) (t : State) (H1 : Heap) (locs1 : List Loc), t.heap = H1 → s.vm.Alike t.vm → px u → BX E u t → H.size ≤ H1.size → (∀ q : Nat, q < H.size → ¬ AX q → H1[q]? = H[q]?) → va_S A0 H0 H1 locs1 → H1[q9]? = some ce → ce.vm = .none → s.vm.findClass E = some ce.cls → vx_W p l e R s m args below meth c H1 locs1 (cells + mc) (slots + ms) Q (F0 m pc ls rest) q9)
    (kk : ∀ (r : UInt32) (u : S) (t : State) (H1 : Heap) (locs1 : List Loc), t.heap = H1 → s.vm.Alike t.vm → post r u → B u t → H.size ≤ H1.size → (∀ q : Nat, q < H.size → ¬ A1 q → H1[q]? = H[q]?) → va_S A0 H0 H1 locs1 → W p l e R s m args below meth c H1 locs1 (cells + mc) (slots + ms) Q (F0 m (pc + 3) ls (.float r :: rest))) : W p l e R s m args below meth c H locs cells slots Q (F0 m pc ls st0) := by
  intro T hT X
  rcases hr T hT X with ⟨v, st₀, t, T', L, h0, X', hL, e1, e2, ⟨⟨r, u, hv, hp, hb⟩, hF⟩, st⟩ | ⟨q, st₀, t, T', L, E, ce, h0, X', hL, e1, e2, ⟨u, hp, hb, hF⟩, hce, hcv, hcl, st⟩
  · cases hv
    obtain ⟨k1, k2, k3⟩ := vx_keep h0 e1 hS hA hf hL hF
    obtain ⟨t2, a1, b1⟩ := kk r u t T'.heap (locs ++ L) e1.symm (by rw [← e2]; exact X'.warmed.alike) hp hb k1 k2 k3 T' rfl X'
    exact ⟨t2, st t2 a1, b1⟩
  · obtain ⟨k1, k2, k3⟩ := vx_keep h0 e1 hS hAX hf hL hF
    obtain ⟨t2, a1, b1⟩ := kx E ce q u t T'.heap (locs ++ L) e1.symm (by rw [← e2]; exact X'.warmed.alike) hp hb k1 k2 k3 (by rw [e1]; exact hce) hcv hcl T' rfl X'
    exact ⟨t2, st.trans a1, b1⟩
theorem vx_calld {S SX : Type} {post : UInt64 → S → Prop} {px : SX → Prop} {B : S → State → Prop} {BX : String → SX → State → Prop} {AX : Nat → Prop} (hr : vx_Run p l e R s m args below meth c H locs cells slots mc ms (F0 m pc ls st0) rest (va_Qd post B A1 a) (vx_X px BX AX) free) (hS : va_S A0 H0 H locs) (hA : ∀ q, q < H.size → A1 q → A0 q) (hf : ∀ q, free q → A0 q) (hAX : ∀ q, q < H.size → AX q → A0 q)
    (kx : ∀ (E : String) (ce : Cell) (q9 : Addr) (u : SX) (t : State) (H1 : Heap) (locs1 : List Loc), t.heap = H1 → s.vm.Alike t.vm → px u → BX E u t → H.size ≤ H1.size → (∀ q : Nat, q < H.size → ¬ AX q → H1[q]? = H[q]?) → va_S A0 H0 H1 locs1 → H1[q9]? = some ce → ce.vm = .none → s.vm.findClass E = some ce.cls → vx_W p l e R s m args below meth c H1 locs1 (cells + mc) (slots + ms) Q (F0 m pc ls rest) q9)
    (kk : ∀ (r : UInt64) (u : S) (t : State) (H1 : Heap) (locs1 : List Loc), t.heap = H1 → s.vm.Alike t.vm → post r u → B u t → H.size ≤ H1.size → (∀ q : Nat, q < H.size → ¬ A1 q → H1[q]? = H[q]?) → va_S A0 H0 H1 locs1 → W p l e R s m args below meth c H1 locs1 (cells + mc) (slots + ms) Q (F0 m (pc + 3) ls (.double r :: rest))) : W p l e R s m args below meth c H locs cells slots Q (F0 m pc ls st0) := by
  intro T hT X
  rcases hr T hT X with ⟨v, st₀, t, T', L, h0, X', hL, e1, e2, ⟨⟨r, u, hv, hp, hb⟩, hF⟩, st⟩ | ⟨q, st₀, t, T', L, E, ce, h0, X', hL, e1, e2, ⟨u, hp, hb, hF⟩, hce, hcv, hcl, st⟩
  · cases hv
    obtain ⟨k1, k2, k3⟩ := vx_keep h0 e1 hS hA hf hL hF
    obtain ⟨t2, a1, b1⟩ := kk r u t T'.heap (locs ++ L) e1.symm (by rw [← e2]; exact X'.warmed.alike) hp hb k1 k2 k3 T' rfl X'
    exact ⟨t2, st t2 a1, b1⟩
  · obtain ⟨k1, k2, k3⟩ := vx_keep h0 e1 hS hAX hf hL hF
    obtain ⟨t2, a1, b1⟩ := kx E ce q u t T'.heap (locs ++ L) e1.symm (by rw [← e2]; exact X'.warmed.alike) hp hb k1 k2 k3 (by rw [e1]; exact hce) hcv hcl T' rfl X'
    exact ⟨t2, st.trans a1, b1⟩
theorem vx_callv {S SX : Type} {post : S → Prop} {px : SX → Prop} {B : S → State → Prop} {BX : String → SX → State → Prop} {AX : Nat → Prop} (hr : vx_Run p l e R s m args below meth c H locs cells slots mc ms (F0 m pc ls st0) rest (va_Qv post B A1 a) (vx_X px BX AX) free) (hS : va_S A0 H0 H locs) (hA : ∀ q, q < H.size → A1 q → A0 q) (hf : ∀ q, free q → A0 q) (hAX : ∀ q, q < H.size → AX q → A0 q)
    (kx : ∀ (E : String) (ce : Cell) (q9 : Addr) (u : SX) (t : State) (H1 : Heap) (locs1 : List Loc), t.heap = H1 → s.vm.Alike t.vm → px u → BX E u t → H.size ≤ H1.size → (∀ q : Nat, q < H.size → ¬ AX q → H1[q]? = H[q]?) → va_S A0 H0 H1 locs1 → H1[q9]? = some ce → ce.vm = .none → s.vm.findClass E = some ce.cls → vx_W p l e R s m args below meth c H1 locs1 (cells + mc) (slots + ms) Q (F0 m pc ls rest) q9)
    (kk : ∀ (u : S) (t : State) (H1 : Heap) (locs1 : List Loc), t.heap = H1 → s.vm.Alike t.vm → post u → B u t → H.size ≤ H1.size → (∀ q : Nat, q < H.size → ¬ A1 q → H1[q]? = H[q]?) → va_S A0 H0 H1 locs1 → W p l e R s m args below meth c H1 locs1 (cells + mc) (slots + ms) Q (F0 m (pc + 3) ls (rest))) : W p l e R s m args below meth c H locs cells slots Q (F0 m pc ls st0) := by
  intro T hT X
  rcases hr T hT X with ⟨v, st₀, t, T', L, h0, X', hL, e1, e2, ⟨⟨u, hv, hp, hb⟩, hF⟩, st⟩ | ⟨q, st₀, t, T', L, E, ce, h0, X', hL, e1, e2, ⟨u, hp, hb, hF⟩, hce, hcv, hcl, st⟩
  · cases hv
    obtain ⟨k1, k2, k3⟩ := vx_keep h0 e1 hS hA hf hL hF
    obtain ⟨t2, a1, b1⟩ := kk u t T'.heap (locs ++ L) e1.symm (by rw [← e2]; exact X'.warmed.alike) hp hb k1 k2 k3 T' rfl X'
    exact ⟨t2, st t2 a1, b1⟩
  · obtain ⟨k1, k2, k3⟩ := vx_keep h0 e1 hS hAX hf hL hF
    obtain ⟨t2, a1, b1⟩ := kx E ce q u t T'.heap (locs ++ L) e1.symm (by rw [← e2]; exact X'.warmed.alike) hp hb k1 k2 k3 (by rw [e1]; exact hce) hcv hcl T' rfl X'
    exact ⟨t2, st.trans a1, b1⟩
/-- caught by the row x of this method's table; the rows ahead don't take it -/
theorem vx_catch {own name : String} {E : String} {ce : Cell} {q : Addr} (hown : s.vm.findClass own = some m.cls) (pre : List ExceptionTableEntry) (x : ExceptionTableEntry) (suf : List ExceptionTableEntry) (hsplit : c.exceptionTable.toList = pre ++ x :: suf)
    (hpass : ∀ z ∈ pre, covers z pc = false ∨ (z.catchType ≠ 0 ∧ ∃ nm : String, (Cond.classLink own z.catchType nm).before args s = true ∧ va_Nc E nm s)) (hx : covers x pc = true) (h0 : x.catchType ≠ 0)
    (hlink : (Cond.classLink own x.catchType name).before args s = true) (hcast : (Cond.castable E name).before args s = true) (hcell : H[q]? = some ce) (hv : ce.vm = .none) (hcl : s.vm.findClass E = some ce.cls)
    (kk : W p l e R s m args below meth c H locs cells slots Q (F0 m x.handlerPc ls [.ref q])) : vx_W p l e R s m args below meth c H locs cells slots Q (F0 m pc ls rest) q := by
  intro T hT X
  have hpl : e.platform.magicAccessors = ({} : Platform).magicAccessors := by rw [X.admits.platform]
  obtain ⟨c3, c4, hc3, hc4, hasg⟩ := Cond.castable_spec hcast
  cases Option.some.inj (hc3.symm.trans hcl)
  obtain ⟨c5, hc5, hcl5⟩ := Cond.classLink_spec hown hlink e.platform hpl
  cases Option.some.inj (hc4.symm.trans hc5)
  obtain ⟨vm', X', st⟩ := Stand.thenCaughtThrough X q (g := F0 m pc ls rest) rfl (Steps.refl _) (by rw [hT]; exact hcell) (by rw [hv]; rfl) (by obtain ⟨k9, h9, -⟩ := Vm.findClass_spec hcl; exact ⟨k9, h9⟩) pre x suf hsplit
    (fun z hz => by
      rcases hpass z hz with h | ⟨hz0, nm, hl1, hn1⟩
      · exact Or.inl h
      · obtain ⟨c6, hc6, hcl6⟩ := Cond.classLink_spec hown hl1 e.platform hpl
        obtain ⟨a8, b8, h1, h2, h3⟩ := hn1
        cases Option.some.inj (h1.symm.trans hcl)
        cases Option.some.inj (h2.symm.trans hc6)
        exact Or.inr ⟨hz0, _, hcl6, h3⟩) hx (Or.inr ⟨h0, c4, hcl5, hasg⟩)
  obtain ⟨t, a1, b1⟩ := kk (T.setVm vm') hT X'
  exact ⟨t, st.trans a1, b1⟩
end Rows
section Ends
variable {p : Program} {l : Launch} {e : Env} {R : Room} {s : State} {m : MethodId} {args : Array Value} {below : List Frame} {meth : Method} {c : Code} {H : Heap} {locs : List Loc} {cells slots : Nat} {Q : State → Prop}
variable {mc ms : Nat} {free : Addr → Prop} {A0 A1 : Nat → Prop} {H0 : Heap} {a : Array Value} {ls : Array Slot} {st0 rest : List Value}
variable {Qc : Array Value → State → Outcome → State → Prop} {XC : String → State → State → Prop}
/-- what a body that may throw owes at its end -/
def vx_MQ (below : List Frame) (Qc : Array Value → State → Outcome → State → Prop) (XC : String → State → State → Prop) (a : Array Value) (s : State) (mc ms : Nat) (free : Addr → Prop) : State → Prop := fun t =>
  ∃ o, t.status = .running ∧ Ended t below o ∧ vx_Q Qc XC mc ms free a s o t
theorem vx_ret {g : JFrame} {mc ms : Nat} (k : W p l e R s m args below meth c H locs cells slots (MQ below Qc args s mc ms free) g) : W p l e R s m args below meth c H locs cells slots (vx_MQ below Qc XC args s mc ms free) g := by
  intro T hT X
  obtain ⟨t, a1, o, b1, b2, b3, b4⟩ := k T hT X
  exact ⟨t, a1, o, b1, b2, Or.inl ⟨b3, b4⟩⟩
/-- not caught here: it goes on to the caller -/
theorem vx_widen {g : JFrame} {q : Addr} {k n : Nat} (h1 : cells ≤ k) (h2 : slots ≤ n) (kk : vx_W p l e R s m args below meth c H locs k n Q g q) : vx_W p l e R s m args below meth c H locs cells slots Q g q := fun T hT X => kk T hT (stand_widen X h1 h2)
theorem vx_out {pc : Nat} {E : String} {ce : Cell} {q : Addr} {mc ms : Nat} (hout : ∀ x ∈ c.exceptionTable.toList, covers x pc = false) (hlocks : meth.locks = false) (hcell : H[q]? = some ce) (hv : ce.vm = .none) (hcl : s.vm.findClass E = some ce.cls)
    (hx : ∀ t : State, t.heap = H → s.vm.Alike t.vm → XC E s t) (hf : ∀ z ∈ locs, free z.base) (hc : cells ≤ mc) (hs : slots ≤ ms) :
    vx_W p l e R s m args below meth c H locs cells slots (vx_MQ below Qc XC args s mc ms free) (F0 m pc ls rest) q := by
  intro T hT X
  obtain ⟨st1, hrun, hend, hW, hsm⟩ := X.leaveThrown q (g := F0 m pc ls rest) rfl rfl rfl hout hlocks
  have hcell9 : (T.setFrames (.throwing q :: below)).heap[q]? = some ce := by
    show T.heap[q]? = some ce
    rw [hT]; exact hcell
  exact ⟨_, st1, .threw q, hrun, hend, Or.inr ⟨q, rfl, E, ce, locs, hx _ hT hW.alike, hcell9, hv, hcl, hW, hsm.mono hc hs, hf⟩⟩
theorem vx_frame {U : State} {k n : Nat} (h : s.sameButNew ({ U with vm := s.vm } : State) locs k n) : s.heap.size ≤ U.heap.size ∧ ∀ q : Nat, q < s.heap.size → (∀ z ∈ locs, z.base ≠ q) → U.heap[q]? = s.heap[q]? := by
  obtain ⟨-, h2, -, -, -, h6⟩ := h
  refine ⟨h2, fun q hq hz => ?_⟩
  obtain ⟨c9, e1, e2, e3, e4⟩ := h6 q _ (Array.getElem?_eq_getElem hq)
  have hs : c9.slots = (s.heap[q]).slots := Array.ext_getElem? fun i => e4 i fun hm => hz _ hm rfl
  have h9 : c9 = s.heap[q] := by
    rw [hs] at e2
    exact e2
  have e5 : U.heap[q]? = some c9 := e1
  rw [e5, h9, Array.getElem?_eq_getElem hq]
/-- the words of a throw but the four that speak of the heap -/
def vx_no (w : Cond) : Bool := decide (w ≠ .isRef (.static Bundle.tN "UNASSIGNED_STACK" Bundle.steD)) && decide (w ≠ .isRef (.static Bundle.tN "SUPPRESSED_SENTINEL" Bundle.listD)) && decide (w ≠ .laysStatic Bundle.tN "UNASSIGNED_STACK" Bundle.steD) && decide (w ≠ .laysStatic Bundle.tN "SUPPRESSED_SENTINEL" Bundle.listD)
def vx_at0 (own : String) (ic : Nat) (X : String) (names : List String) : List Cond := (Bundle.ownAtoms0 own ic X names).filter vx_no
def vx_atS (own : String) (ic : Nat) (X : String) (names : List String) : List Cond := (Bundle.ownAtoms own ic X names).filter vx_no
/-- a word that the tables alone decide, or a good one -/
def vx_ot (w : Cond) : Bool := w.onTables || goodWord w
theorem vx_ot_at {args a' : Array Value} {s U : State} {w : Cond} (hW : s.WarmedH U.vm) (hvm : s.vm = U.vm) (hg : vx_ot w = true) (h : w.before args s = true) : w.before a' U = true := by
  simp only [vx_ot, Bool.or_eq_true] at hg
  rcases hg with hg | hg
  · exact va_tabs hg hvm h
  · exact word_at hW (good_of_word hg) h
/-- a list's words: the good ones out of the method's own list, the others by premises of their own -/
theorem vx_hat {args : Array Value} {s : State} {L B : List Cond} (h1 : ∀ w ∈ L.filter goodWord, w.before args s = true) (h2 : ∀ w ∈ L.filter (fun w => !goodWord w), w ∈ B) (h3 : ∀ w ∈ B, w.before args s = true) : ∀ w ∈ L, w.before args s = true := by
  intro w hw
  by_cases g : goodWord w = true
  · exact h1 w (List.mem_filter.mpr ⟨hw, g⟩)
  · refine h3 w (h2 w (List.mem_filter.mpr ⟨hw, ?_⟩))
    show (!goodWord w) = true
    cases hgw : goodWord w
    · rfl
    · exact absurd hgw g
theorem vx_c {args : Array Value} {s : State} {w : Cond} {B : List Cond} (h : w.before args s = true) (t : ∀ w ∈ B, w.before args s = true) : ∀ w' ∈ w :: B, w'.before args s = true := fun w' h' => (List.mem_cons.mp h').elim (fun e => by rw [e]; exact h) (t w')
theorem vx_n {args : Array Value} {s : State} : ∀ w ∈ ([] : List Cond), w.before args s = true := fun _ h => nomatch h
theorem vx_own {args : Array Value} {s : State} {L : List Cond} (h1 : ∀ w ∈ L.filter vx_no, w.before args s = true)
    (hU : (Cond.isRef (.static Bundle.tN "UNASSIGNED_STACK" Bundle.steD)).before args s = true) (hN : (Cond.isRef (.static Bundle.tN "SUPPRESSED_SENTINEL" Bundle.listD)).before args s = true)
    (lU : (Cond.laysStatic Bundle.tN "UNASSIGNED_STACK" Bundle.steD).before args s = true) (lN : (Cond.laysStatic Bundle.tN "SUPPRESSED_SENTINEL" Bundle.listD).before args s = true) : ∀ w ∈ L, w.before args s = true := by
  intro w hw
  by_cases e1 : w = .isRef (.static Bundle.tN "UNASSIGNED_STACK" Bundle.steD)
  · rw [e1]; exact hU
  · by_cases e2 : w = .isRef (.static Bundle.tN "SUPPRESSED_SENTINEL" Bundle.listD)
    · rw [e2]; exact hN
    · by_cases e3 : w = .laysStatic Bundle.tN "UNASSIGNED_STACK" Bundle.steD
      · rw [e3]; exact lU
      · by_cases e4 : w = .laysStatic Bundle.tN "SUPPRESSED_SENTINEL" Bundle.listD
        · rw [e4]; exact lN
        · exact h1 w (List.mem_filter.mpr ⟨hw, by unfold vx_no; rw [decide_eq_true e1, decide_eq_true e2, decide_eq_true e3, decide_eq_true e4]; rfl⟩)
/-- where a static field lies, its class's statics cell in H -/
def vx_L (C n d : String) (A : Nat → Prop) (U : State) (H : Heap) : Prop := ∃ (c : ClassId) (k : Class) (i : Nat) (f : Field) (a : Nat) (cell : Cell), U.vm.findClass C = some c ∧ U.fieldFound? C n d = some (c, k, i, f) ∧ f.isStatic = true ∧ k.statics = some a ∧ H[a]? = some cell ∧ cell.vm.isStatics = true ∧ cell.cls = c ∧ f.slot < cell.slots.size ∧ k.staticTypes[f.slot]? = some f.type ∧ ¬ A a
theorem vx_L.moved {C n d : String} {A : Nat → Prop} {u U : State} {H : Heap} (hvm : u.vm.Alike U.vm) (h : vx_L C n d A u H) : vx_L C n d A U H := by
  obtain ⟨c, k, i, f, a, cell, h1, h2, h3, h4, h5, h6, h7, h8, h9, h10⟩ := h
  obtain ⟨k', hi', he⟩ := State.fieldFound?_setVm hvm h2
  exact ⟨c, k', i, f, a, cell, by rw [hvm.findClass]; exact h1, hi', h3, by rw [he]; exact h4, h5, h6, h7, h8, by rw [he]; exact h9, h10⟩
theorem vx_L.kept {C n d : String} {A : Nat → Prop} {U : State} {H H1 : Heap} (h : vx_L C n d A U H) (hq : ∀ a : Nat, a < H.size → ¬ A a → H1[a]? = H[a]?) : vx_L C n d A U H1 := by
  obtain ⟨c, k, i, f, a, cell, h1, h2, h3, h4, h5, h6, h7, h8, h9, h10⟩ := h
  exact ⟨c, k, i, f, a, cell, h1, h2, h3, h4, by rw [hq a (Array.getElem?_eq_some_iff.mp h5).1 h10]; exact h5, h6, h7, h8, h9, h10⟩
theorem vx_L.narrow {C n d : String} {A B : Nat → Prop} {U : State} {H : Heap} (h : vx_L C n d A U H) (hAB : ∀ q, B q → A q) : vx_L C n d B U H := by
  obtain ⟨c, k, i, f, a, cell, h1, h2, h3, h4, h5, h6, h7, h8, h9, h10⟩ := h
  exact ⟨c, k, i, f, a, cell, h1, h2, h3, h4, h5, h6, h7, h8, h9, fun z => h10 (hAB _ z)⟩
theorem vx_L.word {C n d : String} {A : Nat → Prop} {s : State} {args : Array Value} (h : vx_L C n d A s s.heap) : (Cond.laysStatic C n d).before args s = true := by
  obtain ⟨c, k, i, f, a, cell, h1, h2, h3, h4, h5, h6, h7, h8, h9, -⟩ := h
  show (Cond.laysStatic C n d).holds args s none s [] = true
  exact Cond.laysStatic_of h1 h2 h3 h4 h5 h6 h7 h8 h9
/-- .. and what it holds: null or some reference -/
def vx_Zq (C n d : String) (A : Nat → Prop) (U : State) (H : Heap) : Prop := va_Zq C n d A U H ∧ vx_L C n d A U H
theorem vx_Zq.moved {C n d : String} {A : Nat → Prop} {u U : State} {H : Heap} (hvm : u.vm.Alike U.vm) (h : vx_Zq C n d A u H) : vx_Zq C n d A U H := ⟨va_Zq.moved hvm h.1, vx_L.moved hvm h.2⟩
theorem vx_Zq.kept {C n d : String} {A : Nat → Prop} {U : State} {H H1 : Heap} (h : vx_Zq C n d A U H) (hq : ∀ a : Nat, a < H.size → ¬ A a → H1[a]? = H[a]?) : vx_Zq C n d A U H1 := ⟨va_Zq.kept h.1 hq, vx_L.kept h.2 hq⟩
theorem vx_Zq.narrow {C n d : String} {A B : Nat → Prop} {U : State} {H : Heap} (h : vx_Zq C n d A U H) (hAB : ∀ q, B q → A q) : vx_Zq C n d B U H := ⟨va_Zq.narrow h.1 hAB, vx_L.narrow h.2 hAB⟩
theorem vx_Zqof {args : Array Value} {s : State} {C n d : String} {A : Nat → Prop} (hl : (Cond.laysStatic C n d).before args s = true) (hini : (Cond.initialized C).before args s = true) (h : (Cond.isRef (.static C n d)).before args s = true) (hA : ∀ a : Nat, a < s.heap.size → ¬ A a) : vx_Zq C n d A s s.heap := by
  refine ⟨va_Zqof hl hini h hA, ?_⟩
  obtain ⟨c, k, i, f, a, cell, h1, h2, h3, h4, h5, h6, h7, h8, h9⟩ := Cond.laysStatic_spec hl
  exact ⟨c, k, i, f, a, cell, h1, h2, h3, h4, h5, h6, h7, h8, h9, hA a (Array.getElem?_eq_some_iff.mp h5).1⟩
theorem vx_isRef {C n d : String} {v : Value} {A : Nat → Prop} {s : State} {args : Array Value} (h : va_Z C n d v A s s.heap) (hv : v.isRef = true) : (Cond.isRef (.static C n d)).before args s = true := by
  obtain ⟨cf, kf, fi, f, a, cell, h1, h2, h3, h4, h5, h6, h7, -⟩ := h
  have he : (Term.static C n d).eval args s none [] s = some v := by
    simp [Term.eval, State.fieldNamed?, h1, h2, h4, h5, h6, h7]
  simp only [Cond.before, Cond.holds, Cond.value, he]
  cases v <;> simp_all [Value.isRef]
theorem vx_isRefq {C n d : String} {A : Nat → Prop} {s : State} {args : Array Value} (h : va_Zq C n d A s s.heap) : (Cond.isRef (.static C n d)).before args s = true := by
  rcases h with h | ⟨t, h⟩
  · exact vx_isRef h rfl
  · exact vx_isRef h rfl
/-- the same frame, seen from here: as if the method were called anew in this heap -/
theorem vx_rebase {T : State} (X : Stand p l e R s m args below meth c T locs cells slots) {R' : Room} (hf : R'.frames ≤ R.frames) (hl : R'.locals ≤ R.locals) (hc : cells + R'.cells ≤ R.cells) (hs : slots + R'.slots ≤ R.slots) :
    Stand p l e R' ((T.setVm s.vm).setFrames (.invoking m args :: below)) m args below meth c T [] 0 0 := by
  have htop : (T.setVm s.vm).topJava?.isSome := X.here.top
  have hF : ((T.setVm s.vm).setFrames (.invoking m args :: below)).frames = .invoking m args :: below := State.frames_setFrames _ (State.cur_lt_of_top htop)
  obtain ⟨g₀, hg0⟩ := Option.isSome_iff_exists.mp htop
  obtain ⟨r, hr⟩ := State.topJava?_eq_some.mp hg0
  have hl9 : e.platform.stackLimits (T.setVm s.vm).me = e.platform.stackLimits s.me := X.limits
  have hb9 : (T.setVm s.vm).me.stackBytes = s.me.stackBytes := X.bytes
  refine ⟨X.admits, X.cas, X.clock, hF, ?_, X.hears, X.method, X.code, X.here, X.tail, X.warmed, ?_, ?_, ?_⟩
  · have h := X.room
    have hU : ((T.setVm s.vm).setFrames (.invoking m args :: below)).localsInUse = s.localsInUse := by
      rw [State.localsInUse_invoking hF (meth := meth) (c := c) X.method X.code, State.localsInUse_invoking X.frames X.method X.code]
    simp only [State.hasRoom, Bool.and_eq_true, decide_eq_true_eq] at h ⊢
    obtain ⟨⟨⟨⟨h1, h2, h3, h4, h5, h6⟩, h7⟩, h8⟩, h9⟩ := h
    rw [X.frames, List.length_cons] at h2 h3
    have q1 := X.heapSize
    have q2 := X.used
    simp only [hF, hU, List.length_cons, State.stackLimits_setFrames, State.stackBytes_setFrames, hl9, hb9]
    refine ⟨⟨⟨⟨by omega, by omega, by omega, by omega, by omega, h6⟩, ?_⟩, ?_⟩, X.book⟩
    · show T.heap.size + R'.cells ≤ e.platform.maxCells
      omega
    · show T.slotsUsed + R'.slots ≤ e.platform.maxSlots
      omega
  · rw [State.stackLimits_setFrames]; rfl
  · rw [State.stackBytes_setFrames]; rfl
  · refine ⟨?_, Nat.le_refl _, Nat.le_refl _, ?_, ?_, fun a c9 h9 => ⟨c9, h9, rfl, rfl, fun _ _ => rfl⟩⟩
    · obtain ⟨t, ht, -⟩ := State.frames_cons hr
      show T.setVm s.vm = { ((T.setVm s.vm).setFrames (.invoking m args :: below)).setFrames (T.setVm s.vm).frames with heap := T.heap, slotsUsed := T.slotsUsed }
      rw [State.setFrames_setFrames, State.setFrames_self ht]
      rfl
    · show T.slotsUsed = T.slotsUsed + ((T.heap.toList.drop T.heap.size).map (·.slots.size)).sum
      rw [List.drop_eq_nil_of_le (Nat.le_of_eq Array.length_toList)]
      rfl
    · show ((T.heap.toList.drop T.heap.size).map (·.slots.size)).sum ≤ 0
      rw [List.drop_eq_nil_of_le (Nat.le_of_eq Array.length_toList)]
      exact Nat.le_refl _
/-- 'throw new E()': new; dup; invokespecial; athrow -/
theorem vx_throw0 {cc : ByteArray} {pc : Nat} (hexec : p.tables.exec = Jvm.exec) (hb : c.code = cc) (hl : l.stackTraces = false) {own cls : String} {names : List String} {ik ic mc ms : Nat} {A : Nat → Prop}
    (hown : s.vm.findClass own = some m.cls) (hcls : Bundle.fit cls = true) (hnames : ∀ n ∈ names, Bundle.fit n = true)
    (hk : (Cond.classLink own ik cls).before args s = true) (hini : (Cond.initialized cls).before args s = true) (hat : ∀ w ∈ vx_at0 own ic cls names, w.before args s = true)
    (hgood : ∀ w ∈ Cond.classLink own ik cls :: Cond.initialized cls :: vx_at0 own ic cls names, vx_ot w = true)
    (hU : vx_Zq Bundle.tN "UNASSIGNED_STACK" Bundle.steD A s s.heap) (hN : vx_Zq Bundle.tN "SUPPRESSED_SENTINEL" Bundle.listD A s s.heap) (hS : va_S A s.heap H locs) (hsize : ls.size = c.maxLocals)
    (d0 : decode cc pc = .ok (.new ik, 3)) (d3 : decode cc (pc + 3) = .ok (.dup, 1)) (d4 : decode cc (pc + 4) = .ok (.invokespecial ic, 3)) (d7 : decode cc (pc + 7) = .ok (.athrow, 1))
    (hout : ∀ x ∈ c.exceptionTable.toList, covers x (pc + 7) = false)
    (hRframes : names.length + 3 < R.frames) (hRlocals : (rest.map fun v => v.category).sum + (13 * (names.length + 1) + 42) ≤ R.locals) (hRcells : cells + 1 ≤ R.cells) (hRslots : slots + 6 ≤ R.slots) (hlocks : meth.locks = false)
    (hx : ∀ t : State, s.vm.Alike t.vm → H.size ≤ t.heap.size → (∀ q : Nat, q < H.size → t.heap[q]? = H[q]?) → XC cls s t)
    (hf : ∀ z ∈ locs, free z.base) (hc : cells + 1 ≤ mc) (hs : slots + 6 ≤ ms) :
    W p l e R s m args below meth c H locs cells slots (vx_MQ below Qc XC args s mc ms free) (F0 m pc ls rest) := by
  intro T hT X
  have htr : e.platform.stackTraces = false := (show e.platform.stackTraces = l.stackTraces by rw [X.admits.platform]).trans hl
  have Y := vx_rebase X (R' := { frames := R.frames, locals := R.locals, cells := 1, slots := 6 }) (Nat.le_refl _) (Nat.le_refl _) hRcells hRslots
  obtain ⟨s', hA⟩ : ∃ z, z = (T.setVm s.vm).setFrames (.invoking m args :: below) := ⟨_, rfl⟩
  rw [← hA] at Y
  have hvm : s'.vm = s.vm := by rw [hA]; rfl
  have hhp : s'.heap = H := by rw [hA]; exact hT
  have hW0 : s.WarmedH s'.vm := by rw [hvm]; exact State.WarmedH.refl s
  have hat' : ∀ w ∈ vx_at0 own ic cls names, w.before args s' = true := fun w hw => vx_ot_at hW0 hvm.symm (hgood w (List.mem_cons_of_mem _ (List.mem_cons_of_mem _ hw))) (hat w hw)
  have hk' : (Cond.classLink own ik cls).before args s' = true := vx_ot_at hW0 hvm.symm (hgood _ List.mem_cons_self) hk
  have hini' : (Cond.initialized cls).before args s' = true := vx_ot_at hW0 hvm.symm (hgood _ (List.mem_cons_of_mem _ List.mem_cons_self)) hini
  have hU' : vx_Zq Bundle.tN "UNASSIGNED_STACK" Bundle.steD A s' s'.heap := by rw [hhp]; exact vx_Zq.moved hW0.alike (hU.kept hS.2.1)
  have hN' : vx_Zq Bundle.tN "SUPPRESSED_SENTINEL" Bundle.listD A s' s'.heap := by rw [hhp]; exact vx_Zq.moved hW0.alike (hN.kept hS.2.1)
  have h : ∀ w ∈ Bundle.ownAtoms0 own ic cls names, w.before args s' = true := vx_own hat' (vx_isRefq hU'.1) (vx_isRefq hN'.1) hU'.2.word hN'.2.word
  have hown' : s'.vm.findClass own = some m.cls := by rw [hvm]; exact hown
  have hins : (Cond.instantiable cls 6).before args s' = true := h _ (by simp [Bundle.ownAtoms0])
  obtain ⟨vm₁, cX, kX, hfX, hkX, -, -, X₁, st1⟩ := Y.newCold hexec (own := own) (C := cls) (index := ik) (n := 6) hown' hk' hins hini'
    (g := F0 m pc ls rest) rfl (by rw [hb]; exact d0) (Nat.le_refl _) (Nat.le_refl _)
  generalize hT1 : (T.setVm vm₁).pushCell { cls := cX, slots := kX.instanceTypes.map defaultValue, vm := .none } = T1 at X₁ st1
  have hcat : (Value.ref T.heap.size).category = 1 := rfl
  have hcellA : T1.heap[T.heap.size]? = some (freshCell cX kX) := by rw [← hT1]; exact State.heap_pushCell_size _ _
  have d3' : decode c.code (pc + 3) = .ok (.dup, 1) := by rw [hb]; exact d3
  obtain ⟨U, hsteps, hrun, hend, hW, hsame, ce, hce, hO⟩ := X₁.ctorThrow0 hexec htr (own := own) (cls := cls) (names := names) (ic := ic) hown' hcls hnames h (fun x hx => nomatch hx) hfX hkX hcellA (by rw [hhp, hT]; exact Nat.le_refl _)
    (g := { method := m, pc := pc + 4, locals := ls, stack := .ref T.heap.size :: .ref T.heap.size :: rest, locked := none }) rfl hsize rfl rfl (rest := rest) rfl
    (by rw [hb]; exact d4) (by rw [hb]; exact d7) hout hRframes (by simp only [List.map_cons, List.sum_cons, hcat]; omega) hlocks
  obtain ⟨f1, f2⟩ := vx_frame hsame
  rw [hhp] at f1 f2
  have hWs : s.WarmedH U.vm := State.WarmedH.trans hW0 hW
  have hcl : s.vm.findClass cls = some ce.cls := by
    have h9 := hO.cls
    rw [hvm] at h9
    exact h9
  have hall : s.sameButNew ({ U with vm := s.vm } : State) locs mc ms := by
    subst hA
    obtain ⟨e1, e2⟩ := hsame
    rw [State.setFrames_setFrames] at e1
    have h2 : (T.setVm s.vm).sameButNew ({ U with vm := s.vm } : State) [] (0 + 1) (0 + 6) := ⟨e1, e2⟩
    have h3 := X.same.trans h2
    rw [List.append_nil] at h3
    exact h3.mono hc hs
  refine ⟨U, ?_, .threw T.heap.size, hrun, hend, Or.inr ⟨T.heap.size, rfl, cls, ce, locs, hx U hWs.alike f1 (fun q hq => f2 q hq (fun z hz => nomatch hz)), hce, hO.vm, hcl, hWs, hall, hf⟩⟩
  refine st1 _ ?_
  show Steps p.tables e below (T1.setTop { method := m, pc := pc + 3, locals := ls, stack := .ref T.heap.size :: rest, locked := none }) _
  jvm_step X₁.here [X₁.here.top, hexec, d3', Value.category]
  exact hsteps
/-- 'throw new E("text")': new; dup; ldc; invokespecial; athrow -/
theorem vx_throwS {cc : ByteArray} {pc : Nat} (hexec : p.tables.exec = Jvm.exec) (hb : c.code = cc) (hl : l.stackTraces = false) {own cls text : String} {names : List String} {ik is ic mc ms sa : Nat} {A : Nat → Prop}
    (hown : s.vm.findClass own = some m.cls) (hcls : Bundle.fit cls = true) (hnames : ∀ n ∈ names, Bundle.fit n = true)
    (hk : (Cond.classLink own ik cls).before args s = true) (hini : (Cond.initialized cls).before args s = true) (hstr : vk_R own is text sa s) (hat : ∀ w ∈ vx_atS own ic cls names, w.before args s = true)
    (hgood : ∀ w ∈ Cond.classLink own ik cls :: Cond.initialized cls :: vx_atS own ic cls names, vx_ot w = true)
    (hU : vx_Zq Bundle.tN "UNASSIGNED_STACK" Bundle.steD A s s.heap) (hN : vx_Zq Bundle.tN "SUPPRESSED_SENTINEL" Bundle.listD A s s.heap) (hS : va_S A s.heap H locs) (hsize : ls.size = c.maxLocals)
    (d0 : decode cc pc = .ok (.new ik, 3)) (d3 : decode cc (pc + 3) = .ok (.dup, 1)) (d4 : decode cc (pc + 4) = .ok (.ldc is, 2)) (d6 : decode cc (pc + 6) = .ok (.invokespecial ic, 3)) (d9 : decode cc (pc + 9) = .ok (.athrow, 1))
    (hout : ∀ x ∈ c.exceptionTable.toList, covers x (pc + 9) = false)
    (hRframes : names.length + 3 < R.frames) (hRlocals : (rest.map fun v => v.category).sum + (13 * (names.length + 1) + 43) ≤ R.locals) (hRcells : cells + 1 ≤ R.cells) (hRslots : slots + 6 ≤ R.slots) (hlocks : meth.locks = false)
    (hx : ∀ t : State, s.vm.Alike t.vm → H.size ≤ t.heap.size → (∀ q : Nat, q < H.size → t.heap[q]? = H[q]?) → XC cls s t)
    (hf : ∀ z ∈ locs, free z.base) (hc : cells + 1 ≤ mc) (hs : slots + 6 ≤ ms) :
    W p l e R s m args below meth c H locs cells slots (vx_MQ below Qc XC args s mc ms free) (F0 m pc ls rest) := by
  intro T hT X
  have htr : e.platform.stackTraces = false := (show e.platform.stackTraces = l.stackTraces by rw [X.admits.platform]).trans hl
  have Y := vx_rebase X (R' := { frames := R.frames, locals := R.locals, cells := 1, slots := 6 }) (Nat.le_refl _) (Nat.le_refl _) hRcells hRslots
  obtain ⟨s', hA⟩ : ∃ z, z = (T.setVm s.vm).setFrames (.invoking m args :: below) := ⟨_, rfl⟩
  rw [← hA] at Y
  have hvm : s'.vm = s.vm := by rw [hA]; rfl
  have hhp : s'.heap = H := by rw [hA]; exact hT
  have hW0 : s.WarmedH s'.vm := by rw [hvm]; exact State.WarmedH.refl s
  have hat' : ∀ w ∈ vx_atS own ic cls names, w.before args s' = true := fun w hw => vx_ot_at hW0 hvm.symm (hgood w (List.mem_cons_of_mem _ (List.mem_cons_of_mem _ hw))) (hat w hw)
  have hk' : (Cond.classLink own ik cls).before args s' = true := vx_ot_at hW0 hvm.symm (hgood _ List.mem_cons_self) hk
  have hini' : (Cond.initialized cls).before args s' = true := vx_ot_at hW0 hvm.symm (hgood _ (List.mem_cons_of_mem _ List.mem_cons_self)) hini
  have hU' : vx_Zq Bundle.tN "UNASSIGNED_STACK" Bundle.steD A s' s'.heap := by rw [hhp]; exact vx_Zq.moved hW0.alike (hU.kept hS.2.1)
  have hN' : vx_Zq Bundle.tN "SUPPRESSED_SENTINEL" Bundle.listD A s' s'.heap := by rw [hhp]; exact vx_Zq.moved hW0.alike (hN.kept hS.2.1)
  have h : ∀ w ∈ Bundle.ownAtoms own ic cls names, w.before args s' = true := vx_own hat' (vx_isRefq hU'.1) (vx_isRefq hN'.1) hU'.2.word hN'.2.word
  have hown' : s'.vm.findClass own = some m.cls := by rw [hvm]; exact hown
  have hins : (Cond.instantiable cls 6).before args s' = true := h _ (by simp [Bundle.ownAtoms])
  obtain ⟨vm₁, cX, kX, hfX, hkX, -, -, X₁, st1⟩ := Y.newCold hexec (own := own) (C := cls) (index := ik) (n := 6) hown' hk' hins hini'
    (g := F0 m pc ls rest) rfl (by rw [hb]; exact d0) (Nat.le_refl _) (Nat.le_refl _)
  generalize hT1 : (T.setVm vm₁).pushCell { cls := cX, slots := kX.instanceTypes.map defaultValue, vm := .none } = T1 at X₁ st1
  have hcat : (Value.ref T.heap.size).category = 1 := rfl
  have hcellA : T1.heap[T.heap.size]? = some (freshCell cX kX) := by rw [← hT1]; exact State.heap_pushCell_size _ _
  have d3' : decode c.code (pc + 3) = .ok (.dup, 1) := by rw [hb]; exact d3
  have d4' : decode c.code (pc + 4) = .ok (.ldc is, 2) := by rw [hb]; exact d4
  have hstr' : vk_R own is text sa s' := vk_R.warm hW0 hstr
  obtain ⟨U, hsteps, hrun, hend, hW, hsame, ce, hce, hO⟩ := X₁.ctorThrowS hexec htr (own := own) (cls := cls) (names := names) (ic := ic) hown' hcls hnames h (fun x hx => nomatch hx) hfX hkX hcellA (by rw [hhp, hT]; exact Nat.le_refl _) (msg := .ref sa) rfl
    (g := { method := m, pc := pc + 6, locals := ls, stack := .ref sa :: .ref T.heap.size :: .ref T.heap.size :: rest, locked := none }) rfl hsize rfl rfl (rest := rest) rfl
    (by rw [hb]; exact d6) (by rw [hb]; exact d9) hout hRframes (by simp only [List.map_cons, List.sum_cons, hcat]; omega) hlocks
  obtain ⟨f1, f2⟩ := vx_frame hsame
  rw [hhp] at f1 f2
  have hWs : s.WarmedH U.vm := State.WarmedH.trans hW0 hW
  have hcl : s.vm.findClass cls = some ce.cls := by
    have h9 := hO.cls
    rw [hvm] at h9
    exact h9
  have hall : s.sameButNew ({ U with vm := s.vm } : State) locs mc ms := by
    subst hA
    obtain ⟨e1, e2⟩ := hsame
    rw [State.setFrames_setFrames] at e1
    have h2 : (T.setVm s.vm).sameButNew ({ U with vm := s.vm } : State) [] (0 + 1) (0 + 6) := ⟨e1, e2⟩
    have h3 := X.same.trans h2
    rw [List.append_nil] at h3
    exact h3.mono hc hs
  refine ⟨U, ?_, .threw T.heap.size, hrun, hend, Or.inr ⟨T.heap.size, rfl, cls, ce, locs, hx U hWs.alike f1 (fun q hq => f2 q hq (fun z hz => nomatch hz)), hce, hO.vm, hcl, hWs, hall, hf⟩⟩
  refine st1 _ ?_
  show Steps p.tables e below (T1.setTop { method := m, pc := pc + 3, locals := ls, stack := .ref T.heap.size :: rest, locked := none }) _
  jvm_step X₁.here [X₁.here.top, hexec, d3', Value.category]
  exact X₁.ldcString hexec (own := own) (text := text) (index := is) (a := sa) hown' hstr'.1 hstr'.2
    (g := { method := m, pc := pc + 4, locals := ls, stack := .ref T.heap.size :: .ref T.heap.size :: rest, locked := none }) rfl d4' _ hsteps
/-- 'throw new E("text")', the text by a wide index -/
theorem vx_throwSW {cc : ByteArray} {pc : Nat} (hexec : p.tables.exec = Jvm.exec) (hb : c.code = cc) (hl : l.stackTraces = false) {own cls text : String} {names : List String} {ik is ic mc ms sa : Nat} {A : Nat → Prop}
    (hown : s.vm.findClass own = some m.cls) (hcls : Bundle.fit cls = true) (hnames : ∀ n ∈ names, Bundle.fit n = true)
    (hk : (Cond.classLink own ik cls).before args s = true) (hini : (Cond.initialized cls).before args s = true) (hstr : vk_R own is text sa s) (hat : ∀ w ∈ vx_atS own ic cls names, w.before args s = true)
    (hgood : ∀ w ∈ Cond.classLink own ik cls :: Cond.initialized cls :: vx_atS own ic cls names, vx_ot w = true)
    (hU : vx_Zq Bundle.tN "UNASSIGNED_STACK" Bundle.steD A s s.heap) (hN : vx_Zq Bundle.tN "SUPPRESSED_SENTINEL" Bundle.listD A s s.heap) (hS : va_S A s.heap H locs) (hsize : ls.size = c.maxLocals)
    (d0 : decode cc pc = .ok (.new ik, 3)) (d3 : decode cc (pc + 3) = .ok (.dup, 1)) (d4 : decode cc (pc + 4) = .ok (.ldc_w is, 3)) (d7 : decode cc (pc + 7) = .ok (.invokespecial ic, 3)) (d10 : decode cc (pc + 10) = .ok (.athrow, 1))
    (hout : ∀ x ∈ c.exceptionTable.toList, covers x (pc + 10) = false)
    (hRframes : names.length + 3 < R.frames) (hRlocals : (rest.map fun v => v.category).sum + (13 * (names.length + 1) + 43) ≤ R.locals) (hRcells : cells + 1 ≤ R.cells) (hRslots : slots + 6 ≤ R.slots) (hlocks : meth.locks = false)
    (hx : ∀ t : State, s.vm.Alike t.vm → H.size ≤ t.heap.size → (∀ q : Nat, q < H.size → t.heap[q]? = H[q]?) → XC cls s t)
    (hf : ∀ z ∈ locs, free z.base) (hc : cells + 1 ≤ mc) (hs : slots + 6 ≤ ms) :
    W p l e R s m args below meth c H locs cells slots (vx_MQ below Qc XC args s mc ms free) (F0 m pc ls rest) := by
  intro T hT X
  have htr : e.platform.stackTraces = false := (show e.platform.stackTraces = l.stackTraces by rw [X.admits.platform]).trans hl
  have Y := vx_rebase X (R' := { frames := R.frames, locals := R.locals, cells := 1, slots := 6 }) (Nat.le_refl _) (Nat.le_refl _) hRcells hRslots
  obtain ⟨s', hA⟩ : ∃ z, z = (T.setVm s.vm).setFrames (.invoking m args :: below) := ⟨_, rfl⟩
  rw [← hA] at Y
  have hvm : s'.vm = s.vm := by rw [hA]; rfl
  have hhp : s'.heap = H := by rw [hA]; exact hT
  have hW0 : s.WarmedH s'.vm := by rw [hvm]; exact State.WarmedH.refl s
  have hat' : ∀ w ∈ vx_atS own ic cls names, w.before args s' = true := fun w hw => vx_ot_at hW0 hvm.symm (hgood w (List.mem_cons_of_mem _ (List.mem_cons_of_mem _ hw))) (hat w hw)
  have hk' : (Cond.classLink own ik cls).before args s' = true := vx_ot_at hW0 hvm.symm (hgood _ List.mem_cons_self) hk
  have hini' : (Cond.initialized cls).before args s' = true := vx_ot_at hW0 hvm.symm (hgood _ (List.mem_cons_of_mem _ List.mem_cons_self)) hini
  have hU' : vx_Zq Bundle.tN "UNASSIGNED_STACK" Bundle.steD A s' s'.heap := by rw [hhp]; exact vx_Zq.moved hW0.alike (hU.kept hS.2.1)
  have hN' : vx_Zq Bundle.tN "SUPPRESSED_SENTINEL" Bundle.listD A s' s'.heap := by rw [hhp]; exact vx_Zq.moved hW0.alike (hN.kept hS.2.1)
  have h : ∀ w ∈ Bundle.ownAtoms own ic cls names, w.before args s' = true := vx_own hat' (vx_isRefq hU'.1) (vx_isRefq hN'.1) hU'.2.word hN'.2.word
  have hown' : s'.vm.findClass own = some m.cls := by rw [hvm]; exact hown
  have hins : (Cond.instantiable cls 6).before args s' = true := h _ (by simp [Bundle.ownAtoms])
  obtain ⟨vm₁, cX, kX, hfX, hkX, -, -, X₁, st1⟩ := Y.newCold hexec (own := own) (C := cls) (index := ik) (n := 6) hown' hk' hins hini'
    (g := F0 m pc ls rest) rfl (by rw [hb]; exact d0) (Nat.le_refl _) (Nat.le_refl _)
  generalize hT1 : (T.setVm vm₁).pushCell { cls := cX, slots := kX.instanceTypes.map defaultValue, vm := .none } = T1 at X₁ st1
  have hcat : (Value.ref T.heap.size).category = 1 := rfl
  have hcellA : T1.heap[T.heap.size]? = some (freshCell cX kX) := by rw [← hT1]; exact State.heap_pushCell_size _ _
  have d3' : decode c.code (pc + 3) = .ok (.dup, 1) := by rw [hb]; exact d3
  have d4' : decode c.code (pc + 4) = .ok (.ldc_w is, 3) := by rw [hb]; exact d4
  have hstr' : vk_R own is text sa s' := vk_R.warm hW0 hstr
  obtain ⟨U, hsteps, hrun, hend, hW, hsame, ce, hce, hO⟩ := X₁.ctorThrowS hexec htr (own := own) (cls := cls) (names := names) (ic := ic) hown' hcls hnames h (fun x hx => nomatch hx) hfX hkX hcellA (by rw [hhp, hT]; exact Nat.le_refl _) (msg := .ref sa) rfl
    (g := { method := m, pc := pc + 7, locals := ls, stack := .ref sa :: .ref T.heap.size :: .ref T.heap.size :: rest, locked := none }) rfl hsize rfl rfl (rest := rest) rfl
    (by rw [hb]; exact d7) (by rw [hb]; exact d10) hout hRframes (by simp only [List.map_cons, List.sum_cons, hcat]; omega) hlocks
  obtain ⟨f1, f2⟩ := vx_frame hsame
  rw [hhp] at f1 f2
  have hWs : s.WarmedH U.vm := State.WarmedH.trans hW0 hW
  have hcl : s.vm.findClass cls = some ce.cls := by
    have h9 := hO.cls
    rw [hvm] at h9
    exact h9
  have hall : s.sameButNew ({ U with vm := s.vm } : State) locs mc ms := by
    subst hA
    obtain ⟨e1, e2⟩ := hsame
    rw [State.setFrames_setFrames] at e1
    have h2 : (T.setVm s.vm).sameButNew ({ U with vm := s.vm } : State) [] (0 + 1) (0 + 6) := ⟨e1, e2⟩
    have h3 := X.same.trans h2
    rw [List.append_nil] at h3
    exact h3.mono hc hs
  refine ⟨U, ?_, .threw T.heap.size, hrun, hend, Or.inr ⟨T.heap.size, rfl, cls, ce, locs, hx U hWs.alike f1 (fun q hq => f2 q hq (fun z hz => nomatch hz)), hce, hO.vm, hcl, hWs, hall, hf⟩⟩
  refine st1 _ ?_
  show Steps p.tables e below (T1.setTop { method := m, pc := pc + 3, locals := ls, stack := .ref T.heap.size :: rest, locked := none }) _
  jvm_step X₁.here [X₁.here.top, hexec, d3', Value.category]
  exact X₁.ldcStringW hexec (own := own) (text := text) (index := is) (a := sa) hown' hstr'.1 hstr'.2
    (g := { method := m, pc := pc + 4, locals := ls, stack := .ref T.heap.size :: .ref T.heap.size :: rest, locked := none }) rfl d4' _ hsteps
end Ends
section Bodies
variable {l : Launch}
theorem vx_ofW {y : MethodName} {ws ws' : List Cond} {rm : Room} {Pc : Array Value → State → Prop} {Qc : Array Value → State → Outcome → State → Prop} {XC : String → State → State → Prop} {mc ms : Nat} {free : Addr → Prop} {cc : ByteArray} {maxL : Nat} {ret : Option FieldType}
    (hy : plainName y.cls = true) (hw : ws = Cond.code y cc maxL ret :: ws')
    (body : ∀ p e s m args below meth c s₁, BodyLoose p l y (headSpec ws rm) cc maxL ret e s m args below meth c s₁ → c.maxLocals = maxL → (∀ x ∈ c.exceptionTable.toList, False) → Pc args s →
      W p l e (headSpec ws rm).room s m args below meth c s.heap [] 0 0 (vx_MQ below Qc XC args s mc ms free) (entryFrame m args maxL)) : vx_Met l y ws rm Pc Qc XC mc ms free := by
  refine MetFree.of_bodyS (code := cc) (maxLocals := maxL) (ret := ret) hy ?_ ?_
  · intro args s m h hn
    obtain ⟨meth, c, h1, h2, h3, h4, h5, h6, -, -⟩ := Cond.code_spec hn (atoms_spec (ws := ws) h _ (by rw [hw]; exact List.mem_cons_self))
    exact ⟨meth, c, h1, h2, h3, h4, h5, h6⟩
  · intro p e s m args below meth c s₁ B hml hP _
    have hh0 : s₁.heap = s.heap := by rw [B.state]; rfl
    have ht : ∀ x ∈ c.exceptionTable.toList, False := by
      obtain ⟨meth9, c9, h1, h2, -, -, -, -, h7, -⟩ := Cond.code_spec B.named (atoms_spec (ws := ws) B.pre _ (by rw [hw]; exact List.mem_cons_self))
      cases Option.some.inj (h1.symm.trans B.method)
      cases Option.some.inj (h2.symm.trans (Stand.of_body B).code)
      intro x hx
      rw [Array.isEmpty_iff.mp h7] at hx
      cases hx
    obtain ⟨t, a1, o, b1, b2, b3⟩ := body p e s m args below meth c s₁ B hml ht hP s₁ hh0 (Stand.of_body B)
    exact ⟨t, o, a1, b1, b2, b3⟩
/-- the table of a body with handlers -/
theorem vx_table {p : Program} {x y : MethodName} {S : Spec} {cc bytes : ByteArray} {maxL maxL' : Nat} {ret ret' : Option FieldType} {e : Env} {s s₁ : State} {m : MethodId} {args : Array Value} {below : List Frame} {meth : Method} {c : Code} {hh : List (Nat × Nat × Nat × Nat)}
    (B : BodyLoose p l y S cc maxL ret e s m args below meth c s₁) (h : (Cond.codeWith y bytes maxL' ret' hh).before args s = true) : c.exceptionTable.toList = tableOf hh := by
  obtain ⟨m9, meth9, c9, hn9, h1, h2, -, -, h6, -⟩ := Cond.codeWith_spec h
  cases Option.some.inj (hn9.symm.trans B.named)
  cases Option.some.inj (h1.symm.trans B.method)
  cases Option.some.inj (h2.symm.trans (Stand.of_body B).code)
  rw [← h6, table_eq]
end Bodies
end VXA
/-! ===== END ===== -/
/-! ===== BEGIN a static call of a method with an exception table ===== -/
section VXS
variable {p : Program} {l : Launch} {e : Env} {R : Room} {s : State} {m : MethodId} {args : Array Value} {below : List Frame} {meth : Method} {c : Code} {T : State} {H : Heap} {locs : List Loc} {cells slots : Nat}
abbrev vx_CSW (R : Room) (s : State) (args : Array Value) (own : String) (index : Nat) (y : MethodName) (bytes : ByteArray) (maxL : Nat) (ret : Option FieldType) (hh : List (Nat × Nat × Nat × Nat)) (ws : List Cond) (rm : Room) (mc ms n : Nat) : Prop :=
  (rm.cells = mc ∧ rm.slots = ms ∧ rm.frames + 1 ≤ R.frames ∧ 8 + (maxL + 11) + rm.locals ≤ R.locals ∧ (∀ w ∈ ws, ∀ (a' : Array Value) (U : State), s.WarmedH U.vm → w.before a' U = true) ∧ Cond.codeWith y bytes maxL ret hh ∈ ws) ∧
  (Cond.codeWith y bytes maxL ret hh).before args s = true ∧ (Cond.initialized y.cls).before args s = true ∧ (y.cls ≠ "java/lang/invoke/MethodHandle" ∧ y.cls ≠ "java/lang/invoke/VarHandle") ∧
  (∀ sig, parseMethodDescriptor y.desc = some sig → n = sig.parameters.length) ∧ (Cond.methodLink own index y).before args s = true ∧ (Cond.static y).before args s = true
theorem vx_cwSW {own : String} {index maxL mc ms : Nat} {y : MethodName} {bytes : ByteArray} {ret : Option FieldType} {hh : List (Nat × Nat × Nat × Nat)} {Ts ws ws' : List Cond} {rm : Room} (n : Nat) (ht : ∀ w ∈ Ts, w.before args s = true) (hT : GoodIn Ts (va_wsS own index y ws)) (hw : ws = Cond.codeWith y bytes maxL ret hh :: ws') (hrc : rm.cells = mc) (hrs : rm.slots = ms)
    (hd : y.cls ≠ "java/lang/invoke/MethodHandle" ∧ y.cls ≠ "java/lang/invoke/VarHandle" ∧ (parseMethodDescriptor y.desc).map (fun d => d.parameters.length) = some n) (hR : rm.frames + 1 ≤ R.frames ∧ 8 + (maxL + 11) + rm.locals ≤ R.locals) :
    vx_CSW R s args own index y bytes maxL ret hh ws rm mc ms n := by
  have ok : ∀ w ∈ va_wsS own index y ws, w.before args s = true := fun w h => ht w (hT w h).1
  have hG : GoodIn Ts ws := fun w h => hT w (by unfold va_wsS; exact List.mem_append_right _ h)
  have hc : Cond.codeWith y bytes maxL ret hh ∈ ws := by rw [hw]; exact List.mem_cons_self
  refine ⟨⟨hrc, hrs, hR.1, hR.2, pay_in ht hG, hc⟩, ht _ (hG _ hc).1, ok _ (by simp [va_wsS]), ⟨hd.1, hd.2.1⟩, fun sig h => ?_, ok _ (by simp [va_wsS]), ok _ (by simp [va_wsS])⟩
  have h2 := hd.2.2
  rw [h] at h2
  exact (Option.some.inj h2).symm
theorem vx_callSW (X : Stand p l e R s m args below meth c T locs cells slots) (hexec : p.tables.exec = Jvm.exec) {own : String} {index : Nat} {y : MethodName} {bytes : ByteArray} {maxL : Nat} {ret : Option FieldType} {hh : List (Nat × Nat × Nat × Nat)}
    (hown : s.vm.findClass own = some m.cls) (hlink : (Cond.methodLink own index y).before args s = true) (hstat : (Cond.static y).before args s = true) (hinit : (Cond.initialized y.cls).before args s = true)
    (hcode : (Cond.codeWith y bytes maxL ret hh).before args s = true) (hy : y.cls ≠ "java/lang/invoke/MethodHandle" ∧ y.cls ≠ "java/lang/invoke/VarHandle")
    {W9 : Nat} {Pre : Pt → Array Value → Prop} {Post : Pt → Array Value → Option Value → Pt → Prop} (hK : Back l R p e below s args y 3 W9 Pre Post)
    {g : JFrame} (hg : g.method = m) (hsize : g.locals.size = c.maxLocals) {argsL rest : List Value} (hlen : ∀ sig, parseMethodDescriptor y.desc = some sig → argsL.length = sig.parameters.length)
    (hstack : g.stack = argsL.reverse ++ rest) (hW : 2 * g.monitorRoom + (rest.map fun v => v.category).sum ≤ W9) (hdg : decode c.code g.pc = .ok (.invokestatic index, 3))
    (hpre : ∀ vm₁, s.WarmedH vm₁ → Pre ⟨T.setVm vm₁, locs, cells, slots⟩ argsL.toArray) :
    ∃ (v : Option Value) (vm₁ : Vm) (B : Pt), s.WarmedH vm₁ ∧ Stand p l e R s m args below meth c B.U B.locs B.cells B.slots ∧ Post ⟨T.setVm vm₁, locs, cells, slots⟩ argsL.toArray v B ∧
      ∀ target, Steps p.tables e below (B.U.setTop { g with pc := g.pc + 3, stack := v.toList ++ rest }) target → Steps p.tables e below (T.setTop g) target := by
  obtain ⟨mk, methM, cM, hnamed, hmethM, -, -, -, -, -, -, hsigM⟩ := Cond.codeWith_spec hcode
  have hstatic : methM.isStatic = true := Cond.static_spec hnamed hmethM hstat
  obtain ⟨kP, hkP, -⟩ := className_of_methodNamed hnamed
  have hinitP : kP.init = .initialized := Cond.initialized_spec (findClass_of_methodNamed hnamed) hkP hinit
  obtain ⟨vm₁, X₁, hstep₁⟩ := X.invokestatic hexec hown hlink hnamed hmethM hstatic hkP hinitP hy (g := g) hg (argsL := argsL) (rest := rest) (hlen _ hsigM) hstack hdg
  obtain ⟨v, B, X', hpost, hsteps⟩ := hK m meth c ⟨T.setVm vm₁, locs, cells, slots⟩ { g with stack := rest } (.invokestatic index) mk argsL.toArray X₁ hg hsize hdg hW (X₁.named hnamed) (hpre vm₁ X₁.warmed)
  exact ⟨v, vm₁, B, X₁.warmed, X', hpost, fun target h => hstep₁ _ fun acts => by rw [doInvoke_state]; exact hsteps.trans h⟩
theorem vx_runSW {y : MethodName} {bytes cc : ByteArray} {maxL nL mc ms n index : Nat} {ret : Option FieldType} {hh : List (Nat × Nat × Nat × Nat)} {ws : List Cond} {rm : Room} {Pc : Array Value → State → Prop} {Qc : Array Value → State → Outcome → State → Prop} {free : Addr → Prop} {Ts : List Cond} {own : String} {As rest : List Value} {g : JFrame}
    (S : CallFix p m c cc nL s args Ts own) (hM : Met l y ws rm Pc Qc mc ms free) (cw : vx_CSW R s args own index y bytes maxL ret hh ws rm mc ms n) (hp : PreS s H Pc As)
    (hg : g.method = m) (hn : As.length = n) (hsize : g.locals.size = nL) (hstack : g.stack = As.reverse ++ rest) (hW : 2 * g.monitorRoom + (rest.map fun v => v.category).sum ≤ 8) (hdg : decode cc g.pc = .ok (.invokestatic index, 3)) (hf : cells + mc ≤ R.cells ∧ slots + ms ≤ R.slots) :
    va_Run p l e R s m args below meth c H locs cells slots mc ms g rest (Qc As.toArray) (free) := by
  obtain ⟨⟨hrc, hrs, hfr, hlo, hws, hcw⟩, hcode, hini, hy, hlen, hl, hstt⟩ := cw
  have hK : Back l R p e below s args y 3 8 (PreOf R mc ms Pc) (PostOf Qc mc ms free) := va_backW (hh := hh) (bytes := bytes) (maxL := maxL) (ret := ret) hM hp.1 hrc hrs hfr hlo hws hcw (fun a' U hW => word_at hW (Or.inl (by first | rfl | simp [Cond.onTables, Cond.keeps, Cond.steady])) hini)
  obtain ⟨hx, hb, hml, ho, -⟩ := S
  intro T hT X
  obtain ⟨v, vm₁, ⟨U', l2, c2, s2⟩, hW₁, X', ⟨g', mk, t, L, e1, e2, hq, h1, hL, h2, h3⟩, st⟩ := vx_callSW X hx (hh := hh) (bytes := bytes) (maxL := maxL) (ret := ret) ho hl hstt hini hcode hy hK hg (hsize.trans hml.symm) (argsL := As) (rest := rest) (fun sig h => hn.trans (hlen sig h)) hstack hW (by rw [hb]; exact hdg)
    (fun vm₁ hW₁ => ⟨hf.1, hf.2, hp.2 (T.setVm vm₁) hT hW₁⟩)
  dsimp only [Pt.U, Pt.locs, Pt.cells, Pt.slots] at X' e1 e2 h1 h2 h3 st
  subst h1; subst h2; subst h3
  exact ⟨v, (T.setVm vm₁).calling g' mk As.toArray, t, U', L, hT, X', hL, e1, e2, hq, st⟩
/-- not caught here, past rows that name other classes: it goes on to the caller -/
theorem vx_outP {p : Program} {l : Launch} {e : Env} {R : Room} {s : State} {m : MethodId} {args : Array Value} {below : List Frame} {meth : Method} {c : Code} {H : Heap} {locs : List Loc} {cells slots : Nat} {free : Addr → Prop} {ls : Array Slot} {rest : List Value} {Qc : Array Value → State → Outcome → State → Prop} {XC : String → State → State → Prop}
    {pc : Nat} {own E : String} {ce : Cell} {q : Addr} {mc ms : Nat} (hown : s.vm.findClass own = some m.cls) (hlocks : meth.locks = false)
    (hpass : ∀ z ∈ c.exceptionTable.toList, covers z pc = false ∨ (z.catchType ≠ 0 ∧ ∃ nm : String, (Cond.classLink own z.catchType nm).before args s = true ∧ va_Nc E nm s)) (hcell : H[q]? = some ce) (hv : ce.vm = .none) (hcl : s.vm.findClass E = some ce.cls)
    (hx : ∀ t : State, t.heap = H → s.vm.Alike t.vm → XC E s t) (hf : ∀ z ∈ locs, free z.base) (hc : cells ≤ mc) (hs : slots ≤ ms) :
    vx_W p l e R s m args below meth c H locs cells slots (vx_MQ below Qc XC args s mc ms free) (F0 m pc ls rest) q := by
  intro T hT X
  have hpl : e.platform.magicAccessors = ({} : Platform).magicAccessors := by rw [X.admits.platform]
  obtain ⟨vm', hW', X', st⟩ := Stand.outThrough X hlocks q (g := F0 m pc ls rest) rfl rfl rfl (cell := ce) (by rw [hT]; exact hcell) (by rw [hv]; rfl)
    (by obtain ⟨k9, h9, -⟩ := Vm.findClass_spec hcl; exact ⟨k9, h9⟩) (fun z hz => by
      rcases hpass z hz with h | ⟨hz0, nm, hl1, hn1⟩
      · exact Or.inl h
      · obtain ⟨c6, hc6, hcl6⟩ := Cond.classLink_spec hown hl1 e.platform hpl
        obtain ⟨a8, b8, h1, h2, h3⟩ := hn1
        cases Option.some.inj (h1.symm.trans hcl)
        cases Option.some.inj (h2.symm.trans hc6)
        exact Or.inr ⟨hz0, _, hcl6, h3⟩)
  obtain ⟨g₀, hfr⟩ := X'.frames_eq
  have hcell9 : ((T.setVm vm').setFrames (.throwing q :: below)).heap[q]? = some ce := by
    show T.heap[q]? = some ce
    rw [hT]; exact hcell
  have hend : Ended ((T.setVm vm').setFrames (.throwing q :: below)) below (.threw q) := State.frames_setFrames _ (State.cur_lt_of_frames hfr)
  refine ⟨(T.setVm vm').setFrames (.throwing q :: below), ?_, .threw q, X'.here.running, hend, Or.inr ⟨q, rfl, E, ce, locs, hx _ hT (X'.ends _).1.alike, hcell9, hv, hcl, (X'.ends _).1, (X'.ends _).2.mono hc hs, hf⟩⟩
  rw [X.pushThrowing_eq]
  exact st
/-- a thing of a world lies in the heap -/
theorem vx_lt {D : va_G} {cl : List vw_C} {ws : va_W} {H1 : Heap} (h : va_P D cl ws H1) {k : Nat} {q : Nat × va_E} (hk : ws[k]? = some q) : q.1 < H1.size := (h k q hk).lt
end VXS
/-! ===== END ===== -/
/-! ===== BEGIN methods with a table of their own: called by a name, returning or throwing ===== -/
section VXH
/-! vx_backW, vx_callVX, vx_callSX, vx_callVW, vx_runVW, vx_runVX, vx_runSX, vx_ofWH follow the same proofs as their sisters above (Free/Laws.lean, Shelf42/LK1.lean); vx_outP calls Shelf42/NT130.lean (outThrough). -/
section
variable {l : Launch} {R : Room} {p : Program} {e : Env} {below : List Frame} {s : State} {sargs : Array Value} {y : MethodName} {len W9 : Nat}
theorem vx_backW {ws : List Cond} {rm : Room} {Pc : Array Value → State → Prop} {Qc : Array Value → State → Outcome → State → Prop} {XC : String → State → State → Prop} {mc ms : Nat} {free : Addr → Prop} {bytes : ByteArray} {maxL : Nat} {ret : Option FieldType} {hh : List (Nat × Nat × Nat × Nat)}
    (hM : vx_Met l y ws rm Pc Qc XC mc ms free) (hblind : FrameBlind Pc) (hrc : rm.cells = mc) (hrs : rm.slots = ms)
    (hframes : rm.frames + 1 ≤ R.frames) (hlocals : W9 + (maxL + 11) + rm.locals ≤ R.locals)
    (hws : ∀ w ∈ ws, ∀ a' U, s.WarmedH U.vm → w.before a' U = true) (hcode : Cond.codeWith y bytes maxL ret hh ∈ ws) (hinit : ∀ a' U, s.WarmedH U.vm → (Cond.initialized y.cls).before a' U = true) :
    vx_Back l R p e below s sargs y len W9 (PreOf R mc ms Pc) (PostOf Qc mc ms free) (vx_Post XC mc ms free) := by
  intro m meth c A g ig mk a X hg hsize hdg hW hn hp
  have h1 : (headSpec ws rm).pre.before a A.U = true := atoms_intro fun w hw => hws w hw _ _ X.warmed
  have h2 : (Cond.codeWith y bytes maxL ret hh).before a A.U = true := hws _ hcode _ _ X.warmed
  have h3 : (Cond.initialized y.cls).before a A.U = true := hinit _ _ X.warmed
  have h4 : A.cells + (headSpec ws rm).room.cells ≤ R.cells := by rw [show (headSpec ws rm).room.cells = mc from hrc]; exact hp.1
  have h5 : A.slots + (headSpec ws rm).room.slots ≤ R.slots := by rw [show (headSpec ws rm).room.slots = ms from hrs]; exact hp.2.1
  have hPc : Pc a (A.U.calling g mk a) := hblind _ _ _ _ hp.2.2
  obtain ⟨U, Ls, c0, s0⟩ := A
  dsimp only [Pt.U, Pt.locs, Pt.cells, Pt.slots] at h1 h2 h3 h4 h5 X hn hPc ⊢
  obtain ⟨m9, methY, cY, hn9, hmY, hcY, -, hlY, -⟩ := Cond.codeWith_spec h2
  cases Option.some.inj (hn9.symm.trans hn)
  obtain ⟨kY, hkY, -⟩ := className_of_methodNamed hn
  have hinitY : kY.init = .initialized := Cond.initialized_spec (findClass_of_methodNamed hn) hkY h3
  have h : At U g.method c below := by rw [hg]; exact X.here
  have hlocals9 : W9 + (maxL + 11) + (headSpec ws rm).room.locals ≤ R.locals := hlocals
  have happ : (headSpec ws rm).appliesLoose y e.platform (U.calling g mk a) = true :=
    Spec.appliesLoose_calling (g := g) h hdg hn hkY hinitY
      (X.room_calling (g := g) (R' := (headSpec ws rm).room) hsize hmY hcY hframes (by rw [hlY]; omega) h4 h5) h1
  obtain ⟨mid, hmid⟩ := h.above
  have hfr : (U.setTop g).frames = (.java g :: mid) ++ below := by rw [State.frames_setTop' g h.top, hmid]; rfl
  obtain ⟨o, s₂, hsteps, -, hend, hq⟩ := Steps.callFree hM p X.admits X.cas X.clock (acts := []) hfr happ hPc trivial
  have hq' : vx_Q Qc XC mc ms free a (U.calling g mk a) o s₂ := hq
  rw [State.frames_setTop' g h.top] at hend
  obtain ⟨g₀, hg0⟩ := Option.isSome_iff_exists.mp h.top
  obtain ⟨r, hr⟩ := State.topJava?_eq_some.mp hg0
  have hr' : (({ U with heap := s₂.heap, slotsUsed := s₂.slotsUsed } : State).setVm s₂.vm).frames = .java g₀ :: r := hr
  rcases hq' with ⟨hqc, L, hfe, hL⟩ | ⟨q, rfl, E, ce, L, hx, hce, hcv, hcl, hW₂, hsm, hL⟩
  · obtain ⟨⟨v, rfl⟩, hW₂, e2, q2, q3, q4, q5, q6⟩ := id hfe
    have e3 : s₂ = ({ (U.calling g mk a).setFrames s₂.frames with heap := s₂.heap, slotsUsed := s₂.slotsUsed } : State).setVm s₂.vm := by
      have : s₂ = ({ s₂ with vm := (U.calling g mk a).vm } : State).setVm s₂.vm := rfl
      rw [e2] at this
      exact this
    obtain ⟨c₂, i₂, len₂, hc₂, hd₂, hf₂⟩ := hend
    have hW' : U.WarmedH s₂.vm := hW₂
    have hcc : c₂ = c := by
      have h1 : s₂.code? g.method = U.code? g.method := by
        rw [State.code?_eq, State.code?_eq, hW'.alike.method?]
      exact Option.some.inj (hc₂.symm.trans (h1.trans h.code))
    subst hcc
    have hlen : len₂ = len := by rw [hdg] at hd₂; cases hd₂; rfl
    subst hlen
    have hs₂ : s₂ = (({ U with heap := s₂.heap, slotsUsed := s₂.slotsUsed } : State).setVm s₂.vm).setTop { g with pc := g.pc + len₂, stack := v.toList ++ g.stack } := by
      refine e3.trans ?_
      rw [hf₂, State.calling_eq h.top, State.setFrames_setFrames, State.setTop_of_frames _ hr', hr]
      rfl
    have hsame : U.sameButNew ({ U with heap := s₂.heap, slotsUsed := s₂.slotsUsed } : State) L mc ms := by
      refine ⟨?_, q2, q3, q4, q5, q6⟩
      obtain ⟨t, ht, -⟩ := State.frames_cons hr
      show ({ U with heap := s₂.heap, slotsUsed := s₂.slotsUsed } : State) = { U.setFrames U.frames with heap := s₂.heap, slotsUsed := s₂.slotsUsed }
      rw [State.setFrames_self ht]
    subst hg
    refine Or.inl ⟨v, ⟨(({ U with heap := s₂.heap, slotsUsed := s₂.slotsUsed } : State).setVm s₂.vm), Ls ++ L, c0 + mc, s0 + ms⟩,
      ⟨X.admits, X.cas, X.clock, X.frames, X.room, X.hears, X.method, X.code, (X.here.setHeapUsed s₂.heap s₂.slotsUsed).setVm hW'.alike, X.tail, State.WarmedH.trans X.warmed hW', X.limits, X.bytes, X.same.trans (hsame.setVm s.vm)⟩,
      ⟨g, mk, s₂, L, rfl, rfl, hqc, rfl, hL, rfl, rfl⟩, ?_⟩
    show Steps p.tables e below _ ((({ U with heap := s₂.heap, slotsUsed := s₂.slotsUsed } : State).setVm s₂.vm).setTop { g with pc := g.pc + len₂, stack := v.toList ++ g.stack })
    rw [← hs₂]
    exact hsteps
  · obtain ⟨e2, q2, q3, q4, q5, q6⟩ := id hsm
    have e3 : s₂ = ({ (U.calling g mk a).setFrames s₂.frames with heap := s₂.heap, slotsUsed := s₂.slotsUsed } : State).setVm s₂.vm := by
      have : s₂ = ({ s₂ with vm := (U.calling g mk a).vm } : State).setVm s₂.vm := rfl
      rw [e2] at this
      exact this
    have hf₂ : s₂.frames = .throwing q :: .java g :: U.frames.tail := hend
    have hW' : U.WarmedH s₂.vm := hW₂
    have hs₂ : s₂ = ((({ U with heap := s₂.heap, slotsUsed := s₂.slotsUsed } : State).setVm s₂.vm).setTop g).pushFrame (.throwing q) := by
      refine e3.trans ?_
      rw [hf₂, State.calling_eq h.top, State.setFrames_setFrames, State.pushFrame, State.frames_setTop _ hr', State.setTop_of_frames _ hr', State.setFrames_setFrames, hr]
      rfl
    have hsame : U.sameButNew ({ U with heap := s₂.heap, slotsUsed := s₂.slotsUsed } : State) L mc ms := by
      refine ⟨?_, q2, q3, q4, q5, q6⟩
      obtain ⟨t, ht, -⟩ := State.frames_cons hr
      show ({ U with heap := s₂.heap, slotsUsed := s₂.slotsUsed } : State) = { U.setFrames U.frames with heap := s₂.heap, slotsUsed := s₂.slotsUsed }
      rw [State.setFrames_self ht]
    subst hg
    refine Or.inr ⟨q, ⟨(({ U with heap := s₂.heap, slotsUsed := s₂.slotsUsed } : State).setVm s₂.vm), Ls ++ L, c0 + mc, s0 + ms⟩,
      ⟨X.admits, X.cas, X.clock, X.frames, X.room, X.hears, X.method, X.code, (X.here.setHeapUsed s₂.heap s₂.slotsUsed).setVm hW'.alike, X.tail, State.WarmedH.trans X.warmed hW', X.limits, X.bytes, X.same.trans (hsame.setVm s.vm)⟩,
      ⟨g, mk, s₂, L, E, ce, rfl, rfl, hx, hce, hcv, hcl, rfl, hL, rfl, rfl⟩, ?_⟩
    show Steps p.tables e below _ (((({ U with heap := s₂.heap, slotsUsed := s₂.slotsUsed } : State).setVm s₂.vm).setTop g).pushFrame (.throwing q))
    rw [← hs₂]
    exact hsteps
end
variable {p : Program} {l : Launch} {e : Env} {R : Room} {s : State} {m : MethodId} {args : Array Value} {below : List Frame} {meth : Method} {c : Code} {T : State} {H : Heap} {locs : List Loc} {cells slots : Nat}
theorem vx_callVX (X : Stand p l e R s m args below meth c T locs cells slots) (hexec : p.tables.exec = Jvm.exec) {own C : String} {index : Nat} {y : MethodName} {bytes : ByteArray} {maxL : Nat} {ret : Option FieldType} {hh : List (Nat × Nat × Nat × Nat)}
    (hown : s.vm.findClass own = some m.cls) (hlink : (Cond.methodLink own index y).before args s = true) (hinst : (Cond.instanceMethod y).before args s = true) (hsel : (Cond.selects C y y).before args s = true)
    (hcode : (Cond.codeWith y bytes maxL ret hh).before args s = true) (hy : y.cls ≠ "java/lang/invoke/MethodHandle" ∧ y.cls ≠ "java/lang/invoke/VarHandle")
    {W9 : Nat} {Pre : Pt → Array Value → Prop} {Post : Pt → Array Value → Option Value → Pt → Prop} {PostX : Pt → Array Value → Addr → Pt → Prop} (hK : vx_Back l R p e below s args y 3 W9 Pre Post PostX)
    {b : Addr} {cellB : Cell} (hcell : T.heap[b]? = some cellB) (hobj : cellB.vm.isStatics = false) (hcls : s.vm.findClass C = some cellB.cls)
    {g : JFrame} (hg : g.method = m) (hsize : g.locals.size = c.maxLocals) {argsL rest : List Value} (hlen : ∀ sig, parseMethodDescriptor y.desc = some sig → argsL.length = sig.parameters.length)
    (hstack : g.stack = argsL.reverse ++ .ref b :: rest) (hW : 2 * g.monitorRoom + (rest.map fun v => v.category).sum ≤ W9) (hdg : decode c.code g.pc = .ok (.invokevirtual index, 3))
    (hpre : ∀ vm₁, s.WarmedH vm₁ → Pre ⟨T.setVm vm₁, locs, cells, slots⟩ (Value.ref b :: argsL).toArray) :
    (∃ (v : Option Value) (vm₁ : Vm) (B : Pt), s.WarmedH vm₁ ∧ Stand p l e R s m args below meth c B.U B.locs B.cells B.slots ∧ Post ⟨T.setVm vm₁, locs, cells, slots⟩ (Value.ref b :: argsL).toArray v B ∧
      ∀ target, Steps p.tables e below (B.U.setTop { g with pc := g.pc + 3, stack := v.toList ++ rest }) target → Steps p.tables e below (T.setTop g) target) ∨
    (∃ (q : Addr) (vm₁ : Vm) (B : Pt), s.WarmedH vm₁ ∧ Stand p l e R s m args below meth c B.U B.locs B.cells B.slots ∧ PostX ⟨T.setVm vm₁, locs, cells, slots⟩ (Value.ref b :: argsL).toArray q B ∧
      Steps p.tables e below (T.setTop g) ((B.U.setTop { g with stack := rest }).pushFrame (.throwing q))) := by
  obtain ⟨mk, methM, hnamed, hmethM, hstM, habM⟩ := Cond.instanceMethod_spec hinst
  obtain ⟨m8, methM', cM, hn8, hmethM', -, -, -, -, -, -, hsigM⟩ := Cond.codeWith_spec hcode
  cases Option.some.inj (hn8.symm.trans hnamed)
  cases hmethM.symm.trans hmethM'
  obtain ⟨c2, r2, m2, q1, q2, q3, q4, kP, hkP, hkPi⟩ := Cond.selects_spec hsel
  cases hcls.symm.trans q1
  cases (State.methodFound?_of_named hnamed hy).symm.trans q2
  cases hnamed.symm.trans q3
  have hselP : selectMethod e.platform s.vm cellB.cls mk = .method mk := by rw [Launch.admits_selectMethod X.admits]; exact q4
  obtain ⟨vm₁, X₁, hstep₁⟩ := X.invokevirtual hexec hown hlink hnamed hmethM hstM hkP hkPi hy (a := b) (cell := cellB) hcell
    (fun z h => by rw [h] at hobj; cases hobj) hselP hmethM habM hkP hkPi (g := g) hg (argsL := argsL) (rest := rest) (hlen _ hsigM) hstack hdg
  rcases hK m meth c ⟨T.setVm vm₁, locs, cells, slots⟩ { g with stack := rest } (.invokevirtual index) mk (Value.ref b :: argsL).toArray X₁ hg hsize hdg hW (X₁.named hnamed) (hpre vm₁ X₁.warmed) with ⟨v, B, X', hpost, hsteps⟩ | ⟨q, B, X', hpost, hsteps⟩
  · exact Or.inl ⟨v, vm₁, B, X₁.warmed, X', hpost, fun target h => hstep₁ _ fun acts => by rw [doInvoke_state]; exact hsteps.trans h⟩
  · exact Or.inr ⟨q, vm₁, B, X₁.warmed, X', hpost, hstep₁ _ fun acts => by rw [doInvoke_state]; exact hsteps⟩
theorem vx_callSX (X : Stand p l e R s m args below meth c T locs cells slots) (hexec : p.tables.exec = Jvm.exec) {own : String} {index : Nat} {y : MethodName} {bytes : ByteArray} {maxL : Nat} {ret : Option FieldType} {hh : List (Nat × Nat × Nat × Nat)}
    (hown : s.vm.findClass own = some m.cls) (hlink : (Cond.methodLink own index y).before args s = true) (hstat : (Cond.static y).before args s = true) (hinit : (Cond.initialized y.cls).before args s = true)
    (hcode : (Cond.codeWith y bytes maxL ret hh).before args s = true) (hy : y.cls ≠ "java/lang/invoke/MethodHandle" ∧ y.cls ≠ "java/lang/invoke/VarHandle")
    {W9 : Nat} {Pre : Pt → Array Value → Prop} {Post : Pt → Array Value → Option Value → Pt → Prop} {PostX : Pt → Array Value → Addr → Pt → Prop} (hK : vx_Back l R p e below s args y 3 W9 Pre Post PostX)
    {g : JFrame} (hg : g.method = m) (hsize : g.locals.size = c.maxLocals) {argsL rest : List Value} (hlen : ∀ sig, parseMethodDescriptor y.desc = some sig → argsL.length = sig.parameters.length)
    (hstack : g.stack = argsL.reverse ++ rest) (hW : 2 * g.monitorRoom + (rest.map fun v => v.category).sum ≤ W9) (hdg : decode c.code g.pc = .ok (.invokestatic index, 3))
    (hpre : ∀ vm₁, s.WarmedH vm₁ → Pre ⟨T.setVm vm₁, locs, cells, slots⟩ argsL.toArray) :
    (∃ (v : Option Value) (vm₁ : Vm) (B : Pt), s.WarmedH vm₁ ∧ Stand p l e R s m args below meth c B.U B.locs B.cells B.slots ∧ Post ⟨T.setVm vm₁, locs, cells, slots⟩ argsL.toArray v B ∧
      ∀ target, Steps p.tables e below (B.U.setTop { g with pc := g.pc + 3, stack := v.toList ++ rest }) target → Steps p.tables e below (T.setTop g) target) ∨
    (∃ (q : Addr) (vm₁ : Vm) (B : Pt), s.WarmedH vm₁ ∧ Stand p l e R s m args below meth c B.U B.locs B.cells B.slots ∧ PostX ⟨T.setVm vm₁, locs, cells, slots⟩ argsL.toArray q B ∧
      Steps p.tables e below (T.setTop g) ((B.U.setTop { g with stack := rest }).pushFrame (.throwing q))) := by
  obtain ⟨mk, methM, cM, hnamed, hmethM, -, -, -, -, -, -, hsigM⟩ := Cond.codeWith_spec hcode
  have hstatic : methM.isStatic = true := Cond.static_spec hnamed hmethM hstat
  obtain ⟨kP, hkP, -⟩ := className_of_methodNamed hnamed
  have hinitP : kP.init = .initialized := Cond.initialized_spec (findClass_of_methodNamed hnamed) hkP hinit
  obtain ⟨vm₁, X₁, hstep₁⟩ := X.invokestatic hexec hown hlink hnamed hmethM hstatic hkP hinitP hy (g := g) hg (argsL := argsL) (rest := rest) (hlen _ hsigM) hstack hdg
  rcases hK m meth c ⟨T.setVm vm₁, locs, cells, slots⟩ { g with stack := rest } (.invokestatic index) mk argsL.toArray X₁ hg hsize hdg hW (X₁.named hnamed) (hpre vm₁ X₁.warmed) with ⟨v, B, X', hpost, hsteps⟩ | ⟨q, B, X', hpost, hsteps⟩
  · exact Or.inl ⟨v, vm₁, B, X₁.warmed, X', hpost, fun target h => hstep₁ _ fun acts => by rw [doInvoke_state]; exact hsteps.trans h⟩
  · exact Or.inr ⟨q, vm₁, B, X₁.warmed, X', hpost, hstep₁ _ fun acts => by rw [doInvoke_state]; exact hsteps⟩
theorem vx_callVW (X : Stand p l e R s m args below meth c T locs cells slots) (hexec : p.tables.exec = Jvm.exec) {own C : String} {index : Nat} {y : MethodName} {bytes : ByteArray} {maxL : Nat} {ret : Option FieldType} {hh : List (Nat × Nat × Nat × Nat)}
    (hown : s.vm.findClass own = some m.cls) (hlink : (Cond.methodLink own index y).before args s = true) (hinst : (Cond.instanceMethod y).before args s = true) (hsel : (Cond.selects C y y).before args s = true)
    (hcode : (Cond.codeWith y bytes maxL ret hh).before args s = true) (hy : y.cls ≠ "java/lang/invoke/MethodHandle" ∧ y.cls ≠ "java/lang/invoke/VarHandle")
    {W9 : Nat} {Pre : Pt → Array Value → Prop} {Post : Pt → Array Value → Option Value → Pt → Prop} (hK : Back l R p e below s args y 3 W9 Pre Post)
    {b : Addr} {cellB : Cell} (hcell : T.heap[b]? = some cellB) (hobj : cellB.vm.isStatics = false) (hcls : s.vm.findClass C = some cellB.cls)
    {g : JFrame} (hg : g.method = m) (hsize : g.locals.size = c.maxLocals) {argsL rest : List Value} (hlen : ∀ sig, parseMethodDescriptor y.desc = some sig → argsL.length = sig.parameters.length)
    (hstack : g.stack = argsL.reverse ++ .ref b :: rest) (hW : 2 * g.monitorRoom + (rest.map fun v => v.category).sum ≤ W9) (hdg : decode c.code g.pc = .ok (.invokevirtual index, 3))
    (hpre : ∀ vm₁, s.WarmedH vm₁ → Pre ⟨T.setVm vm₁, locs, cells, slots⟩ (Value.ref b :: argsL).toArray) :
    ∃ (v : Option Value) (vm₁ : Vm) (B : Pt), s.WarmedH vm₁ ∧ Stand p l e R s m args below meth c B.U B.locs B.cells B.slots ∧ Post ⟨T.setVm vm₁, locs, cells, slots⟩ (Value.ref b :: argsL).toArray v B ∧
      ∀ target, Steps p.tables e below (B.U.setTop { g with pc := g.pc + 3, stack := v.toList ++ rest }) target → Steps p.tables e below (T.setTop g) target := by
  obtain ⟨mk, methM, hnamed, hmethM, hstM, habM⟩ := Cond.instanceMethod_spec hinst
  obtain ⟨m8, methM', cM, hn8, hmethM', -, -, -, -, -, -, hsigM⟩ := Cond.codeWith_spec hcode
  cases Option.some.inj (hn8.symm.trans hnamed)
  cases hmethM.symm.trans hmethM'
  obtain ⟨c2, r2, m2, q1, q2, q3, q4, kP, hkP, hkPi⟩ := Cond.selects_spec hsel
  cases hcls.symm.trans q1
  cases (State.methodFound?_of_named hnamed hy).symm.trans q2
  cases hnamed.symm.trans q3
  have hselP : selectMethod e.platform s.vm cellB.cls mk = .method mk := by rw [Launch.admits_selectMethod X.admits]; exact q4
  obtain ⟨vm₁, X₁, hstep₁⟩ := X.invokevirtual hexec hown hlink hnamed hmethM hstM hkP hkPi hy (a := b) (cell := cellB) hcell
    (fun z h => by rw [h] at hobj; cases hobj) hselP hmethM habM hkP hkPi (g := g) hg (argsL := argsL) (rest := rest) (hlen _ hsigM) hstack hdg
  obtain ⟨v, B, X', hpost, hsteps⟩ := hK m meth c ⟨T.setVm vm₁, locs, cells, slots⟩ { g with stack := rest } (.invokevirtual index) mk (Value.ref b :: argsL).toArray X₁ hg hsize hdg hW (X₁.named hnamed) (hpre vm₁ X₁.warmed)
  exact ⟨v, vm₁, B, X₁.warmed, X', hpost, fun target h => hstep₁ _ fun acts => by rw [doInvoke_state]; exact hsteps.trans h⟩
abbrev vx_CVW (R : Room) (s : State) (args : Array Value) (own C : String) (index : Nat) (y : MethodName) (bytes : ByteArray) (maxL : Nat) (ret : Option FieldType) (hh : List (Nat × Nat × Nat × Nat)) (ws : List Cond) (rm : Room) (mc ms n : Nat) : Prop :=
  (rm.cells = mc ∧ rm.slots = ms ∧ rm.frames + 1 ≤ R.frames ∧ 8 + (maxL + 11) + rm.locals ≤ R.locals ∧ (∀ w ∈ ws, ∀ (a' : Array Value) (U : State), s.WarmedH U.vm → w.before a' U = true) ∧ Cond.codeWith y bytes maxL ret hh ∈ ws) ∧
  (Cond.codeWith y bytes maxL ret hh).before args s = true ∧ (Cond.initialized y.cls).before args s = true ∧ (y.cls ≠ "java/lang/invoke/MethodHandle" ∧ y.cls ≠ "java/lang/invoke/VarHandle") ∧
  (∀ sig, parseMethodDescriptor y.desc = some sig → n = sig.parameters.length) ∧ (Cond.methodLink own index y).before args s = true ∧ (Cond.instanceMethod y).before args s = true ∧ (Cond.selects C y y).before args s = true
theorem vx_cwVW {own C : String} {index maxL mc ms : Nat} {y : MethodName} {bytes : ByteArray} {ret : Option FieldType} {hh : List (Nat × Nat × Nat × Nat)} {Ts ws ws' : List Cond} {rm : Room} (n : Nat) (ht : ∀ w ∈ Ts, w.before args s = true) (hT : GoodIn Ts (wsV own index C y ws)) (hw : ws = Cond.codeWith y bytes maxL ret hh :: ws') (hrc : rm.cells = mc) (hrs : rm.slots = ms)
    (hd : y.cls = C ∧ y.cls ≠ "java/lang/invoke/MethodHandle" ∧ y.cls ≠ "java/lang/invoke/VarHandle" ∧ (parseMethodDescriptor y.desc).map (fun d => d.parameters.length) = some n) (hR : rm.frames + 1 ≤ R.frames ∧ 8 + (maxL + 11) + rm.locals ≤ R.locals) :
    vx_CVW R s args own C index y bytes maxL ret hh ws rm mc ms n := by
  obtain ⟨hC, hd⟩ := hd
  subst hC
  have ok : ∀ w ∈ wsV own index y.cls y ws, w.before args s = true := fun w h => ht w (hT w h).1
  have hG : GoodIn Ts ws := fun w h => hT w (by unfold wsV; exact List.mem_append_right _ h)
  have hc : Cond.codeWith y bytes maxL ret hh ∈ ws := by rw [hw]; exact List.mem_cons_self
  refine ⟨⟨hrc, hrs, hR.1, hR.2, pay_in ht hG, hc⟩, ht _ (hG _ hc).1, ok _ (by simp [wsV]), ⟨hd.1, hd.2.1⟩, fun sig h => ?_, ok _ (by simp [wsV]), ok _ (by simp [wsV]), ok _ (by simp [wsV])⟩
  have h2 := hd.2.2
  rw [h] at h2
  exact (Option.some.inj h2).symm
theorem vx_runVW {y : MethodName} {bytes cc : ByteArray} {maxL nL mc ms n index : Nat} {ret : Option FieldType} {hh : List (Nat × Nat × Nat × Nat)} {ws : List Cond} {rm : Room} {Pc : Array Value → State → Prop} {Qc : Array Value → State → Outcome → State → Prop} {free : Addr → Prop} {Ts : List Cond} {own C : String} {b : Addr} {As rest : List Value} {g : JFrame}
    (S : CallFix p m c cc nL s args Ts own) (hM : Met l y ws rm Pc Qc mc ms free) (cw : vx_CVW R s args own C index y bytes maxL ret hh ws rm mc ms n) (hp : PreV s H C b Pc As)
    (hg : g.method = m) (hn : As.length = n) (hsize : g.locals.size = nL) (hstack : g.stack = As.reverse ++ .ref b :: rest) (hW : 2 * g.monitorRoom + (rest.map fun v => v.category).sum ≤ 8) (hdg : decode cc g.pc = .ok (.invokevirtual index, 3)) (hf : cells + mc ≤ R.cells ∧ slots + ms ≤ R.slots) :
    va_Run p l e R s m args below meth c H locs cells slots mc ms g rest (Qc (Value.ref b :: As).toArray) free := by
  obtain ⟨⟨hrc, hrs, hfr, hlo, hws, hcw⟩, hcode, hini, hy, hlen, hl, hin, hse⟩ := cw
  have hK : Back l R p e below s args y 3 8 (PreOf R mc ms Pc) (PostOf Qc mc ms free) := va_backW (hh := hh) (bytes := bytes) (maxL := maxL) (ret := ret) hM hp.1 hrc hrs hfr hlo hws hcw (fun a' U hW => word_at hW (Or.inl (by first | rfl | simp [Cond.onTables, Cond.keeps, Cond.steady])) hini)
  obtain ⟨hx, hb, hml, ho, -⟩ := S
  obtain ⟨-, ⟨cellB, hcB, hoB, hclB⟩, hPc⟩ := hp
  intro T hT X
  obtain ⟨v, vm₁, ⟨U', l2, c2, s2⟩, hW₁, X', ⟨g', mk, t, L, e1, e2, hq, h1, hL, h2, h3⟩, st⟩ := vx_callVW X hx (C := C) (hh := hh) (bytes := bytes) (maxL := maxL) (ret := ret) ho hl hin hse hcode hy hK (by rw [hT]; exact hcB) hoB hclB hg (hsize.trans hml.symm) (argsL := As) (rest := rest) (fun sig h => hn.trans (hlen sig h)) hstack hW (by rw [hb]; exact hdg)
    (fun vm₁ hW₁ => ⟨hf.1, hf.2, hPc (T.setVm vm₁) hT hW₁⟩)
  dsimp only [Pt.U, Pt.locs, Pt.cells, Pt.slots] at X' e1 e2 h1 h2 h3 st
  subst h1; subst h2; subst h3
  exact ⟨v, (T.setVm vm₁).calling g' mk (Value.ref b :: As).toArray, t, U', L, hT, X', hL, e1, e2, hq, st⟩
section
variable {y : MethodName} {bytes cc : ByteArray} {maxL nL mc ms n index : Nat} {ret : Option FieldType} {ws : List Cond} {rm : Room} {Pc : Array Value → State → Prop} {Qc : Array Value → State → Outcome → State → Prop} {XC : String → State → State → Prop} {free : Addr → Prop} {Ts : List Cond} {own C : String} {b : Addr} {As rest : List Value} {g : JFrame}
theorem vx_runVX {hh : List (Nat × Nat × Nat × Nat)} (S : CallFix p m c cc nL s args Ts own) (hM : vx_Met l y ws rm Pc Qc XC mc ms free) (cw : vx_CVW R s args own C index y bytes maxL ret hh ws rm mc ms n) (hp : PreV s H C b Pc As)
    (hg : g.method = m) (hn : As.length = n) (hsize : g.locals.size = nL) (hstack : g.stack = As.reverse ++ .ref b :: rest) (hW : 2 * g.monitorRoom + (rest.map fun v => v.category).sum ≤ 8) (hdg : decode cc g.pc = .ok (.invokevirtual index, 3)) (hf : cells + mc ≤ R.cells ∧ slots + ms ≤ R.slots) :
    vx_Run p l e R s m args below meth c H locs cells slots mc ms g rest (Qc (Value.ref b :: As).toArray) XC free := by
  obtain ⟨⟨hrc, hrs, hfr, hlo, hws, hcw⟩, hcode, hini, hy, hlen, hl, hin, hse⟩ := cw
  have hK : vx_Back l R p e below s args y 3 8 (PreOf R mc ms Pc) (PostOf Qc mc ms free) (vx_Post XC mc ms free) := vx_backW (hh := hh) (bytes := bytes) (maxL := maxL) (ret := ret) hM hp.1 hrc hrs hfr hlo hws hcw (fun a' U hW => word_at hW (Or.inl (by first | rfl | simp [Cond.onTables, Cond.keeps, Cond.steady])) hini)
  obtain ⟨hx, hb, hml, ho, -⟩ := S
  obtain ⟨-, ⟨cellB, hcB, hoB, hclB⟩, hPc⟩ := hp
  intro T hT X
  rcases vx_callVX X hx (C := C) (hh := hh) (bytes := bytes) (maxL := maxL) (ret := ret) ho hl hin hse hcode hy hK (by rw [hT]; exact hcB) hoB hclB hg (hsize.trans hml.symm) (argsL := As) (rest := rest) (fun sig h => hn.trans (hlen sig h)) hstack hW (by rw [hb]; exact hdg)
    (fun vm₁ hW₁ => ⟨hf.1, hf.2, hPc (T.setVm vm₁) hT hW₁⟩) with ⟨v, vm₁, ⟨U', l2, c2, s2⟩, hW₁, X', ⟨g', mk, t, L, e1, e2, hq, h1, hL, h2, h3⟩, st⟩ | ⟨q, vm₁, ⟨U', l2, c2, s2⟩, hW₁, X', ⟨g', mk, t, L, E, ce, e1, e2, hq, hce, hcv, hcl, h1, hL, h2, h3⟩, st⟩
  · dsimp only [Pt.U, Pt.locs, Pt.cells, Pt.slots] at X' e1 e2 h1 h2 h3 st
    subst h1; subst h2; subst h3
    exact Or.inl ⟨v, (T.setVm vm₁).calling g' mk (Value.ref b :: As).toArray, t, U', L, hT, X', hL, e1, e2, hq, st⟩
  · dsimp only [Pt.U, Pt.locs, Pt.cells, Pt.slots] at X' e1 e2 h1 h2 h3 st hcl
    subst h1; subst h2; subst h3
    exact Or.inr ⟨q, (T.setVm vm₁).calling g' mk (Value.ref b :: As).toArray, t, U', L, E, ce, hT, X', hL, e1, e2, hq, hce, hcv, vx_cls hW₁ hcl, st⟩
theorem vx_runSX {hh : List (Nat × Nat × Nat × Nat)} (S : CallFix p m c cc nL s args Ts own) (hM : vx_Met l y ws rm Pc Qc XC mc ms free) (cw : vx_CSW R s args own index y bytes maxL ret hh ws rm mc ms n) (hp : PreS s H Pc As)
    (hg : g.method = m) (hn : As.length = n) (hsize : g.locals.size = nL) (hstack : g.stack = As.reverse ++ rest) (hW : 2 * g.monitorRoom + (rest.map fun v => v.category).sum ≤ 8) (hdg : decode cc g.pc = .ok (.invokestatic index, 3)) (hf : cells + mc ≤ R.cells ∧ slots + ms ≤ R.slots) :
    vx_Run p l e R s m args below meth c H locs cells slots mc ms g rest (Qc As.toArray) XC free := by
  obtain ⟨⟨hrc, hrs, hfr, hlo, hws, hcw⟩, hcode, hini, hy, hlen, hl, hstt⟩ := cw
  have hK : vx_Back l R p e below s args y 3 8 (PreOf R mc ms Pc) (PostOf Qc mc ms free) (vx_Post XC mc ms free) := vx_backW (hh := hh) (bytes := bytes) (maxL := maxL) (ret := ret) hM hp.1 hrc hrs hfr hlo hws hcw (fun a' U hW => word_at hW (Or.inl (by first | rfl | simp [Cond.onTables, Cond.keeps, Cond.steady])) hini)
  obtain ⟨hx, hb, hml, ho, -⟩ := S
  intro T hT X
  rcases vx_callSX X hx (hh := hh) (bytes := bytes) (maxL := maxL) (ret := ret) ho hl hstt hini hcode hy hK hg (hsize.trans hml.symm) (argsL := As) (rest := rest) (fun sig h => hn.trans (hlen sig h)) hstack hW (by rw [hb]; exact hdg)
    (fun vm₁ hW₁ => ⟨hf.1, hf.2, hp.2 (T.setVm vm₁) hT hW₁⟩) with ⟨v, vm₁, ⟨U', l2, c2, s2⟩, hW₁, X', ⟨g', mk, t, L, e1, e2, hq, h1, hL, h2, h3⟩, st⟩ | ⟨q, vm₁, ⟨U', l2, c2, s2⟩, hW₁, X', ⟨g', mk, t, L, E, ce, e1, e2, hq, hce, hcv, hcl, h1, hL, h2, h3⟩, st⟩
  · dsimp only [Pt.U, Pt.locs, Pt.cells, Pt.slots] at X' e1 e2 h1 h2 h3 st
    subst h1; subst h2; subst h3
    exact Or.inl ⟨v, (T.setVm vm₁).calling g' mk As.toArray, t, U', L, hT, X', hL, e1, e2, hq, st⟩
  · dsimp only [Pt.U, Pt.locs, Pt.cells, Pt.slots] at X' e1 e2 h1 h2 h3 st hcl
    subst h1; subst h2; subst h3
    exact Or.inr ⟨q, (T.setVm vm₁).calling g' mk As.toArray, t, U', L, E, ce, hT, X', hL, e1, e2, hq, hce, hcv, vx_cls hW₁ hcl, st⟩
end
end VXH
theorem vx_ofWH {l : Launch} {y : MethodName} {ws ws' : List Cond} {rm : Room} {Pc : Array Value → State → Prop} {Qc : Array Value → State → Outcome → State → Prop} {XC : String → State → State → Prop} {mc ms : Nat} {free : Addr → Prop} {cc : ByteArray} {maxL : Nat} {ret : Option FieldType} {hh : List (Nat × Nat × Nat × Nat)}
    (hy : plainName y.cls = true) (hw : ws = Cond.codeWith y cc maxL ret hh :: ws')
    (body : ∀ p e s m args below meth c s₁, BodyLoose p l y (headSpec ws rm) cc maxL ret e s m args below meth c s₁ → c.maxLocals = maxL → Pc args s →
      W p l e (headSpec ws rm).room s m args below meth c s.heap [] 0 0 (vx_MQ below Qc XC args s mc ms free) (entryFrame m args maxL)) : vx_Met l y ws rm Pc Qc XC mc ms free := by
  refine MetFree.of_bodyS (code := cc) (maxLocals := maxL) (ret := ret) hy ?_ ?_
  · intro args s m h hn
    obtain ⟨m9, meth, c, hn9, h1, h2, h3, h4, -, h5, h6, -⟩ := Cond.codeWith_spec (atoms_spec (ws := ws) h _ (by rw [hw]; exact List.mem_cons_self))
    cases hn.symm.trans hn9
    exact ⟨meth, c, h1, h2, h3, h4, h5, h6⟩
  · intro p e s m args below meth c s₁ B hml hP _
    have hh0 : s₁.heap = s.heap := by rw [B.state]; rfl
    obtain ⟨t, a1, o, b1, b2, b3⟩ := body p e s m args below meth c s₁ B hml hP s₁ hh0 (Stand.of_body B)
    exact ⟨t, o, a1, b1, b2, b3⟩
/-! ===== END ===== -/

/-- the words of a throw of a class whose constructor calls its super by another pool entry -/
def vy_atS (own : String) (ic : Nat) (X : String) (names : List String) : List Cond := (Bundle.ownAtomsX own ic X 13 prog_13_method_4_code names).filter vx_no
end
section
/-! ===== BEGIN printed: names, fields, word lists, decode rows ===== -/
def RX0 : String := "ParcelChutes$Chute"
def TX0 : u_T := fun k => match k with
  | 0 => ("ParcelChutes$Chute", "weights", "[I", true)
  | 1 => ("ParcelChutes$Chute", "girths", "[I", true)
  | 2 => ("ParcelChutes$Chute", "count", "I", false)
  | 3 => ("ParcelChutes$Chute", "kind", "I", false)
  | 4 => ("ParcelChutes$Chute", "low", "I", false)
  | 5 => ("ParcelChutes$Chute", "high", "I", false)
  | 6 => ("ParcelChutes$Chute", "wide", "I", false)
  | _ => ("ParcelChutes$Chute", "closed", "Z", false)
def tyX0 : Nat → FieldType := fun k => match k with
  | 0 => .array .int
  | 1 => .array .int
  | 2 => .int
  | 3 => .int
  | 4 => .int
  | 5 => .int
  | 6 => .int
  | _ => .boolean
abbrev wsX00 : List Cond := u_ws RX0 TX0 8
theorem nmX0 : ∀ a, a < 8 → ∀ b, b < 8 → a ≠ b → (TX0 a).2.1 ≠ (TX0 b).2.1 := by decide +kernel
theorem tyX0_ok : ∀ k, k < 8 → parseFieldDescriptor (TX0 k).2.2.1 = some (tyX0 k) := by decide +kernel
abbrev cX0_init : ByteArray := prog_2_method_1_code
def yX0_init : MethodName := ⟨RX0, "<init>", "()V"⟩
abbrev cX0_suits : ByteArray := prog_2_method_2_code
def yX0_suits : MethodName := ⟨RX0, "suits", "(II)Z"⟩
abbrev cX0_admit : ByteArray := prog_2_method_3_code
def yX0_admit : MethodName := ⟨RX0, "admit", "(II)Z"⟩
abbrev cX0_placeFor : ByteArray := prog_2_method_4_code
def yX0_placeFor : MethodName := ⟨RX0, "placeFor", "(I)I"⟩
abbrev cX0_firstOf : ByteArray := prog_2_method_5_code
def yX0_firstOf : MethodName := ⟨RX0, "firstOf", "(I)I"⟩
abbrev cX0_removeAt : ByteArray := prog_2_method_6_code
def yX0_removeAt : MethodName := ⟨RX0, "removeAt", "(I)V"⟩
abbrev cX0_unknownIn : ByteArray := prog_2_method_7_code
def yX0_unknownIn : MethodName := ⟨RX0, "unknownIn", "([I)I"⟩
abbrev cX0_heaviestKnown : ByteArray := prog_2_method_8_code
def yX0_heaviestKnown : MethodName := ⟨RX0, "heaviestKnown", "()I"⟩
def RX1 : String := "ParcelChutes"
def TX1 : u_T := fun k => match k with
  | 0 => ("ParcelChutes", "chutes", "[LParcelChutes$Chute;", true)
  | 1 => ("ParcelChutes", "lightest", "I", false)
  | 2 => ("ParcelChutes", "heaviest", "I", false)
  | 3 => ("ParcelChutes", "widest", "I", false)
  | 4 => ("ParcelChutes", "streak", "I", false)
  | 5 => ("ParcelChutes", "came", "I", false)
  | 6 => ("ParcelChutes", "latestWeight", "I", false)
  | 7 => ("ParcelChutes", "asideCount", "I", false)
  | 8 => ("ParcelChutes", "asideWeight", "I", false)
  | _ => ("ParcelChutes", "asideGirth", "I", false)
def tyX1 : Nat → FieldType := fun k => match k with
  | 0 => .array (.object "ParcelChutes$Chute")
  | 1 => .int
  | 2 => .int
  | 3 => .int
  | 4 => .int
  | 5 => .int
  | 6 => .int
  | 7 => .int
  | 8 => .int
  | _ => .int
abbrev wsX10 : List Cond := u_ws RX1 TX1 10
theorem nmX1 : ∀ a, a < 10 → ∀ b, b < 10 → a ≠ b → (TX1 a).2.1 ≠ (TX1 b).2.1 := by decide +kernel
theorem tyX1_ok : ∀ k, k < 10 → parseFieldDescriptor (TX1 k).2.2.1 = some (tyX1 k) := by decide +kernel
abbrev cX1_init : ByteArray := prog_1_method_1_code
def yX1_init : MethodName := ⟨RX1, "<init>", "()V"⟩
abbrev cX1_sort : ByteArray := prog_1_method_2_code
def yX1_sort : MethodName := ⟨RX1, "sort", "(II)I"⟩
abbrev cX1_limits : ByteArray := prog_1_method_3_code
def yX1_limits : MethodName := ⟨RX1, "limits", "(IIII)I"⟩
abbrev cX1_shut : ByteArray := prog_1_method_4_code
def yX1_shut : MethodName := ⟨RX1, "shut", "(IZ)Z"⟩
abbrev cX1_send : ByteArray := prog_1_method_5_code
def yX1_send : MethodName := ⟨RX1, "send", "(II)I"⟩
abbrev cX1_fits : ByteArray := prog_1_method_6_code
def yX1_fits : MethodName := ⟨RX1, "fits", "(II)I"⟩
abbrev cX1_signs : ByteArray := prog_1_method_7_code
def yX1_signs : MethodName := ⟨RX1, "signs", "(III)I"⟩
abbrev cX1_chute : ByteArray := prog_1_method_8_code
def yX1_chute : MethodName := ⟨RX1, "chute", "(II)I"⟩
abbrev cX1_weight : ByteArray := prog_1_method_9_code
def yX1_weight : MethodName := ⟨RX1, "weight", "(II)I"⟩
abbrev cX1_girth : ByteArray := prog_1_method_10_code
def yX1_girth : MethodName := ⟨RX1, "girth", "(II)I"⟩
abbrev cX1_below : ByteArray := prog_1_method_11_code
def yX1_below : MethodName := ⟨RX1, "below", "(II)I"⟩
abbrev cX1_take : ByteArray := prog_1_method_12_code
def yX1_take : MethodName := ⟨RX1, "take", "(II)I"⟩
abbrev cX1_pour : ByteArray := prog_1_method_13_code
def yX1_pour : MethodName := ⟨RX1, "pour", "(II)I"⟩
abbrev cX1_sweep : ByteArray := prog_1_method_14_code
def yX1_sweep : MethodName := ⟨RX1, "sweep", "(I)I"⟩
abbrev cX1_heavier : ByteArray := prog_1_method_15_code
def yX1_heavier : MethodName := ⟨RX1, "heavier", "(II)I"⟩
abbrev cX1_alike : ByteArray := prog_1_method_16_code
def yX1_alike : MethodName := ⟨RX1, "alike", "(II)I"⟩
abbrev cX1_gauge : ByteArray := prog_1_method_17_code
def yX1_gauge : MethodName := ⟨RX1, "gauge", "(I)I"⟩
abbrev cX1_chuteAt : ByteArray := prog_1_method_18_code
def yX1_chuteAt : MethodName := ⟨RX1, "chuteAt", "(I)LParcelChutes$Chute;"⟩
abbrev cX1_readGauges : ByteArray := prog_1_method_19_code
def yX1_readGauges : MethodName := ⟨RX1, "readGauges", "(II)V"⟩
abbrev cX1_putAside : ByteArray := prog_1_method_20_code
def yX1_putAside : MethodName := ⟨RX1, "putAside", "(II)V"⟩
abbrev cX1_requireWeight : ByteArray := prog_1_method_21_code
def yX1_requireWeight : MethodName := ⟨RX1, "requireWeight", "(I)V"⟩
abbrev cX1_requireGirth : ByteArray := prog_1_method_22_code
def yX1_requireGirth : MethodName := ⟨RX1, "requireGirth", "(I)V"⟩
abbrev cX1_requirePlace : ByteArray := prog_1_method_23_code
def yX1_requirePlace : MethodName := ⟨RX1, "requirePlace", "(LParcelChutes$Chute;I)V"⟩
abbrev cX1_oneIf : ByteArray := prog_1_method_24_code
def yX1_oneIf : MethodName := ⟨RX1, "oneIf", "(Z)I"⟩
abbrev cX1_signsBetween : ByteArray := prog_1_method_25_code
def yX1_signsBetween : MethodName := ⟨RX1, "signsBetween", "(II)I"⟩
abbrev cX1_holds : ByteArray := prog_1_method_26_code
def yX1_holds : MethodName := ⟨RX1, "holds", "(III)Z"⟩
def RX2 : String := "ParcelChutesModel"
def TX2 : u_T := fun k => match k with
  | 0 => ("ParcelChutesModel", "thrown", "I", false)
  | 1 => ("ParcelChutesModel", "home", "[I", true)
  | 2 => ("ParcelChutesModel", "heavy", "[I", true)
  | 3 => ("ParcelChutesModel", "round", "[I", true)
  | 4 => ("ParcelChutesModel", "came", "[I", true)
  | 5 => ("ParcelChutesModel", "clock", "I", false)
  | 6 => ("ParcelChutesModel", "kind", "[I", true)
  | 7 => ("ParcelChutesModel", "low", "[I", true)
  | 8 => ("ParcelChutesModel", "high", "[I", true)
  | 9 => ("ParcelChutesModel", "wide", "[I", true)
  | 10 => ("ParcelChutesModel", "closed", "[Z", true)
  | 11 => ("ParcelChutesModel", "lightest", "I", false)
  | 12 => ("ParcelChutesModel", "heaviest", "I", false)
  | 13 => ("ParcelChutesModel", "widest", "I", false)
  | 14 => ("ParcelChutesModel", "streak", "I", false)
  | 15 => ("ParcelChutesModel", "before", "I", false)
  | 16 => ("ParcelChutesModel", "sent", "I", false)
  | 17 => ("ParcelChutesModel", "lost", "I", false)
  | 18 => ("ParcelChutesModel", "lostWeight", "I", false)
  | _ => ("ParcelChutesModel", "lostGirth", "I", false)
def tyX2 : Nat → FieldType := fun k => match k with
  | 0 => .int
  | 1 => .array .int
  | 2 => .array .int
  | 3 => .array .int
  | 4 => .array .int
  | 5 => .int
  | 6 => .array .int
  | 7 => .array .int
  | 8 => .array .int
  | 9 => .array .int
  | 10 => .array .boolean
  | 11 => .int
  | 12 => .int
  | 13 => .int
  | 14 => .int
  | 15 => .int
  | 16 => .int
  | 17 => .int
  | 18 => .int
  | _ => .int
abbrev wsX20 : List Cond := u_ws RX2 TX2 20
theorem nmX2 : ∀ a, a < 20 → ∀ b, b < 20 → a ≠ b → (TX2 a).2.1 ≠ (TX2 b).2.1 := by decide +kernel
theorem tyX2_ok : ∀ k, k < 20 → parseFieldDescriptor (TX2 k).2.2.1 = some (tyX2 k) := by decide +kernel
abbrev cX2_init : ByteArray := prog_4_method_1_code
def yX2_init : MethodName := ⟨RX2, "<init>", "()V"⟩
abbrev cX2_thrown : ByteArray := prog_4_method_2_code
def yX2_thrown : MethodName := ⟨RX2, "thrown", "()I"⟩
abbrev cX2_isWithin : ByteArray := prog_4_method_3_code
def yX2_isWithin : MethodName := ⟨RX2, "isWithin", "(II)Z"⟩
abbrev cX2_isChute : ByteArray := prog_4_method_4_code
def yX2_isChute : MethodName := ⟨RX2, "isChute", "(I)Z"⟩
abbrev cX2_isParcel : ByteArray := prog_4_method_5_code
def yX2_isParcel : MethodName := ⟨RX2, "isParcel", "(II)Z"⟩
abbrev cX2_signsOf : ByteArray := prog_4_method_6_code
def yX2_signsOf : MethodName := ⟨RX2, "signsOf", "(II)I"⟩
abbrev cX2_holds : ByteArray := prog_4_method_7_code
def yX2_holds : MethodName := ⟨RX2, "holds", "(III)Z"⟩
abbrev cX2_fitsChute : ByteArray := prog_4_method_8_code
def yX2_fitsChute : MethodName := ⟨RX2, "fitsChute", "(III)Z"⟩
abbrev cX2_many : ByteArray := prog_4_method_9_code
def yX2_many : MethodName := ⟨RX2, "many", "(I)I"⟩
abbrev cX2_isAhead : ByteArray := prog_4_method_10_code
def yX2_isAhead : MethodName := ⟨RX2, "isAhead", "(II)Z"⟩
abbrev cX2_placeOf : ByteArray := prog_4_method_11_code
def yX2_placeOf : MethodName := ⟨RX2, "placeOf", "(I)I"⟩
abbrev cX2_parcelAt : ByteArray := prog_4_method_12_code
def yX2_parcelAt : MethodName := ⟨RX2, "parcelAt", "(II)I"⟩
abbrev cX2_putIn : ByteArray := prog_4_method_13_code
def yX2_putIn : MethodName := ⟨RX2, "putIn", "(III)V"⟩
abbrev cX2_putAside : ByteArray := prog_4_method_14_code
def yX2_putAside : MethodName := ⟨RX2, "putAside", "(II)V"⟩
abbrev cX2_sort : ByteArray := prog_4_method_15_code
def yX2_sort : MethodName := ⟨RX2, "sort", "(II)I"⟩
abbrev cX2_limits : ByteArray := prog_4_method_16_code
def yX2_limits : MethodName := ⟨RX2, "limits", "(IIII)I"⟩
abbrev cX2_shut : ByteArray := prog_4_method_17_code
def yX2_shut : MethodName := ⟨RX2, "shut", "(IZ)Z"⟩
abbrev cX2_gaugeAll : ByteArray := prog_4_method_18_code
def yX2_gaugeAll : MethodName := ⟨RX2, "gaugeAll", "(II)V"⟩
abbrev cX2_send : ByteArray := prog_4_method_19_code
def yX2_send : MethodName := ⟨RX2, "send", "(II)I"⟩
abbrev cX2_fits : ByteArray := prog_4_method_20_code
def yX2_fits : MethodName := ⟨RX2, "fits", "(II)I"⟩
abbrev cX2_signs : ByteArray := prog_4_method_21_code
def yX2_signs : MethodName := ⟨RX2, "signs", "(III)I"⟩
abbrev cX2_unknownIn : ByteArray := prog_4_method_22_code
def yX2_unknownIn : MethodName := ⟨RX2, "unknownIn", "(IZ)I"⟩
abbrev cX2_chute : ByteArray := prog_4_method_23_code
def yX2_chute : MethodName := ⟨RX2, "chute", "(II)I"⟩
abbrev cX2_askedFor : ByteArray := prog_4_method_24_code
def yX2_askedFor : MethodName := ⟨RX2, "askedFor", "(II)I"⟩
abbrev cX2_weight : ByteArray := prog_4_method_25_code
def yX2_weight : MethodName := ⟨RX2, "weight", "(II)I"⟩
abbrev cX2_girth : ByteArray := prog_4_method_26_code
def yX2_girth : MethodName := ⟨RX2, "girth", "(II)I"⟩
abbrev cX2_below : ByteArray := prog_4_method_27_code
def yX2_below : MethodName := ⟨RX2, "below", "(II)I"⟩
abbrev cX2_take : ByteArray := prog_4_method_28_code
def yX2_take : MethodName := ⟨RX2, "take", "(II)I"⟩
abbrev cX2_pour : ByteArray := prog_4_method_29_code
def yX2_pour : MethodName := ⟨RX2, "pour", "(II)I"⟩
abbrev cX2_sweep : ByteArray := prog_4_method_30_code
def yX2_sweep : MethodName := ⟨RX2, "sweep", "(I)I"⟩
abbrev cX2_heaviestIn : ByteArray := prog_4_method_31_code
def yX2_heaviestIn : MethodName := ⟨RX2, "heaviestIn", "(I)I"⟩
abbrev cX2_heavier : ByteArray := prog_4_method_32_code
def yX2_heavier : MethodName := ⟨RX2, "heavier", "(II)I"⟩
abbrev cX2_alike : ByteArray := prog_4_method_33_code
def yX2_alike : MethodName := ⟨RX2, "alike", "(II)I"⟩
abbrev cX2_gauge : ByteArray := prog_4_method_34_code
def yX2_gauge : MethodName := ⟨RX2, "gauge", "(I)I"⟩
def RJ9 : String := "java/lang/Math"
def TJ9 : u_T := fun k => match k with
  | _ => ("", "", "", false)
def tyJ9 : Nat → FieldType := fun k => match k with
  | _ => .int
abbrev wsJ90 : List Cond := u_ws RJ9 TJ9 0
theorem nmJ9 : ∀ a, a < 0 → ∀ b, b < 0 → a ≠ b → (TJ9 a).2.1 ≠ (TJ9 b).2.1 := by decide +kernel
theorem tyJ9_ok : ∀ k, k < 0 → parseFieldDescriptor (TJ9 k).2.2.1 = some (tyJ9 k) := by decide +kernel
abbrev cJ9_min_7cf53 : ByteArray := prog_9_method_69_code
def yJ9_min_7cf53 : MethodName := ⟨RJ9, "min", "(II)I"⟩
def RJ0 : String := "java/lang/String"
def TJ0 : u_T := fun k => match k with
  | _ => ("", "", "", false)
def tyJ0 : Nat → FieldType := fun k => match k with
  | _ => .int
abbrev wsJ00 : List Cond := u_ws RJ0 TJ0 0
theorem nmJ0 : ∀ a, a < 0 → ∀ b, b < 0 → a ≠ b → (TJ0 a).2.1 ≠ (TJ0 b).2.1 := by decide +kernel
theorem tyJ0_ok : ∀ k, k < 0 → parseFieldDescriptor (TJ0 k).2.2.1 = some (tyJ0 k) := by decide +kernel
def RL : String := "ParcelChutesLaw"
abbrev cL_sort : ByteArray := method_3_code
def yL_sort : MethodName := ⟨RL, "sort", "(LParcelChutes;II[J)I"⟩
abbrev cL_limits : ByteArray := method_4_code
def yL_limits : MethodName := ⟨RL, "limits", "(LParcelChutes;IIII[J)I"⟩
abbrev cL_shut : ByteArray := method_5_code
def yL_shut : MethodName := ⟨RL, "shut", "(LParcelChutes;IZ[J)I"⟩
abbrev cL_send : ByteArray := method_6_code
def yL_send : MethodName := ⟨RL, "send", "(LParcelChutes;II[J)I"⟩
abbrev cL_fits : ByteArray := method_7_code
def yL_fits : MethodName := ⟨RL, "fits", "(LParcelChutes;II[J)I"⟩
abbrev cL_signs : ByteArray := method_8_code
def yL_signs : MethodName := ⟨RL, "signs", "(LParcelChutes;III[J)I"⟩
abbrev cL_chute : ByteArray := method_9_code
def yL_chute : MethodName := ⟨RL, "chute", "(LParcelChutes;II[J)I"⟩
abbrev cL_weight : ByteArray := method_10_code
def yL_weight : MethodName := ⟨RL, "weight", "(LParcelChutes;II[J)I"⟩
abbrev cL_girth : ByteArray := method_11_code
def yL_girth : MethodName := ⟨RL, "girth", "(LParcelChutes;II[J)I"⟩
abbrev cL_below : ByteArray := method_12_code
def yL_below : MethodName := ⟨RL, "below", "(LParcelChutes;II[J)I"⟩
abbrev cL_take : ByteArray := method_13_code
def yL_take : MethodName := ⟨RL, "take", "(LParcelChutes;II[J)I"⟩
abbrev cL_pour : ByteArray := method_14_code
def yL_pour : MethodName := ⟨RL, "pour", "(LParcelChutes;II[J)I"⟩
abbrev cL_sweep : ByteArray := method_15_code
def yL_sweep : MethodName := ⟨RL, "sweep", "(LParcelChutes;I[J)I"⟩
abbrev cL_heavier : ByteArray := method_16_code
def yL_heavier : MethodName := ⟨RL, "heavier", "(LParcelChutes;II[J)I"⟩
abbrev cL_alike : ByteArray := method_17_code
def yL_alike : MethodName := ⟨RL, "alike", "(LParcelChutes;II[J)I"⟩
abbrev cL_gauge : ByteArray := method_18_code
def yL_gauge : MethodName := ⟨RL, "gauge", "(LParcelChutes;I[J)I"⟩
abbrev cL_law : ByteArray := code
def yL_law : MethodName := ⟨RL, "law", "([I)Z"⟩
def wsX0_init : List Cond := .code yX0_init cX0_init 1 none :: ([.methodLink RX0 3 objectInit, .instanceMethod objectInit, .code objectInit ⟨#[0xb1]⟩ 1 none, .arrayClass .int, .fieldLink RX0 9 "ParcelChutes$Chute" "weights" "[I", .fieldLink RX0 15 "ParcelChutes$Chute" "girths" "[I"] ++ wsX00)
def wsX1_signsBetween : List Cond := .code yX1_signsBetween cX1_signsBetween 2 (some .int) :: ([])
def wsX1_holds : List Cond := .code yX1_holds cX1_holds 3 (some .boolean) :: ([.methodLink RX1 83 yX1_signsBetween, .static yX1_signsBetween, .initialized RX1, .code yX1_signsBetween cX1_signsBetween 2 (some .int)])
def wsX0_suits : List Cond := .code yX0_suits cX0_suits 3 (some .boolean) :: ([.fieldLink RX0 18 "ParcelChutes$Chute" "kind" "I", .fieldLink RX0 22 "ParcelChutes$Chute" "low" "I", .fieldLink RX0 29 "ParcelChutes$Chute" "high" "I", .fieldLink RX0 32 "ParcelChutes$Chute" "wide" "I", .static yX1_holds, .initialized RX1, .code yX1_holds cX1_holds 3 (some .boolean), .methodLink RX1 83 yX1_signsBetween, .static yX1_signsBetween, .code yX1_signsBetween cX1_signsBetween 2 (some .int)] ++ wsX00)
def wsX0_placeFor : List Cond := .code yX0_placeFor cX0_placeFor 3 (some .int) :: ([.fieldLink RX0 35 "ParcelChutes$Chute" "count" "I", .fieldLink RX0 9 "ParcelChutes$Chute" "weights" "[I", .static yX1_holds, .initialized RX1, .code yX1_holds cX1_holds 3 (some .boolean), .methodLink RX1 83 yX1_signsBetween, .static yX1_signsBetween, .code yX1_signsBetween cX1_signsBetween 2 (some .int)] ++ wsX00)
def wsX0_admit : List Cond := .code yX0_admit cX0_admit 5 (some .boolean) :: ([.fieldLink RX0 35 "ParcelChutes$Chute" "count" "I", .fieldLink RX0 9 "ParcelChutes$Chute" "weights" "[I", .fieldLink RX0 15 "ParcelChutes$Chute" "girths" "[I", .methodLink RX0 38 yX0_suits, .instanceMethod yX0_suits, .selects RX0 yX0_suits yX0_suits, .initialized RX0, .code yX0_suits cX0_suits 3 (some .boolean), .fieldLink RX0 18 "ParcelChutes$Chute" "kind" "I", .fieldLink RX0 22 "ParcelChutes$Chute" "low" "I", .fieldLink RX0 29 "ParcelChutes$Chute" "high" "I", .fieldLink RX0 32 "ParcelChutes$Chute" "wide" "I", .static yX1_holds, .initialized RX1, .code yX1_holds cX1_holds 3 (some .boolean), .methodLink RX1 83 yX1_signsBetween, .static yX1_signsBetween, .code yX1_signsBetween cX1_signsBetween 2 (some .int), .methodLink RX0 42 yX0_placeFor, .instanceMethod yX0_placeFor, .selects RX0 yX0_placeFor yX0_placeFor, .code yX0_placeFor cX0_placeFor 3 (some .int)] ++ wsX00)
def wsX0_firstOf : List Cond := .code yX0_firstOf cX0_firstOf 3 (some .int) :: ([.fieldLink RX0 35 "ParcelChutes$Chute" "count" "I", .fieldLink RX0 9 "ParcelChutes$Chute" "weights" "[I"] ++ wsX00)
def wsX0_removeAt : List Cond := .code yX0_removeAt cX0_removeAt 3 none :: ([.fieldLink RX0 35 "ParcelChutes$Chute" "count" "I", .fieldLink RX0 9 "ParcelChutes$Chute" "weights" "[I", .fieldLink RX0 15 "ParcelChutes$Chute" "girths" "[I"] ++ wsX00)
def wsX1_oneIf : List Cond := .code yX1_oneIf cX1_oneIf 1 (some .int) :: ([])
def wsX0_unknownIn : List Cond := .code yX0_unknownIn cX0_unknownIn 4 (some .int) :: ([.fieldLink RX0 35 "ParcelChutes$Chute" "count" "I", .static yX1_oneIf, .initialized RX1, .code yX1_oneIf cX1_oneIf 1 (some .int)] ++ wsX00)
def wsX0_heaviestKnown : List Cond := .code yX0_heaviestKnown cX0_heaviestKnown 2 (some .int) :: ([.fieldLink RX0 35 "ParcelChutes$Chute" "count" "I", .fieldLink RX0 9 "ParcelChutes$Chute" "weights" "[I", .methodLink RX0 50 yX0_unknownIn, .instanceMethod yX0_unknownIn, .selects RX0 yX0_unknownIn yX0_unknownIn, .initialized RX0, .code yX0_unknownIn cX0_unknownIn 4 (some .int), .static yX1_oneIf, .initialized RX1, .code yX1_oneIf cX1_oneIf 1 (some .int)] ++ wsX00)
def wsX1_init : List Cond := .code yX1_init cX1_init 2 none :: ([.methodLink RX1 1 objectInit, .instanceMethod objectInit, .code objectInit ⟨#[0xb1]⟩ 1 none, .classLink RX1 9 RX0, .fieldLink RX1 11 "ParcelChutes" "chutes" "[LParcelChutes$Chute;", .instantiable RX0 8, .initialized RX0, .instanceMethod yX0_init, .code yX0_init cX0_init 1 none, .methodLink RX0 3 objectInit, .arrayClass .int, .fieldLink RX0 9 "ParcelChutes$Chute" "weights" "[I", .fieldLink RX0 15 "ParcelChutes$Chute" "girths" "[I"] ++ wsX10 ++ wsX00)
def wsX1_chuteAt : List Cond := .code yX1_chuteAt cX1_chuteAt 2 (some (.object "ParcelChutes$Chute")) :: ([.classLink RX1 146 "java/lang/IndexOutOfBoundsException", .initialized "java/lang/IndexOutOfBoundsException", .fieldLink RX1 11 "ParcelChutes" "chutes" "[LParcelChutes$Chute;"] ++ wsX10 ++ (vx_atS RX1 150 "java/lang/IndexOutOfBoundsException" ["java/lang/RuntimeException", "java/lang/Exception"]).filter goodWord)
def wsX1_sort : List Cond := .code yX1_sort cX1_sort 5 (some .int) :: ([.classLink RX1 20 "java/lang/IllegalArgumentException", .initialized "java/lang/IllegalArgumentException", .classLink RX1 31 "java/lang/IllegalStateException", .initialized "java/lang/IllegalStateException", .fieldLink RX1 27 "ParcelChutes$Chute" "count" "I", .fieldLink RX1 36 "ParcelChutes$Chute" "kind" "I", .methodLink RX1 16 yX1_chuteAt, .instanceMethod yX1_chuteAt, .selects RX1 yX1_chuteAt yX1_chuteAt, .initialized RX1, .code yX1_chuteAt cX1_chuteAt 2 (some (.object "ParcelChutes$Chute")), .classLink RX1 146 "java/lang/IndexOutOfBoundsException", .initialized "java/lang/IndexOutOfBoundsException", .fieldLink RX1 11 "ParcelChutes" "chutes" "[LParcelChutes$Chute;"] ++ wsX00 ++ wsX10 ++ (vx_atS RX1 24 "java/lang/IllegalArgumentException" ["java/lang/RuntimeException", "java/lang/Exception"]).filter goodWord ++ (vx_atS RX1 35 "java/lang/IllegalStateException" ["java/lang/RuntimeException", "java/lang/Exception"]).filter goodWord ++ (vx_atS RX1 150 "java/lang/IndexOutOfBoundsException" ["java/lang/RuntimeException", "java/lang/Exception"]).filter goodWord)
def wsX1_requireWeight : List Cond := .code yX1_requireWeight cX1_requireWeight 1 none :: ([.classLink RX1 20 "java/lang/IllegalArgumentException", .initialized "java/lang/IllegalArgumentException", .constant RX1 154 (800000)] ++ (vx_atS RX1 24 "java/lang/IllegalArgumentException" ["java/lang/RuntimeException", "java/lang/Exception"]).filter goodWord)
def wsX1_requireGirth : List Cond := .code yX1_requireGirth cX1_requireGirth 1 none :: ([.classLink RX1 20 "java/lang/IllegalArgumentException", .initialized "java/lang/IllegalArgumentException"] ++ (vx_atS RX1 24 "java/lang/IllegalArgumentException" ["java/lang/RuntimeException", "java/lang/Exception"]).filter goodWord)
def wsX1_limits_r1 : List Cond := [Cond.classLink RX1 31 "java/lang/IllegalStateException", Cond.initialized "java/lang/IllegalStateException", Cond.fieldLink RX1 52 "ParcelChutes$Chute" "low" "I", Cond.fieldLink RX1 55 "ParcelChutes$Chute" "high" "I", Cond.fieldLink RX1 58 "ParcelChutes$Chute" "wide" "I", Cond.methodLink RX1 16 yX1_chuteAt, Cond.instanceMethod yX1_chuteAt, Cond.selects RX1 yX1_chuteAt yX1_chuteAt, Cond.initialized RX1, Cond.code yX1_chuteAt cX1_chuteAt 2 (some (.object "ParcelChutes$Chute")), Cond.classLink RX1 146 "java/lang/IndexOutOfBoundsException", Cond.initialized "java/lang/IndexOutOfBoundsException", Cond.fieldLink RX1 11 "ParcelChutes" "chutes" "[LParcelChutes$Chute;", Cond.methodLink RX1 39 yX1_requireWeight, Cond.static yX1_requireWeight, Cond.code yX1_requireWeight cX1_requireWeight 1 none, Cond.classLink RX1 20 "java/lang/IllegalArgumentException", Cond.initialized "java/lang/IllegalArgumentException", Cond.constant RX1 154 (800000), Cond.methodLink RX1 43 yX1_requireGirth, Cond.static yX1_requireGirth, Cond.code yX1_requireGirth cX1_requireGirth 1 none, Cond.methodLink RX1 46 yX1_holds, Cond.static yX1_holds]
def wsX1_limits_r2 : List Cond := [Cond.code yX1_holds cX1_holds 3 (some .boolean), Cond.methodLink RX1 83 yX1_signsBetween, Cond.static yX1_signsBetween, Cond.code yX1_signsBetween cX1_signsBetween 2 (some .int), Cond.methodLink RX1 61 yX1_oneIf, Cond.static yX1_oneIf, Cond.code yX1_oneIf cX1_oneIf 1 (some .int)]
def wsX1_limits : List Cond := .code yX1_limits cX1_limits 6 (some .int) :: ((wsX1_limits_r1 ++ wsX1_limits_r2) ++ wsX00 ++ wsX10 ++ (vx_atS RX1 35 "java/lang/IllegalStateException" ["java/lang/RuntimeException", "java/lang/Exception"]).filter goodWord ++ (vx_atS RX1 150 "java/lang/IndexOutOfBoundsException" ["java/lang/RuntimeException", "java/lang/Exception"]).filter goodWord ++ (vx_atS RX1 24 "java/lang/IllegalArgumentException" ["java/lang/RuntimeException", "java/lang/Exception"]).filter goodWord)
def wsX1_shut : List Cond := .code yX1_shut cX1_shut 5 (some .boolean) :: ([.fieldLink RX1 65 "ParcelChutes$Chute" "closed" "Z", .methodLink RX1 16 yX1_chuteAt, .instanceMethod yX1_chuteAt, .selects RX1 yX1_chuteAt yX1_chuteAt, .initialized RX1, .code yX1_chuteAt cX1_chuteAt 2 (some (.object "ParcelChutes$Chute")), .classLink RX1 146 "java/lang/IndexOutOfBoundsException", .initialized "java/lang/IndexOutOfBoundsException", .fieldLink RX1 11 "ParcelChutes" "chutes" "[LParcelChutes$Chute;"] ++ wsX00 ++ wsX10 ++ (vx_atS RX1 150 "java/lang/IndexOutOfBoundsException" ["java/lang/RuntimeException", "java/lang/Exception"]).filter goodWord)
def wsX1_readGauges : List Cond := .code yX1_readGauges cX1_readGauges 3 none :: ([.fieldLink RX1 122 "ParcelChutes" "lightest" "I", .fieldLink RX1 125 "ParcelChutes" "heaviest" "I", .fieldLink RX1 128 "ParcelChutes" "widest" "I", .fieldLink RX1 151 "ParcelChutes" "latestWeight" "I", .fieldLink RX1 131 "ParcelChutes" "streak" "I", .fieldLink RX1 134 "ParcelChutes" "came" "I", .methodLink RX1 46 yX1_holds, .static yX1_holds, .initialized RX1, .code yX1_holds cX1_holds 3 (some .boolean), .methodLink RX1 83 yX1_signsBetween, .static yX1_signsBetween, .code yX1_signsBetween cX1_signsBetween 2 (some .int)] ++ wsX10)
def wsX1_putAside : List Cond := .code yX1_putAside cX1_putAside 3 none :: ([.fieldLink RX1 137 "ParcelChutes" "asideCount" "I", .fieldLink RX1 140 "ParcelChutes" "asideWeight" "I", .fieldLink RX1 143 "ParcelChutes" "asideGirth" "I"] ++ wsX10)
def wsX1_send_r1 : List Cond := [Cond.fieldLink RX1 11 "ParcelChutes" "chutes" "[LParcelChutes$Chute;", Cond.fieldLink RX1 65 "ParcelChutes$Chute" "closed" "Z", Cond.methodLink RX1 39 yX1_requireWeight, Cond.static yX1_requireWeight, Cond.initialized RX1, Cond.code yX1_requireWeight cX1_requireWeight 1 none, Cond.classLink RX1 20 "java/lang/IllegalArgumentException", Cond.initialized "java/lang/IllegalArgumentException", Cond.constant RX1 154 (800000), Cond.methodLink RX1 43 yX1_requireGirth, Cond.static yX1_requireGirth, Cond.code yX1_requireGirth cX1_requireGirth 1 none, Cond.methodLink RX1 69 yX1_readGauges, Cond.instanceMethod yX1_readGauges, Cond.selects RX1 yX1_readGauges yX1_readGauges, Cond.code yX1_readGauges cX1_readGauges 3 none, Cond.fieldLink RX1 122 "ParcelChutes" "lightest" "I", Cond.fieldLink RX1 125 "ParcelChutes" "heaviest" "I", Cond.fieldLink RX1 128 "ParcelChutes" "widest" "I", Cond.fieldLink RX1 151 "ParcelChutes" "latestWeight" "I", Cond.fieldLink RX1 131 "ParcelChutes" "streak" "I", Cond.fieldLink RX1 134 "ParcelChutes" "came" "I", Cond.methodLink RX1 46 yX1_holds, Cond.static yX1_holds]
def wsX1_send_r2 : List Cond := [Cond.code yX1_holds cX1_holds 3 (some .boolean), Cond.methodLink RX1 83 yX1_signsBetween, Cond.static yX1_signsBetween, Cond.code yX1_signsBetween cX1_signsBetween 2 (some .int), Cond.methodLink RX1 73 yX0_admit, Cond.instanceMethod yX0_admit, Cond.selects RX0 yX0_admit yX0_admit, Cond.initialized RX0, Cond.code yX0_admit cX0_admit 5 (some .boolean), Cond.fieldLink RX0 35 "ParcelChutes$Chute" "count" "I", Cond.fieldLink RX0 9 "ParcelChutes$Chute" "weights" "[I", Cond.fieldLink RX0 15 "ParcelChutes$Chute" "girths" "[I", Cond.methodLink RX0 38 yX0_suits, Cond.instanceMethod yX0_suits, Cond.selects RX0 yX0_suits yX0_suits, Cond.code yX0_suits cX0_suits 3 (some .boolean), Cond.fieldLink RX0 18 "ParcelChutes$Chute" "kind" "I", Cond.fieldLink RX0 22 "ParcelChutes$Chute" "low" "I", Cond.fieldLink RX0 29 "ParcelChutes$Chute" "high" "I", Cond.fieldLink RX0 32 "ParcelChutes$Chute" "wide" "I", Cond.methodLink RX0 42 yX0_placeFor, Cond.instanceMethod yX0_placeFor, Cond.selects RX0 yX0_placeFor yX0_placeFor, Cond.code yX0_placeFor cX0_placeFor 3 (some .int)]
def wsX1_send_r3 : List Cond := [Cond.methodLink RX1 77 yX1_putAside, Cond.instanceMethod yX1_putAside, Cond.selects RX1 yX1_putAside yX1_putAside, Cond.code yX1_putAside cX1_putAside 3 none, Cond.fieldLink RX1 137 "ParcelChutes" "asideCount" "I", Cond.fieldLink RX1 140 "ParcelChutes" "asideWeight" "I", Cond.fieldLink RX1 143 "ParcelChutes" "asideGirth" "I"]
def wsX1_send : List Cond := .code yX1_send cX1_send 4 (some .int) :: ((wsX1_send_r1 ++ (wsX1_send_r2 ++ wsX1_send_r3)) ++ wsX10 ++ wsX00 ++ (vx_atS RX1 24 "java/lang/IllegalArgumentException" ["java/lang/RuntimeException", "java/lang/Exception"]).filter goodWord)
def wsX1_fits_r1 : List Cond := [Cond.fieldLink RX1 11 "ParcelChutes" "chutes" "[LParcelChutes$Chute;", Cond.methodLink RX1 39 yX1_requireWeight, Cond.static yX1_requireWeight, Cond.initialized RX1, Cond.code yX1_requireWeight cX1_requireWeight 1 none, Cond.classLink RX1 20 "java/lang/IllegalArgumentException", Cond.initialized "java/lang/IllegalArgumentException", Cond.constant RX1 154 (800000), Cond.methodLink RX1 43 yX1_requireGirth, Cond.static yX1_requireGirth, Cond.code yX1_requireGirth cX1_requireGirth 1 none, Cond.methodLink RX1 80 yX0_suits, Cond.instanceMethod yX0_suits, Cond.selects RX0 yX0_suits yX0_suits, Cond.initialized RX0, Cond.code yX0_suits cX0_suits 3 (some .boolean), Cond.fieldLink RX0 18 "ParcelChutes$Chute" "kind" "I", Cond.fieldLink RX0 22 "ParcelChutes$Chute" "low" "I", Cond.fieldLink RX0 29 "ParcelChutes$Chute" "high" "I", Cond.fieldLink RX0 32 "ParcelChutes$Chute" "wide" "I", Cond.static yX1_holds, Cond.code yX1_holds cX1_holds 3 (some .boolean), Cond.methodLink RX1 83 yX1_signsBetween, Cond.static yX1_signsBetween]
def wsX1_fits_r2 : List Cond := [Cond.code yX1_signsBetween cX1_signsBetween 2 (some .int)]
def wsX1_fits : List Cond := .code yX1_fits cX1_fits 5 (some .int) :: ((wsX1_fits_r1 ++ wsX1_fits_r2) ++ wsX10 ++ wsX00 ++ (vx_atS RX1 24 "java/lang/IllegalArgumentException" ["java/lang/RuntimeException", "java/lang/Exception"]).filter goodWord)
def wsX1_signs : List Cond := .code yX1_signs cX1_signs 5 (some .int) :: ([.classLink RX1 20 "java/lang/IllegalArgumentException", .initialized "java/lang/IllegalArgumentException", .fieldLink RX1 52 "ParcelChutes$Chute" "low" "I", .fieldLink RX1 55 "ParcelChutes$Chute" "high" "I", .fieldLink RX1 58 "ParcelChutes$Chute" "wide" "I", .methodLink RX1 16 yX1_chuteAt, .instanceMethod yX1_chuteAt, .selects RX1 yX1_chuteAt yX1_chuteAt, .initialized RX1, .code yX1_chuteAt cX1_chuteAt 2 (some (.object "ParcelChutes$Chute")), .classLink RX1 146 "java/lang/IndexOutOfBoundsException", .initialized "java/lang/IndexOutOfBoundsException", .fieldLink RX1 11 "ParcelChutes" "chutes" "[LParcelChutes$Chute;", .methodLink RX1 39 yX1_requireWeight, .static yX1_requireWeight, .code yX1_requireWeight cX1_requireWeight 1 none, .constant RX1 154 (800000), .methodLink RX1 83 yX1_signsBetween, .static yX1_signsBetween, .code yX1_signsBetween cX1_signsBetween 2 (some .int), .methodLink RX1 43 yX1_requireGirth, .static yX1_requireGirth, .code yX1_requireGirth cX1_requireGirth 1 none] ++ wsX00 ++ wsX10 ++ (vx_atS RX1 24 "java/lang/IllegalArgumentException" ["java/lang/RuntimeException", "java/lang/Exception"]).filter goodWord ++ (vx_atS RX1 150 "java/lang/IndexOutOfBoundsException" ["java/lang/RuntimeException", "java/lang/Exception"]).filter goodWord)
def wsX1_chute_r1 : List Cond := [Cond.classLink RX1 20 "java/lang/IllegalArgumentException", Cond.initialized "java/lang/IllegalArgumentException", Cond.fieldLink RX1 36 "ParcelChutes$Chute" "kind" "I", Cond.fieldLink RX1 52 "ParcelChutes$Chute" "low" "I", Cond.fieldLink RX1 55 "ParcelChutes$Chute" "high" "I", Cond.fieldLink RX1 58 "ParcelChutes$Chute" "wide" "I", Cond.fieldLink RX1 65 "ParcelChutes$Chute" "closed" "Z", Cond.fieldLink RX1 27 "ParcelChutes$Chute" "count" "I", Cond.fieldLink RX1 89 "ParcelChutes$Chute" "weights" "[I", Cond.fieldLink RX1 97 "ParcelChutes$Chute" "girths" "[I", Cond.methodLink RX1 16 yX1_chuteAt, Cond.instanceMethod yX1_chuteAt, Cond.selects RX1 yX1_chuteAt yX1_chuteAt, Cond.initialized RX1, Cond.code yX1_chuteAt cX1_chuteAt 2 (some (.object "ParcelChutes$Chute")), Cond.classLink RX1 146 "java/lang/IndexOutOfBoundsException", Cond.initialized "java/lang/IndexOutOfBoundsException", Cond.fieldLink RX1 11 "ParcelChutes" "chutes" "[LParcelChutes$Chute;", Cond.methodLink RX1 61 yX1_oneIf, Cond.static yX1_oneIf, Cond.code yX1_oneIf cX1_oneIf 1 (some .int), Cond.methodLink RX1 93 yX0_unknownIn, Cond.instanceMethod yX0_unknownIn, Cond.selects RX0 yX0_unknownIn yX0_unknownIn]
def wsX1_chute_r2 : List Cond := [Cond.initialized RX0, Cond.code yX0_unknownIn cX0_unknownIn 4 (some .int), Cond.fieldLink RX0 35 "ParcelChutes$Chute" "count" "I"]
def wsX1_chute : List Cond := .code yX1_chute cX1_chute 4 (some .int) :: ((wsX1_chute_r1 ++ wsX1_chute_r2) ++ wsX00 ++ wsX10 ++ (vx_atS RX1 24 "java/lang/IllegalArgumentException" ["java/lang/RuntimeException", "java/lang/Exception"]).filter goodWord ++ (vx_atS RX1 150 "java/lang/IndexOutOfBoundsException" ["java/lang/RuntimeException", "java/lang/Exception"]).filter goodWord)
def wsX1_requirePlace : List Cond := .code yX1_requirePlace cX1_requirePlace 2 none :: ([.classLink RX1 159 "java/util/NoSuchElementException", .initialized "java/util/NoSuchElementException", .fieldLink RX1 27 "ParcelChutes$Chute" "count" "I"] ++ wsX00 ++ (vy_atS RX1 163 "java/util/NoSuchElementException" ["java/lang/RuntimeException", "java/lang/Exception"]).filter goodWord)
def wsX1_weight : List Cond := .code yX1_weight cX1_weight 4 (some .int) :: ([.fieldLink RX1 89 "ParcelChutes$Chute" "weights" "[I", .methodLink RX1 16 yX1_chuteAt, .instanceMethod yX1_chuteAt, .selects RX1 yX1_chuteAt yX1_chuteAt, .initialized RX1, .code yX1_chuteAt cX1_chuteAt 2 (some (.object "ParcelChutes$Chute")), .classLink RX1 146 "java/lang/IndexOutOfBoundsException", .initialized "java/lang/IndexOutOfBoundsException", .fieldLink RX1 11 "ParcelChutes" "chutes" "[LParcelChutes$Chute;", .methodLink RX1 100 yX1_requirePlace, .static yX1_requirePlace, .code yX1_requirePlace cX1_requirePlace 2 none, .classLink RX1 159 "java/util/NoSuchElementException", .initialized "java/util/NoSuchElementException", .fieldLink RX1 27 "ParcelChutes$Chute" "count" "I"] ++ wsX00 ++ wsX10 ++ (vx_atS RX1 150 "java/lang/IndexOutOfBoundsException" ["java/lang/RuntimeException", "java/lang/Exception"]).filter goodWord ++ (vy_atS RX1 163 "java/util/NoSuchElementException" ["java/lang/RuntimeException", "java/lang/Exception"]).filter goodWord)
def wsX1_girth : List Cond := .code yX1_girth cX1_girth 4 (some .int) :: ([.fieldLink RX1 97 "ParcelChutes$Chute" "girths" "[I", .methodLink RX1 16 yX1_chuteAt, .instanceMethod yX1_chuteAt, .selects RX1 yX1_chuteAt yX1_chuteAt, .initialized RX1, .code yX1_chuteAt cX1_chuteAt 2 (some (.object "ParcelChutes$Chute")), .classLink RX1 146 "java/lang/IndexOutOfBoundsException", .initialized "java/lang/IndexOutOfBoundsException", .fieldLink RX1 11 "ParcelChutes" "chutes" "[LParcelChutes$Chute;", .methodLink RX1 100 yX1_requirePlace, .static yX1_requirePlace, .code yX1_requirePlace cX1_requirePlace 2 none, .classLink RX1 159 "java/util/NoSuchElementException", .initialized "java/util/NoSuchElementException", .fieldLink RX1 27 "ParcelChutes$Chute" "count" "I"] ++ wsX00 ++ wsX10 ++ (vx_atS RX1 150 "java/lang/IndexOutOfBoundsException" ["java/lang/RuntimeException", "java/lang/Exception"]).filter goodWord ++ (vy_atS RX1 163 "java/util/NoSuchElementException" ["java/lang/RuntimeException", "java/lang/Exception"]).filter goodWord)
def wsX1_below_r1 : List Cond := [Cond.fieldLink RX1 27 "ParcelChutes$Chute" "count" "I", Cond.fieldLink RX1 89 "ParcelChutes$Chute" "weights" "[I", Cond.methodLink RX1 16 yX1_chuteAt, Cond.instanceMethod yX1_chuteAt, Cond.selects RX1 yX1_chuteAt yX1_chuteAt, Cond.initialized RX1, Cond.code yX1_chuteAt cX1_chuteAt 2 (some (.object "ParcelChutes$Chute")), Cond.classLink RX1 146 "java/lang/IndexOutOfBoundsException", Cond.initialized "java/lang/IndexOutOfBoundsException", Cond.fieldLink RX1 11 "ParcelChutes" "chutes" "[LParcelChutes$Chute;", Cond.methodLink RX1 39 yX1_requireWeight, Cond.static yX1_requireWeight, Cond.code yX1_requireWeight cX1_requireWeight 1 none, Cond.classLink RX1 20 "java/lang/IllegalArgumentException", Cond.initialized "java/lang/IllegalArgumentException", Cond.constant RX1 154 (800000), Cond.methodLink RX1 46 yX1_holds, Cond.static yX1_holds, Cond.code yX1_holds cX1_holds 3 (some .boolean), Cond.methodLink RX1 83 yX1_signsBetween, Cond.static yX1_signsBetween, Cond.code yX1_signsBetween cX1_signsBetween 2 (some .int), Cond.methodLink RX1 61 yX1_oneIf, Cond.static yX1_oneIf]
def wsX1_below_r2 : List Cond := [Cond.code yX1_oneIf cX1_oneIf 1 (some .int)]
def wsX1_below : List Cond := .code yX1_below cX1_below 6 (some .int) :: ((wsX1_below_r1 ++ wsX1_below_r2) ++ wsX00 ++ wsX10 ++ (vx_atS RX1 150 "java/lang/IndexOutOfBoundsException" ["java/lang/RuntimeException", "java/lang/Exception"]).filter goodWord ++ (vx_atS RX1 24 "java/lang/IllegalArgumentException" ["java/lang/RuntimeException", "java/lang/Exception"]).filter goodWord)
def wsX1_take_r1 : List Cond := [Cond.fieldLink RX1 97 "ParcelChutes$Chute" "girths" "[I", Cond.methodLink RX1 16 yX1_chuteAt, Cond.instanceMethod yX1_chuteAt, Cond.selects RX1 yX1_chuteAt yX1_chuteAt, Cond.initialized RX1, Cond.code yX1_chuteAt cX1_chuteAt 2 (some (.object "ParcelChutes$Chute")), Cond.classLink RX1 146 "java/lang/IndexOutOfBoundsException", Cond.initialized "java/lang/IndexOutOfBoundsException", Cond.fieldLink RX1 11 "ParcelChutes" "chutes" "[LParcelChutes$Chute;", Cond.methodLink RX1 39 yX1_requireWeight, Cond.static yX1_requireWeight, Cond.code yX1_requireWeight cX1_requireWeight 1 none, Cond.classLink RX1 20 "java/lang/IllegalArgumentException", Cond.initialized "java/lang/IllegalArgumentException", Cond.constant RX1 154 (800000), Cond.methodLink RX1 104 yX0_firstOf, Cond.instanceMethod yX0_firstOf, Cond.selects RX0 yX0_firstOf yX0_firstOf, Cond.initialized RX0, Cond.code yX0_firstOf cX0_firstOf 3 (some .int), Cond.fieldLink RX0 35 "ParcelChutes$Chute" "count" "I", Cond.fieldLink RX0 9 "ParcelChutes$Chute" "weights" "[I", Cond.methodLink RX1 100 yX1_requirePlace, Cond.static yX1_requirePlace]
def wsX1_take_r2 : List Cond := [Cond.code yX1_requirePlace cX1_requirePlace 2 none, Cond.classLink RX1 159 "java/util/NoSuchElementException", Cond.initialized "java/util/NoSuchElementException", Cond.fieldLink RX1 27 "ParcelChutes$Chute" "count" "I", Cond.methodLink RX1 108 yX0_removeAt, Cond.instanceMethod yX0_removeAt, Cond.selects RX0 yX0_removeAt yX0_removeAt, Cond.code yX0_removeAt cX0_removeAt 3 none, Cond.fieldLink RX0 15 "ParcelChutes$Chute" "girths" "[I"]
def wsX1_take : List Cond := .code yX1_take cX1_take 6 (some .int) :: ((wsX1_take_r1 ++ wsX1_take_r2) ++ wsX00 ++ wsX10 ++ (vx_atS RX1 150 "java/lang/IndexOutOfBoundsException" ["java/lang/RuntimeException", "java/lang/Exception"]).filter goodWord ++ (vx_atS RX1 24 "java/lang/IllegalArgumentException" ["java/lang/RuntimeException", "java/lang/Exception"]).filter goodWord ++ (vy_atS RX1 163 "java/util/NoSuchElementException" ["java/lang/RuntimeException", "java/lang/Exception"]).filter goodWord)
def wsX1_pour_r1 : List Cond := [Cond.classLink RX1 20 "java/lang/IllegalArgumentException", Cond.initialized "java/lang/IllegalArgumentException", Cond.fieldLink RX1 27 "ParcelChutes$Chute" "count" "I", Cond.fieldLink RX1 89 "ParcelChutes$Chute" "weights" "[I", Cond.fieldLink RX1 97 "ParcelChutes$Chute" "girths" "[I", Cond.methodLink RX1 16 yX1_chuteAt, Cond.instanceMethod yX1_chuteAt, Cond.selects RX1 yX1_chuteAt yX1_chuteAt, Cond.initialized RX1, Cond.code yX1_chuteAt cX1_chuteAt 2 (some (.object "ParcelChutes$Chute")), Cond.classLink RX1 146 "java/lang/IndexOutOfBoundsException", Cond.initialized "java/lang/IndexOutOfBoundsException", Cond.fieldLink RX1 11 "ParcelChutes" "chutes" "[LParcelChutes$Chute;", Cond.methodLink RX1 73 yX0_admit, Cond.instanceMethod yX0_admit, Cond.selects RX0 yX0_admit yX0_admit, Cond.initialized RX0, Cond.code yX0_admit cX0_admit 5 (some .boolean), Cond.fieldLink RX0 35 "ParcelChutes$Chute" "count" "I", Cond.fieldLink RX0 9 "ParcelChutes$Chute" "weights" "[I", Cond.fieldLink RX0 15 "ParcelChutes$Chute" "girths" "[I", Cond.methodLink RX0 38 yX0_suits, Cond.instanceMethod yX0_suits, Cond.selects RX0 yX0_suits yX0_suits]
def wsX1_pour_r2 : List Cond := [Cond.code yX0_suits cX0_suits 3 (some .boolean), Cond.fieldLink RX0 18 "ParcelChutes$Chute" "kind" "I", Cond.fieldLink RX0 22 "ParcelChutes$Chute" "low" "I", Cond.fieldLink RX0 29 "ParcelChutes$Chute" "high" "I", Cond.fieldLink RX0 32 "ParcelChutes$Chute" "wide" "I", Cond.static yX1_holds, Cond.code yX1_holds cX1_holds 3 (some .boolean), Cond.methodLink RX1 83 yX1_signsBetween, Cond.static yX1_signsBetween, Cond.code yX1_signsBetween cX1_signsBetween 2 (some .int), Cond.methodLink RX0 42 yX0_placeFor, Cond.instanceMethod yX0_placeFor, Cond.selects RX0 yX0_placeFor yX0_placeFor, Cond.code yX0_placeFor cX0_placeFor 3 (some .int), Cond.methodLink RX1 108 yX0_removeAt, Cond.instanceMethod yX0_removeAt, Cond.selects RX0 yX0_removeAt yX0_removeAt, Cond.code yX0_removeAt cX0_removeAt 3 none]
def wsX1_pour : List Cond := .code yX1_pour cX1_pour 8 (some .int) :: ((wsX1_pour_r1 ++ wsX1_pour_r2) ++ wsX00 ++ wsX10 ++ (vx_atS RX1 24 "java/lang/IllegalArgumentException" ["java/lang/RuntimeException", "java/lang/Exception"]).filter goodWord ++ (vx_atS RX1 150 "java/lang/IndexOutOfBoundsException" ["java/lang/RuntimeException", "java/lang/Exception"]).filter goodWord)
def wsX1_sweep_r1 : List Cond := [Cond.fieldLink RX1 27 "ParcelChutes$Chute" "count" "I", Cond.fieldLink RX1 89 "ParcelChutes$Chute" "weights" "[I", Cond.fieldLink RX1 97 "ParcelChutes$Chute" "girths" "[I", Cond.methodLink RX1 16 yX1_chuteAt, Cond.instanceMethod yX1_chuteAt, Cond.selects RX1 yX1_chuteAt yX1_chuteAt, Cond.initialized RX1, Cond.code yX1_chuteAt cX1_chuteAt 2 (some (.object "ParcelChutes$Chute")), Cond.classLink RX1 146 "java/lang/IndexOutOfBoundsException", Cond.initialized "java/lang/IndexOutOfBoundsException", Cond.fieldLink RX1 11 "ParcelChutes" "chutes" "[LParcelChutes$Chute;", Cond.methodLink RX1 80 yX0_suits, Cond.instanceMethod yX0_suits, Cond.selects RX0 yX0_suits yX0_suits, Cond.initialized RX0, Cond.code yX0_suits cX0_suits 3 (some .boolean), Cond.fieldLink RX0 18 "ParcelChutes$Chute" "kind" "I", Cond.fieldLink RX0 22 "ParcelChutes$Chute" "low" "I", Cond.fieldLink RX0 29 "ParcelChutes$Chute" "high" "I", Cond.fieldLink RX0 32 "ParcelChutes$Chute" "wide" "I", Cond.static yX1_holds, Cond.code yX1_holds cX1_holds 3 (some .boolean), Cond.methodLink RX1 83 yX1_signsBetween, Cond.static yX1_signsBetween]
def wsX1_sweep_r2 : List Cond := [Cond.code yX1_signsBetween cX1_signsBetween 2 (some .int), Cond.methodLink RX1 77 yX1_putAside, Cond.instanceMethod yX1_putAside, Cond.selects RX1 yX1_putAside yX1_putAside, Cond.code yX1_putAside cX1_putAside 3 none, Cond.fieldLink RX1 137 "ParcelChutes" "asideCount" "I", Cond.fieldLink RX1 140 "ParcelChutes" "asideWeight" "I", Cond.fieldLink RX1 143 "ParcelChutes" "asideGirth" "I", Cond.methodLink RX1 108 yX0_removeAt, Cond.instanceMethod yX0_removeAt, Cond.selects RX0 yX0_removeAt yX0_removeAt, Cond.code yX0_removeAt cX0_removeAt 3 none, Cond.fieldLink RX0 35 "ParcelChutes$Chute" "count" "I", Cond.fieldLink RX0 9 "ParcelChutes$Chute" "weights" "[I", Cond.fieldLink RX0 15 "ParcelChutes$Chute" "girths" "[I"]
def wsX1_sweep : List Cond := .code yX1_sweep cX1_sweep 6 (some .int) :: ((wsX1_sweep_r1 ++ wsX1_sweep_r2) ++ wsX00 ++ wsX10 ++ (vx_atS RX1 150 "java/lang/IndexOutOfBoundsException" ["java/lang/RuntimeException", "java/lang/Exception"]).filter goodWord)
def wsX1_heavier_r1 : List Cond := [Cond.methodLink RX1 16 yX1_chuteAt, Cond.instanceMethod yX1_chuteAt, Cond.selects RX1 yX1_chuteAt yX1_chuteAt, Cond.initialized RX1, Cond.code yX1_chuteAt cX1_chuteAt 2 (some (.object "ParcelChutes$Chute")), Cond.classLink RX1 146 "java/lang/IndexOutOfBoundsException", Cond.initialized "java/lang/IndexOutOfBoundsException", Cond.fieldLink RX1 11 "ParcelChutes" "chutes" "[LParcelChutes$Chute;", Cond.methodLink RX1 113 yX0_heaviestKnown, Cond.instanceMethod yX0_heaviestKnown, Cond.selects RX0 yX0_heaviestKnown yX0_heaviestKnown, Cond.initialized RX0, Cond.code yX0_heaviestKnown cX0_heaviestKnown 2 (some .int), Cond.fieldLink RX0 35 "ParcelChutes$Chute" "count" "I", Cond.fieldLink RX0 9 "ParcelChutes$Chute" "weights" "[I", Cond.methodLink RX0 50 yX0_unknownIn, Cond.instanceMethod yX0_unknownIn, Cond.selects RX0 yX0_unknownIn yX0_unknownIn, Cond.code yX0_unknownIn cX0_unknownIn 4 (some .int), Cond.static yX1_oneIf, Cond.code yX1_oneIf cX1_oneIf 1 (some .int), Cond.methodLink RX1 46 yX1_holds, Cond.static yX1_holds, Cond.code yX1_holds cX1_holds 3 (some .boolean)]
def wsX1_heavier_r2 : List Cond := [Cond.methodLink RX1 83 yX1_signsBetween, Cond.static yX1_signsBetween, Cond.code yX1_signsBetween cX1_signsBetween 2 (some .int)]
def wsX1_heavier : List Cond := .code yX1_heavier cX1_heavier 5 (some .int) :: ((wsX1_heavier_r1 ++ wsX1_heavier_r2) ++ wsX10 ++ wsX00 ++ (vx_atS RX1 150 "java/lang/IndexOutOfBoundsException" ["java/lang/RuntimeException", "java/lang/Exception"]).filter goodWord)
def wsX1_alike : List Cond := .code yX1_alike cX1_alike 7 (some .int) :: ([.fieldLink RX1 27 "ParcelChutes$Chute" "count" "I", .methodLink RX1 117 Lib.Math.min.name, .static Lib.Math.min.name, .initialized "java/lang/Math", .code Lib.Math.min.name Lib.Math.min.code 2 (some .int), .fieldLink RX1 89 "ParcelChutes$Chute" "weights" "[I", .fieldLink RX1 97 "ParcelChutes$Chute" "girths" "[I", .methodLink RX1 16 yX1_chuteAt, .instanceMethod yX1_chuteAt, .selects RX1 yX1_chuteAt yX1_chuteAt, .initialized RX1, .code yX1_chuteAt cX1_chuteAt 2 (some (.object "ParcelChutes$Chute")), .classLink RX1 146 "java/lang/IndexOutOfBoundsException", .initialized "java/lang/IndexOutOfBoundsException", .fieldLink RX1 11 "ParcelChutes" "chutes" "[LParcelChutes$Chute;", .methodLink RX1 46 yX1_holds, .static yX1_holds, .code yX1_holds cX1_holds 3 (some .boolean), .methodLink RX1 83 yX1_signsBetween, .static yX1_signsBetween, .code yX1_signsBetween cX1_signsBetween 2 (some .int)] ++ wsX00 ++ wsX10 ++ (vx_atS RX1 150 "java/lang/IndexOutOfBoundsException" ["java/lang/RuntimeException", "java/lang/Exception"]).filter goodWord)
def wsX1_gauge : List Cond := .code yX1_gauge cX1_gauge 2 (some .int) :: ([.classLink RX1 20 "java/lang/IllegalArgumentException", .initialized "java/lang/IllegalArgumentException", .fieldLink RX1 122 "ParcelChutes" "lightest" "I", .fieldLink RX1 125 "ParcelChutes" "heaviest" "I", .fieldLink RX1 128 "ParcelChutes" "widest" "I", .fieldLink RX1 131 "ParcelChutes" "streak" "I", .fieldLink RX1 134 "ParcelChutes" "came" "I", .fieldLink RX1 137 "ParcelChutes" "asideCount" "I", .fieldLink RX1 140 "ParcelChutes" "asideWeight" "I", .fieldLink RX1 143 "ParcelChutes" "asideGirth" "I"] ++ wsX10 ++ (vx_atS RX1 24 "java/lang/IllegalArgumentException" ["java/lang/RuntimeException", "java/lang/Exception"]).filter goodWord)
def wsX2_init : List Cond := .code yX2_init cX2_init 2 none :: ([.methodLink RX2 1 objectInit, .instanceMethod objectInit, .code objectInit ⟨#[0xb1]⟩ 1 none, .arrayClass .int, .fieldLink RX2 7 "ParcelChutesModel" "home" "[I", .fieldLink RX2 13 "ParcelChutesModel" "heavy" "[I", .fieldLink RX2 16 "ParcelChutesModel" "round" "[I", .fieldLink RX2 19 "ParcelChutesModel" "came" "[I", .fieldLink RX2 22 "ParcelChutesModel" "kind" "[I", .fieldLink RX2 25 "ParcelChutesModel" "low" "[I", .fieldLink RX2 28 "ParcelChutesModel" "high" "[I", .fieldLink RX2 31 "ParcelChutesModel" "wide" "[I", .arrayClass .boolean, .fieldLink RX2 34 "ParcelChutesModel" "closed" "[Z"] ++ wsX20)
def wsX2_thrown : List Cond := .code yX2_thrown cX2_thrown 1 (some .int) :: ([.fieldLink RX2 38 "ParcelChutesModel" "thrown" "I"] ++ wsX20)
def wsX2_isWithin : List Cond := .code yX2_isWithin cX2_isWithin 2 (some .boolean) :: ([])
def wsX2_isChute : List Cond := .code yX2_isChute cX2_isChute 1 (some .boolean) :: ([.methodLink RX2 42 yX2_isWithin, .static yX2_isWithin, .initialized RX2, .code yX2_isWithin cX2_isWithin 2 (some .boolean)])
def wsX2_isParcel : List Cond := .code yX2_isParcel cX2_isParcel 2 (some .boolean) :: ([.constant RX2 46 (800000), .methodLink RX2 42 yX2_isWithin, .static yX2_isWithin, .initialized RX2, .code yX2_isWithin cX2_isWithin 2 (some .boolean)])
def wsX2_signsOf : List Cond := .code yX2_signsOf cX2_signsOf 2 (some .int) :: ([])
def wsX2_holds : List Cond := .code yX2_holds cX2_holds 3 (some .boolean) :: ([.methodLink RX2 47 yX2_signsOf, .static yX2_signsOf, .initialized RX2, .code yX2_signsOf cX2_signsOf 2 (some .int)])
def wsX2_fitsChute : List Cond := .code yX2_fitsChute cX2_fitsChute 4 (some .boolean) :: ([.fieldLink RX2 22 "ParcelChutesModel" "kind" "[I", .fieldLink RX2 25 "ParcelChutesModel" "low" "[I", .fieldLink RX2 28 "ParcelChutesModel" "high" "[I", .fieldLink RX2 31 "ParcelChutesModel" "wide" "[I", .methodLink RX2 51 yX2_holds, .static yX2_holds, .initialized RX2, .code yX2_holds cX2_holds 3 (some .boolean), .methodLink RX2 47 yX2_signsOf, .static yX2_signsOf, .code yX2_signsOf cX2_signsOf 2 (some .int)] ++ wsX20)
def wsX2_many : List Cond := .code yX2_many cX2_many 4 (some .int) :: ([.fieldLink RX2 7 "ParcelChutesModel" "home" "[I"] ++ wsX20)
def wsX2_isAhead : List Cond := .code yX2_isAhead cX2_isAhead 4 (some .boolean) :: ([.fieldLink RX2 13 "ParcelChutesModel" "heavy" "[I", .fieldLink RX2 19 "ParcelChutesModel" "came" "[I"] ++ wsX20)
def wsX2_placeOf : List Cond := .code yX2_placeOf cX2_placeOf 4 (some .int) :: ([.fieldLink RX2 7 "ParcelChutesModel" "home" "[I", .methodLink RX2 55 yX2_isAhead, .instanceMethod yX2_isAhead, .selects RX2 yX2_isAhead yX2_isAhead, .initialized RX2, .code yX2_isAhead cX2_isAhead 4 (some .boolean), .fieldLink RX2 13 "ParcelChutesModel" "heavy" "[I", .fieldLink RX2 19 "ParcelChutesModel" "came" "[I"] ++ wsX20)
def wsX2_parcelAt : List Cond := .code yX2_parcelAt cX2_parcelAt 4 (some .int) :: ([.fieldLink RX2 7 "ParcelChutesModel" "home" "[I", .methodLink RX2 58 yX2_placeOf, .instanceMethod yX2_placeOf, .selects RX2 yX2_placeOf yX2_placeOf, .initialized RX2, .code yX2_placeOf cX2_placeOf 4 (some .int), .methodLink RX2 55 yX2_isAhead, .instanceMethod yX2_isAhead, .selects RX2 yX2_isAhead yX2_isAhead, .code yX2_isAhead cX2_isAhead 4 (some .boolean), .fieldLink RX2 13 "ParcelChutesModel" "heavy" "[I", .fieldLink RX2 19 "ParcelChutesModel" "came" "[I"] ++ wsX20)
def wsX2_putIn : List Cond := .code yX2_putIn cX2_putIn 5 none :: ([.fieldLink RX2 7 "ParcelChutesModel" "home" "[I", .fieldLink RX2 13 "ParcelChutesModel" "heavy" "[I", .fieldLink RX2 16 "ParcelChutesModel" "round" "[I", .fieldLink RX2 19 "ParcelChutesModel" "came" "[I", .fieldLink RX2 62 "ParcelChutesModel" "clock" "I"] ++ wsX20)
def wsX2_putAside : List Cond := .code yX2_putAside cX2_putAside 3 none :: ([.fieldLink RX2 65 "ParcelChutesModel" "lost" "I", .fieldLink RX2 68 "ParcelChutesModel" "lostWeight" "I", .fieldLink RX2 71 "ParcelChutesModel" "lostGirth" "I"] ++ wsX20)
def wsX2_sort : List Cond := .code yX2_sort cX2_sort 4 (some .int) :: ([.fieldLink RX2 38 "ParcelChutesModel" "thrown" "I", .fieldLink RX2 22 "ParcelChutesModel" "kind" "[I", .methodLink RX2 74 yX2_isChute, .static yX2_isChute, .initialized RX2, .code yX2_isChute cX2_isChute 1 (some .boolean), .methodLink RX2 42 yX2_isWithin, .static yX2_isWithin, .code yX2_isWithin cX2_isWithin 2 (some .boolean), .methodLink RX2 78 yX2_many, .instanceMethod yX2_many, .selects RX2 yX2_many yX2_many, .code yX2_many cX2_many 4 (some .int), .fieldLink RX2 7 "ParcelChutesModel" "home" "[I"] ++ wsX20)
def wsX2_limits : List Cond := .code yX2_limits cX2_limits 5 (some .int) :: ([.constant RX2 46 (800000), .fieldLink RX2 38 "ParcelChutesModel" "thrown" "I", .fieldLink RX2 25 "ParcelChutesModel" "low" "[I", .fieldLink RX2 28 "ParcelChutesModel" "high" "[I", .fieldLink RX2 31 "ParcelChutesModel" "wide" "[I", .methodLink RX2 74 yX2_isChute, .static yX2_isChute, .initialized RX2, .code yX2_isChute cX2_isChute 1 (some .boolean), .methodLink RX2 42 yX2_isWithin, .static yX2_isWithin, .code yX2_isWithin cX2_isWithin 2 (some .boolean), .methodLink RX2 51 yX2_holds, .static yX2_holds, .code yX2_holds cX2_holds 3 (some .boolean), .methodLink RX2 47 yX2_signsOf, .static yX2_signsOf, .code yX2_signsOf cX2_signsOf 2 (some .int)] ++ wsX20)
def wsX2_shut : List Cond := .code yX2_shut cX2_shut 4 (some .boolean) :: ([.fieldLink RX2 38 "ParcelChutesModel" "thrown" "I", .fieldLink RX2 34 "ParcelChutesModel" "closed" "[Z", .methodLink RX2 74 yX2_isChute, .static yX2_isChute, .initialized RX2, .code yX2_isChute cX2_isChute 1 (some .boolean), .methodLink RX2 42 yX2_isWithin, .static yX2_isWithin, .code yX2_isWithin cX2_isWithin 2 (some .boolean)] ++ wsX20)
def wsX2_gaugeAll : List Cond := .code yX2_gaugeAll cX2_gaugeAll 3 none :: ([.fieldLink RX2 81 "ParcelChutesModel" "sent" "I", .fieldLink RX2 84 "ParcelChutesModel" "before" "I", .fieldLink RX2 87 "ParcelChutesModel" "streak" "I", .fieldLink RX2 90 "ParcelChutesModel" "lightest" "I", .fieldLink RX2 93 "ParcelChutesModel" "heaviest" "I", .fieldLink RX2 96 "ParcelChutesModel" "widest" "I", .methodLink RX2 51 yX2_holds, .static yX2_holds, .initialized RX2, .code yX2_holds cX2_holds 3 (some .boolean), .methodLink RX2 47 yX2_signsOf, .static yX2_signsOf, .code yX2_signsOf cX2_signsOf 2 (some .int)] ++ wsX20)
def wsX2_send_r1 : List Cond := [Cond.fieldLink RX2 38 "ParcelChutesModel" "thrown" "I", Cond.fieldLink RX2 34 "ParcelChutesModel" "closed" "[Z", Cond.methodLink RX2 99 yX2_isParcel, Cond.static yX2_isParcel, Cond.initialized RX2, Cond.code yX2_isParcel cX2_isParcel 2 (some .boolean), Cond.constant RX2 46 (800000), Cond.methodLink RX2 42 yX2_isWithin, Cond.static yX2_isWithin, Cond.code yX2_isWithin cX2_isWithin 2 (some .boolean), Cond.methodLink RX2 102 yX2_gaugeAll, Cond.instanceMethod yX2_gaugeAll, Cond.selects RX2 yX2_gaugeAll yX2_gaugeAll, Cond.code yX2_gaugeAll cX2_gaugeAll 3 none, Cond.fieldLink RX2 81 "ParcelChutesModel" "sent" "I", Cond.fieldLink RX2 84 "ParcelChutesModel" "before" "I", Cond.fieldLink RX2 87 "ParcelChutesModel" "streak" "I", Cond.fieldLink RX2 90 "ParcelChutesModel" "lightest" "I", Cond.fieldLink RX2 93 "ParcelChutesModel" "heaviest" "I", Cond.fieldLink RX2 96 "ParcelChutesModel" "widest" "I", Cond.methodLink RX2 51 yX2_holds, Cond.static yX2_holds, Cond.code yX2_holds cX2_holds 3 (some .boolean), Cond.methodLink RX2 47 yX2_signsOf]
def wsX2_send_r2 : List Cond := [Cond.static yX2_signsOf, Cond.code yX2_signsOf cX2_signsOf 2 (some .int), Cond.methodLink RX2 78 yX2_many, Cond.instanceMethod yX2_many, Cond.selects RX2 yX2_many yX2_many, Cond.code yX2_many cX2_many 4 (some .int), Cond.fieldLink RX2 7 "ParcelChutesModel" "home" "[I", Cond.methodLink RX2 106 yX2_fitsChute, Cond.instanceMethod yX2_fitsChute, Cond.selects RX2 yX2_fitsChute yX2_fitsChute, Cond.code yX2_fitsChute cX2_fitsChute 4 (some .boolean), Cond.fieldLink RX2 22 "ParcelChutesModel" "kind" "[I", Cond.fieldLink RX2 25 "ParcelChutesModel" "low" "[I", Cond.fieldLink RX2 28 "ParcelChutesModel" "high" "[I", Cond.fieldLink RX2 31 "ParcelChutesModel" "wide" "[I", Cond.methodLink RX2 109 yX2_putIn, Cond.instanceMethod yX2_putIn, Cond.selects RX2 yX2_putIn yX2_putIn, Cond.code yX2_putIn cX2_putIn 5 none, Cond.fieldLink RX2 13 "ParcelChutesModel" "heavy" "[I", Cond.fieldLink RX2 16 "ParcelChutesModel" "round" "[I", Cond.fieldLink RX2 19 "ParcelChutesModel" "came" "[I", Cond.fieldLink RX2 62 "ParcelChutesModel" "clock" "I", Cond.methodLink RX2 113 yX2_putAside]
def wsX2_send_r3 : List Cond := [Cond.instanceMethod yX2_putAside, Cond.selects RX2 yX2_putAside yX2_putAside, Cond.code yX2_putAside cX2_putAside 3 none, Cond.fieldLink RX2 65 "ParcelChutesModel" "lost" "I", Cond.fieldLink RX2 68 "ParcelChutesModel" "lostWeight" "I", Cond.fieldLink RX2 71 "ParcelChutesModel" "lostGirth" "I"]
def wsX2_send : List Cond := .code yX2_send cX2_send 4 (some .int) :: ((wsX2_send_r1 ++ (wsX2_send_r2 ++ wsX2_send_r3)) ++ wsX20)
def wsX2_fits : List Cond := .code yX2_fits cX2_fits 5 (some .int) :: ([.fieldLink RX2 38 "ParcelChutesModel" "thrown" "I", .methodLink RX2 99 yX2_isParcel, .static yX2_isParcel, .initialized RX2, .code yX2_isParcel cX2_isParcel 2 (some .boolean), .constant RX2 46 (800000), .methodLink RX2 42 yX2_isWithin, .static yX2_isWithin, .code yX2_isWithin cX2_isWithin 2 (some .boolean), .methodLink RX2 106 yX2_fitsChute, .instanceMethod yX2_fitsChute, .selects RX2 yX2_fitsChute yX2_fitsChute, .code yX2_fitsChute cX2_fitsChute 4 (some .boolean), .fieldLink RX2 22 "ParcelChutesModel" "kind" "[I", .fieldLink RX2 25 "ParcelChutesModel" "low" "[I", .fieldLink RX2 28 "ParcelChutesModel" "high" "[I", .fieldLink RX2 31 "ParcelChutesModel" "wide" "[I", .methodLink RX2 51 yX2_holds, .static yX2_holds, .code yX2_holds cX2_holds 3 (some .boolean), .methodLink RX2 47 yX2_signsOf, .static yX2_signsOf, .code yX2_signsOf cX2_signsOf 2 (some .int)] ++ wsX20)
def wsX2_signs : List Cond := .code yX2_signs cX2_signs 4 (some .int) :: ([.constant RX2 46 (800000), .fieldLink RX2 38 "ParcelChutesModel" "thrown" "I", .fieldLink RX2 25 "ParcelChutesModel" "low" "[I", .fieldLink RX2 28 "ParcelChutesModel" "high" "[I", .fieldLink RX2 31 "ParcelChutesModel" "wide" "[I", .methodLink RX2 74 yX2_isChute, .static yX2_isChute, .initialized RX2, .code yX2_isChute cX2_isChute 1 (some .boolean), .methodLink RX2 42 yX2_isWithin, .static yX2_isWithin, .code yX2_isWithin cX2_isWithin 2 (some .boolean), .methodLink RX2 47 yX2_signsOf, .static yX2_signsOf, .code yX2_signsOf cX2_signsOf 2 (some .int)] ++ wsX20)
def wsX2_unknownIn : List Cond := .code yX2_unknownIn cX2_unknownIn 5 (some .int) :: ([.fieldLink RX2 7 "ParcelChutesModel" "home" "[I", .fieldLink RX2 16 "ParcelChutesModel" "round" "[I", .fieldLink RX2 13 "ParcelChutesModel" "heavy" "[I"] ++ wsX20)
def wsX2_chute : List Cond := .code yX2_chute cX2_chute 3 (some .int) :: ([.fieldLink RX2 38 "ParcelChutesModel" "thrown" "I", .fieldLink RX2 22 "ParcelChutesModel" "kind" "[I", .fieldLink RX2 25 "ParcelChutesModel" "low" "[I", .fieldLink RX2 28 "ParcelChutesModel" "high" "[I", .fieldLink RX2 31 "ParcelChutesModel" "wide" "[I", .fieldLink RX2 34 "ParcelChutesModel" "closed" "[Z", .methodLink RX2 74 yX2_isChute, .static yX2_isChute, .initialized RX2, .code yX2_isChute cX2_isChute 1 (some .boolean), .methodLink RX2 42 yX2_isWithin, .static yX2_isWithin, .code yX2_isWithin cX2_isWithin 2 (some .boolean), .methodLink RX2 78 yX2_many, .instanceMethod yX2_many, .selects RX2 yX2_many yX2_many, .code yX2_many cX2_many 4 (some .int), .fieldLink RX2 7 "ParcelChutesModel" "home" "[I", .methodLink RX2 116 yX2_unknownIn, .instanceMethod yX2_unknownIn, .selects RX2 yX2_unknownIn yX2_unknownIn, .code yX2_unknownIn cX2_unknownIn 5 (some .int), .fieldLink RX2 16 "ParcelChutesModel" "round" "[I", .fieldLink RX2 13 "ParcelChutesModel" "heavy" "[I"] ++ wsX20)
def wsX2_askedFor : List Cond := .code yX2_askedFor cX2_askedFor 4 (some .int) :: ([.fieldLink RX2 38 "ParcelChutesModel" "thrown" "I", .methodLink RX2 74 yX2_isChute, .static yX2_isChute, .initialized RX2, .code yX2_isChute cX2_isChute 1 (some .boolean), .methodLink RX2 42 yX2_isWithin, .static yX2_isWithin, .code yX2_isWithin cX2_isWithin 2 (some .boolean), .methodLink RX2 120 yX2_parcelAt, .instanceMethod yX2_parcelAt, .selects RX2 yX2_parcelAt yX2_parcelAt, .code yX2_parcelAt cX2_parcelAt 4 (some .int), .fieldLink RX2 7 "ParcelChutesModel" "home" "[I", .methodLink RX2 58 yX2_placeOf, .instanceMethod yX2_placeOf, .selects RX2 yX2_placeOf yX2_placeOf, .code yX2_placeOf cX2_placeOf 4 (some .int), .methodLink RX2 55 yX2_isAhead, .instanceMethod yX2_isAhead, .selects RX2 yX2_isAhead yX2_isAhead, .code yX2_isAhead cX2_isAhead 4 (some .boolean), .fieldLink RX2 13 "ParcelChutesModel" "heavy" "[I", .fieldLink RX2 19 "ParcelChutesModel" "came" "[I"] ++ wsX20)
def wsX2_weight_r1 : List Cond := [Cond.fieldLink RX2 38 "ParcelChutesModel" "thrown" "I", Cond.fieldLink RX2 13 "ParcelChutesModel" "heavy" "[I", Cond.methodLink RX2 123 yX2_askedFor, Cond.instanceMethod yX2_askedFor, Cond.selects RX2 yX2_askedFor yX2_askedFor, Cond.initialized RX2, Cond.code yX2_askedFor cX2_askedFor 4 (some .int), Cond.methodLink RX2 74 yX2_isChute, Cond.static yX2_isChute, Cond.code yX2_isChute cX2_isChute 1 (some .boolean), Cond.methodLink RX2 42 yX2_isWithin, Cond.static yX2_isWithin, Cond.code yX2_isWithin cX2_isWithin 2 (some .boolean), Cond.methodLink RX2 120 yX2_parcelAt, Cond.instanceMethod yX2_parcelAt, Cond.selects RX2 yX2_parcelAt yX2_parcelAt, Cond.code yX2_parcelAt cX2_parcelAt 4 (some .int), Cond.fieldLink RX2 7 "ParcelChutesModel" "home" "[I", Cond.methodLink RX2 58 yX2_placeOf, Cond.instanceMethod yX2_placeOf, Cond.selects RX2 yX2_placeOf yX2_placeOf, Cond.code yX2_placeOf cX2_placeOf 4 (some .int), Cond.methodLink RX2 55 yX2_isAhead, Cond.instanceMethod yX2_isAhead]
def wsX2_weight_r2 : List Cond := [Cond.selects RX2 yX2_isAhead yX2_isAhead, Cond.code yX2_isAhead cX2_isAhead 4 (some .boolean), Cond.fieldLink RX2 19 "ParcelChutesModel" "came" "[I"]
def wsX2_weight : List Cond := .code yX2_weight cX2_weight 4 (some .int) :: ((wsX2_weight_r1 ++ wsX2_weight_r2) ++ wsX20)
def wsX2_girth_r1 : List Cond := [Cond.fieldLink RX2 38 "ParcelChutesModel" "thrown" "I", Cond.fieldLink RX2 16 "ParcelChutesModel" "round" "[I", Cond.methodLink RX2 123 yX2_askedFor, Cond.instanceMethod yX2_askedFor, Cond.selects RX2 yX2_askedFor yX2_askedFor, Cond.initialized RX2, Cond.code yX2_askedFor cX2_askedFor 4 (some .int), Cond.methodLink RX2 74 yX2_isChute, Cond.static yX2_isChute, Cond.code yX2_isChute cX2_isChute 1 (some .boolean), Cond.methodLink RX2 42 yX2_isWithin, Cond.static yX2_isWithin, Cond.code yX2_isWithin cX2_isWithin 2 (some .boolean), Cond.methodLink RX2 120 yX2_parcelAt, Cond.instanceMethod yX2_parcelAt, Cond.selects RX2 yX2_parcelAt yX2_parcelAt, Cond.code yX2_parcelAt cX2_parcelAt 4 (some .int), Cond.fieldLink RX2 7 "ParcelChutesModel" "home" "[I", Cond.methodLink RX2 58 yX2_placeOf, Cond.instanceMethod yX2_placeOf, Cond.selects RX2 yX2_placeOf yX2_placeOf, Cond.code yX2_placeOf cX2_placeOf 4 (some .int), Cond.methodLink RX2 55 yX2_isAhead, Cond.instanceMethod yX2_isAhead]
def wsX2_girth_r2 : List Cond := [Cond.selects RX2 yX2_isAhead yX2_isAhead, Cond.code yX2_isAhead cX2_isAhead 4 (some .boolean), Cond.fieldLink RX2 13 "ParcelChutesModel" "heavy" "[I", Cond.fieldLink RX2 19 "ParcelChutesModel" "came" "[I"]
def wsX2_girth : List Cond := .code yX2_girth cX2_girth 4 (some .int) :: ((wsX2_girth_r1 ++ wsX2_girth_r2) ++ wsX20)
def wsX2_below : List Cond := .code yX2_below cX2_below 5 (some .int) :: ([.constant RX2 46 (800000), .fieldLink RX2 38 "ParcelChutesModel" "thrown" "I", .fieldLink RX2 7 "ParcelChutesModel" "home" "[I", .fieldLink RX2 13 "ParcelChutesModel" "heavy" "[I", .methodLink RX2 74 yX2_isChute, .static yX2_isChute, .initialized RX2, .code yX2_isChute cX2_isChute 1 (some .boolean), .methodLink RX2 42 yX2_isWithin, .static yX2_isWithin, .code yX2_isWithin cX2_isWithin 2 (some .boolean), .methodLink RX2 51 yX2_holds, .static yX2_holds, .code yX2_holds cX2_holds 3 (some .boolean), .methodLink RX2 47 yX2_signsOf, .static yX2_signsOf, .code yX2_signsOf cX2_signsOf 2 (some .int)] ++ wsX20)
def wsX2_take : List Cond := .code yX2_take cX2_take 5 (some .int) :: ([.constant RX2 46 (800000), .fieldLink RX2 38 "ParcelChutesModel" "thrown" "I", .fieldLink RX2 7 "ParcelChutesModel" "home" "[I", .fieldLink RX2 13 "ParcelChutesModel" "heavy" "[I", .fieldLink RX2 19 "ParcelChutesModel" "came" "[I", .fieldLink RX2 16 "ParcelChutesModel" "round" "[I", .methodLink RX2 74 yX2_isChute, .static yX2_isChute, .initialized RX2, .code yX2_isChute cX2_isChute 1 (some .boolean), .methodLink RX2 42 yX2_isWithin, .static yX2_isWithin, .code yX2_isWithin cX2_isWithin 2 (some .boolean)] ++ wsX20)
def wsX2_pour_r1 : List Cond := [Cond.fieldLink RX2 38 "ParcelChutesModel" "thrown" "I", Cond.fieldLink RX2 13 "ParcelChutesModel" "heavy" "[I", Cond.fieldLink RX2 16 "ParcelChutesModel" "round" "[I", Cond.fieldLink RX2 7 "ParcelChutesModel" "home" "[I", Cond.fieldLink RX2 19 "ParcelChutesModel" "came" "[I", Cond.fieldLink RX2 62 "ParcelChutesModel" "clock" "I", Cond.methodLink RX2 74 yX2_isChute, Cond.static yX2_isChute, Cond.initialized RX2, Cond.code yX2_isChute cX2_isChute 1 (some .boolean), Cond.methodLink RX2 42 yX2_isWithin, Cond.static yX2_isWithin, Cond.code yX2_isWithin cX2_isWithin 2 (some .boolean), Cond.methodLink RX2 78 yX2_many, Cond.instanceMethod yX2_many, Cond.selects RX2 yX2_many yX2_many, Cond.code yX2_many cX2_many 4 (some .int), Cond.methodLink RX2 120 yX2_parcelAt, Cond.instanceMethod yX2_parcelAt, Cond.selects RX2 yX2_parcelAt yX2_parcelAt, Cond.code yX2_parcelAt cX2_parcelAt 4 (some .int), Cond.methodLink RX2 58 yX2_placeOf, Cond.instanceMethod yX2_placeOf, Cond.selects RX2 yX2_placeOf yX2_placeOf]
def wsX2_pour_r2 : List Cond := [Cond.code yX2_placeOf cX2_placeOf 4 (some .int), Cond.methodLink RX2 55 yX2_isAhead, Cond.instanceMethod yX2_isAhead, Cond.selects RX2 yX2_isAhead yX2_isAhead, Cond.code yX2_isAhead cX2_isAhead 4 (some .boolean), Cond.methodLink RX2 106 yX2_fitsChute, Cond.instanceMethod yX2_fitsChute, Cond.selects RX2 yX2_fitsChute yX2_fitsChute, Cond.code yX2_fitsChute cX2_fitsChute 4 (some .boolean), Cond.fieldLink RX2 22 "ParcelChutesModel" "kind" "[I", Cond.fieldLink RX2 25 "ParcelChutesModel" "low" "[I", Cond.fieldLink RX2 28 "ParcelChutesModel" "high" "[I", Cond.fieldLink RX2 31 "ParcelChutesModel" "wide" "[I", Cond.methodLink RX2 51 yX2_holds, Cond.static yX2_holds, Cond.code yX2_holds cX2_holds 3 (some .boolean), Cond.methodLink RX2 47 yX2_signsOf, Cond.static yX2_signsOf, Cond.code yX2_signsOf cX2_signsOf 2 (some .int)]
def wsX2_pour : List Cond := .code yX2_pour cX2_pour 8 (some .int) :: ((wsX2_pour_r1 ++ wsX2_pour_r2) ++ wsX20)
def wsX2_sweep_r1 : List Cond := [Cond.fieldLink RX2 38 "ParcelChutesModel" "thrown" "I", Cond.fieldLink RX2 13 "ParcelChutesModel" "heavy" "[I", Cond.fieldLink RX2 16 "ParcelChutesModel" "round" "[I", Cond.fieldLink RX2 7 "ParcelChutesModel" "home" "[I", Cond.methodLink RX2 74 yX2_isChute, Cond.static yX2_isChute, Cond.initialized RX2, Cond.code yX2_isChute cX2_isChute 1 (some .boolean), Cond.methodLink RX2 42 yX2_isWithin, Cond.static yX2_isWithin, Cond.code yX2_isWithin cX2_isWithin 2 (some .boolean), Cond.methodLink RX2 78 yX2_many, Cond.instanceMethod yX2_many, Cond.selects RX2 yX2_many yX2_many, Cond.code yX2_many cX2_many 4 (some .int), Cond.methodLink RX2 120 yX2_parcelAt, Cond.instanceMethod yX2_parcelAt, Cond.selects RX2 yX2_parcelAt yX2_parcelAt, Cond.code yX2_parcelAt cX2_parcelAt 4 (some .int), Cond.methodLink RX2 58 yX2_placeOf, Cond.instanceMethod yX2_placeOf, Cond.selects RX2 yX2_placeOf yX2_placeOf, Cond.code yX2_placeOf cX2_placeOf 4 (some .int), Cond.methodLink RX2 55 yX2_isAhead]
def wsX2_sweep_r2 : List Cond := [Cond.instanceMethod yX2_isAhead, Cond.selects RX2 yX2_isAhead yX2_isAhead, Cond.code yX2_isAhead cX2_isAhead 4 (some .boolean), Cond.fieldLink RX2 19 "ParcelChutesModel" "came" "[I", Cond.methodLink RX2 106 yX2_fitsChute, Cond.instanceMethod yX2_fitsChute, Cond.selects RX2 yX2_fitsChute yX2_fitsChute, Cond.code yX2_fitsChute cX2_fitsChute 4 (some .boolean), Cond.fieldLink RX2 22 "ParcelChutesModel" "kind" "[I", Cond.fieldLink RX2 25 "ParcelChutesModel" "low" "[I", Cond.fieldLink RX2 28 "ParcelChutesModel" "high" "[I", Cond.fieldLink RX2 31 "ParcelChutesModel" "wide" "[I", Cond.methodLink RX2 51 yX2_holds, Cond.static yX2_holds, Cond.code yX2_holds cX2_holds 3 (some .boolean), Cond.methodLink RX2 47 yX2_signsOf, Cond.static yX2_signsOf, Cond.code yX2_signsOf cX2_signsOf 2 (some .int), Cond.methodLink RX2 113 yX2_putAside, Cond.instanceMethod yX2_putAside, Cond.selects RX2 yX2_putAside yX2_putAside, Cond.code yX2_putAside cX2_putAside 3 none, Cond.fieldLink RX2 65 "ParcelChutesModel" "lost" "I", Cond.fieldLink RX2 68 "ParcelChutesModel" "lostWeight" "I"]
def wsX2_sweep_r3 : List Cond := [Cond.fieldLink RX2 71 "ParcelChutesModel" "lostGirth" "I"]
def wsX2_sweep : List Cond := .code yX2_sweep cX2_sweep 6 (some .int) :: ((wsX2_sweep_r1 ++ (wsX2_sweep_r2 ++ wsX2_sweep_r3)) ++ wsX20)
def wsX2_heaviestIn : List Cond := .code yX2_heaviestIn cX2_heaviestIn 4 (some .int) :: ([.fieldLink RX2 7 "ParcelChutesModel" "home" "[I", .fieldLink RX2 13 "ParcelChutesModel" "heavy" "[I"] ++ wsX20)
def wsX2_heavier : List Cond := .code yX2_heavier cX2_heavier 4 (some .int) :: ([.fieldLink RX2 38 "ParcelChutesModel" "thrown" "I", .methodLink RX2 74 yX2_isChute, .static yX2_isChute, .initialized RX2, .code yX2_isChute cX2_isChute 1 (some .boolean), .methodLink RX2 42 yX2_isWithin, .static yX2_isWithin, .code yX2_isWithin cX2_isWithin 2 (some .boolean), .methodLink RX2 126 yX2_heaviestIn, .instanceMethod yX2_heaviestIn, .selects RX2 yX2_heaviestIn yX2_heaviestIn, .code yX2_heaviestIn cX2_heaviestIn 4 (some .int), .fieldLink RX2 7 "ParcelChutesModel" "home" "[I", .fieldLink RX2 13 "ParcelChutesModel" "heavy" "[I", .methodLink RX2 47 yX2_signsOf, .static yX2_signsOf, .code yX2_signsOf cX2_signsOf 2 (some .int)] ++ wsX20)
def wsX2_alike_r1 : List Cond := [Cond.fieldLink RX2 38 "ParcelChutesModel" "thrown" "I", Cond.fieldLink RX2 13 "ParcelChutesModel" "heavy" "[I", Cond.fieldLink RX2 16 "ParcelChutesModel" "round" "[I", Cond.methodLink RX2 74 yX2_isChute, Cond.static yX2_isChute, Cond.initialized RX2, Cond.code yX2_isChute cX2_isChute 1 (some .boolean), Cond.methodLink RX2 42 yX2_isWithin, Cond.static yX2_isWithin, Cond.code yX2_isWithin cX2_isWithin 2 (some .boolean), Cond.methodLink RX2 120 yX2_parcelAt, Cond.instanceMethod yX2_parcelAt, Cond.selects RX2 yX2_parcelAt yX2_parcelAt, Cond.code yX2_parcelAt cX2_parcelAt 4 (some .int), Cond.fieldLink RX2 7 "ParcelChutesModel" "home" "[I", Cond.methodLink RX2 58 yX2_placeOf, Cond.instanceMethod yX2_placeOf, Cond.selects RX2 yX2_placeOf yX2_placeOf, Cond.code yX2_placeOf cX2_placeOf 4 (some .int), Cond.methodLink RX2 55 yX2_isAhead, Cond.instanceMethod yX2_isAhead, Cond.selects RX2 yX2_isAhead yX2_isAhead, Cond.code yX2_isAhead cX2_isAhead 4 (some .boolean), Cond.fieldLink RX2 19 "ParcelChutesModel" "came" "[I"]
def wsX2_alike_r2 : List Cond := [Cond.methodLink RX2 51 yX2_holds, Cond.static yX2_holds, Cond.code yX2_holds cX2_holds 3 (some .boolean), Cond.methodLink RX2 47 yX2_signsOf, Cond.static yX2_signsOf, Cond.code yX2_signsOf cX2_signsOf 2 (some .int)]
def wsX2_alike : List Cond := .code yX2_alike cX2_alike 6 (some .int) :: ((wsX2_alike_r1 ++ wsX2_alike_r2) ++ wsX20)
def wsX2_gauge : List Cond := .code yX2_gauge cX2_gauge 2 (some .int) :: ([.fieldLink RX2 38 "ParcelChutesModel" "thrown" "I", .fieldLink RX2 90 "ParcelChutesModel" "lightest" "I", .fieldLink RX2 93 "ParcelChutesModel" "heaviest" "I", .fieldLink RX2 96 "ParcelChutesModel" "widest" "I", .fieldLink RX2 87 "ParcelChutesModel" "streak" "I", .fieldLink RX2 81 "ParcelChutesModel" "sent" "I", .fieldLink RX2 65 "ParcelChutesModel" "lost" "I", .fieldLink RX2 68 "ParcelChutesModel" "lostWeight" "I", .fieldLink RX2 71 "ParcelChutesModel" "lostGirth" "I", .methodLink RX2 42 yX2_isWithin, .static yX2_isWithin, .initialized RX2, .code yX2_isWithin cX2_isWithin 2 (some .boolean)] ++ wsX20)
def wsJ9_min_7cf53 : List Cond := .code yJ9_min_7cf53 cJ9_min_7cf53 2 (some .int) :: ([])
def wsL_sort : List Cond := .codeWith yL_sort cL_sort 5 (some .int) [(0, 10, 13, 13), (0, 10, 17, 15), (0, 10, 21, 17)] :: ([.classLink RL 13 "java/lang/IndexOutOfBoundsException", .classLink RL 15 "java/lang/IllegalArgumentException", .classLink RL 17 "java/lang/IllegalStateException", .methodLink RL 7 yX1_sort, .instanceMethod yX1_sort, .selects RX1 yX1_sort yX1_sort, .initialized RX1, .code yX1_sort cX1_sort 5 (some .int), .classLink RX1 20 "java/lang/IllegalArgumentException", .initialized "java/lang/IllegalArgumentException", .classLink RX1 31 "java/lang/IllegalStateException", .initialized "java/lang/IllegalStateException", .fieldLink RX1 27 "ParcelChutes$Chute" "count" "I", .fieldLink RX1 36 "ParcelChutes$Chute" "kind" "I", .methodLink RX1 16 yX1_chuteAt, .instanceMethod yX1_chuteAt, .selects RX1 yX1_chuteAt yX1_chuteAt, .code yX1_chuteAt cX1_chuteAt 2 (some (.object "ParcelChutes$Chute")), .classLink RX1 146 "java/lang/IndexOutOfBoundsException", .initialized "java/lang/IndexOutOfBoundsException", .fieldLink RX1 11 "ParcelChutes" "chutes" "[LParcelChutes$Chute;"] ++ wsX00 ++ wsX10 ++ (vx_atS RX1 24 "java/lang/IllegalArgumentException" ["java/lang/RuntimeException", "java/lang/Exception"]).filter goodWord ++ (vx_atS RX1 35 "java/lang/IllegalStateException" ["java/lang/RuntimeException", "java/lang/Exception"]).filter goodWord ++ (vx_atS RX1 150 "java/lang/IndexOutOfBoundsException" ["java/lang/RuntimeException", "java/lang/Exception"]).filter goodWord)
def wsL_limits_r1 : List Cond := [Cond.classLink RL 13 "java/lang/IndexOutOfBoundsException", Cond.classLink RL 15 "java/lang/IllegalArgumentException", Cond.classLink RL 17 "java/lang/IllegalStateException", Cond.methodLink RL 19 yX1_limits, Cond.instanceMethod yX1_limits, Cond.selects RX1 yX1_limits yX1_limits, Cond.initialized RX1, Cond.code yX1_limits cX1_limits 6 (some .int), Cond.classLink RX1 31 "java/lang/IllegalStateException", Cond.initialized "java/lang/IllegalStateException", Cond.fieldLink RX1 52 "ParcelChutes$Chute" "low" "I", Cond.fieldLink RX1 55 "ParcelChutes$Chute" "high" "I", Cond.fieldLink RX1 58 "ParcelChutes$Chute" "wide" "I", Cond.methodLink RX1 16 yX1_chuteAt, Cond.instanceMethod yX1_chuteAt, Cond.selects RX1 yX1_chuteAt yX1_chuteAt, Cond.code yX1_chuteAt cX1_chuteAt 2 (some (.object "ParcelChutes$Chute")), Cond.classLink RX1 146 "java/lang/IndexOutOfBoundsException", Cond.initialized "java/lang/IndexOutOfBoundsException", Cond.fieldLink RX1 11 "ParcelChutes" "chutes" "[LParcelChutes$Chute;", Cond.methodLink RX1 39 yX1_requireWeight, Cond.static yX1_requireWeight, Cond.code yX1_requireWeight cX1_requireWeight 1 none, Cond.classLink RX1 20 "java/lang/IllegalArgumentException"]
def wsL_limits_r2 : List Cond := [Cond.initialized "java/lang/IllegalArgumentException", Cond.constant RX1 154 (800000), Cond.methodLink RX1 43 yX1_requireGirth, Cond.static yX1_requireGirth, Cond.code yX1_requireGirth cX1_requireGirth 1 none, Cond.methodLink RX1 46 yX1_holds, Cond.static yX1_holds, Cond.code yX1_holds cX1_holds 3 (some .boolean), Cond.methodLink RX1 83 yX1_signsBetween, Cond.static yX1_signsBetween, Cond.code yX1_signsBetween cX1_signsBetween 2 (some .int), Cond.methodLink RX1 61 yX1_oneIf, Cond.static yX1_oneIf, Cond.code yX1_oneIf cX1_oneIf 1 (some .int)]
def wsL_limits : List Cond := .codeWith yL_limits cL_limits 7 (some .int) [(0, 14, 17, 13), (0, 14, 21, 15), (0, 14, 25, 17)] :: ((wsL_limits_r1 ++ wsL_limits_r2) ++ wsX00 ++ wsX10 ++ (vx_atS RX1 35 "java/lang/IllegalStateException" ["java/lang/RuntimeException", "java/lang/Exception"]).filter goodWord ++ (vx_atS RX1 150 "java/lang/IndexOutOfBoundsException" ["java/lang/RuntimeException", "java/lang/Exception"]).filter goodWord ++ (vx_atS RX1 24 "java/lang/IllegalArgumentException" ["java/lang/RuntimeException", "java/lang/Exception"]).filter goodWord)
def wsL_shut : List Cond := .codeWith yL_shut cL_shut 5 (some .int) [(0, 17, 20, 13)] :: ([.classLink RL 13 "java/lang/IndexOutOfBoundsException", .methodLink RL 23 yX1_shut, .instanceMethod yX1_shut, .selects RX1 yX1_shut yX1_shut, .initialized RX1, .code yX1_shut cX1_shut 5 (some .boolean), .fieldLink RX1 65 "ParcelChutes$Chute" "closed" "Z", .methodLink RX1 16 yX1_chuteAt, .instanceMethod yX1_chuteAt, .selects RX1 yX1_chuteAt yX1_chuteAt, .code yX1_chuteAt cX1_chuteAt 2 (some (.object "ParcelChutes$Chute")), .classLink RX1 146 "java/lang/IndexOutOfBoundsException", .initialized "java/lang/IndexOutOfBoundsException", .fieldLink RX1 11 "ParcelChutes" "chutes" "[LParcelChutes$Chute;"] ++ wsX00 ++ wsX10 ++ (vx_atS RX1 150 "java/lang/IndexOutOfBoundsException" ["java/lang/RuntimeException", "java/lang/Exception"]).filter goodWord)
def wsL_send_r1 : List Cond := [Cond.classLink RL 15 "java/lang/IllegalArgumentException", Cond.methodLink RL 27 yX1_send, Cond.instanceMethod yX1_send, Cond.selects RX1 yX1_send yX1_send, Cond.initialized RX1, Cond.code yX1_send cX1_send 4 (some .int), Cond.fieldLink RX1 11 "ParcelChutes" "chutes" "[LParcelChutes$Chute;", Cond.fieldLink RX1 65 "ParcelChutes$Chute" "closed" "Z", Cond.methodLink RX1 39 yX1_requireWeight, Cond.static yX1_requireWeight, Cond.code yX1_requireWeight cX1_requireWeight 1 none, Cond.classLink RX1 20 "java/lang/IllegalArgumentException", Cond.initialized "java/lang/IllegalArgumentException", Cond.constant RX1 154 (800000), Cond.methodLink RX1 43 yX1_requireGirth, Cond.static yX1_requireGirth, Cond.code yX1_requireGirth cX1_requireGirth 1 none, Cond.methodLink RX1 69 yX1_readGauges, Cond.instanceMethod yX1_readGauges, Cond.selects RX1 yX1_readGauges yX1_readGauges, Cond.code yX1_readGauges cX1_readGauges 3 none, Cond.fieldLink RX1 122 "ParcelChutes" "lightest" "I", Cond.fieldLink RX1 125 "ParcelChutes" "heaviest" "I", Cond.fieldLink RX1 128 "ParcelChutes" "widest" "I"]
def wsL_send_r2 : List Cond := [Cond.fieldLink RX1 151 "ParcelChutes" "latestWeight" "I", Cond.fieldLink RX1 131 "ParcelChutes" "streak" "I", Cond.fieldLink RX1 134 "ParcelChutes" "came" "I", Cond.methodLink RX1 46 yX1_holds, Cond.static yX1_holds, Cond.code yX1_holds cX1_holds 3 (some .boolean), Cond.methodLink RX1 83 yX1_signsBetween, Cond.static yX1_signsBetween, Cond.code yX1_signsBetween cX1_signsBetween 2 (some .int), Cond.methodLink RX1 73 yX0_admit, Cond.instanceMethod yX0_admit, Cond.selects RX0 yX0_admit yX0_admit, Cond.initialized RX0, Cond.code yX0_admit cX0_admit 5 (some .boolean), Cond.fieldLink RX0 35 "ParcelChutes$Chute" "count" "I", Cond.fieldLink RX0 9 "ParcelChutes$Chute" "weights" "[I", Cond.fieldLink RX0 15 "ParcelChutes$Chute" "girths" "[I", Cond.methodLink RX0 38 yX0_suits, Cond.instanceMethod yX0_suits, Cond.selects RX0 yX0_suits yX0_suits, Cond.code yX0_suits cX0_suits 3 (some .boolean), Cond.fieldLink RX0 18 "ParcelChutes$Chute" "kind" "I", Cond.fieldLink RX0 22 "ParcelChutes$Chute" "low" "I", Cond.fieldLink RX0 29 "ParcelChutes$Chute" "high" "I"]
def wsL_send_r3 : List Cond := [Cond.fieldLink RX0 32 "ParcelChutes$Chute" "wide" "I", Cond.methodLink RX0 42 yX0_placeFor, Cond.instanceMethod yX0_placeFor, Cond.selects RX0 yX0_placeFor yX0_placeFor, Cond.code yX0_placeFor cX0_placeFor 3 (some .int), Cond.methodLink RX1 77 yX1_putAside, Cond.instanceMethod yX1_putAside, Cond.selects RX1 yX1_putAside yX1_putAside, Cond.code yX1_putAside cX1_putAside 3 none, Cond.fieldLink RX1 137 "ParcelChutes" "asideCount" "I", Cond.fieldLink RX1 140 "ParcelChutes" "asideWeight" "I", Cond.fieldLink RX1 143 "ParcelChutes" "asideGirth" "I"]
def wsL_send : List Cond := .codeWith yL_send cL_send 5 (some .int) [(0, 10, 13, 15)] :: ((wsL_send_r1 ++ (wsL_send_r2 ++ wsL_send_r3)) ++ wsX10 ++ wsX00 ++ (vx_atS RX1 24 "java/lang/IllegalArgumentException" ["java/lang/RuntimeException", "java/lang/Exception"]).filter goodWord)
def wsL_fits_r1 : List Cond := [Cond.classLink RL 15 "java/lang/IllegalArgumentException", Cond.methodLink RL 30 yX1_fits, Cond.instanceMethod yX1_fits, Cond.selects RX1 yX1_fits yX1_fits, Cond.initialized RX1, Cond.code yX1_fits cX1_fits 5 (some .int), Cond.fieldLink RX1 11 "ParcelChutes" "chutes" "[LParcelChutes$Chute;", Cond.methodLink RX1 39 yX1_requireWeight, Cond.static yX1_requireWeight, Cond.code yX1_requireWeight cX1_requireWeight 1 none, Cond.classLink RX1 20 "java/lang/IllegalArgumentException", Cond.initialized "java/lang/IllegalArgumentException", Cond.constant RX1 154 (800000), Cond.methodLink RX1 43 yX1_requireGirth, Cond.static yX1_requireGirth, Cond.code yX1_requireGirth cX1_requireGirth 1 none, Cond.methodLink RX1 80 yX0_suits, Cond.instanceMethod yX0_suits, Cond.selects RX0 yX0_suits yX0_suits, Cond.initialized RX0, Cond.code yX0_suits cX0_suits 3 (some .boolean), Cond.fieldLink RX0 18 "ParcelChutes$Chute" "kind" "I", Cond.fieldLink RX0 22 "ParcelChutes$Chute" "low" "I", Cond.fieldLink RX0 29 "ParcelChutes$Chute" "high" "I"]
def wsL_fits_r2 : List Cond := [Cond.fieldLink RX0 32 "ParcelChutes$Chute" "wide" "I", Cond.static yX1_holds, Cond.code yX1_holds cX1_holds 3 (some .boolean), Cond.methodLink RX1 83 yX1_signsBetween, Cond.static yX1_signsBetween, Cond.code yX1_signsBetween cX1_signsBetween 2 (some .int)]
def wsL_fits : List Cond := .codeWith yL_fits cL_fits 5 (some .int) [(0, 10, 13, 15)] :: ((wsL_fits_r1 ++ wsL_fits_r2) ++ wsX10 ++ wsX00 ++ (vx_atS RX1 24 "java/lang/IllegalArgumentException" ["java/lang/RuntimeException", "java/lang/Exception"]).filter goodWord)
def wsL_signs_r1 : List Cond := [Cond.classLink RL 13 "java/lang/IndexOutOfBoundsException", Cond.classLink RL 15 "java/lang/IllegalArgumentException", Cond.methodLink RL 33 yX1_signs, Cond.instanceMethod yX1_signs, Cond.selects RX1 yX1_signs yX1_signs, Cond.initialized RX1, Cond.code yX1_signs cX1_signs 5 (some .int), Cond.classLink RX1 20 "java/lang/IllegalArgumentException", Cond.initialized "java/lang/IllegalArgumentException", Cond.fieldLink RX1 52 "ParcelChutes$Chute" "low" "I", Cond.fieldLink RX1 55 "ParcelChutes$Chute" "high" "I", Cond.fieldLink RX1 58 "ParcelChutes$Chute" "wide" "I", Cond.methodLink RX1 16 yX1_chuteAt, Cond.instanceMethod yX1_chuteAt, Cond.selects RX1 yX1_chuteAt yX1_chuteAt, Cond.code yX1_chuteAt cX1_chuteAt 2 (some (.object "ParcelChutes$Chute")), Cond.classLink RX1 146 "java/lang/IndexOutOfBoundsException", Cond.initialized "java/lang/IndexOutOfBoundsException", Cond.fieldLink RX1 11 "ParcelChutes" "chutes" "[LParcelChutes$Chute;", Cond.methodLink RX1 39 yX1_requireWeight, Cond.static yX1_requireWeight, Cond.code yX1_requireWeight cX1_requireWeight 1 none, Cond.constant RX1 154 (800000), Cond.methodLink RX1 83 yX1_signsBetween]
def wsL_signs_r2 : List Cond := [Cond.static yX1_signsBetween, Cond.code yX1_signsBetween cX1_signsBetween 2 (some .int), Cond.methodLink RX1 43 yX1_requireGirth, Cond.static yX1_requireGirth, Cond.code yX1_requireGirth cX1_requireGirth 1 none]
def wsL_signs : List Cond := .codeWith yL_signs cL_signs 6 (some .int) [(0, 12, 15, 13), (0, 12, 19, 15)] :: ((wsL_signs_r1 ++ wsL_signs_r2) ++ wsX00 ++ wsX10 ++ (vx_atS RX1 24 "java/lang/IllegalArgumentException" ["java/lang/RuntimeException", "java/lang/Exception"]).filter goodWord ++ (vx_atS RX1 150 "java/lang/IndexOutOfBoundsException" ["java/lang/RuntimeException", "java/lang/Exception"]).filter goodWord)
def wsL_chute_r1 : List Cond := [Cond.classLink RL 13 "java/lang/IndexOutOfBoundsException", Cond.classLink RL 15 "java/lang/IllegalArgumentException", Cond.methodLink RL 37 yX1_chute, Cond.instanceMethod yX1_chute, Cond.selects RX1 yX1_chute yX1_chute, Cond.initialized RX1, Cond.code yX1_chute cX1_chute 4 (some .int), Cond.classLink RX1 20 "java/lang/IllegalArgumentException", Cond.initialized "java/lang/IllegalArgumentException", Cond.fieldLink RX1 36 "ParcelChutes$Chute" "kind" "I", Cond.fieldLink RX1 52 "ParcelChutes$Chute" "low" "I", Cond.fieldLink RX1 55 "ParcelChutes$Chute" "high" "I", Cond.fieldLink RX1 58 "ParcelChutes$Chute" "wide" "I", Cond.fieldLink RX1 65 "ParcelChutes$Chute" "closed" "Z", Cond.fieldLink RX1 27 "ParcelChutes$Chute" "count" "I", Cond.fieldLink RX1 89 "ParcelChutes$Chute" "weights" "[I", Cond.fieldLink RX1 97 "ParcelChutes$Chute" "girths" "[I", Cond.methodLink RX1 16 yX1_chuteAt, Cond.instanceMethod yX1_chuteAt, Cond.selects RX1 yX1_chuteAt yX1_chuteAt, Cond.code yX1_chuteAt cX1_chuteAt 2 (some (.object "ParcelChutes$Chute")), Cond.classLink RX1 146 "java/lang/IndexOutOfBoundsException", Cond.initialized "java/lang/IndexOutOfBoundsException", Cond.fieldLink RX1 11 "ParcelChutes" "chutes" "[LParcelChutes$Chute;"]
def wsL_chute_r2 : List Cond := [Cond.methodLink RX1 61 yX1_oneIf, Cond.static yX1_oneIf, Cond.code yX1_oneIf cX1_oneIf 1 (some .int), Cond.methodLink RX1 93 yX0_unknownIn, Cond.instanceMethod yX0_unknownIn, Cond.selects RX0 yX0_unknownIn yX0_unknownIn, Cond.initialized RX0, Cond.code yX0_unknownIn cX0_unknownIn 4 (some .int), Cond.fieldLink RX0 35 "ParcelChutes$Chute" "count" "I"]
def wsL_chute : List Cond := .codeWith yL_chute cL_chute 5 (some .int) [(0, 10, 13, 13), (0, 10, 17, 15)] :: ((wsL_chute_r1 ++ wsL_chute_r2) ++ wsX00 ++ wsX10 ++ (vx_atS RX1 24 "java/lang/IllegalArgumentException" ["java/lang/RuntimeException", "java/lang/Exception"]).filter goodWord ++ (vx_atS RX1 150 "java/lang/IndexOutOfBoundsException" ["java/lang/RuntimeException", "java/lang/Exception"]).filter goodWord)
def wsL_weight : List Cond := .codeWith yL_weight cL_weight 5 (some .int) [(0, 10, 13, 13), (0, 10, 17, 43)] :: ([.classLink RL 13 "java/lang/IndexOutOfBoundsException", .classLink RL 43 "java/util/NoSuchElementException", .methodLink RL 40 yX1_weight, .instanceMethod yX1_weight, .selects RX1 yX1_weight yX1_weight, .initialized RX1, .code yX1_weight cX1_weight 4 (some .int), .fieldLink RX1 89 "ParcelChutes$Chute" "weights" "[I", .methodLink RX1 16 yX1_chuteAt, .instanceMethod yX1_chuteAt, .selects RX1 yX1_chuteAt yX1_chuteAt, .code yX1_chuteAt cX1_chuteAt 2 (some (.object "ParcelChutes$Chute")), .classLink RX1 146 "java/lang/IndexOutOfBoundsException", .initialized "java/lang/IndexOutOfBoundsException", .fieldLink RX1 11 "ParcelChutes" "chutes" "[LParcelChutes$Chute;", .methodLink RX1 100 yX1_requirePlace, .static yX1_requirePlace, .code yX1_requirePlace cX1_requirePlace 2 none, .classLink RX1 159 "java/util/NoSuchElementException", .initialized "java/util/NoSuchElementException", .fieldLink RX1 27 "ParcelChutes$Chute" "count" "I"] ++ wsX00 ++ wsX10 ++ (vx_atS RX1 150 "java/lang/IndexOutOfBoundsException" ["java/lang/RuntimeException", "java/lang/Exception"]).filter goodWord ++ (vy_atS RX1 163 "java/util/NoSuchElementException" ["java/lang/RuntimeException", "java/lang/Exception"]).filter goodWord)
def wsL_girth : List Cond := .codeWith yL_girth cL_girth 5 (some .int) [(0, 10, 13, 13), (0, 10, 17, 43)] :: ([.classLink RL 13 "java/lang/IndexOutOfBoundsException", .classLink RL 43 "java/util/NoSuchElementException", .methodLink RL 45 yX1_girth, .instanceMethod yX1_girth, .selects RX1 yX1_girth yX1_girth, .initialized RX1, .code yX1_girth cX1_girth 4 (some .int), .fieldLink RX1 97 "ParcelChutes$Chute" "girths" "[I", .methodLink RX1 16 yX1_chuteAt, .instanceMethod yX1_chuteAt, .selects RX1 yX1_chuteAt yX1_chuteAt, .code yX1_chuteAt cX1_chuteAt 2 (some (.object "ParcelChutes$Chute")), .classLink RX1 146 "java/lang/IndexOutOfBoundsException", .initialized "java/lang/IndexOutOfBoundsException", .fieldLink RX1 11 "ParcelChutes" "chutes" "[LParcelChutes$Chute;", .methodLink RX1 100 yX1_requirePlace, .static yX1_requirePlace, .code yX1_requirePlace cX1_requirePlace 2 none, .classLink RX1 159 "java/util/NoSuchElementException", .initialized "java/util/NoSuchElementException", .fieldLink RX1 27 "ParcelChutes$Chute" "count" "I"] ++ wsX00 ++ wsX10 ++ (vx_atS RX1 150 "java/lang/IndexOutOfBoundsException" ["java/lang/RuntimeException", "java/lang/Exception"]).filter goodWord ++ (vy_atS RX1 163 "java/util/NoSuchElementException" ["java/lang/RuntimeException", "java/lang/Exception"]).filter goodWord)
def wsL_below_r1 : List Cond := [Cond.classLink RL 13 "java/lang/IndexOutOfBoundsException", Cond.classLink RL 15 "java/lang/IllegalArgumentException", Cond.methodLink RL 48 yX1_below, Cond.instanceMethod yX1_below, Cond.selects RX1 yX1_below yX1_below, Cond.initialized RX1, Cond.code yX1_below cX1_below 6 (some .int), Cond.fieldLink RX1 27 "ParcelChutes$Chute" "count" "I", Cond.fieldLink RX1 89 "ParcelChutes$Chute" "weights" "[I", Cond.methodLink RX1 16 yX1_chuteAt, Cond.instanceMethod yX1_chuteAt, Cond.selects RX1 yX1_chuteAt yX1_chuteAt, Cond.code yX1_chuteAt cX1_chuteAt 2 (some (.object "ParcelChutes$Chute")), Cond.classLink RX1 146 "java/lang/IndexOutOfBoundsException", Cond.initialized "java/lang/IndexOutOfBoundsException", Cond.fieldLink RX1 11 "ParcelChutes" "chutes" "[LParcelChutes$Chute;", Cond.methodLink RX1 39 yX1_requireWeight, Cond.static yX1_requireWeight, Cond.code yX1_requireWeight cX1_requireWeight 1 none, Cond.classLink RX1 20 "java/lang/IllegalArgumentException", Cond.initialized "java/lang/IllegalArgumentException", Cond.constant RX1 154 (800000), Cond.methodLink RX1 46 yX1_holds, Cond.static yX1_holds]
def wsL_below_r2 : List Cond := [Cond.code yX1_holds cX1_holds 3 (some .boolean), Cond.methodLink RX1 83 yX1_signsBetween, Cond.static yX1_signsBetween, Cond.code yX1_signsBetween cX1_signsBetween 2 (some .int), Cond.methodLink RX1 61 yX1_oneIf, Cond.static yX1_oneIf, Cond.code yX1_oneIf cX1_oneIf 1 (some .int)]
def wsL_below : List Cond := .codeWith yL_below cL_below 5 (some .int) [(0, 10, 13, 13), (0, 10, 17, 15)] :: ((wsL_below_r1 ++ wsL_below_r2) ++ wsX00 ++ wsX10 ++ (vx_atS RX1 150 "java/lang/IndexOutOfBoundsException" ["java/lang/RuntimeException", "java/lang/Exception"]).filter goodWord ++ (vx_atS RX1 24 "java/lang/IllegalArgumentException" ["java/lang/RuntimeException", "java/lang/Exception"]).filter goodWord)
def wsL_take_r1 : List Cond := [Cond.classLink RL 13 "java/lang/IndexOutOfBoundsException", Cond.classLink RL 15 "java/lang/IllegalArgumentException", Cond.classLink RL 43 "java/util/NoSuchElementException", Cond.methodLink RL 51 yX1_take, Cond.instanceMethod yX1_take, Cond.selects RX1 yX1_take yX1_take, Cond.initialized RX1, Cond.code yX1_take cX1_take 6 (some .int), Cond.fieldLink RX1 97 "ParcelChutes$Chute" "girths" "[I", Cond.methodLink RX1 16 yX1_chuteAt, Cond.instanceMethod yX1_chuteAt, Cond.selects RX1 yX1_chuteAt yX1_chuteAt, Cond.code yX1_chuteAt cX1_chuteAt 2 (some (.object "ParcelChutes$Chute")), Cond.classLink RX1 146 "java/lang/IndexOutOfBoundsException", Cond.initialized "java/lang/IndexOutOfBoundsException", Cond.fieldLink RX1 11 "ParcelChutes" "chutes" "[LParcelChutes$Chute;", Cond.methodLink RX1 39 yX1_requireWeight, Cond.static yX1_requireWeight, Cond.code yX1_requireWeight cX1_requireWeight 1 none, Cond.classLink RX1 20 "java/lang/IllegalArgumentException", Cond.initialized "java/lang/IllegalArgumentException", Cond.constant RX1 154 (800000), Cond.methodLink RX1 104 yX0_firstOf, Cond.instanceMethod yX0_firstOf]
def wsL_take_r2 : List Cond := [Cond.selects RX0 yX0_firstOf yX0_firstOf, Cond.initialized RX0, Cond.code yX0_firstOf cX0_firstOf 3 (some .int), Cond.fieldLink RX0 35 "ParcelChutes$Chute" "count" "I", Cond.fieldLink RX0 9 "ParcelChutes$Chute" "weights" "[I", Cond.methodLink RX1 100 yX1_requirePlace, Cond.static yX1_requirePlace, Cond.code yX1_requirePlace cX1_requirePlace 2 none, Cond.classLink RX1 159 "java/util/NoSuchElementException", Cond.initialized "java/util/NoSuchElementException", Cond.fieldLink RX1 27 "ParcelChutes$Chute" "count" "I", Cond.methodLink RX1 108 yX0_removeAt, Cond.instanceMethod yX0_removeAt, Cond.selects RX0 yX0_removeAt yX0_removeAt, Cond.code yX0_removeAt cX0_removeAt 3 none, Cond.fieldLink RX0 15 "ParcelChutes$Chute" "girths" "[I"]
def wsL_take : List Cond := .codeWith yL_take cL_take 5 (some .int) [(0, 10, 13, 13), (0, 10, 17, 15), (0, 10, 21, 43)] :: ((wsL_take_r1 ++ wsL_take_r2) ++ wsX00 ++ wsX10 ++ (vx_atS RX1 150 "java/lang/IndexOutOfBoundsException" ["java/lang/RuntimeException", "java/lang/Exception"]).filter goodWord ++ (vx_atS RX1 24 "java/lang/IllegalArgumentException" ["java/lang/RuntimeException", "java/lang/Exception"]).filter goodWord ++ (vy_atS RX1 163 "java/util/NoSuchElementException" ["java/lang/RuntimeException", "java/lang/Exception"]).filter goodWord)
def wsL_pour_r1 : List Cond := [Cond.classLink RL 13 "java/lang/IndexOutOfBoundsException", Cond.classLink RL 15 "java/lang/IllegalArgumentException", Cond.methodLink RL 54 yX1_pour, Cond.instanceMethod yX1_pour, Cond.selects RX1 yX1_pour yX1_pour, Cond.initialized RX1, Cond.code yX1_pour cX1_pour 8 (some .int), Cond.classLink RX1 20 "java/lang/IllegalArgumentException", Cond.initialized "java/lang/IllegalArgumentException", Cond.fieldLink RX1 27 "ParcelChutes$Chute" "count" "I", Cond.fieldLink RX1 89 "ParcelChutes$Chute" "weights" "[I", Cond.fieldLink RX1 97 "ParcelChutes$Chute" "girths" "[I", Cond.methodLink RX1 16 yX1_chuteAt, Cond.instanceMethod yX1_chuteAt, Cond.selects RX1 yX1_chuteAt yX1_chuteAt, Cond.code yX1_chuteAt cX1_chuteAt 2 (some (.object "ParcelChutes$Chute")), Cond.classLink RX1 146 "java/lang/IndexOutOfBoundsException", Cond.initialized "java/lang/IndexOutOfBoundsException", Cond.fieldLink RX1 11 "ParcelChutes" "chutes" "[LParcelChutes$Chute;", Cond.methodLink RX1 73 yX0_admit, Cond.instanceMethod yX0_admit, Cond.selects RX0 yX0_admit yX0_admit, Cond.initialized RX0, Cond.code yX0_admit cX0_admit 5 (some .boolean)]
def wsL_pour_r2 : List Cond := [Cond.fieldLink RX0 35 "ParcelChutes$Chute" "count" "I", Cond.fieldLink RX0 9 "ParcelChutes$Chute" "weights" "[I", Cond.fieldLink RX0 15 "ParcelChutes$Chute" "girths" "[I", Cond.methodLink RX0 38 yX0_suits, Cond.instanceMethod yX0_suits, Cond.selects RX0 yX0_suits yX0_suits, Cond.code yX0_suits cX0_suits 3 (some .boolean), Cond.fieldLink RX0 18 "ParcelChutes$Chute" "kind" "I", Cond.fieldLink RX0 22 "ParcelChutes$Chute" "low" "I", Cond.fieldLink RX0 29 "ParcelChutes$Chute" "high" "I", Cond.fieldLink RX0 32 "ParcelChutes$Chute" "wide" "I", Cond.static yX1_holds, Cond.code yX1_holds cX1_holds 3 (some .boolean), Cond.methodLink RX1 83 yX1_signsBetween, Cond.static yX1_signsBetween, Cond.code yX1_signsBetween cX1_signsBetween 2 (some .int), Cond.methodLink RX0 42 yX0_placeFor, Cond.instanceMethod yX0_placeFor, Cond.selects RX0 yX0_placeFor yX0_placeFor, Cond.code yX0_placeFor cX0_placeFor 3 (some .int), Cond.methodLink RX1 108 yX0_removeAt, Cond.instanceMethod yX0_removeAt, Cond.selects RX0 yX0_removeAt yX0_removeAt, Cond.code yX0_removeAt cX0_removeAt 3 none]
def wsL_pour : List Cond := .codeWith yL_pour cL_pour 5 (some .int) [(0, 10, 13, 13), (0, 10, 17, 15)] :: ((wsL_pour_r1 ++ wsL_pour_r2) ++ wsX00 ++ wsX10 ++ (vx_atS RX1 24 "java/lang/IllegalArgumentException" ["java/lang/RuntimeException", "java/lang/Exception"]).filter goodWord ++ (vx_atS RX1 150 "java/lang/IndexOutOfBoundsException" ["java/lang/RuntimeException", "java/lang/Exception"]).filter goodWord)
def wsL_sweep_r1 : List Cond := [Cond.classLink RL 13 "java/lang/IndexOutOfBoundsException", Cond.methodLink RL 57 yX1_sweep, Cond.instanceMethod yX1_sweep, Cond.selects RX1 yX1_sweep yX1_sweep, Cond.initialized RX1, Cond.code yX1_sweep cX1_sweep 6 (some .int), Cond.fieldLink RX1 27 "ParcelChutes$Chute" "count" "I", Cond.fieldLink RX1 89 "ParcelChutes$Chute" "weights" "[I", Cond.fieldLink RX1 97 "ParcelChutes$Chute" "girths" "[I", Cond.methodLink RX1 16 yX1_chuteAt, Cond.instanceMethod yX1_chuteAt, Cond.selects RX1 yX1_chuteAt yX1_chuteAt, Cond.code yX1_chuteAt cX1_chuteAt 2 (some (.object "ParcelChutes$Chute")), Cond.classLink RX1 146 "java/lang/IndexOutOfBoundsException", Cond.initialized "java/lang/IndexOutOfBoundsException", Cond.fieldLink RX1 11 "ParcelChutes" "chutes" "[LParcelChutes$Chute;", Cond.methodLink RX1 80 yX0_suits, Cond.instanceMethod yX0_suits, Cond.selects RX0 yX0_suits yX0_suits, Cond.initialized RX0, Cond.code yX0_suits cX0_suits 3 (some .boolean), Cond.fieldLink RX0 18 "ParcelChutes$Chute" "kind" "I", Cond.fieldLink RX0 22 "ParcelChutes$Chute" "low" "I", Cond.fieldLink RX0 29 "ParcelChutes$Chute" "high" "I"]
def wsL_sweep_r2 : List Cond := [Cond.fieldLink RX0 32 "ParcelChutes$Chute" "wide" "I", Cond.static yX1_holds, Cond.code yX1_holds cX1_holds 3 (some .boolean), Cond.methodLink RX1 83 yX1_signsBetween, Cond.static yX1_signsBetween, Cond.code yX1_signsBetween cX1_signsBetween 2 (some .int), Cond.methodLink RX1 77 yX1_putAside, Cond.instanceMethod yX1_putAside, Cond.selects RX1 yX1_putAside yX1_putAside, Cond.code yX1_putAside cX1_putAside 3 none, Cond.fieldLink RX1 137 "ParcelChutes" "asideCount" "I", Cond.fieldLink RX1 140 "ParcelChutes" "asideWeight" "I", Cond.fieldLink RX1 143 "ParcelChutes" "asideGirth" "I", Cond.methodLink RX1 108 yX0_removeAt, Cond.instanceMethod yX0_removeAt, Cond.selects RX0 yX0_removeAt yX0_removeAt, Cond.code yX0_removeAt cX0_removeAt 3 none, Cond.fieldLink RX0 35 "ParcelChutes$Chute" "count" "I", Cond.fieldLink RX0 9 "ParcelChutes$Chute" "weights" "[I", Cond.fieldLink RX0 15 "ParcelChutes$Chute" "girths" "[I"]
def wsL_sweep : List Cond := .codeWith yL_sweep cL_sweep 4 (some .int) [(0, 9, 12, 13)] :: ((wsL_sweep_r1 ++ wsL_sweep_r2) ++ wsX00 ++ wsX10 ++ (vx_atS RX1 150 "java/lang/IndexOutOfBoundsException" ["java/lang/RuntimeException", "java/lang/Exception"]).filter goodWord)
def wsL_heavier_r1 : List Cond := [Cond.classLink RL 13 "java/lang/IndexOutOfBoundsException", Cond.methodLink RL 61 yX1_heavier, Cond.instanceMethod yX1_heavier, Cond.selects RX1 yX1_heavier yX1_heavier, Cond.initialized RX1, Cond.code yX1_heavier cX1_heavier 5 (some .int), Cond.methodLink RX1 16 yX1_chuteAt, Cond.instanceMethod yX1_chuteAt, Cond.selects RX1 yX1_chuteAt yX1_chuteAt, Cond.code yX1_chuteAt cX1_chuteAt 2 (some (.object "ParcelChutes$Chute")), Cond.classLink RX1 146 "java/lang/IndexOutOfBoundsException", Cond.initialized "java/lang/IndexOutOfBoundsException", Cond.fieldLink RX1 11 "ParcelChutes" "chutes" "[LParcelChutes$Chute;", Cond.methodLink RX1 113 yX0_heaviestKnown, Cond.instanceMethod yX0_heaviestKnown, Cond.selects RX0 yX0_heaviestKnown yX0_heaviestKnown, Cond.initialized RX0, Cond.code yX0_heaviestKnown cX0_heaviestKnown 2 (some .int), Cond.fieldLink RX0 35 "ParcelChutes$Chute" "count" "I", Cond.fieldLink RX0 9 "ParcelChutes$Chute" "weights" "[I", Cond.methodLink RX0 50 yX0_unknownIn, Cond.instanceMethod yX0_unknownIn, Cond.selects RX0 yX0_unknownIn yX0_unknownIn, Cond.code yX0_unknownIn cX0_unknownIn 4 (some .int)]
def wsL_heavier_r2 : List Cond := [Cond.static yX1_oneIf, Cond.code yX1_oneIf cX1_oneIf 1 (some .int), Cond.methodLink RX1 46 yX1_holds, Cond.static yX1_holds, Cond.code yX1_holds cX1_holds 3 (some .boolean), Cond.methodLink RX1 83 yX1_signsBetween, Cond.static yX1_signsBetween, Cond.code yX1_signsBetween cX1_signsBetween 2 (some .int)]
def wsL_heavier : List Cond := .codeWith yL_heavier cL_heavier 5 (some .int) [(0, 10, 13, 13)] :: ((wsL_heavier_r1 ++ wsL_heavier_r2) ++ wsX10 ++ wsX00 ++ (vx_atS RX1 150 "java/lang/IndexOutOfBoundsException" ["java/lang/RuntimeException", "java/lang/Exception"]).filter goodWord)
def wsL_alike_r1 : List Cond := [Cond.classLink RL 13 "java/lang/IndexOutOfBoundsException", Cond.methodLink RL 64 yX1_alike, Cond.instanceMethod yX1_alike, Cond.selects RX1 yX1_alike yX1_alike, Cond.initialized RX1, Cond.code yX1_alike cX1_alike 7 (some .int), Cond.fieldLink RX1 27 "ParcelChutes$Chute" "count" "I", Cond.methodLink RX1 117 Lib.Math.min.name, Cond.static Lib.Math.min.name, Cond.initialized "java/lang/Math", Cond.code Lib.Math.min.name Lib.Math.min.code 2 (some .int), Cond.fieldLink RX1 89 "ParcelChutes$Chute" "weights" "[I", Cond.fieldLink RX1 97 "ParcelChutes$Chute" "girths" "[I", Cond.methodLink RX1 16 yX1_chuteAt, Cond.instanceMethod yX1_chuteAt, Cond.selects RX1 yX1_chuteAt yX1_chuteAt, Cond.code yX1_chuteAt cX1_chuteAt 2 (some (.object "ParcelChutes$Chute")), Cond.classLink RX1 146 "java/lang/IndexOutOfBoundsException", Cond.initialized "java/lang/IndexOutOfBoundsException", Cond.fieldLink RX1 11 "ParcelChutes" "chutes" "[LParcelChutes$Chute;", Cond.methodLink RX1 46 yX1_holds, Cond.static yX1_holds, Cond.code yX1_holds cX1_holds 3 (some .boolean), Cond.methodLink RX1 83 yX1_signsBetween]
def wsL_alike_r2 : List Cond := [Cond.static yX1_signsBetween, Cond.code yX1_signsBetween cX1_signsBetween 2 (some .int)]
def wsL_alike : List Cond := .codeWith yL_alike cL_alike 5 (some .int) [(0, 10, 13, 13)] :: ((wsL_alike_r1 ++ wsL_alike_r2) ++ wsX00 ++ wsX10 ++ (vx_atS RX1 150 "java/lang/IndexOutOfBoundsException" ["java/lang/RuntimeException", "java/lang/Exception"]).filter goodWord)
def wsL_gauge : List Cond := .codeWith yL_gauge cL_gauge 4 (some .int) [(0, 9, 12, 15)] :: ([.classLink RL 15 "java/lang/IllegalArgumentException", .methodLink RL 67 yX1_gauge, .instanceMethod yX1_gauge, .selects RX1 yX1_gauge yX1_gauge, .initialized RX1, .code yX1_gauge cX1_gauge 2 (some .int), .classLink RX1 20 "java/lang/IllegalArgumentException", .initialized "java/lang/IllegalArgumentException", .fieldLink RX1 122 "ParcelChutes" "lightest" "I", .fieldLink RX1 125 "ParcelChutes" "heaviest" "I", .fieldLink RX1 128 "ParcelChutes" "widest" "I", .fieldLink RX1 131 "ParcelChutes" "streak" "I", .fieldLink RX1 134 "ParcelChutes" "came" "I", .fieldLink RX1 137 "ParcelChutes" "asideCount" "I", .fieldLink RX1 140 "ParcelChutes" "asideWeight" "I", .fieldLink RX1 143 "ParcelChutes" "asideGirth" "I"] ++ wsX10 ++ (vx_atS RX1 24 "java/lang/IllegalArgumentException" ["java/lang/RuntimeException", "java/lang/Exception"]).filter goodWord)
def wsL_law0_r1 : List Cond := [Cond.classLink RL 8 RX1, Cond.instantiable RX1 10, Cond.initialized RX1, Cond.classLink RL 71 RX2, Cond.instantiable RX2 20, Cond.initialized RX2, Cond.arrayClass .long, Cond.methodLink RL 70 yX1_init, Cond.instanceMethod yX1_init, Cond.code yX1_init cX1_init 2 none, Cond.methodLink RX1 1 objectInit, Cond.instanceMethod objectInit, Cond.code objectInit ⟨#[0xb1]⟩ 1 none, Cond.classLink RX1 9 RX0, Cond.fieldLink RX1 11 "ParcelChutes" "chutes" "[LParcelChutes$Chute;", Cond.instantiable RX0 8, Cond.initialized RX0, Cond.instanceMethod yX0_init, Cond.code yX0_init cX0_init 1 none, Cond.methodLink RX0 3 objectInit, Cond.arrayClass .int, Cond.fieldLink RX0 9 "ParcelChutes$Chute" "weights" "[I", Cond.fieldLink RX0 15 "ParcelChutes$Chute" "girths" "[I", Cond.methodLink RL 73 yX2_init]
def wsL_law0_r2 : List Cond := [Cond.instanceMethod yX2_init, Cond.code yX2_init cX2_init 2 none, Cond.methodLink RX2 1 objectInit, Cond.fieldLink RX2 7 "ParcelChutesModel" "home" "[I", Cond.fieldLink RX2 13 "ParcelChutesModel" "heavy" "[I", Cond.fieldLink RX2 16 "ParcelChutesModel" "round" "[I", Cond.fieldLink RX2 19 "ParcelChutesModel" "came" "[I", Cond.fieldLink RX2 22 "ParcelChutesModel" "kind" "[I", Cond.fieldLink RX2 25 "ParcelChutesModel" "low" "[I", Cond.fieldLink RX2 28 "ParcelChutesModel" "high" "[I", Cond.fieldLink RX2 31 "ParcelChutesModel" "wide" "[I", Cond.arrayClass .boolean, Cond.fieldLink RX2 34 "ParcelChutesModel" "closed" "[Z", Cond.methodLink RL 74 yL_sort, Cond.static yL_sort, Cond.initialized RL, Cond.codeWith yL_sort cL_sort 5 (some .int) [(0, 10, 13, 13), (0, 10, 17, 15), (0, 10, 21, 17)], Cond.classLink RL 13 "java/lang/IndexOutOfBoundsException", Cond.classLink RL 15 "java/lang/IllegalArgumentException", Cond.classLink RL 17 "java/lang/IllegalStateException", Cond.methodLink RL 7 yX1_sort, Cond.instanceMethod yX1_sort, Cond.selects RX1 yX1_sort yX1_sort, Cond.code yX1_sort cX1_sort 5 (some .int)]
def wsL_law0_r3 : List Cond := [Cond.classLink RX1 20 "java/lang/IllegalArgumentException", Cond.initialized "java/lang/IllegalArgumentException", Cond.classLink RX1 31 "java/lang/IllegalStateException", Cond.initialized "java/lang/IllegalStateException", Cond.fieldLink RX1 27 "ParcelChutes$Chute" "count" "I", Cond.fieldLink RX1 36 "ParcelChutes$Chute" "kind" "I", Cond.methodLink RX1 16 yX1_chuteAt, Cond.instanceMethod yX1_chuteAt, Cond.selects RX1 yX1_chuteAt yX1_chuteAt, Cond.code yX1_chuteAt cX1_chuteAt 2 (some (.object "ParcelChutes$Chute")), Cond.classLink RX1 146 "java/lang/IndexOutOfBoundsException", Cond.initialized "java/lang/IndexOutOfBoundsException", Cond.methodLink RL 79 yX2_sort, Cond.instanceMethod yX2_sort, Cond.selects RX2 yX2_sort yX2_sort, Cond.code yX2_sort cX2_sort 4 (some .int), Cond.fieldLink RX2 38 "ParcelChutesModel" "thrown" "I", Cond.methodLink RX2 74 yX2_isChute, Cond.static yX2_isChute, Cond.code yX2_isChute cX2_isChute 1 (some .boolean), Cond.methodLink RX2 42 yX2_isWithin, Cond.static yX2_isWithin, Cond.code yX2_isWithin cX2_isWithin 2 (some .boolean), Cond.methodLink RX2 78 yX2_many]
def wsL_law0_r4 : List Cond := [Cond.instanceMethod yX2_many, Cond.selects RX2 yX2_many yX2_many, Cond.code yX2_many cX2_many 4 (some .int), Cond.methodLink RL 80 yX2_thrown, Cond.instanceMethod yX2_thrown, Cond.selects RX2 yX2_thrown yX2_thrown, Cond.code yX2_thrown cX2_thrown 1 (some .int), Cond.methodLink RL 84 yL_limits, Cond.static yL_limits, Cond.codeWith yL_limits cL_limits 7 (some .int) [(0, 14, 17, 13), (0, 14, 21, 15), (0, 14, 25, 17)], Cond.methodLink RL 19 yX1_limits, Cond.instanceMethod yX1_limits, Cond.selects RX1 yX1_limits yX1_limits, Cond.code yX1_limits cX1_limits 6 (some .int), Cond.fieldLink RX1 52 "ParcelChutes$Chute" "low" "I", Cond.fieldLink RX1 55 "ParcelChutes$Chute" "high" "I", Cond.fieldLink RX1 58 "ParcelChutes$Chute" "wide" "I", Cond.methodLink RX1 39 yX1_requireWeight, Cond.static yX1_requireWeight, Cond.code yX1_requireWeight cX1_requireWeight 1 none, Cond.constant RX1 154 (800000), Cond.methodLink RX1 43 yX1_requireGirth, Cond.static yX1_requireGirth, Cond.code yX1_requireGirth cX1_requireGirth 1 none]
def wsL_law0_r5 : List Cond := [Cond.methodLink RX1 46 yX1_holds, Cond.static yX1_holds, Cond.code yX1_holds cX1_holds 3 (some .boolean), Cond.methodLink RX1 83 yX1_signsBetween, Cond.static yX1_signsBetween, Cond.code yX1_signsBetween cX1_signsBetween 2 (some .int), Cond.methodLink RX1 61 yX1_oneIf, Cond.static yX1_oneIf, Cond.code yX1_oneIf cX1_oneIf 1 (some .int), Cond.methodLink RL 87 yX2_limits, Cond.instanceMethod yX2_limits, Cond.selects RX2 yX2_limits yX2_limits, Cond.code yX2_limits cX2_limits 5 (some .int), Cond.constant RX2 46 (800000), Cond.methodLink RX2 51 yX2_holds, Cond.static yX2_holds, Cond.code yX2_holds cX2_holds 3 (some .boolean), Cond.methodLink RX2 47 yX2_signsOf, Cond.static yX2_signsOf, Cond.code yX2_signsOf cX2_signsOf 2 (some .int), Cond.methodLink RL 88 yL_shut, Cond.static yL_shut, Cond.codeWith yL_shut cL_shut 5 (some .int) [(0, 17, 20, 13)], Cond.methodLink RL 23 yX1_shut]
def wsL_law0_r6 : List Cond := [Cond.instanceMethod yX1_shut, Cond.selects RX1 yX1_shut yX1_shut, Cond.code yX1_shut cX1_shut 5 (some .boolean), Cond.fieldLink RX1 65 "ParcelChutes$Chute" "closed" "Z", Cond.methodLink RL 91 yX2_shut, Cond.instanceMethod yX2_shut, Cond.selects RX2 yX2_shut yX2_shut, Cond.code yX2_shut cX2_shut 4 (some .boolean), Cond.methodLink RL 92 yL_send, Cond.static yL_send, Cond.codeWith yL_send cL_send 5 (some .int) [(0, 10, 13, 15)], Cond.methodLink RL 27 yX1_send, Cond.instanceMethod yX1_send, Cond.selects RX1 yX1_send yX1_send, Cond.code yX1_send cX1_send 4 (some .int), Cond.methodLink RX1 69 yX1_readGauges, Cond.instanceMethod yX1_readGauges, Cond.selects RX1 yX1_readGauges yX1_readGauges, Cond.code yX1_readGauges cX1_readGauges 3 none, Cond.fieldLink RX1 122 "ParcelChutes" "lightest" "I", Cond.fieldLink RX1 125 "ParcelChutes" "heaviest" "I", Cond.fieldLink RX1 128 "ParcelChutes" "widest" "I", Cond.fieldLink RX1 151 "ParcelChutes" "latestWeight" "I", Cond.fieldLink RX1 131 "ParcelChutes" "streak" "I"]
def wsL_law0_r7 : List Cond := [Cond.fieldLink RX1 134 "ParcelChutes" "came" "I", Cond.methodLink RX1 73 yX0_admit, Cond.instanceMethod yX0_admit, Cond.selects RX0 yX0_admit yX0_admit, Cond.code yX0_admit cX0_admit 5 (some .boolean), Cond.fieldLink RX0 35 "ParcelChutes$Chute" "count" "I", Cond.methodLink RX0 38 yX0_suits, Cond.instanceMethod yX0_suits, Cond.selects RX0 yX0_suits yX0_suits, Cond.code yX0_suits cX0_suits 3 (some .boolean), Cond.fieldLink RX0 18 "ParcelChutes$Chute" "kind" "I", Cond.fieldLink RX0 22 "ParcelChutes$Chute" "low" "I", Cond.fieldLink RX0 29 "ParcelChutes$Chute" "high" "I", Cond.fieldLink RX0 32 "ParcelChutes$Chute" "wide" "I", Cond.methodLink RX0 42 yX0_placeFor, Cond.instanceMethod yX0_placeFor, Cond.selects RX0 yX0_placeFor yX0_placeFor, Cond.code yX0_placeFor cX0_placeFor 3 (some .int), Cond.methodLink RX1 77 yX1_putAside, Cond.instanceMethod yX1_putAside, Cond.selects RX1 yX1_putAside yX1_putAside, Cond.code yX1_putAside cX1_putAside 3 none, Cond.fieldLink RX1 137 "ParcelChutes" "asideCount" "I", Cond.fieldLink RX1 140 "ParcelChutes" "asideWeight" "I"]
def wsL_law0_r8 : List Cond := [Cond.fieldLink RX1 143 "ParcelChutes" "asideGirth" "I", Cond.methodLink RL 94 yX2_send, Cond.instanceMethod yX2_send, Cond.selects RX2 yX2_send yX2_send, Cond.code yX2_send cX2_send 4 (some .int), Cond.methodLink RX2 99 yX2_isParcel, Cond.static yX2_isParcel, Cond.code yX2_isParcel cX2_isParcel 2 (some .boolean), Cond.methodLink RX2 102 yX2_gaugeAll, Cond.instanceMethod yX2_gaugeAll, Cond.selects RX2 yX2_gaugeAll yX2_gaugeAll, Cond.code yX2_gaugeAll cX2_gaugeAll 3 none, Cond.fieldLink RX2 81 "ParcelChutesModel" "sent" "I", Cond.fieldLink RX2 84 "ParcelChutesModel" "before" "I", Cond.fieldLink RX2 87 "ParcelChutesModel" "streak" "I", Cond.fieldLink RX2 90 "ParcelChutesModel" "lightest" "I", Cond.fieldLink RX2 93 "ParcelChutesModel" "heaviest" "I", Cond.fieldLink RX2 96 "ParcelChutesModel" "widest" "I", Cond.methodLink RX2 106 yX2_fitsChute, Cond.instanceMethod yX2_fitsChute, Cond.selects RX2 yX2_fitsChute yX2_fitsChute, Cond.code yX2_fitsChute cX2_fitsChute 4 (some .boolean), Cond.methodLink RX2 109 yX2_putIn, Cond.instanceMethod yX2_putIn]
def wsL_law0_r9 : List Cond := [Cond.selects RX2 yX2_putIn yX2_putIn, Cond.code yX2_putIn cX2_putIn 5 none, Cond.fieldLink RX2 62 "ParcelChutesModel" "clock" "I", Cond.methodLink RX2 113 yX2_putAside, Cond.instanceMethod yX2_putAside, Cond.selects RX2 yX2_putAside yX2_putAside, Cond.code yX2_putAside cX2_putAside 3 none, Cond.fieldLink RX2 65 "ParcelChutesModel" "lost" "I", Cond.fieldLink RX2 68 "ParcelChutesModel" "lostWeight" "I", Cond.fieldLink RX2 71 "ParcelChutesModel" "lostGirth" "I", Cond.methodLink RL 95 yL_fits, Cond.static yL_fits, Cond.codeWith yL_fits cL_fits 5 (some .int) [(0, 10, 13, 15)], Cond.methodLink RL 30 yX1_fits, Cond.instanceMethod yX1_fits, Cond.selects RX1 yX1_fits yX1_fits, Cond.code yX1_fits cX1_fits 5 (some .int), Cond.methodLink RX1 80 yX0_suits, Cond.methodLink RL 97 yX2_fits, Cond.instanceMethod yX2_fits, Cond.selects RX2 yX2_fits yX2_fits, Cond.code yX2_fits cX2_fits 5 (some .int), Cond.methodLink RL 98 yL_signs, Cond.static yL_signs]
def wsL_law0_r10 : List Cond := [Cond.codeWith yL_signs cL_signs 6 (some .int) [(0, 12, 15, 13), (0, 12, 19, 15)], Cond.methodLink RL 33 yX1_signs, Cond.instanceMethod yX1_signs, Cond.selects RX1 yX1_signs yX1_signs, Cond.code yX1_signs cX1_signs 5 (some .int), Cond.methodLink RL 101 yX2_signs, Cond.instanceMethod yX2_signs, Cond.selects RX2 yX2_signs yX2_signs, Cond.code yX2_signs cX2_signs 4 (some .int), Cond.methodLink RL 102 yL_chute, Cond.static yL_chute, Cond.codeWith yL_chute cL_chute 5 (some .int) [(0, 10, 13, 13), (0, 10, 17, 15)], Cond.methodLink RL 37 yX1_chute, Cond.instanceMethod yX1_chute, Cond.selects RX1 yX1_chute yX1_chute, Cond.code yX1_chute cX1_chute 4 (some .int), Cond.fieldLink RX1 89 "ParcelChutes$Chute" "weights" "[I", Cond.fieldLink RX1 97 "ParcelChutes$Chute" "girths" "[I", Cond.methodLink RX1 93 yX0_unknownIn, Cond.instanceMethod yX0_unknownIn, Cond.selects RX0 yX0_unknownIn yX0_unknownIn, Cond.code yX0_unknownIn cX0_unknownIn 4 (some .int), Cond.methodLink RL 104 yX2_chute, Cond.instanceMethod yX2_chute]
def wsL_law0_r11 : List Cond := [Cond.selects RX2 yX2_chute yX2_chute, Cond.code yX2_chute cX2_chute 3 (some .int), Cond.methodLink RX2 116 yX2_unknownIn, Cond.instanceMethod yX2_unknownIn, Cond.selects RX2 yX2_unknownIn yX2_unknownIn, Cond.code yX2_unknownIn cX2_unknownIn 5 (some .int), Cond.methodLink RL 105 yL_weight, Cond.static yL_weight, Cond.codeWith yL_weight cL_weight 5 (some .int) [(0, 10, 13, 13), (0, 10, 17, 43)], Cond.classLink RL 43 "java/util/NoSuchElementException", Cond.methodLink RL 40 yX1_weight, Cond.instanceMethod yX1_weight, Cond.selects RX1 yX1_weight yX1_weight, Cond.code yX1_weight cX1_weight 4 (some .int), Cond.methodLink RX1 100 yX1_requirePlace, Cond.static yX1_requirePlace, Cond.code yX1_requirePlace cX1_requirePlace 2 none, Cond.classLink RX1 159 "java/util/NoSuchElementException", Cond.initialized "java/util/NoSuchElementException", Cond.methodLink RL 107 yX2_weight, Cond.instanceMethod yX2_weight, Cond.selects RX2 yX2_weight yX2_weight, Cond.code yX2_weight cX2_weight 4 (some .int), Cond.methodLink RX2 123 yX2_askedFor]
def wsL_law0_r12 : List Cond := [Cond.instanceMethod yX2_askedFor, Cond.selects RX2 yX2_askedFor yX2_askedFor, Cond.code yX2_askedFor cX2_askedFor 4 (some .int), Cond.methodLink RX2 120 yX2_parcelAt, Cond.instanceMethod yX2_parcelAt, Cond.selects RX2 yX2_parcelAt yX2_parcelAt, Cond.code yX2_parcelAt cX2_parcelAt 4 (some .int), Cond.methodLink RX2 58 yX2_placeOf, Cond.instanceMethod yX2_placeOf, Cond.selects RX2 yX2_placeOf yX2_placeOf, Cond.code yX2_placeOf cX2_placeOf 4 (some .int), Cond.methodLink RX2 55 yX2_isAhead, Cond.instanceMethod yX2_isAhead, Cond.selects RX2 yX2_isAhead yX2_isAhead, Cond.code yX2_isAhead cX2_isAhead 4 (some .boolean), Cond.methodLink RL 108 yL_girth, Cond.static yL_girth, Cond.codeWith yL_girth cL_girth 5 (some .int) [(0, 10, 13, 13), (0, 10, 17, 43)], Cond.methodLink RL 45 yX1_girth, Cond.instanceMethod yX1_girth, Cond.selects RX1 yX1_girth yX1_girth, Cond.code yX1_girth cX1_girth 4 (some .int), Cond.methodLink RL 110 yX2_girth, Cond.instanceMethod yX2_girth]
def wsL_law0_r13 : List Cond := [Cond.selects RX2 yX2_girth yX2_girth, Cond.code yX2_girth cX2_girth 4 (some .int), Cond.methodLink RL 111 yL_below, Cond.static yL_below, Cond.codeWith yL_below cL_below 5 (some .int) [(0, 10, 13, 13), (0, 10, 17, 15)], Cond.methodLink RL 48 yX1_below, Cond.instanceMethod yX1_below, Cond.selects RX1 yX1_below yX1_below, Cond.code yX1_below cX1_below 6 (some .int), Cond.methodLink RL 113 yX2_below, Cond.instanceMethod yX2_below, Cond.selects RX2 yX2_below yX2_below, Cond.code yX2_below cX2_below 5 (some .int), Cond.methodLink RL 114 yL_take, Cond.static yL_take, Cond.codeWith yL_take cL_take 5 (some .int) [(0, 10, 13, 13), (0, 10, 17, 15), (0, 10, 21, 43)], Cond.methodLink RL 51 yX1_take, Cond.instanceMethod yX1_take, Cond.selects RX1 yX1_take yX1_take, Cond.code yX1_take cX1_take 6 (some .int), Cond.methodLink RX1 104 yX0_firstOf, Cond.instanceMethod yX0_firstOf, Cond.selects RX0 yX0_firstOf yX0_firstOf, Cond.code yX0_firstOf cX0_firstOf 3 (some .int)]
def wsL_law0_r14 : List Cond := [Cond.methodLink RX1 108 yX0_removeAt, Cond.instanceMethod yX0_removeAt, Cond.selects RX0 yX0_removeAt yX0_removeAt, Cond.code yX0_removeAt cX0_removeAt 3 none, Cond.methodLink RL 116 yX2_take, Cond.instanceMethod yX2_take, Cond.selects RX2 yX2_take yX2_take, Cond.code yX2_take cX2_take 5 (some .int), Cond.methodLink RL 117 yL_pour, Cond.static yL_pour, Cond.codeWith yL_pour cL_pour 5 (some .int) [(0, 10, 13, 13), (0, 10, 17, 15)], Cond.methodLink RL 54 yX1_pour, Cond.instanceMethod yX1_pour, Cond.selects RX1 yX1_pour yX1_pour, Cond.code yX1_pour cX1_pour 8 (some .int), Cond.methodLink RL 119 yX2_pour, Cond.instanceMethod yX2_pour, Cond.selects RX2 yX2_pour yX2_pour, Cond.code yX2_pour cX2_pour 8 (some .int), Cond.methodLink RL 120 yL_sweep, Cond.static yL_sweep, Cond.codeWith yL_sweep cL_sweep 4 (some .int) [(0, 9, 12, 13)], Cond.methodLink RL 57 yX1_sweep, Cond.instanceMethod yX1_sweep]
def wsL_law0_r15 : List Cond := [Cond.selects RX1 yX1_sweep yX1_sweep, Cond.code yX1_sweep cX1_sweep 6 (some .int), Cond.methodLink RL 123 yX2_sweep, Cond.instanceMethod yX2_sweep, Cond.selects RX2 yX2_sweep yX2_sweep, Cond.code yX2_sweep cX2_sweep 6 (some .int), Cond.methodLink RL 124 yL_heavier, Cond.static yL_heavier, Cond.codeWith yL_heavier cL_heavier 5 (some .int) [(0, 10, 13, 13)], Cond.methodLink RL 61 yX1_heavier, Cond.instanceMethod yX1_heavier, Cond.selects RX1 yX1_heavier yX1_heavier, Cond.code yX1_heavier cX1_heavier 5 (some .int), Cond.methodLink RX1 113 yX0_heaviestKnown, Cond.instanceMethod yX0_heaviestKnown, Cond.selects RX0 yX0_heaviestKnown yX0_heaviestKnown, Cond.code yX0_heaviestKnown cX0_heaviestKnown 2 (some .int), Cond.methodLink RX0 50 yX0_unknownIn, Cond.methodLink RL 126 yX2_heavier, Cond.instanceMethod yX2_heavier, Cond.selects RX2 yX2_heavier yX2_heavier, Cond.code yX2_heavier cX2_heavier 4 (some .int), Cond.methodLink RX2 126 yX2_heaviestIn, Cond.instanceMethod yX2_heaviestIn]
def wsL_law0_r16 : List Cond := [Cond.selects RX2 yX2_heaviestIn yX2_heaviestIn, Cond.code yX2_heaviestIn cX2_heaviestIn 4 (some .int), Cond.methodLink RL 127 yL_alike, Cond.static yL_alike, Cond.codeWith yL_alike cL_alike 5 (some .int) [(0, 10, 13, 13)], Cond.methodLink RL 64 yX1_alike, Cond.instanceMethod yX1_alike, Cond.selects RX1 yX1_alike yX1_alike, Cond.code yX1_alike cX1_alike 7 (some .int), Cond.methodLink RX1 117 Lib.Math.min.name, Cond.static Lib.Math.min.name, Cond.initialized "java/lang/Math", Cond.code Lib.Math.min.name Lib.Math.min.code 2 (some .int), Cond.methodLink RL 129 yX2_alike, Cond.instanceMethod yX2_alike, Cond.selects RX2 yX2_alike yX2_alike, Cond.code yX2_alike cX2_alike 6 (some .int), Cond.methodLink RL 130 yL_gauge, Cond.static yL_gauge, Cond.codeWith yL_gauge cL_gauge 4 (some .int) [(0, 9, 12, 15)], Cond.methodLink RL 67 yX1_gauge, Cond.instanceMethod yX1_gauge, Cond.selects RX1 yX1_gauge yX1_gauge, Cond.code yX1_gauge cX1_gauge 2 (some .int)]
def wsL_law0_r17 : List Cond := [Cond.methodLink RL 132 yX2_gauge, Cond.instanceMethod yX2_gauge, Cond.selects RX2 yX2_gauge yX2_gauge, Cond.code yX2_gauge cX2_gauge 2 (some .int)]
def wsL_law0 : List Cond := (wsL_law0_r1 ++ (wsL_law0_r2 ++ (wsL_law0_r3 ++ (wsL_law0_r4 ++ (wsL_law0_r5 ++ (wsL_law0_r6 ++ (wsL_law0_r7 ++ (wsL_law0_r8 ++ (wsL_law0_r9 ++ (wsL_law0_r10 ++ (wsL_law0_r11 ++ (wsL_law0_r12 ++ (wsL_law0_r13 ++ (wsL_law0_r14 ++ (wsL_law0_r15 ++ (wsL_law0_r16 ++ wsL_law0_r17)))))))))))))))) ++ wsX10 ++ wsX20 ++ wsX00 ++ ([] : List Cond)
def wsL_law : List Cond := wsL_law0 ++ (vx_atS RX1 24 "java/lang/IllegalArgumentException" ["java/lang/RuntimeException", "java/lang/Exception"]).filter goodWord ++ (vx_atS RX1 35 "java/lang/IllegalStateException" ["java/lang/RuntimeException", "java/lang/Exception"]).filter goodWord ++ (vx_atS RX1 150 "java/lang/IndexOutOfBoundsException" ["java/lang/RuntimeException", "java/lang/Exception"]).filter goodWord ++ (vy_atS RX1 163 "java/util/NoSuchElementException" ["java/lang/RuntimeException", "java/lang/Exception"]).filter goodWord
end
section
theorem mem_ps {big : List Cond} (ws : List Cond) (ps : List Nat) (hp : ws = ps.filterMap (fun i => big[i]?)) : ∀ w ∈ ws, w ∈ big := by
  intro w hw
  rw [hp] at hw
  obtain ⟨i, -, hi⟩ := List.mem_filterMap.mp hw
  exact List.mem_of_getElem? hi
set_option maxRecDepth 20000 in
theorem in_wsL_law0_r1 : ∀ w ∈ wsL_law0_r1, w ∈ lw_tbl := mem_ps _ [27, 28, 16, 410, 411, 18, 606, 29, 30, 31, 32, 33, 34, 35, 75, 37, 17, 39, 40, 41, 74, 42, 44, 412] (by rfl)
set_option maxRecDepth 20000 in
theorem in_wsL_law0_r2 : ∀ w ∈ wsL_law0_r2, w ∈ lw_tbl := mem_ps _ [413, 414, 415, 417, 418, 419, 420, 422, 423, 424, 425, 477, 426, 106, 107, 15, 108, 109, 110, 111, 112, 113, 114, 115] (by rfl)
set_option maxRecDepth 20000 in
theorem in_wsL_law0_r3 : ∀ w ∈ wsL_law0_r3, w ∈ lw_tbl := mem_ps _ [189, 23, 205, 24, 46, 49, 116, 118, 0, 119, 120, 22, 482, 483, 484, 485, 416, 486, 487, 488, 489, 490, 491, 492] (by rfl)
set_option maxRecDepth 20000 in
theorem in_wsL_law0_r4 : ∀ w ∈ wsL_law0_r4, w ∈ lw_tbl := mem_ps _ [494, 4, 495, 478, 479, 480, 481, 221, 222, 223, 224, 225, 226, 227, 51, 53, 55, 228, 229, 230, 231, 233, 234, 235] (by rfl)
set_option maxRecDepth 20000 in
theorem in_wsL_law0_r5 : ∀ w ∈ wsL_law0_r5, w ∈ lw_tbl := mem_ps _ [237, 238, 239, 240, 241, 242, 244, 245, 246, 496, 497, 498, 499, 500, 501, 502, 503, 504, 505, 506, 247, 248, 249, 250] (by rfl)
set_option maxRecDepth 20000 in
theorem in_wsL_law0_r6 : ∀ w ∈ wsL_law0_r6, w ∈ lw_tbl := mem_ps _ [251, 252, 253, 56, 507, 508, 509, 510, 254, 255, 256, 257, 258, 259, 260, 261, 263, 2, 264, 76, 77, 78, 81, 79] (by rfl)
set_option maxRecDepth 20000 in
theorem in_wsL_law0_r7 : ∀ w ∈ wsL_law0_r7, w ∈ lw_tbl := mem_ps _ [80, 265, 266, 267, 268, 47, 269, 270, 271, 272, 48, 50, 52, 54, 274, 275, 276, 277, 278, 280, 3, 281, 82, 83] (by rfl)
set_option maxRecDepth 20000 in
theorem in_wsL_law0_r8 : ∀ w ∈ wsL_law0_r8, w ∈ lw_tbl := mem_ps _ [84, 511, 512, 513, 514, 515, 516, 517, 518, 520, 5, 521, 432, 431, 430, 427, 428, 429, 522, 524, 6, 525, 526, 528] (by rfl)
set_option maxRecDepth 20000 in
theorem in_wsL_law0_r9 : ∀ w ∈ wsL_law0_r9, w ∈ lw_tbl := mem_ps _ [7, 529, 421, 530, 532, 8, 533, 433, 434, 435, 282, 283, 284, 285, 286, 287, 288, 289, 534, 535, 536, 537, 290, 291] (by rfl)
set_option maxRecDepth 20000 in
theorem in_wsL_law0_r10 : ∀ w ∈ wsL_law0_r10, w ∈ lw_tbl := mem_ps _ [292, 293, 294, 295, 296, 538, 539, 540, 541, 298, 299, 300, 301, 302, 303, 304, 43, 45, 305, 306, 307, 308, 542, 543] (by rfl)
set_option maxRecDepth 20000 in
theorem in_wsL_law0_r11 : ∀ w ∈ wsL_law0_r11, w ∈ lw_tbl := mem_ps _ [544, 545, 546, 548, 9, 549, 310, 311, 312, 313, 314, 315, 316, 317, 318, 319, 320, 321, 25, 550, 551, 552, 553, 554] (by rfl)
set_option maxRecDepth 20000 in
theorem in_wsL_law0_r12 : ∀ w ∈ wsL_law0_r12, w ∈ lw_tbl := mem_ps _ [556, 10, 557, 558, 560, 11, 561, 562, 564, 12, 565, 566, 568, 13, 569, 337, 338, 339, 340, 341, 342, 343, 570, 571] (by rfl)
set_option maxRecDepth 20000 in
theorem in_wsL_law0_r13 : ∀ w ∈ wsL_law0_r13, w ∈ lw_tbl := mem_ps _ [572, 573, 344, 345, 346, 347, 348, 349, 350, 574, 575, 576, 577, 351, 352, 353, 354, 355, 356, 357, 358, 359, 360, 361] (by rfl)
set_option maxRecDepth 20000 in
theorem in_wsL_law0_r14 : ∀ w ∈ wsL_law0_r14, w ∈ lw_tbl := mem_ps _ [362, 363, 364, 365, 578, 579, 580, 581, 366, 367, 368, 369, 370, 371, 372, 582, 583, 584, 585, 374, 375, 376, 377, 378] (by rfl)
set_option maxRecDepth 20000 in
theorem in_wsL_law0_r15 : ∀ w ∈ wsL_law0_r15, w ∈ lw_tbl := mem_ps _ [379, 380, 586, 587, 588, 589, 381, 382, 383, 384, 385, 386, 387, 388, 389, 390, 391, 392, 590, 591, 592, 593, 594, 596] (by rfl)
set_option maxRecDepth 20000 in
theorem in_wsL_law0_r16 : ∀ w ∈ wsL_law0_r16, w ∈ lw_tbl := mem_ps _ [14, 597, 393, 394, 395, 396, 397, 398, 399, 400, 401, 26, 402, 598, 599, 600, 601, 403, 404, 405, 406, 407, 408, 409] (by rfl)
set_option maxRecDepth 20000 in
theorem in_wsL_law0_r17 : ∀ w ∈ wsL_law0_r17, w ∈ lw_tbl := mem_ps _ [602, 603, 604, 605] (by rfl)
set_option maxRecDepth 20000 in
theorem in_wsX10 : ∀ w ∈ wsX10, w ∈ lw_tbl := mem_ps _ [85, 87, 89, 91, 93, 95, 97, 99, 101, 103] (by rfl)
set_option maxRecDepth 20000 in
theorem in_wsX20 : ∀ w ∈ wsX20, w ∈ lw_tbl := mem_ps _ [436, 438, 440, 442, 444, 446, 448, 450, 452, 454, 456, 458, 460, 462, 464, 466, 468, 470, 472, 474] (by rfl)
set_option maxRecDepth 20000 in
theorem in_wsX00 : ∀ w ∈ wsX00, w ∈ lw_tbl := mem_ps _ [57, 59, 61, 63, 65, 67, 69, 71] (by rfl)
theorem wsL_law_in0 : ∀ w ∈ wsL_law0, w ∈ lw_tbl := fun w h => (List.mem_append.mp h).elim (fun h => (List.mem_append.mp h).elim (fun h => (List.mem_append.mp h).elim (fun h => (List.mem_append.mp h).elim (fun h => (List.mem_append.mp h).elim (fun h => in_wsL_law0_r1 w h) (fun h => (List.mem_append.mp h).elim (fun h => in_wsL_law0_r2 w h) (fun h => (List.mem_append.mp h).elim (fun h => in_wsL_law0_r3 w h) (fun h => (List.mem_append.mp h).elim (fun h => in_wsL_law0_r4 w h) (fun h => (List.mem_append.mp h).elim (fun h => in_wsL_law0_r5 w h) (fun h => (List.mem_append.mp h).elim (fun h => in_wsL_law0_r6 w h) (fun h => (List.mem_append.mp h).elim (fun h => in_wsL_law0_r7 w h) (fun h => (List.mem_append.mp h).elim (fun h => in_wsL_law0_r8 w h) (fun h => (List.mem_append.mp h).elim (fun h => in_wsL_law0_r9 w h) (fun h => (List.mem_append.mp h).elim (fun h => in_wsL_law0_r10 w h) (fun h => (List.mem_append.mp h).elim (fun h => in_wsL_law0_r11 w h) (fun h => (List.mem_append.mp h).elim (fun h => in_wsL_law0_r12 w h) (fun h => (List.mem_append.mp h).elim (fun h => in_wsL_law0_r13 w h) (fun h => (List.mem_append.mp h).elim (fun h => in_wsL_law0_r14 w h) (fun h => (List.mem_append.mp h).elim (fun h => in_wsL_law0_r15 w h) (fun h => (List.mem_append.mp h).elim (fun h => in_wsL_law0_r16 w h) (fun h => in_wsL_law0_r17 w h))))))))))))))))) (fun h => in_wsX10 w h)) (fun h => in_wsX20 w h)) (fun h => in_wsX00 w h)) (fun h => absurd h List.not_mem_nil)
theorem wsL_law_x0 : ∀ w ∈ (vx_atS RX1 24 "java/lang/IllegalArgumentException" ["java/lang/RuntimeException", "java/lang/Exception"]).filter goodWord, w ∈ lw_tbl := by decide +kernel
theorem wsL_law_x1 : ∀ w ∈ (vx_atS RX1 35 "java/lang/IllegalStateException" ["java/lang/RuntimeException", "java/lang/Exception"]).filter goodWord, w ∈ lw_tbl := by decide +kernel
theorem wsL_law_x2 : ∀ w ∈ (vx_atS RX1 150 "java/lang/IndexOutOfBoundsException" ["java/lang/RuntimeException", "java/lang/Exception"]).filter goodWord, w ∈ lw_tbl := by decide +kernel
theorem wsL_law_x3 : ∀ w ∈ (vy_atS RX1 163 "java/util/NoSuchElementException" ["java/lang/RuntimeException", "java/lang/Exception"]).filter goodWord, w ∈ lw_tbl := by decide +kernel
theorem wsL_law_in : ∀ w ∈ wsL_law, w ∈ lw_tbl := fun w h => (List.mem_append.mp h).elim (fun h => (List.mem_append.mp h).elim (fun h => (List.mem_append.mp h).elim (fun h => (List.mem_append.mp h).elim (fun h => wsL_law_in0 w h) (fun h => wsL_law_x0 w h)) (fun h => wsL_law_x1 w h)) (fun h => wsL_law_x2 w h)) (fun h => wsL_law_x3 w h)
theorem inlX0 : ∀ w ∈ wsX00, w ∈ wsL_law := fun _ h => List.mem_append_left _ (List.mem_append_left _ (List.mem_append_left _ (List.mem_append_left _ (List.mem_append_left _ (List.mem_append_right _ h)))))
theorem inX0 : ∀ w ∈ wsX00, w ∈ lw_tbl := fun w h => wsL_law_in w (inlX0 w h)
theorem inlX1 : ∀ w ∈ wsX10, w ∈ wsL_law := fun _ h => List.mem_append_left _ (List.mem_append_left _ (List.mem_append_left _ (List.mem_append_left _ (List.mem_append_left _ (List.mem_append_left _ (List.mem_append_left _ (List.mem_append_right _ h)))))))
theorem inX1 : ∀ w ∈ wsX10, w ∈ lw_tbl := fun w h => wsL_law_in w (inlX1 w h)
theorem inlX2 : ∀ w ∈ wsX20, w ∈ wsL_law := fun _ h => List.mem_append_left _ (List.mem_append_left _ (List.mem_append_left _ (List.mem_append_left _ (List.mem_append_left _ (List.mem_append_left _ (List.mem_append_right _ h))))))
theorem inX2 : ∀ w ∈ wsX20, w ∈ lw_tbl := fun w h => wsL_law_in w (inlX2 w h)
theorem inJ9 : ∀ w ∈ wsJ90, w ∈ lw_tbl := by decide +kernel
theorem inJ0 : ∀ w ∈ wsJ00, w ∈ lw_tbl := by decide +kernel
end
section
theorem dX0_init_0 : decode cX0_init 0 = .ok (.aload_n 0, 1) := by decide +kernel
theorem dX0_init_1 : decode cX0_init 1 = .ok (.invokespecial 3, 3) := by decide +kernel
theorem dX0_init_4 : decode cX0_init 4 = .ok (.aload_n 0, 1) := by decide +kernel
theorem dX0_init_5 : decode cX0_init 5 = .ok (.bipush 12, 2) := by decide +kernel
theorem dX0_init_7 : decode cX0_init 7 = .ok (.newarray .int, 2) := by decide +kernel
theorem dX0_init_9 : decode cX0_init 9 = .ok (.putfield 9, 3) := by decide +kernel
theorem dX0_init_12 : decode cX0_init 12 = .ok (.aload_n 0, 1) := by decide +kernel
theorem dX0_init_13 : decode cX0_init 13 = .ok (.bipush 12, 2) := by decide +kernel
theorem dX0_init_15 : decode cX0_init 15 = .ok (.newarray .int, 2) := by decide +kernel
theorem dX0_init_17 : decode cX0_init 17 = .ok (.putfield 15, 3) := by decide +kernel
theorem dX0_init_20 : decode cX0_init 20 = .ok (.return_, 1) := by decide +kernel
set_option maxRecDepth 20000 in
theorem ggX0_suits_X1_holds : GoodIn wsX0_suits wsX1_holds := goodIn_r _ [7, 8, 9, 6, 10] (by decide +kernel) (by decide +kernel)
set_option maxRecDepth 20000 in
theorem gX0_suits_X1_holds_n25 : GoodIn wsX0_suits (wsX1_holds) := ggX0_suits_X1_holds
theorem dX0_suits_0 : decode cX0_suits 0 = .ok (.aload_n 0, 1) := by decide +kernel
theorem dX0_suits_1 : decode cX0_suits 1 = .ok (.getfield 18, 3) := by decide +kernel
theorem dX0_suits_4 : decode cX0_suits 4 = .ok (.tableswitch 194 0 3 #[32, 74, 117, 149], 32) := by decide +kernel
theorem dX0_suits_36 : decode cX0_suits 36 = .ok (.aload_n 0, 1) := by decide +kernel
theorem dX0_suits_37 : decode cX0_suits 37 = .ok (.getfield 22, 3) := by decide +kernel
theorem dX0_suits_40 : decode cX0_suits 40 = .ok (.iconst 2, 1) := by decide +kernel
theorem dX0_suits_41 : decode cX0_suits 41 = .ok (.iload_n 1, 1) := by decide +kernel
theorem dX0_suits_42 : decode cX0_suits 42 = .ok (.invokestatic 25, 3) := by decide +kernel
theorem dX0_suits_45 : decode cX0_suits 45 = .ok (.ifCond .eq 31, 3) := by decide +kernel
theorem dX0_suits_48 : decode cX0_suits 48 = .ok (.iload_n 1, 1) := by decide +kernel
theorem dX0_suits_49 : decode cX0_suits 49 = .ok (.iconst 1, 1) := by decide +kernel
theorem dX0_suits_50 : decode cX0_suits 50 = .ok (.aload_n 0, 1) := by decide +kernel
theorem dX0_suits_51 : decode cX0_suits 51 = .ok (.getfield 29, 3) := by decide +kernel
theorem dX0_suits_54 : decode cX0_suits 54 = .ok (.invokestatic 25, 3) := by decide +kernel
theorem dX0_suits_57 : decode cX0_suits 57 = .ok (.ifCond .eq 19, 3) := by decide +kernel
theorem dX0_suits_60 : decode cX0_suits 60 = .ok (.iload_n 2, 1) := by decide +kernel
theorem dX0_suits_61 : decode cX0_suits 61 = .ok (.iconst 2, 1) := by decide +kernel
theorem dX0_suits_62 : decode cX0_suits 62 = .ok (.aload_n 0, 1) := by decide +kernel
theorem dX0_suits_63 : decode cX0_suits 63 = .ok (.getfield 32, 3) := by decide +kernel
theorem dX0_suits_66 : decode cX0_suits 66 = .ok (.invokestatic 25, 3) := by decide +kernel
theorem dX0_suits_69 : decode cX0_suits 69 = .ok (.ifCond .eq 7, 3) := by decide +kernel
theorem dX0_suits_72 : decode cX0_suits 72 = .ok (.iconst 1, 1) := by decide +kernel
theorem dX0_suits_73 : decode cX0_suits 73 = .ok (.goto 4, 3) := by decide +kernel
theorem dX0_suits_76 : decode cX0_suits 76 = .ok (.iconst 0, 1) := by decide +kernel
theorem dX0_suits_77 : decode cX0_suits 77 = .ok (.ireturn, 1) := by decide +kernel
theorem dX0_suits_78 : decode cX0_suits 78 = .ok (.iload_n 1, 1) := by decide +kernel
theorem dX0_suits_79 : decode cX0_suits 79 = .ok (.iconst 1, 1) := by decide +kernel
theorem dX0_suits_80 : decode cX0_suits 80 = .ok (.aload_n 0, 1) := by decide +kernel
theorem dX0_suits_81 : decode cX0_suits 81 = .ok (.getfield 22, 3) := by decide +kernel
theorem dX0_suits_84 : decode cX0_suits 84 = .ok (.invokestatic 25, 3) := by decide +kernel
theorem dX0_suits_87 : decode cX0_suits 87 = .ok (.ifCond .ne 32, 3) := by decide +kernel
theorem dX0_suits_90 : decode cX0_suits 90 = .ok (.iload_n 1, 1) := by decide +kernel
theorem dX0_suits_91 : decode cX0_suits 91 = .ok (.bipush 8, 2) := by decide +kernel
theorem dX0_suits_93 : decode cX0_suits 93 = .ok (.aload_n 0, 1) := by decide +kernel
theorem dX0_suits_94 : decode cX0_suits 94 = .ok (.getfield 29, 3) := by decide +kernel
theorem dX0_suits_97 : decode cX0_suits 97 = .ok (.invokestatic 25, 3) := by decide +kernel
theorem dX0_suits_100 : decode cX0_suits 100 = .ok (.ifCond .ne 19, 3) := by decide +kernel
theorem dX0_suits_103 : decode cX0_suits 103 = .ok (.iload_n 2, 1) := by decide +kernel
theorem dX0_suits_104 : decode cX0_suits 104 = .ok (.iconst 4, 1) := by decide +kernel
theorem dX0_suits_105 : decode cX0_suits 105 = .ok (.aload_n 0, 1) := by decide +kernel
theorem dX0_suits_106 : decode cX0_suits 106 = .ok (.getfield 32, 3) := by decide +kernel
theorem dX0_suits_109 : decode cX0_suits 109 = .ok (.invokestatic 25, 3) := by decide +kernel
theorem dX0_suits_112 : decode cX0_suits 112 = .ok (.ifCond .ne 7, 3) := by decide +kernel
theorem dX0_suits_115 : decode cX0_suits 115 = .ok (.iconst 1, 1) := by decide +kernel
theorem dX0_suits_116 : decode cX0_suits 116 = .ok (.goto 4, 3) := by decide +kernel
theorem dX0_suits_119 : decode cX0_suits 119 = .ok (.iconst 0, 1) := by decide +kernel
theorem dX0_suits_120 : decode cX0_suits 120 = .ok (.ireturn, 1) := by decide +kernel
theorem dX0_suits_121 : decode cX0_suits 121 = .ok (.iload_n 1, 1) := by decide +kernel
theorem dX0_suits_122 : decode cX0_suits 122 = .ok (.bipush 16, 2) := by decide +kernel
theorem dX0_suits_124 : decode cX0_suits 124 = .ok (.aload_n 0, 1) := by decide +kernel
theorem dX0_suits_125 : decode cX0_suits 125 = .ok (.getfield 22, 3) := by decide +kernel
theorem dX0_suits_128 : decode cX0_suits 128 = .ok (.invokestatic 25, 3) := by decide +kernel
theorem dX0_suits_131 : decode cX0_suits 131 = .ok (.ifCond .ne 16, 3) := by decide +kernel
theorem dX0_suits_134 : decode cX0_suits 134 = .ok (.iload_n 2, 1) := by decide +kernel
theorem dX0_suits_135 : decode cX0_suits 135 = .ok (.bipush 16, 2) := by decide +kernel
theorem dX0_suits_137 : decode cX0_suits 137 = .ok (.aload_n 0, 1) := by decide +kernel
theorem dX0_suits_138 : decode cX0_suits 138 = .ok (.getfield 32, 3) := by decide +kernel
theorem dX0_suits_141 : decode cX0_suits 141 = .ok (.invokestatic 25, 3) := by decide +kernel
theorem dX0_suits_144 : decode cX0_suits 144 = .ok (.ifCond .eq 7, 3) := by decide +kernel
theorem dX0_suits_147 : decode cX0_suits 147 = .ok (.iconst 1, 1) := by decide +kernel
theorem dX0_suits_148 : decode cX0_suits 148 = .ok (.goto 4, 3) := by decide +kernel
theorem dX0_suits_151 : decode cX0_suits 151 = .ok (.iconst 0, 1) := by decide +kernel
theorem dX0_suits_152 : decode cX0_suits 152 = .ok (.ireturn, 1) := by decide +kernel
theorem dX0_suits_153 : decode cX0_suits 153 = .ok (.iload_n 1, 1) := by decide +kernel
theorem dX0_suits_154 : decode cX0_suits 154 = .ok (.bipush 32, 2) := by decide +kernel
theorem dX0_suits_156 : decode cX0_suits 156 = .ok (.aload_n 0, 1) := by decide +kernel
theorem dX0_suits_157 : decode cX0_suits 157 = .ok (.getfield 22, 3) := by decide +kernel
theorem dX0_suits_160 : decode cX0_suits 160 = .ok (.invokestatic 25, 3) := by decide +kernel
theorem dX0_suits_163 : decode cX0_suits 163 = .ok (.ifCond .eq 33, 3) := by decide +kernel
theorem dX0_suits_166 : decode cX0_suits 166 = .ok (.iload_n 1, 1) := by decide +kernel
theorem dX0_suits_167 : decode cX0_suits 167 = .ok (.bipush 32, 2) := by decide +kernel
theorem dX0_suits_169 : decode cX0_suits 169 = .ok (.aload_n 0, 1) := by decide +kernel
theorem dX0_suits_170 : decode cX0_suits 170 = .ok (.getfield 29, 3) := by decide +kernel
theorem dX0_suits_173 : decode cX0_suits 173 = .ok (.invokestatic 25, 3) := by decide +kernel
theorem dX0_suits_176 : decode cX0_suits 176 = .ok (.ifCond .eq 20, 3) := by decide +kernel
theorem dX0_suits_179 : decode cX0_suits 179 = .ok (.iload_n 2, 1) := by decide +kernel
theorem dX0_suits_180 : decode cX0_suits 180 = .ok (.bipush 32, 2) := by decide +kernel
theorem dX0_suits_182 : decode cX0_suits 182 = .ok (.aload_n 0, 1) := by decide +kernel
theorem dX0_suits_183 : decode cX0_suits 183 = .ok (.getfield 32, 3) := by decide +kernel
theorem dX0_suits_186 : decode cX0_suits 186 = .ok (.invokestatic 25, 3) := by decide +kernel
theorem dX0_suits_189 : decode cX0_suits 189 = .ok (.ifCond .eq 7, 3) := by decide +kernel
theorem dX0_suits_192 : decode cX0_suits 192 = .ok (.iconst 1, 1) := by decide +kernel
theorem dX0_suits_193 : decode cX0_suits 193 = .ok (.goto 4, 3) := by decide +kernel
theorem dX0_suits_196 : decode cX0_suits 196 = .ok (.iconst 0, 1) := by decide +kernel
theorem dX0_suits_197 : decode cX0_suits 197 = .ok (.ireturn, 1) := by decide +kernel
theorem dX0_suits_198 : decode cX0_suits 198 = .ok (.iload_n 1, 1) := by decide +kernel
theorem dX0_suits_199 : decode cX0_suits 199 = .ok (.iconst 4, 1) := by decide +kernel
theorem dX0_suits_200 : decode cX0_suits 200 = .ok (.aload_n 0, 1) := by decide +kernel
theorem dX0_suits_201 : decode cX0_suits 201 = .ok (.getfield 29, 3) := by decide +kernel
theorem dX0_suits_204 : decode cX0_suits 204 = .ok (.invokestatic 25, 3) := by decide +kernel
theorem dX0_suits_207 : decode cX0_suits 207 = .ok (.ifCond .ne 28, 3) := by decide +kernel
theorem dX0_suits_210 : decode cX0_suits 210 = .ok (.iload_n 1, 1) := by decide +kernel
theorem dX0_suits_211 : decode cX0_suits 211 = .ok (.iconst 1, 1) := by decide +kernel
theorem dX0_suits_212 : decode cX0_suits 212 = .ok (.aload_n 0, 1) := by decide +kernel
theorem dX0_suits_213 : decode cX0_suits 213 = .ok (.getfield 22, 3) := by decide +kernel
theorem dX0_suits_216 : decode cX0_suits 216 = .ok (.invokestatic 25, 3) := by decide +kernel
theorem dX0_suits_219 : decode cX0_suits 219 = .ok (.ifCond .ne 16, 3) := by decide +kernel
theorem dX0_suits_222 : decode cX0_suits 222 = .ok (.iload_n 2, 1) := by decide +kernel
theorem dX0_suits_223 : decode cX0_suits 223 = .ok (.bipush 8, 2) := by decide +kernel
theorem dX0_suits_225 : decode cX0_suits 225 = .ok (.aload_n 0, 1) := by decide +kernel
theorem dX0_suits_226 : decode cX0_suits 226 = .ok (.getfield 32, 3) := by decide +kernel
theorem dX0_suits_229 : decode cX0_suits 229 = .ok (.invokestatic 25, 3) := by decide +kernel
theorem dX0_suits_232 : decode cX0_suits 232 = .ok (.ifCond .eq 7, 3) := by decide +kernel
theorem dX0_suits_235 : decode cX0_suits 235 = .ok (.iconst 1, 1) := by decide +kernel
theorem dX0_suits_236 : decode cX0_suits 236 = .ok (.goto 4, 3) := by decide +kernel
theorem dX0_suits_239 : decode cX0_suits 239 = .ok (.iconst 0, 1) := by decide +kernel
theorem dX0_suits_240 : decode cX0_suits 240 = .ok (.ireturn, 1) := by decide +kernel
set_option maxRecDepth 20000 in
theorem ggX0_admit_X0_suits : GoodIn wsX0_admit wsX0_suits := goodIn_r _ [8, 9, 10, 11, 12, 13, 14, 15, 16, 17, 18, 23, 24, 25, 26, 27, 28, 29, 30] (by decide +kernel) (by decide +kernel)
set_option maxRecDepth 20000 in
theorem gX0_admit_X0_suits : GoodIn wsX0_admit (wsV RX0 38 RX0 yX0_suits wsX0_suits) := goodIn_app (goodIn_of _ (by decide +kernel)) ggX0_admit_X0_suits
set_option maxRecDepth 20000 in
theorem ggX0_admit_X0_placeFor : GoodIn wsX0_admit wsX0_placeFor := goodIn_r _ [22, 1, 2, 13, 14, 15, 16, 17, 18, 23, 24, 25, 26, 27, 28, 29, 30] (by decide +kernel) (by decide +kernel)
set_option maxRecDepth 20000 in
theorem gX0_admit_X0_placeFor : GoodIn wsX0_admit (wsV RX0 42 RX0 yX0_placeFor wsX0_placeFor) := goodIn_app (goodIn_of _ (by decide +kernel)) ggX0_admit_X0_placeFor
theorem dX0_admit_0 : decode cX0_admit 0 = .ok (.aload_n 0, 1) := by decide +kernel
theorem dX0_admit_1 : decode cX0_admit 1 = .ok (.getfield 35, 3) := by decide +kernel
theorem dX0_admit_4 : decode cX0_admit 4 = .ok (.bipush 12, 2) := by decide +kernel
theorem dX0_admit_6 : decode cX0_admit 6 = .ok (.if_icmp .ge 12, 3) := by decide +kernel
theorem dX0_admit_9 : decode cX0_admit 9 = .ok (.aload_n 0, 1) := by decide +kernel
theorem dX0_admit_10 : decode cX0_admit 10 = .ok (.iload_n 1, 1) := by decide +kernel
theorem dX0_admit_11 : decode cX0_admit 11 = .ok (.iload_n 2, 1) := by decide +kernel
theorem dX0_admit_12 : decode cX0_admit 12 = .ok (.invokevirtual 38, 3) := by decide +kernel
theorem dX0_admit_15 : decode cX0_admit 15 = .ok (.ifCond .ne 5, 3) := by decide +kernel
theorem dX0_admit_18 : decode cX0_admit 18 = .ok (.iconst 0, 1) := by decide +kernel
theorem dX0_admit_19 : decode cX0_admit 19 = .ok (.ireturn, 1) := by decide +kernel
theorem dX0_admit_20 : decode cX0_admit 20 = .ok (.aload_n 0, 1) := by decide +kernel
theorem dX0_admit_21 : decode cX0_admit 21 = .ok (.iload_n 1, 1) := by decide +kernel
theorem dX0_admit_22 : decode cX0_admit 22 = .ok (.invokevirtual 42, 3) := by decide +kernel
theorem dX0_admit_25 : decode cX0_admit 25 = .ok (.istore_n 3, 1) := by decide +kernel
theorem dX0_admit_26 : decode cX0_admit 26 = .ok (.aload_n 0, 1) := by decide +kernel
theorem dX0_admit_27 : decode cX0_admit 27 = .ok (.getfield 35, 3) := by decide +kernel
theorem dX0_admit_30 : decode cX0_admit 30 = .ok (.istore 4, 2) := by decide +kernel
theorem dX0_admit_32 : decode cX0_admit 32 = .ok (.iload 4, 2) := by decide +kernel
theorem dX0_admit_34 : decode cX0_admit 34 = .ok (.iload_n 3, 1) := by decide +kernel
theorem dX0_admit_35 : decode cX0_admit 35 = .ok (.if_icmp .le 41, 3) := by decide +kernel
theorem dX0_admit_38 : decode cX0_admit 38 = .ok (.aload_n 0, 1) := by decide +kernel
theorem dX0_admit_39 : decode cX0_admit 39 = .ok (.getfield 9, 3) := by decide +kernel
theorem dX0_admit_42 : decode cX0_admit 42 = .ok (.iload 4, 2) := by decide +kernel
theorem dX0_admit_44 : decode cX0_admit 44 = .ok (.aload_n 0, 1) := by decide +kernel
theorem dX0_admit_45 : decode cX0_admit 45 = .ok (.getfield 9, 3) := by decide +kernel
theorem dX0_admit_48 : decode cX0_admit 48 = .ok (.iload 4, 2) := by decide +kernel
theorem dX0_admit_50 : decode cX0_admit 50 = .ok (.iconst 1, 1) := by decide +kernel
theorem dX0_admit_51 : decode cX0_admit 51 = .ok (.isub, 1) := by decide +kernel
theorem dX0_admit_52 : decode cX0_admit 52 = .ok (.iaload, 1) := by decide +kernel
theorem dX0_admit_53 : decode cX0_admit 53 = .ok (.iastore, 1) := by decide +kernel
theorem dX0_admit_54 : decode cX0_admit 54 = .ok (.aload_n 0, 1) := by decide +kernel
theorem dX0_admit_55 : decode cX0_admit 55 = .ok (.getfield 15, 3) := by decide +kernel
theorem dX0_admit_58 : decode cX0_admit 58 = .ok (.iload 4, 2) := by decide +kernel
theorem dX0_admit_60 : decode cX0_admit 60 = .ok (.aload_n 0, 1) := by decide +kernel
theorem dX0_admit_61 : decode cX0_admit 61 = .ok (.getfield 15, 3) := by decide +kernel
theorem dX0_admit_64 : decode cX0_admit 64 = .ok (.iload 4, 2) := by decide +kernel
theorem dX0_admit_66 : decode cX0_admit 66 = .ok (.iconst 1, 1) := by decide +kernel
theorem dX0_admit_67 : decode cX0_admit 67 = .ok (.isub, 1) := by decide +kernel
theorem dX0_admit_68 : decode cX0_admit 68 = .ok (.iaload, 1) := by decide +kernel
theorem dX0_admit_69 : decode cX0_admit 69 = .ok (.iastore, 1) := by decide +kernel
theorem dX0_admit_70 : decode cX0_admit 70 = .ok (.iinc 4 (-1), 3) := by decide +kernel
theorem dX0_admit_73 : decode cX0_admit 73 = .ok (.goto (-41), 3) := by decide +kernel
theorem dX0_admit_76 : decode cX0_admit 76 = .ok (.aload_n 0, 1) := by decide +kernel
theorem dX0_admit_77 : decode cX0_admit 77 = .ok (.getfield 9, 3) := by decide +kernel
theorem dX0_admit_80 : decode cX0_admit 80 = .ok (.iload_n 3, 1) := by decide +kernel
theorem dX0_admit_81 : decode cX0_admit 81 = .ok (.iload_n 1, 1) := by decide +kernel
theorem dX0_admit_82 : decode cX0_admit 82 = .ok (.iastore, 1) := by decide +kernel
theorem dX0_admit_83 : decode cX0_admit 83 = .ok (.aload_n 0, 1) := by decide +kernel
theorem dX0_admit_84 : decode cX0_admit 84 = .ok (.getfield 15, 3) := by decide +kernel
theorem dX0_admit_87 : decode cX0_admit 87 = .ok (.iload_n 3, 1) := by decide +kernel
theorem dX0_admit_88 : decode cX0_admit 88 = .ok (.iload_n 2, 1) := by decide +kernel
theorem dX0_admit_89 : decode cX0_admit 89 = .ok (.iastore, 1) := by decide +kernel
theorem dX0_admit_90 : decode cX0_admit 90 = .ok (.aload_n 0, 1) := by decide +kernel
theorem dX0_admit_91 : decode cX0_admit 91 = .ok (.dup, 1) := by decide +kernel
theorem dX0_admit_92 : decode cX0_admit 92 = .ok (.getfield 35, 3) := by decide +kernel
theorem dX0_admit_95 : decode cX0_admit 95 = .ok (.iconst 1, 1) := by decide +kernel
theorem dX0_admit_96 : decode cX0_admit 96 = .ok (.iadd, 1) := by decide +kernel
theorem dX0_admit_97 : decode cX0_admit 97 = .ok (.putfield 35, 3) := by decide +kernel
theorem dX0_admit_100 : decode cX0_admit 100 = .ok (.iconst 1, 1) := by decide +kernel
theorem dX0_admit_101 : decode cX0_admit 101 = .ok (.ireturn, 1) := by decide +kernel
set_option maxRecDepth 20000 in
theorem ggX0_placeFor_X1_holds : GoodIn wsX0_placeFor wsX1_holds := goodIn_r _ [5, 6, 7, 4, 8] (by decide +kernel) (by decide +kernel)
set_option maxRecDepth 20000 in
theorem gX0_placeFor_X1_holds_n25 : GoodIn wsX0_placeFor (wsX1_holds) := ggX0_placeFor_X1_holds
theorem dX0_placeFor_0 : decode cX0_placeFor 0 = .ok (.iload_n 1, 1) := by decide +kernel
theorem dX0_placeFor_1 : decode cX0_placeFor 1 = .ok (.ifCond .ne 8, 3) := by decide +kernel
theorem dX0_placeFor_4 : decode cX0_placeFor 4 = .ok (.aload_n 0, 1) := by decide +kernel
theorem dX0_placeFor_5 : decode cX0_placeFor 5 = .ok (.getfield 35, 3) := by decide +kernel
theorem dX0_placeFor_8 : decode cX0_placeFor 8 = .ok (.ireturn, 1) := by decide +kernel
theorem dX0_placeFor_9 : decode cX0_placeFor 9 = .ok (.iconst 0, 1) := by decide +kernel
theorem dX0_placeFor_10 : decode cX0_placeFor 10 = .ok (.istore_n 2, 1) := by decide +kernel
theorem dX0_placeFor_11 : decode cX0_placeFor 11 = .ok (.iload_n 2, 1) := by decide +kernel
theorem dX0_placeFor_12 : decode cX0_placeFor 12 = .ok (.aload_n 0, 1) := by decide +kernel
theorem dX0_placeFor_13 : decode cX0_placeFor 13 = .ok (.getfield 35, 3) := by decide +kernel
theorem dX0_placeFor_16 : decode cX0_placeFor 16 = .ok (.if_icmp .ge 23, 3) := by decide +kernel
theorem dX0_placeFor_19 : decode cX0_placeFor 19 = .ok (.aload_n 0, 1) := by decide +kernel
theorem dX0_placeFor_20 : decode cX0_placeFor 20 = .ok (.getfield 9, 3) := by decide +kernel
theorem dX0_placeFor_23 : decode cX0_placeFor 23 = .ok (.iload_n 2, 1) := by decide +kernel
theorem dX0_placeFor_24 : decode cX0_placeFor 24 = .ok (.iaload, 1) := by decide +kernel
theorem dX0_placeFor_25 : decode cX0_placeFor 25 = .ok (.iconst 2, 1) := by decide +kernel
theorem dX0_placeFor_26 : decode cX0_placeFor 26 = .ok (.iload_n 1, 1) := by decide +kernel
theorem dX0_placeFor_27 : decode cX0_placeFor 27 = .ok (.invokestatic 25, 3) := by decide +kernel
theorem dX0_placeFor_30 : decode cX0_placeFor 30 = .ok (.ifCond .eq 9, 3) := by decide +kernel
theorem dX0_placeFor_33 : decode cX0_placeFor 33 = .ok (.iinc 2 1, 3) := by decide +kernel
theorem dX0_placeFor_36 : decode cX0_placeFor 36 = .ok (.goto (-25), 3) := by decide +kernel
theorem dX0_placeFor_39 : decode cX0_placeFor 39 = .ok (.iload_n 2, 1) := by decide +kernel
theorem dX0_placeFor_40 : decode cX0_placeFor 40 = .ok (.ireturn, 1) := by decide +kernel
theorem dX0_firstOf_0 : decode cX0_firstOf 0 = .ok (.iconst 0, 1) := by decide +kernel
theorem dX0_firstOf_1 : decode cX0_firstOf 1 = .ok (.istore_n 2, 1) := by decide +kernel
theorem dX0_firstOf_2 : decode cX0_firstOf 2 = .ok (.iload_n 2, 1) := by decide +kernel
theorem dX0_firstOf_3 : decode cX0_firstOf 3 = .ok (.aload_n 0, 1) := by decide +kernel
theorem dX0_firstOf_4 : decode cX0_firstOf 4 = .ok (.getfield 35, 3) := by decide +kernel
theorem dX0_firstOf_7 : decode cX0_firstOf 7 = .ok (.if_icmp .ge 21, 3) := by decide +kernel
theorem dX0_firstOf_10 : decode cX0_firstOf 10 = .ok (.aload_n 0, 1) := by decide +kernel
theorem dX0_firstOf_11 : decode cX0_firstOf 11 = .ok (.getfield 9, 3) := by decide +kernel
theorem dX0_firstOf_14 : decode cX0_firstOf 14 = .ok (.iload_n 2, 1) := by decide +kernel
theorem dX0_firstOf_15 : decode cX0_firstOf 15 = .ok (.iaload, 1) := by decide +kernel
theorem dX0_firstOf_16 : decode cX0_firstOf 16 = .ok (.iload_n 1, 1) := by decide +kernel
theorem dX0_firstOf_17 : decode cX0_firstOf 17 = .ok (.if_icmp .ne 5, 3) := by decide +kernel
theorem dX0_firstOf_20 : decode cX0_firstOf 20 = .ok (.iload_n 2, 1) := by decide +kernel
theorem dX0_firstOf_21 : decode cX0_firstOf 21 = .ok (.ireturn, 1) := by decide +kernel
theorem dX0_firstOf_22 : decode cX0_firstOf 22 = .ok (.iinc 2 1, 3) := by decide +kernel
theorem dX0_firstOf_25 : decode cX0_firstOf 25 = .ok (.goto (-23), 3) := by decide +kernel
theorem dX0_firstOf_28 : decode cX0_firstOf 28 = .ok (.iconst (-1), 1) := by decide +kernel
theorem dX0_firstOf_29 : decode cX0_firstOf 29 = .ok (.ireturn, 1) := by decide +kernel
theorem dX0_removeAt_0 : decode cX0_removeAt 0 = .ok (.aload_n 0, 1) := by decide +kernel
theorem dX0_removeAt_1 : decode cX0_removeAt 1 = .ok (.dup, 1) := by decide +kernel
theorem dX0_removeAt_2 : decode cX0_removeAt 2 = .ok (.getfield 35, 3) := by decide +kernel
theorem dX0_removeAt_5 : decode cX0_removeAt 5 = .ok (.iconst 1, 1) := by decide +kernel
theorem dX0_removeAt_6 : decode cX0_removeAt 6 = .ok (.isub, 1) := by decide +kernel
theorem dX0_removeAt_7 : decode cX0_removeAt 7 = .ok (.putfield 35, 3) := by decide +kernel
theorem dX0_removeAt_10 : decode cX0_removeAt 10 = .ok (.iload_n 1, 1) := by decide +kernel
theorem dX0_removeAt_11 : decode cX0_removeAt 11 = .ok (.istore_n 2, 1) := by decide +kernel
theorem dX0_removeAt_12 : decode cX0_removeAt 12 = .ok (.iload_n 2, 1) := by decide +kernel
theorem dX0_removeAt_13 : decode cX0_removeAt 13 = .ok (.aload_n 0, 1) := by decide +kernel
theorem dX0_removeAt_14 : decode cX0_removeAt 14 = .ok (.getfield 35, 3) := by decide +kernel
theorem dX0_removeAt_17 : decode cX0_removeAt 17 = .ok (.if_icmp .ge 37, 3) := by decide +kernel
theorem dX0_removeAt_20 : decode cX0_removeAt 20 = .ok (.aload_n 0, 1) := by decide +kernel
theorem dX0_removeAt_21 : decode cX0_removeAt 21 = .ok (.getfield 9, 3) := by decide +kernel
theorem dX0_removeAt_24 : decode cX0_removeAt 24 = .ok (.iload_n 2, 1) := by decide +kernel
theorem dX0_removeAt_25 : decode cX0_removeAt 25 = .ok (.aload_n 0, 1) := by decide +kernel
theorem dX0_removeAt_26 : decode cX0_removeAt 26 = .ok (.getfield 9, 3) := by decide +kernel
theorem dX0_removeAt_29 : decode cX0_removeAt 29 = .ok (.iload_n 2, 1) := by decide +kernel
theorem dX0_removeAt_30 : decode cX0_removeAt 30 = .ok (.iconst 1, 1) := by decide +kernel
theorem dX0_removeAt_31 : decode cX0_removeAt 31 = .ok (.iadd, 1) := by decide +kernel
theorem dX0_removeAt_32 : decode cX0_removeAt 32 = .ok (.iaload, 1) := by decide +kernel
theorem dX0_removeAt_33 : decode cX0_removeAt 33 = .ok (.iastore, 1) := by decide +kernel
theorem dX0_removeAt_34 : decode cX0_removeAt 34 = .ok (.aload_n 0, 1) := by decide +kernel
theorem dX0_removeAt_35 : decode cX0_removeAt 35 = .ok (.getfield 15, 3) := by decide +kernel
theorem dX0_removeAt_38 : decode cX0_removeAt 38 = .ok (.iload_n 2, 1) := by decide +kernel
theorem dX0_removeAt_39 : decode cX0_removeAt 39 = .ok (.aload_n 0, 1) := by decide +kernel
theorem dX0_removeAt_40 : decode cX0_removeAt 40 = .ok (.getfield 15, 3) := by decide +kernel
theorem dX0_removeAt_43 : decode cX0_removeAt 43 = .ok (.iload_n 2, 1) := by decide +kernel
theorem dX0_removeAt_44 : decode cX0_removeAt 44 = .ok (.iconst 1, 1) := by decide +kernel
theorem dX0_removeAt_45 : decode cX0_removeAt 45 = .ok (.iadd, 1) := by decide +kernel
theorem dX0_removeAt_46 : decode cX0_removeAt 46 = .ok (.iaload, 1) := by decide +kernel
theorem dX0_removeAt_47 : decode cX0_removeAt 47 = .ok (.iastore, 1) := by decide +kernel
theorem dX0_removeAt_48 : decode cX0_removeAt 48 = .ok (.iinc 2 1, 3) := by decide +kernel
theorem dX0_removeAt_51 : decode cX0_removeAt 51 = .ok (.goto (-39), 3) := by decide +kernel
theorem dX0_removeAt_54 : decode cX0_removeAt 54 = .ok (.return_, 1) := by decide +kernel
set_option maxRecDepth 20000 in
theorem ggX0_unknownIn_X1_oneIf : GoodIn wsX0_unknownIn wsX1_oneIf := goodIn_r _ [4] (by decide +kernel) (by decide +kernel)
set_option maxRecDepth 20000 in
theorem gX0_unknownIn_X1_oneIf_n46 : GoodIn wsX0_unknownIn (wsX1_oneIf) := ggX0_unknownIn_X1_oneIf
theorem dX0_unknownIn_0 : decode cX0_unknownIn 0 = .ok (.iconst 0, 1) := by decide +kernel
theorem dX0_unknownIn_1 : decode cX0_unknownIn 1 = .ok (.istore_n 2, 1) := by decide +kernel
theorem dX0_unknownIn_2 : decode cX0_unknownIn 2 = .ok (.iconst 0, 1) := by decide +kernel
theorem dX0_unknownIn_3 : decode cX0_unknownIn 3 = .ok (.istore_n 3, 1) := by decide +kernel
theorem dX0_unknownIn_4 : decode cX0_unknownIn 4 = .ok (.iload_n 3, 1) := by decide +kernel
theorem dX0_unknownIn_5 : decode cX0_unknownIn 5 = .ok (.aload_n 0, 1) := by decide +kernel
theorem dX0_unknownIn_6 : decode cX0_unknownIn 6 = .ok (.getfield 35, 3) := by decide +kernel
theorem dX0_unknownIn_9 : decode cX0_unknownIn 9 = .ok (.if_icmp .ge 26, 3) := by decide +kernel
theorem dX0_unknownIn_12 : decode cX0_unknownIn 12 = .ok (.iload_n 2, 1) := by decide +kernel
theorem dX0_unknownIn_13 : decode cX0_unknownIn 13 = .ok (.aload_n 1, 1) := by decide +kernel
theorem dX0_unknownIn_14 : decode cX0_unknownIn 14 = .ok (.iload_n 3, 1) := by decide +kernel
theorem dX0_unknownIn_15 : decode cX0_unknownIn 15 = .ok (.iaload, 1) := by decide +kernel
theorem dX0_unknownIn_16 : decode cX0_unknownIn 16 = .ok (.ifCond .ne 7, 3) := by decide +kernel
theorem dX0_unknownIn_19 : decode cX0_unknownIn 19 = .ok (.iconst 1, 1) := by decide +kernel
theorem dX0_unknownIn_20 : decode cX0_unknownIn 20 = .ok (.goto 4, 3) := by decide +kernel
theorem dX0_unknownIn_23 : decode cX0_unknownIn 23 = .ok (.iconst 0, 1) := by decide +kernel
theorem dX0_unknownIn_24 : decode cX0_unknownIn 24 = .ok (.invokestatic 46, 3) := by decide +kernel
theorem dX0_unknownIn_27 : decode cX0_unknownIn 27 = .ok (.iadd, 1) := by decide +kernel
theorem dX0_unknownIn_28 : decode cX0_unknownIn 28 = .ok (.istore_n 2, 1) := by decide +kernel
theorem dX0_unknownIn_29 : decode cX0_unknownIn 29 = .ok (.iinc 3 1, 3) := by decide +kernel
theorem dX0_unknownIn_32 : decode cX0_unknownIn 32 = .ok (.goto (-28), 3) := by decide +kernel
theorem dX0_unknownIn_35 : decode cX0_unknownIn 35 = .ok (.iload_n 2, 1) := by decide +kernel
theorem dX0_unknownIn_36 : decode cX0_unknownIn 36 = .ok (.ireturn, 1) := by decide +kernel
set_option maxRecDepth 20000 in
theorem ggX0_heaviestKnown_X0_unknownIn : GoodIn wsX0_heaviestKnown wsX0_unknownIn := goodIn_r _ [7, 1, 8, 9, 10, 11, 12, 13, 14, 15, 16, 17, 18] (by decide +kernel) (by decide +kernel)
set_option maxRecDepth 20000 in
theorem gX0_heaviestKnown_X0_unknownIn : GoodIn wsX0_heaviestKnown (wsV RX0 50 RX0 yX0_unknownIn wsX0_unknownIn) := goodIn_app (goodIn_of _ (by decide +kernel)) ggX0_heaviestKnown_X0_unknownIn
theorem dX0_heaviestKnown_0 : decode cX0_heaviestKnown 0 = .ok (.aload_n 0, 1) := by decide +kernel
theorem dX0_heaviestKnown_1 : decode cX0_heaviestKnown 1 = .ok (.getfield 35, 3) := by decide +kernel
theorem dX0_heaviestKnown_4 : decode cX0_heaviestKnown 4 = .ok (.aload_n 0, 1) := by decide +kernel
theorem dX0_heaviestKnown_5 : decode cX0_heaviestKnown 5 = .ok (.aload_n 0, 1) := by decide +kernel
theorem dX0_heaviestKnown_6 : decode cX0_heaviestKnown 6 = .ok (.getfield 9, 3) := by decide +kernel
theorem dX0_heaviestKnown_9 : decode cX0_heaviestKnown 9 = .ok (.invokevirtual 50, 3) := by decide +kernel
theorem dX0_heaviestKnown_12 : decode cX0_heaviestKnown 12 = .ok (.isub, 1) := by decide +kernel
theorem dX0_heaviestKnown_13 : decode cX0_heaviestKnown 13 = .ok (.iconst 1, 1) := by decide +kernel
theorem dX0_heaviestKnown_14 : decode cX0_heaviestKnown 14 = .ok (.isub, 1) := by decide +kernel
theorem dX0_heaviestKnown_15 : decode cX0_heaviestKnown 15 = .ok (.istore_n 1, 1) := by decide +kernel
theorem dX0_heaviestKnown_16 : decode cX0_heaviestKnown 16 = .ok (.iload_n 1, 1) := by decide +kernel
theorem dX0_heaviestKnown_17 : decode cX0_heaviestKnown 17 = .ok (.ifCond .ge 7, 3) := by decide +kernel
theorem dX0_heaviestKnown_20 : decode cX0_heaviestKnown 20 = .ok (.iconst 0, 1) := by decide +kernel
theorem dX0_heaviestKnown_21 : decode cX0_heaviestKnown 21 = .ok (.goto 9, 3) := by decide +kernel
theorem dX0_heaviestKnown_24 : decode cX0_heaviestKnown 24 = .ok (.aload_n 0, 1) := by decide +kernel
theorem dX0_heaviestKnown_25 : decode cX0_heaviestKnown 25 = .ok (.getfield 9, 3) := by decide +kernel
theorem dX0_heaviestKnown_28 : decode cX0_heaviestKnown 28 = .ok (.iload_n 1, 1) := by decide +kernel
theorem dX0_heaviestKnown_29 : decode cX0_heaviestKnown 29 = .ok (.iaload, 1) := by decide +kernel
theorem dX0_heaviestKnown_30 : decode cX0_heaviestKnown 30 = .ok (.ireturn, 1) := by decide +kernel
set_option maxRecDepth 20000 in
theorem ggX1_init_X0_init : GoodIn wsX1_init wsX0_init := goodIn_r _ [9, 10, 2, 3, 11, 12, 13, 24, 25, 26, 27, 28, 29, 30, 31] (by decide +kernel) (by decide +kernel)
set_option maxRecDepth 20000 in
theorem gX1_init_X0_init_n15 : GoodIn wsX1_init (wsX0_init) := ggX1_init_X0_init
theorem dX1_init_0 : decode cX1_init 0 = .ok (.aload_n 0, 1) := by decide +kernel
theorem dX1_init_1 : decode cX1_init 1 = .ok (.invokespecial 1, 3) := by decide +kernel
theorem dX1_init_4 : decode cX1_init 4 = .ok (.aload_n 0, 1) := by decide +kernel
theorem dX1_init_5 : decode cX1_init 5 = .ok (.bipush 8, 2) := by decide +kernel
theorem dX1_init_7 : decode cX1_init 7 = .ok (.anewarray 9, 3) := by decide +kernel
theorem dX1_init_10 : decode cX1_init 10 = .ok (.putfield 11, 3) := by decide +kernel
theorem dX1_init_13 : decode cX1_init 13 = .ok (.iconst 0, 1) := by decide +kernel
theorem dX1_init_14 : decode cX1_init 14 = .ok (.istore_n 1, 1) := by decide +kernel
theorem dX1_init_15 : decode cX1_init 15 = .ok (.iload_n 1, 1) := by decide +kernel
theorem dX1_init_16 : decode cX1_init 16 = .ok (.bipush 8, 2) := by decide +kernel
theorem dX1_init_18 : decode cX1_init 18 = .ok (.if_icmp .ge 22, 3) := by decide +kernel
theorem dX1_init_21 : decode cX1_init 21 = .ok (.aload_n 0, 1) := by decide +kernel
theorem dX1_init_22 : decode cX1_init 22 = .ok (.getfield 11, 3) := by decide +kernel
theorem dX1_init_25 : decode cX1_init 25 = .ok (.iload_n 1, 1) := by decide +kernel
theorem dX1_init_26 : decode cX1_init 26 = .ok (.new 9, 3) := by decide +kernel
theorem dX1_init_29 : decode cX1_init 29 = .ok (.dup, 1) := by decide +kernel
theorem dX1_init_30 : decode cX1_init 30 = .ok (.invokespecial 15, 3) := by decide +kernel
theorem dX1_init_33 : decode cX1_init 33 = .ok (.aastore, 1) := by decide +kernel
theorem dX1_init_34 : decode cX1_init 34 = .ok (.iinc 1 1, 3) := by decide +kernel
theorem dX1_init_37 : decode cX1_init 37 = .ok (.goto (-22), 3) := by decide +kernel
theorem dX1_init_40 : decode cX1_init 40 = .ok (.return_, 1) := by decide +kernel
set_option maxRecDepth 20000 in
theorem ggX1_sort_X1_chuteAt : GoodIn wsX1_sort wsX1_chuteAt := goodIn_ca (goodIn_r _ [11, 12, 13, 14, 23, 24, 25, 26, 27, 28, 29, 30, 31, 32] (by decide +kernel) (by decide +kernel)) (goodIn_sub (fun _ h => List.mem_cons_of_mem _ (List.mem_append_right _ h)) (by decide +kernel))
set_option maxRecDepth 20000 in
theorem gX1_sort_X1_chuteAt : GoodIn wsX1_sort (wsV RX1 16 RX1 yX1_chuteAt wsX1_chuteAt) := goodIn_app (goodIn_of _ (by decide +kernel)) ggX1_sort_X1_chuteAt
theorem dX1_sort_0 : decode cX1_sort 0 = .ok (.aload_n 0, 1) := by decide +kernel
theorem dX1_sort_1 : decode cX1_sort 1 = .ok (.iload_n 1, 1) := by decide +kernel
theorem dX1_sort_2 : decode cX1_sort 2 = .ok (.invokevirtual 16, 3) := by decide +kernel
theorem dX1_sort_5 : decode cX1_sort 5 = .ok (.astore_n 3, 1) := by decide +kernel
theorem dX1_sort_6 : decode cX1_sort 6 = .ok (.iload_n 2, 1) := by decide +kernel
theorem dX1_sort_7 : decode cX1_sort 7 = .ok (.ifCond .lt 8, 3) := by decide +kernel
theorem dX1_sort_10 : decode cX1_sort 10 = .ok (.iload_n 2, 1) := by decide +kernel
theorem dX1_sort_11 : decode cX1_sort 11 = .ok (.iconst 4, 1) := by decide +kernel
theorem dX1_sort_12 : decode cX1_sort 12 = .ok (.if_icmp .le 13, 3) := by decide +kernel
theorem dX1_sort_15 : decode cX1_sort 15 = .ok (.new 20, 3) := by decide +kernel
theorem dX1_sort_18 : decode cX1_sort 18 = .ok (.dup, 1) := by decide +kernel
theorem dX1_sort_19 : decode cX1_sort 19 = .ok (.ldc 22, 2) := by decide +kernel
theorem dX1_sort_21 : decode cX1_sort 21 = .ok (.invokespecial 24, 3) := by decide +kernel
theorem dX1_sort_24 : decode cX1_sort 24 = .ok (.athrow, 1) := by decide +kernel
theorem dX1_sort_25 : decode cX1_sort 25 = .ok (.aload_n 3, 1) := by decide +kernel
theorem dX1_sort_26 : decode cX1_sort 26 = .ok (.getfield 27, 3) := by decide +kernel
theorem dX1_sort_29 : decode cX1_sort 29 = .ok (.ifCond .le 13, 3) := by decide +kernel
theorem dX1_sort_32 : decode cX1_sort 32 = .ok (.new 31, 3) := by decide +kernel
theorem dX1_sort_35 : decode cX1_sort 35 = .ok (.dup, 1) := by decide +kernel
theorem dX1_sort_36 : decode cX1_sort 36 = .ok (.ldc 33, 2) := by decide +kernel
theorem dX1_sort_38 : decode cX1_sort 38 = .ok (.invokespecial 35, 3) := by decide +kernel
theorem dX1_sort_41 : decode cX1_sort 41 = .ok (.athrow, 1) := by decide +kernel
theorem dX1_sort_42 : decode cX1_sort 42 = .ok (.aload_n 3, 1) := by decide +kernel
theorem dX1_sort_43 : decode cX1_sort 43 = .ok (.getfield 36, 3) := by decide +kernel
theorem dX1_sort_46 : decode cX1_sort 46 = .ok (.istore 4, 2) := by decide +kernel
theorem dX1_sort_48 : decode cX1_sort 48 = .ok (.aload_n 3, 1) := by decide +kernel
theorem dX1_sort_49 : decode cX1_sort 49 = .ok (.iload_n 2, 1) := by decide +kernel
theorem dX1_sort_50 : decode cX1_sort 50 = .ok (.putfield 36, 3) := by decide +kernel
theorem dX1_sort_53 : decode cX1_sort 53 = .ok (.iload 4, 2) := by decide +kernel
theorem dX1_sort_55 : decode cX1_sort 55 = .ok (.ireturn, 1) := by decide +kernel
set_option maxRecDepth 20000 in
theorem ggX1_limits_X1_chuteAt : GoodIn wsX1_limits wsX1_chuteAt := goodIn_ca (goodIn_r _ [10, 11, 12, 13, 40, 41, 42, 43, 44, 45, 46, 47, 48, 49] (by decide +kernel) (by decide +kernel)) (goodIn_sub (fun _ h => List.mem_cons_of_mem _ (List.mem_append_left _ (List.mem_append_right _ h))) (by decide +kernel))
set_option maxRecDepth 20000 in
theorem gX1_limits_X1_chuteAt : GoodIn wsX1_limits (wsV RX1 16 RX1 yX1_chuteAt wsX1_chuteAt) := goodIn_app (goodIn_of _ (by decide +kernel)) ggX1_limits_X1_chuteAt
set_option maxRecDepth 20000 in
theorem ggX1_limits_X1_requireWeight : GoodIn wsX1_limits wsX1_requireWeight := goodIn_ca (goodIn_r _ [16, 17, 18, 19] (by decide +kernel) (by decide +kernel)) (goodIn_sub (fun _ h => List.mem_cons_of_mem _ (List.mem_append_right _ h)) (by decide +kernel))
set_option maxRecDepth 20000 in
theorem gX1_limits_X1_requireWeight : GoodIn wsX1_limits (va_wsS RX1 39 yX1_requireWeight wsX1_requireWeight) := goodIn_app (goodIn_of _ (by decide +kernel)) ggX1_limits_X1_requireWeight
set_option maxRecDepth 20000 in
theorem ggX1_limits_X1_requireGirth : GoodIn wsX1_limits wsX1_requireGirth := goodIn_ca (goodIn_r _ [22, 17, 18] (by decide +kernel) (by decide +kernel)) (goodIn_sub (fun _ h => List.mem_cons_of_mem _ (List.mem_append_right _ h)) (by decide +kernel))
set_option maxRecDepth 20000 in
theorem gX1_limits_X1_requireGirth : GoodIn wsX1_limits (va_wsS RX1 43 yX1_requireGirth wsX1_requireGirth) := goodIn_app (goodIn_of _ (by decide +kernel)) ggX1_limits_X1_requireGirth
set_option maxRecDepth 20000 in
theorem ggX1_limits_X1_holds : GoodIn wsX1_limits wsX1_holds := goodIn_r _ [25, 26, 27, 9, 28] (by decide +kernel) (by decide +kernel)
set_option maxRecDepth 20000 in
theorem gX1_limits_X1_holds : GoodIn wsX1_limits (va_wsS RX1 46 yX1_holds wsX1_holds) := goodIn_app (goodIn_of _ (by decide +kernel)) ggX1_limits_X1_holds
set_option maxRecDepth 20000 in
theorem ggX1_limits_X1_oneIf : GoodIn wsX1_limits wsX1_oneIf := goodIn_r _ [31] (by decide +kernel) (by decide +kernel)
set_option maxRecDepth 20000 in
theorem gX1_limits_X1_oneIf : GoodIn wsX1_limits (va_wsS RX1 61 yX1_oneIf wsX1_oneIf) := goodIn_app (goodIn_of _ (by decide +kernel)) ggX1_limits_X1_oneIf
theorem dX1_limits_0 : decode cX1_limits 0 = .ok (.aload_n 0, 1) := by decide +kernel
theorem dX1_limits_1 : decode cX1_limits 1 = .ok (.iload_n 1, 1) := by decide +kernel
theorem dX1_limits_2 : decode cX1_limits 2 = .ok (.invokevirtual 16, 3) := by decide +kernel
theorem dX1_limits_5 : decode cX1_limits 5 = .ok (.astore 5, 2) := by decide +kernel
theorem dX1_limits_7 : decode cX1_limits 7 = .ok (.iload_n 2, 1) := by decide +kernel
theorem dX1_limits_8 : decode cX1_limits 8 = .ok (.invokestatic 39, 3) := by decide +kernel
theorem dX1_limits_11 : decode cX1_limits 11 = .ok (.iload_n 3, 1) := by decide +kernel
theorem dX1_limits_12 : decode cX1_limits 12 = .ok (.invokestatic 39, 3) := by decide +kernel
theorem dX1_limits_15 : decode cX1_limits 15 = .ok (.iload 4, 2) := by decide +kernel
theorem dX1_limits_17 : decode cX1_limits 17 = .ok (.invokestatic 43, 3) := by decide +kernel
theorem dX1_limits_20 : decode cX1_limits 20 = .ok (.iload_n 3, 1) := by decide +kernel
theorem dX1_limits_21 : decode cX1_limits 21 = .ok (.iconst 1, 1) := by decide +kernel
theorem dX1_limits_22 : decode cX1_limits 22 = .ok (.iload_n 2, 1) := by decide +kernel
theorem dX1_limits_23 : decode cX1_limits 23 = .ok (.invokestatic 46, 3) := by decide +kernel
theorem dX1_limits_26 : decode cX1_limits 26 = .ok (.ifCond .eq 13, 3) := by decide +kernel
theorem dX1_limits_29 : decode cX1_limits 29 = .ok (.new 31, 3) := by decide +kernel
theorem dX1_limits_32 : decode cX1_limits 32 = .ok (.dup, 1) := by decide +kernel
theorem dX1_limits_33 : decode cX1_limits 33 = .ok (.ldc 50, 2) := by decide +kernel
theorem dX1_limits_35 : decode cX1_limits 35 = .ok (.invokespecial 35, 3) := by decide +kernel
theorem dX1_limits_38 : decode cX1_limits 38 = .ok (.athrow, 1) := by decide +kernel
theorem dX1_limits_39 : decode cX1_limits 39 = .ok (.aload 5, 2) := by decide +kernel
theorem dX1_limits_41 : decode cX1_limits 41 = .ok (.iload_n 2, 1) := by decide +kernel
theorem dX1_limits_42 : decode cX1_limits 42 = .ok (.putfield 52, 3) := by decide +kernel
theorem dX1_limits_45 : decode cX1_limits 45 = .ok (.aload 5, 2) := by decide +kernel
theorem dX1_limits_47 : decode cX1_limits 47 = .ok (.iload_n 3, 1) := by decide +kernel
theorem dX1_limits_48 : decode cX1_limits 48 = .ok (.putfield 55, 3) := by decide +kernel
theorem dX1_limits_51 : decode cX1_limits 51 = .ok (.aload 5, 2) := by decide +kernel
theorem dX1_limits_53 : decode cX1_limits 53 = .ok (.iload 4, 2) := by decide +kernel
theorem dX1_limits_55 : decode cX1_limits 55 = .ok (.putfield 58, 3) := by decide +kernel
theorem dX1_limits_58 : decode cX1_limits 58 = .ok (.iload_n 2, 1) := by decide +kernel
theorem dX1_limits_59 : decode cX1_limits 59 = .ok (.ifCond .eq 7, 3) := by decide +kernel
theorem dX1_limits_62 : decode cX1_limits 62 = .ok (.iconst 1, 1) := by decide +kernel
theorem dX1_limits_63 : decode cX1_limits 63 = .ok (.goto 4, 3) := by decide +kernel
theorem dX1_limits_66 : decode cX1_limits 66 = .ok (.iconst 0, 1) := by decide +kernel
theorem dX1_limits_67 : decode cX1_limits 67 = .ok (.invokestatic 61, 3) := by decide +kernel
theorem dX1_limits_70 : decode cX1_limits 70 = .ok (.iload_n 3, 1) := by decide +kernel
theorem dX1_limits_71 : decode cX1_limits 71 = .ok (.ifCond .eq 7, 3) := by decide +kernel
theorem dX1_limits_74 : decode cX1_limits 74 = .ok (.iconst 1, 1) := by decide +kernel
theorem dX1_limits_75 : decode cX1_limits 75 = .ok (.goto 4, 3) := by decide +kernel
theorem dX1_limits_78 : decode cX1_limits 78 = .ok (.iconst 0, 1) := by decide +kernel
theorem dX1_limits_79 : decode cX1_limits 79 = .ok (.invokestatic 61, 3) := by decide +kernel
theorem dX1_limits_82 : decode cX1_limits 82 = .ok (.iadd, 1) := by decide +kernel
theorem dX1_limits_83 : decode cX1_limits 83 = .ok (.iload 4, 2) := by decide +kernel
theorem dX1_limits_85 : decode cX1_limits 85 = .ok (.ifCond .eq 7, 3) := by decide +kernel
theorem dX1_limits_88 : decode cX1_limits 88 = .ok (.iconst 1, 1) := by decide +kernel
theorem dX1_limits_89 : decode cX1_limits 89 = .ok (.goto 4, 3) := by decide +kernel
theorem dX1_limits_92 : decode cX1_limits 92 = .ok (.iconst 0, 1) := by decide +kernel
theorem dX1_limits_93 : decode cX1_limits 93 = .ok (.invokestatic 61, 3) := by decide +kernel
theorem dX1_limits_96 : decode cX1_limits 96 = .ok (.iadd, 1) := by decide +kernel
theorem dX1_limits_97 : decode cX1_limits 97 = .ok (.ireturn, 1) := by decide +kernel
set_option maxRecDepth 20000 in
theorem ggX1_shut_X1_chuteAt : GoodIn wsX1_shut wsX1_chuteAt := goodIn_ca (goodIn_r _ [6, 7, 8, 9, 18, 19, 20, 21, 22, 23, 24, 25, 26, 27] (by decide +kernel) (by decide +kernel)) (goodIn_sub (fun _ h => List.mem_cons_of_mem _ (List.mem_append_right _ h)) (by decide +kernel))
set_option maxRecDepth 20000 in
theorem gX1_shut_X1_chuteAt : GoodIn wsX1_shut (wsV RX1 16 RX1 yX1_chuteAt wsX1_chuteAt) := goodIn_app (goodIn_of _ (by decide +kernel)) ggX1_shut_X1_chuteAt
theorem dX1_shut_0 : decode cX1_shut 0 = .ok (.aload_n 0, 1) := by decide +kernel
theorem dX1_shut_1 : decode cX1_shut 1 = .ok (.iload_n 1, 1) := by decide +kernel
theorem dX1_shut_2 : decode cX1_shut 2 = .ok (.invokevirtual 16, 3) := by decide +kernel
theorem dX1_shut_5 : decode cX1_shut 5 = .ok (.astore_n 3, 1) := by decide +kernel
theorem dX1_shut_6 : decode cX1_shut 6 = .ok (.aload_n 3, 1) := by decide +kernel
theorem dX1_shut_7 : decode cX1_shut 7 = .ok (.getfield 65, 3) := by decide +kernel
theorem dX1_shut_10 : decode cX1_shut 10 = .ok (.istore 4, 2) := by decide +kernel
theorem dX1_shut_12 : decode cX1_shut 12 = .ok (.aload_n 3, 1) := by decide +kernel
theorem dX1_shut_13 : decode cX1_shut 13 = .ok (.iload_n 2, 1) := by decide +kernel
theorem dX1_shut_14 : decode cX1_shut 14 = .ok (.putfield 65, 3) := by decide +kernel
theorem dX1_shut_17 : decode cX1_shut 17 = .ok (.iload 4, 2) := by decide +kernel
theorem dX1_shut_19 : decode cX1_shut 19 = .ok (.ireturn, 1) := by decide +kernel
set_option maxRecDepth 20000 in
theorem ggX1_send_X1_requireWeight : GoodIn wsX1_send wsX1_requireWeight := goodIn_ca (goodIn_r _ [6, 7, 8, 9] (by decide +kernel) (by decide +kernel)) (goodIn_sub (fun _ h => List.mem_cons_of_mem _ (List.mem_append_right _ h)) (by decide +kernel))
set_option maxRecDepth 20000 in
theorem gX1_send_X1_requireWeight : GoodIn wsX1_send (va_wsS RX1 39 yX1_requireWeight wsX1_requireWeight) := goodIn_app (goodIn_of _ (by decide +kernel)) ggX1_send_X1_requireWeight
set_option maxRecDepth 20000 in
theorem ggX1_send_X1_requireGirth : GoodIn wsX1_send wsX1_requireGirth := goodIn_ca (goodIn_r _ [12, 7, 8] (by decide +kernel) (by decide +kernel)) (goodIn_sub (fun _ h => List.mem_cons_of_mem _ (List.mem_append_right _ h)) (by decide +kernel))
set_option maxRecDepth 20000 in
theorem gX1_send_X1_requireGirth : GoodIn wsX1_send (va_wsS RX1 43 yX1_requireGirth wsX1_requireGirth) := goodIn_app (goodIn_of _ (by decide +kernel)) ggX1_send_X1_requireGirth
set_option maxRecDepth 20000 in
theorem ggX1_send_X1_readGauges : GoodIn wsX1_send wsX1_readGauges := goodIn_r _ [16, 17, 18, 19, 20, 21, 22, 23, 24, 5, 25, 26, 27, 28, 56, 57, 58, 59, 60, 61, 62, 63, 64, 65] (by decide +kernel) (by decide +kernel)
set_option maxRecDepth 20000 in
theorem gX1_send_X1_readGauges : GoodIn wsX1_send (wsV RX1 69 RX1 yX1_readGauges wsX1_readGauges) := goodIn_app (goodIn_of _ (by decide +kernel)) ggX1_send_X1_readGauges
set_option maxRecDepth 20000 in
theorem ggX1_send_X0_admit : GoodIn wsX1_send wsX0_admit := goodIn_r _ [33, 34, 35, 36, 37, 38, 39, 32, 40, 41, 42, 43, 44, 24, 5, 25, 26, 27, 28, 45, 46, 47, 48, 66, 67, 68, 69, 70, 71, 72, 73] (by decide +kernel) (by decide +kernel)
set_option maxRecDepth 20000 in
theorem gX1_send_X0_admit : GoodIn wsX1_send (wsV RX1 73 RX0 yX0_admit wsX0_admit) := goodIn_app (goodIn_of _ (by decide +kernel)) ggX1_send_X0_admit
set_option maxRecDepth 20000 in
theorem ggX1_send_X1_putAside : GoodIn wsX1_send wsX1_putAside := goodIn_r _ [52, 53, 54, 55, 56, 57, 58, 59, 60, 61, 62, 63, 64, 65] (by decide +kernel) (by decide +kernel)
set_option maxRecDepth 20000 in
theorem gX1_send_X1_putAside : GoodIn wsX1_send (wsV RX1 77 RX1 yX1_putAside wsX1_putAside) := goodIn_app (goodIn_of _ (by decide +kernel)) ggX1_send_X1_putAside
theorem dX1_send_0 : decode cX1_send 0 = .ok (.iload_n 1, 1) := by decide +kernel
theorem dX1_send_1 : decode cX1_send 1 = .ok (.invokestatic 39, 3) := by decide +kernel
theorem dX1_send_4 : decode cX1_send 4 = .ok (.iload_n 2, 1) := by decide +kernel
theorem dX1_send_5 : decode cX1_send 5 = .ok (.invokestatic 43, 3) := by decide +kernel
theorem dX1_send_8 : decode cX1_send 8 = .ok (.aload_n 0, 1) := by decide +kernel
theorem dX1_send_9 : decode cX1_send 9 = .ok (.iload_n 1, 1) := by decide +kernel
theorem dX1_send_10 : decode cX1_send 10 = .ok (.iload_n 2, 1) := by decide +kernel
theorem dX1_send_11 : decode cX1_send 11 = .ok (.invokevirtual 69, 3) := by decide +kernel
theorem dX1_send_14 : decode cX1_send 14 = .ok (.iconst 0, 1) := by decide +kernel
theorem dX1_send_15 : decode cX1_send 15 = .ok (.istore_n 3, 1) := by decide +kernel
theorem dX1_send_16 : decode cX1_send 16 = .ok (.iload_n 3, 1) := by decide +kernel
theorem dX1_send_17 : decode cX1_send 17 = .ok (.bipush 8, 2) := by decide +kernel
theorem dX1_send_19 : decode cX1_send 19 = .ok (.if_icmp .ge 37, 3) := by decide +kernel
theorem dX1_send_22 : decode cX1_send 22 = .ok (.aload_n 0, 1) := by decide +kernel
theorem dX1_send_23 : decode cX1_send 23 = .ok (.getfield 11, 3) := by decide +kernel
theorem dX1_send_26 : decode cX1_send 26 = .ok (.iload_n 3, 1) := by decide +kernel
theorem dX1_send_27 : decode cX1_send 27 = .ok (.aaload, 1) := by decide +kernel
theorem dX1_send_28 : decode cX1_send 28 = .ok (.getfield 65, 3) := by decide +kernel
theorem dX1_send_31 : decode cX1_send 31 = .ok (.ifCond .ne 19, 3) := by decide +kernel
theorem dX1_send_34 : decode cX1_send 34 = .ok (.aload_n 0, 1) := by decide +kernel
theorem dX1_send_35 : decode cX1_send 35 = .ok (.getfield 11, 3) := by decide +kernel
theorem dX1_send_38 : decode cX1_send 38 = .ok (.iload_n 3, 1) := by decide +kernel
theorem dX1_send_39 : decode cX1_send 39 = .ok (.aaload, 1) := by decide +kernel
theorem dX1_send_40 : decode cX1_send 40 = .ok (.iload_n 1, 1) := by decide +kernel
theorem dX1_send_41 : decode cX1_send 41 = .ok (.iload_n 2, 1) := by decide +kernel
theorem dX1_send_42 : decode cX1_send 42 = .ok (.invokevirtual 73, 3) := by decide +kernel
theorem dX1_send_45 : decode cX1_send 45 = .ok (.ifCond .eq 5, 3) := by decide +kernel
theorem dX1_send_48 : decode cX1_send 48 = .ok (.iload_n 3, 1) := by decide +kernel
theorem dX1_send_49 : decode cX1_send 49 = .ok (.ireturn, 1) := by decide +kernel
theorem dX1_send_50 : decode cX1_send 50 = .ok (.iinc 3 1, 3) := by decide +kernel
theorem dX1_send_53 : decode cX1_send 53 = .ok (.goto (-37), 3) := by decide +kernel
theorem dX1_send_56 : decode cX1_send 56 = .ok (.aload_n 0, 1) := by decide +kernel
theorem dX1_send_57 : decode cX1_send 57 = .ok (.iload_n 1, 1) := by decide +kernel
theorem dX1_send_58 : decode cX1_send 58 = .ok (.iload_n 2, 1) := by decide +kernel
theorem dX1_send_59 : decode cX1_send 59 = .ok (.invokevirtual 77, 3) := by decide +kernel
theorem dX1_send_62 : decode cX1_send 62 = .ok (.iconst (-1), 1) := by decide +kernel
theorem dX1_send_63 : decode cX1_send 63 = .ok (.ireturn, 1) := by decide +kernel
set_option maxRecDepth 20000 in
theorem ggX1_fits_X1_requireWeight : GoodIn wsX1_fits wsX1_requireWeight := goodIn_ca (goodIn_r _ [5, 6, 7, 8] (by decide +kernel) (by decide +kernel)) (goodIn_sub (fun _ h => List.mem_cons_of_mem _ (List.mem_append_right _ h)) (by decide +kernel))
set_option maxRecDepth 20000 in
theorem gX1_fits_X1_requireWeight : GoodIn wsX1_fits (va_wsS RX1 39 yX1_requireWeight wsX1_requireWeight) := goodIn_app (goodIn_of _ (by decide +kernel)) ggX1_fits_X1_requireWeight
set_option maxRecDepth 20000 in
theorem ggX1_fits_X1_requireGirth : GoodIn wsX1_fits wsX1_requireGirth := goodIn_ca (goodIn_r _ [11, 6, 7] (by decide +kernel) (by decide +kernel)) (goodIn_sub (fun _ h => List.mem_cons_of_mem _ (List.mem_append_right _ h)) (by decide +kernel))
set_option maxRecDepth 20000 in
theorem gX1_fits_X1_requireGirth : GoodIn wsX1_fits (va_wsS RX1 43 yX1_requireGirth wsX1_requireGirth) := goodIn_app (goodIn_of _ (by decide +kernel)) ggX1_fits_X1_requireGirth
set_option maxRecDepth 20000 in
theorem ggX1_fits_X0_suits : GoodIn wsX1_fits wsX0_suits := goodIn_r _ [16, 17, 18, 19, 20, 21, 4, 22, 23, 24, 25, 36, 37, 38, 39, 40, 41, 42, 43] (by decide +kernel) (by decide +kernel)
set_option maxRecDepth 20000 in
theorem gX1_fits_X0_suits : GoodIn wsX1_fits (wsV RX1 80 RX0 yX0_suits wsX0_suits) := goodIn_app (goodIn_of _ (by decide +kernel)) ggX1_fits_X0_suits
theorem dX1_fits_0 : decode cX1_fits 0 = .ok (.iload_n 1, 1) := by decide +kernel
theorem dX1_fits_1 : decode cX1_fits 1 = .ok (.invokestatic 39, 3) := by decide +kernel
theorem dX1_fits_4 : decode cX1_fits 4 = .ok (.iload_n 2, 1) := by decide +kernel
theorem dX1_fits_5 : decode cX1_fits 5 = .ok (.invokestatic 43, 3) := by decide +kernel
theorem dX1_fits_8 : decode cX1_fits 8 = .ok (.iconst 0, 1) := by decide +kernel
theorem dX1_fits_9 : decode cX1_fits 9 = .ok (.istore_n 3, 1) := by decide +kernel
theorem dX1_fits_10 : decode cX1_fits 10 = .ok (.iconst 0, 1) := by decide +kernel
theorem dX1_fits_11 : decode cX1_fits 11 = .ok (.istore 4, 2) := by decide +kernel
theorem dX1_fits_13 : decode cX1_fits 13 = .ok (.iload 4, 2) := by decide +kernel
theorem dX1_fits_15 : decode cX1_fits 15 = .ok (.bipush 8, 2) := by decide +kernel
theorem dX1_fits_17 : decode cX1_fits 17 = .ok (.if_icmp .ge 31, 3) := by decide +kernel
theorem dX1_fits_20 : decode cX1_fits 20 = .ok (.aload_n 0, 1) := by decide +kernel
theorem dX1_fits_21 : decode cX1_fits 21 = .ok (.getfield 11, 3) := by decide +kernel
theorem dX1_fits_24 : decode cX1_fits 24 = .ok (.iload 4, 2) := by decide +kernel
theorem dX1_fits_26 : decode cX1_fits 26 = .ok (.aaload, 1) := by decide +kernel
theorem dX1_fits_27 : decode cX1_fits 27 = .ok (.iload_n 1, 1) := by decide +kernel
theorem dX1_fits_28 : decode cX1_fits 28 = .ok (.iload_n 2, 1) := by decide +kernel
theorem dX1_fits_29 : decode cX1_fits 29 = .ok (.invokevirtual 80, 3) := by decide +kernel
theorem dX1_fits_32 : decode cX1_fits 32 = .ok (.ifCond .eq 10, 3) := by decide +kernel
theorem dX1_fits_35 : decode cX1_fits 35 = .ok (.iload_n 3, 1) := by decide +kernel
theorem dX1_fits_36 : decode cX1_fits 36 = .ok (.iconst 1, 1) := by decide +kernel
theorem dX1_fits_37 : decode cX1_fits 37 = .ok (.iload 4, 2) := by decide +kernel
theorem dX1_fits_39 : decode cX1_fits 39 = .ok (.ishl, 1) := by decide +kernel
theorem dX1_fits_40 : decode cX1_fits 40 = .ok (.ior, 1) := by decide +kernel
theorem dX1_fits_41 : decode cX1_fits 41 = .ok (.istore_n 3, 1) := by decide +kernel
theorem dX1_fits_42 : decode cX1_fits 42 = .ok (.iinc 4 1, 3) := by decide +kernel
theorem dX1_fits_45 : decode cX1_fits 45 = .ok (.goto (-32), 3) := by decide +kernel
theorem dX1_fits_48 : decode cX1_fits 48 = .ok (.iload_n 3, 1) := by decide +kernel
theorem dX1_fits_49 : decode cX1_fits 49 = .ok (.ireturn, 1) := by decide +kernel
set_option maxRecDepth 20000 in
theorem ggX1_signs_X1_chuteAt : GoodIn wsX1_signs wsX1_chuteAt := goodIn_ca (goodIn_r _ [10, 11, 12, 13, 32, 33, 34, 35, 36, 37, 38, 39, 40, 41] (by decide +kernel) (by decide +kernel)) (goodIn_sub (fun _ h => List.mem_cons_of_mem _ (List.mem_append_right _ h)) (by decide +kernel))
set_option maxRecDepth 20000 in
theorem gX1_signs_X1_chuteAt : GoodIn wsX1_signs (wsV RX1 16 RX1 yX1_chuteAt wsX1_chuteAt) := goodIn_app (goodIn_of _ (by decide +kernel)) ggX1_signs_X1_chuteAt
set_option maxRecDepth 20000 in
theorem ggX1_signs_X1_requireWeight : GoodIn wsX1_signs wsX1_requireWeight := goodIn_ca (goodIn_r _ [16, 1, 2, 17] (by decide +kernel) (by decide +kernel)) (goodIn_sub (fun _ h => List.mem_cons_of_mem _ (List.mem_append_left _ (List.mem_append_right _ h))) (by decide +kernel))
set_option maxRecDepth 20000 in
theorem gX1_signs_X1_requireWeight : GoodIn wsX1_signs (va_wsS RX1 39 yX1_requireWeight wsX1_requireWeight) := goodIn_app (goodIn_of _ (by decide +kernel)) ggX1_signs_X1_requireWeight
set_option maxRecDepth 20000 in
theorem ggX1_signs_X1_signsBetween : GoodIn wsX1_signs wsX1_signsBetween := goodIn_r _ [20] (by decide +kernel) (by decide +kernel)
set_option maxRecDepth 20000 in
theorem gX1_signs_X1_signsBetween : GoodIn wsX1_signs (va_wsS RX1 83 yX1_signsBetween wsX1_signsBetween) := goodIn_app (goodIn_of _ (by decide +kernel)) ggX1_signs_X1_signsBetween
set_option maxRecDepth 20000 in
theorem ggX1_signs_X1_requireGirth : GoodIn wsX1_signs wsX1_requireGirth := goodIn_ca (goodIn_r _ [23, 1, 2] (by decide +kernel) (by decide +kernel)) (goodIn_sub (fun _ h => List.mem_cons_of_mem _ (List.mem_append_left _ (List.mem_append_right _ h))) (by decide +kernel))
set_option maxRecDepth 20000 in
theorem gX1_signs_X1_requireGirth : GoodIn wsX1_signs (va_wsS RX1 43 yX1_requireGirth wsX1_requireGirth) := goodIn_app (goodIn_of _ (by decide +kernel)) ggX1_signs_X1_requireGirth
theorem dX1_signs_0 : decode cX1_signs 0 = .ok (.aload_n 0, 1) := by decide +kernel
theorem dX1_signs_1 : decode cX1_signs 1 = .ok (.iload_n 1, 1) := by decide +kernel
theorem dX1_signs_2 : decode cX1_signs 2 = .ok (.invokevirtual 16, 3) := by decide +kernel
theorem dX1_signs_5 : decode cX1_signs 5 = .ok (.astore 4, 2) := by decide +kernel
theorem dX1_signs_7 : decode cX1_signs 7 = .ok (.iload_n 2, 1) := by decide +kernel
theorem dX1_signs_8 : decode cX1_signs 8 = .ok (.tableswitch 70 0 2 #[28, 42, 56], 28) := by decide +kernel
theorem dX1_signs_36 : decode cX1_signs 36 = .ok (.iload_n 3, 1) := by decide +kernel
theorem dX1_signs_37 : decode cX1_signs 37 = .ok (.invokestatic 39, 3) := by decide +kernel
theorem dX1_signs_40 : decode cX1_signs 40 = .ok (.iload_n 3, 1) := by decide +kernel
theorem dX1_signs_41 : decode cX1_signs 41 = .ok (.aload 4, 2) := by decide +kernel
theorem dX1_signs_43 : decode cX1_signs 43 = .ok (.getfield 52, 3) := by decide +kernel
theorem dX1_signs_46 : decode cX1_signs 46 = .ok (.invokestatic 83, 3) := by decide +kernel
theorem dX1_signs_49 : decode cX1_signs 49 = .ok (.ireturn, 1) := by decide +kernel
theorem dX1_signs_50 : decode cX1_signs 50 = .ok (.iload_n 3, 1) := by decide +kernel
theorem dX1_signs_51 : decode cX1_signs 51 = .ok (.invokestatic 39, 3) := by decide +kernel
theorem dX1_signs_54 : decode cX1_signs 54 = .ok (.iload_n 3, 1) := by decide +kernel
theorem dX1_signs_55 : decode cX1_signs 55 = .ok (.aload 4, 2) := by decide +kernel
theorem dX1_signs_57 : decode cX1_signs 57 = .ok (.getfield 55, 3) := by decide +kernel
theorem dX1_signs_60 : decode cX1_signs 60 = .ok (.invokestatic 83, 3) := by decide +kernel
theorem dX1_signs_63 : decode cX1_signs 63 = .ok (.ireturn, 1) := by decide +kernel
theorem dX1_signs_64 : decode cX1_signs 64 = .ok (.iload_n 3, 1) := by decide +kernel
theorem dX1_signs_65 : decode cX1_signs 65 = .ok (.invokestatic 43, 3) := by decide +kernel
theorem dX1_signs_68 : decode cX1_signs 68 = .ok (.iload_n 3, 1) := by decide +kernel
theorem dX1_signs_69 : decode cX1_signs 69 = .ok (.aload 4, 2) := by decide +kernel
theorem dX1_signs_71 : decode cX1_signs 71 = .ok (.getfield 58, 3) := by decide +kernel
theorem dX1_signs_74 : decode cX1_signs 74 = .ok (.invokestatic 83, 3) := by decide +kernel
theorem dX1_signs_77 : decode cX1_signs 77 = .ok (.ireturn, 1) := by decide +kernel
theorem dX1_signs_78 : decode cX1_signs 78 = .ok (.new 20, 3) := by decide +kernel
theorem dX1_signs_81 : decode cX1_signs 81 = .ok (.dup, 1) := by decide +kernel
theorem dX1_signs_82 : decode cX1_signs 82 = .ok (.ldc 87, 2) := by decide +kernel
theorem dX1_signs_84 : decode cX1_signs 84 = .ok (.invokespecial 24, 3) := by decide +kernel
theorem dX1_signs_87 : decode cX1_signs 87 = .ok (.athrow, 1) := by decide +kernel
set_option maxRecDepth 20000 in
theorem ggX1_chute_X1_chuteAt : GoodIn wsX1_chute wsX1_chuteAt := goodIn_ca (goodIn_r _ [15, 16, 17, 18, 36, 37, 38, 39, 40, 41, 42, 43, 44, 45] (by decide +kernel) (by decide +kernel)) (goodIn_sub (fun _ h => List.mem_cons_of_mem _ (List.mem_append_right _ h)) (by decide +kernel))
set_option maxRecDepth 20000 in
theorem gX1_chute_X1_chuteAt : GoodIn wsX1_chute (wsV RX1 16 RX1 yX1_chuteAt wsX1_chuteAt) := goodIn_app (goodIn_of _ (by decide +kernel)) ggX1_chute_X1_chuteAt
set_option maxRecDepth 20000 in
theorem ggX1_chute_X1_oneIf : GoodIn wsX1_chute wsX1_oneIf := goodIn_r _ [21] (by decide +kernel) (by decide +kernel)
set_option maxRecDepth 20000 in
theorem gX1_chute_X1_oneIf : GoodIn wsX1_chute (va_wsS RX1 61 yX1_oneIf wsX1_oneIf) := goodIn_app (goodIn_of _ (by decide +kernel)) ggX1_chute_X1_oneIf
set_option maxRecDepth 20000 in
theorem ggX1_chute_X0_unknownIn : GoodIn wsX1_chute wsX0_unknownIn := goodIn_r _ [26, 27, 20, 14, 21, 28, 29, 30, 31, 32, 33, 34, 35] (by decide +kernel) (by decide +kernel)
set_option maxRecDepth 20000 in
theorem gX1_chute_X0_unknownIn : GoodIn wsX1_chute (wsV RX1 93 RX0 yX0_unknownIn wsX0_unknownIn) := goodIn_app (goodIn_of _ (by decide +kernel)) ggX1_chute_X0_unknownIn
theorem dX1_chute_0 : decode cX1_chute 0 = .ok (.aload_n 0, 1) := by decide +kernel
theorem dX1_chute_1 : decode cX1_chute 1 = .ok (.iload_n 1, 1) := by decide +kernel
theorem dX1_chute_2 : decode cX1_chute 2 = .ok (.invokevirtual 16, 3) := by decide +kernel
theorem dX1_chute_5 : decode cX1_chute 5 = .ok (.astore_n 3, 1) := by decide +kernel
theorem dX1_chute_6 : decode cX1_chute 6 = .ok (.iload_n 2, 1) := by decide +kernel
theorem dX1_chute_7 : decode cX1_chute 7 = .ok (.tableswitch 96 0 7 #[45, 50, 55, 60, 65, 73, 78, 87], 45) := by decide +kernel
theorem dX1_chute_52 : decode cX1_chute 52 = .ok (.aload_n 3, 1) := by decide +kernel
theorem dX1_chute_53 : decode cX1_chute 53 = .ok (.getfield 36, 3) := by decide +kernel
theorem dX1_chute_56 : decode cX1_chute 56 = .ok (.ireturn, 1) := by decide +kernel
theorem dX1_chute_57 : decode cX1_chute 57 = .ok (.aload_n 3, 1) := by decide +kernel
theorem dX1_chute_58 : decode cX1_chute 58 = .ok (.getfield 52, 3) := by decide +kernel
theorem dX1_chute_61 : decode cX1_chute 61 = .ok (.ireturn, 1) := by decide +kernel
theorem dX1_chute_62 : decode cX1_chute 62 = .ok (.aload_n 3, 1) := by decide +kernel
theorem dX1_chute_63 : decode cX1_chute 63 = .ok (.getfield 55, 3) := by decide +kernel
theorem dX1_chute_66 : decode cX1_chute 66 = .ok (.ireturn, 1) := by decide +kernel
theorem dX1_chute_67 : decode cX1_chute 67 = .ok (.aload_n 3, 1) := by decide +kernel
theorem dX1_chute_68 : decode cX1_chute 68 = .ok (.getfield 58, 3) := by decide +kernel
theorem dX1_chute_71 : decode cX1_chute 71 = .ok (.ireturn, 1) := by decide +kernel
theorem dX1_chute_72 : decode cX1_chute 72 = .ok (.aload_n 3, 1) := by decide +kernel
theorem dX1_chute_73 : decode cX1_chute 73 = .ok (.getfield 65, 3) := by decide +kernel
theorem dX1_chute_76 : decode cX1_chute 76 = .ok (.invokestatic 61, 3) := by decide +kernel
theorem dX1_chute_79 : decode cX1_chute 79 = .ok (.ireturn, 1) := by decide +kernel
theorem dX1_chute_80 : decode cX1_chute 80 = .ok (.aload_n 3, 1) := by decide +kernel
theorem dX1_chute_81 : decode cX1_chute 81 = .ok (.getfield 27, 3) := by decide +kernel
theorem dX1_chute_84 : decode cX1_chute 84 = .ok (.ireturn, 1) := by decide +kernel
theorem dX1_chute_85 : decode cX1_chute 85 = .ok (.aload_n 3, 1) := by decide +kernel
theorem dX1_chute_86 : decode cX1_chute 86 = .ok (.aload_n 3, 1) := by decide +kernel
theorem dX1_chute_87 : decode cX1_chute 87 = .ok (.getfield 89, 3) := by decide +kernel
theorem dX1_chute_90 : decode cX1_chute 90 = .ok (.invokevirtual 93, 3) := by decide +kernel
theorem dX1_chute_93 : decode cX1_chute 93 = .ok (.ireturn, 1) := by decide +kernel
theorem dX1_chute_94 : decode cX1_chute 94 = .ok (.aload_n 3, 1) := by decide +kernel
theorem dX1_chute_95 : decode cX1_chute 95 = .ok (.aload_n 3, 1) := by decide +kernel
theorem dX1_chute_96 : decode cX1_chute 96 = .ok (.getfield 97, 3) := by decide +kernel
theorem dX1_chute_99 : decode cX1_chute 99 = .ok (.invokevirtual 93, 3) := by decide +kernel
theorem dX1_chute_102 : decode cX1_chute 102 = .ok (.ireturn, 1) := by decide +kernel
theorem dX1_chute_103 : decode cX1_chute 103 = .ok (.new 20, 3) := by decide +kernel
theorem dX1_chute_106 : decode cX1_chute 106 = .ok (.dup, 1) := by decide +kernel
theorem dX1_chute_107 : decode cX1_chute 107 = .ok (.ldc 87, 2) := by decide +kernel
theorem dX1_chute_109 : decode cX1_chute 109 = .ok (.invokespecial 24, 3) := by decide +kernel
theorem dX1_chute_112 : decode cX1_chute 112 = .ok (.athrow, 1) := by decide +kernel
set_option maxRecDepth 20000 in
theorem ggX1_weight_X1_chuteAt : GoodIn wsX1_weight wsX1_chuteAt := goodIn_ca (goodIn_r _ [6, 7, 8, 9, 24, 25, 26, 27, 28, 29, 30, 31, 32, 33] (by decide +kernel) (by decide +kernel)) (goodIn_sub (fun _ h => List.mem_cons_of_mem _ (List.mem_append_left _ (List.mem_append_right _ h))) (by decide +kernel))
set_option maxRecDepth 20000 in
theorem gX1_weight_X1_chuteAt : GoodIn wsX1_weight (wsV RX1 16 RX1 yX1_chuteAt wsX1_chuteAt) := goodIn_app (goodIn_of _ (by decide +kernel)) ggX1_weight_X1_chuteAt
set_option maxRecDepth 20000 in
theorem ggX1_weight_X1_requirePlace : GoodIn wsX1_weight wsX1_requirePlace := goodIn_ca (goodIn_r _ [12, 13, 14, 15, 16, 17, 18, 19, 20, 21, 22, 23] (by decide +kernel) (by decide +kernel)) (goodIn_sub (fun _ h => List.mem_cons_of_mem _ (List.mem_append_right _ h)) (by decide +kernel))
set_option maxRecDepth 20000 in
theorem gX1_weight_X1_requirePlace : GoodIn wsX1_weight (va_wsS RX1 100 yX1_requirePlace wsX1_requirePlace) := goodIn_app (goodIn_of _ (by decide +kernel)) ggX1_weight_X1_requirePlace
theorem dX1_weight_0 : decode cX1_weight 0 = .ok (.aload_n 0, 1) := by decide +kernel
theorem dX1_weight_1 : decode cX1_weight 1 = .ok (.iload_n 1, 1) := by decide +kernel
theorem dX1_weight_2 : decode cX1_weight 2 = .ok (.invokevirtual 16, 3) := by decide +kernel
theorem dX1_weight_5 : decode cX1_weight 5 = .ok (.astore_n 3, 1) := by decide +kernel
theorem dX1_weight_6 : decode cX1_weight 6 = .ok (.aload_n 3, 1) := by decide +kernel
theorem dX1_weight_7 : decode cX1_weight 7 = .ok (.iload_n 2, 1) := by decide +kernel
theorem dX1_weight_8 : decode cX1_weight 8 = .ok (.invokestatic 100, 3) := by decide +kernel
theorem dX1_weight_11 : decode cX1_weight 11 = .ok (.aload_n 3, 1) := by decide +kernel
theorem dX1_weight_12 : decode cX1_weight 12 = .ok (.getfield 89, 3) := by decide +kernel
theorem dX1_weight_15 : decode cX1_weight 15 = .ok (.iload_n 2, 1) := by decide +kernel
theorem dX1_weight_16 : decode cX1_weight 16 = .ok (.iaload, 1) := by decide +kernel
theorem dX1_weight_17 : decode cX1_weight 17 = .ok (.ireturn, 1) := by decide +kernel
set_option maxRecDepth 20000 in
theorem ggX1_girth_X1_chuteAt : GoodIn wsX1_girth wsX1_chuteAt := goodIn_ca (goodIn_r _ [6, 7, 8, 9, 24, 25, 26, 27, 28, 29, 30, 31, 32, 33] (by decide +kernel) (by decide +kernel)) (goodIn_sub (fun _ h => List.mem_cons_of_mem _ (List.mem_append_left _ (List.mem_append_right _ h))) (by decide +kernel))
set_option maxRecDepth 20000 in
theorem gX1_girth_X1_chuteAt : GoodIn wsX1_girth (wsV RX1 16 RX1 yX1_chuteAt wsX1_chuteAt) := goodIn_app (goodIn_of _ (by decide +kernel)) ggX1_girth_X1_chuteAt
set_option maxRecDepth 20000 in
theorem ggX1_girth_X1_requirePlace : GoodIn wsX1_girth wsX1_requirePlace := goodIn_ca (goodIn_r _ [12, 13, 14, 15, 16, 17, 18, 19, 20, 21, 22, 23] (by decide +kernel) (by decide +kernel)) (goodIn_sub (fun _ h => List.mem_cons_of_mem _ (List.mem_append_right _ h)) (by decide +kernel))
set_option maxRecDepth 20000 in
theorem gX1_girth_X1_requirePlace : GoodIn wsX1_girth (va_wsS RX1 100 yX1_requirePlace wsX1_requirePlace) := goodIn_app (goodIn_of _ (by decide +kernel)) ggX1_girth_X1_requirePlace
theorem dX1_girth_0 : decode cX1_girth 0 = .ok (.aload_n 0, 1) := by decide +kernel
theorem dX1_girth_1 : decode cX1_girth 1 = .ok (.iload_n 1, 1) := by decide +kernel
theorem dX1_girth_2 : decode cX1_girth 2 = .ok (.invokevirtual 16, 3) := by decide +kernel
theorem dX1_girth_5 : decode cX1_girth 5 = .ok (.astore_n 3, 1) := by decide +kernel
theorem dX1_girth_6 : decode cX1_girth 6 = .ok (.aload_n 3, 1) := by decide +kernel
theorem dX1_girth_7 : decode cX1_girth 7 = .ok (.iload_n 2, 1) := by decide +kernel
theorem dX1_girth_8 : decode cX1_girth 8 = .ok (.invokestatic 100, 3) := by decide +kernel
theorem dX1_girth_11 : decode cX1_girth 11 = .ok (.aload_n 3, 1) := by decide +kernel
theorem dX1_girth_12 : decode cX1_girth 12 = .ok (.getfield 97, 3) := by decide +kernel
theorem dX1_girth_15 : decode cX1_girth 15 = .ok (.iload_n 2, 1) := by decide +kernel
theorem dX1_girth_16 : decode cX1_girth 16 = .ok (.iaload, 1) := by decide +kernel
theorem dX1_girth_17 : decode cX1_girth 17 = .ok (.ireturn, 1) := by decide +kernel
set_option maxRecDepth 20000 in
theorem ggX1_below_X1_chuteAt : GoodIn wsX1_below wsX1_chuteAt := goodIn_ca (goodIn_r _ [7, 8, 9, 10, 34, 35, 36, 37, 38, 39, 40, 41, 42, 43] (by decide +kernel) (by decide +kernel)) (goodIn_sub (fun _ h => List.mem_cons_of_mem _ (List.mem_append_left _ (List.mem_append_right _ h))) (by decide +kernel))
set_option maxRecDepth 20000 in
theorem gX1_below_X1_chuteAt : GoodIn wsX1_below (wsV RX1 16 RX1 yX1_chuteAt wsX1_chuteAt) := goodIn_app (goodIn_of _ (by decide +kernel)) ggX1_below_X1_chuteAt
set_option maxRecDepth 20000 in
theorem ggX1_below_X1_requireWeight : GoodIn wsX1_below wsX1_requireWeight := goodIn_ca (goodIn_r _ [13, 14, 15, 16] (by decide +kernel) (by decide +kernel)) (goodIn_sub (fun _ h => List.mem_cons_of_mem _ (List.mem_append_right _ h)) (by decide +kernel))
set_option maxRecDepth 20000 in
theorem gX1_below_X1_requireWeight : GoodIn wsX1_below (va_wsS RX1 39 yX1_requireWeight wsX1_requireWeight) := goodIn_app (goodIn_of _ (by decide +kernel)) ggX1_below_X1_requireWeight
set_option maxRecDepth 20000 in
theorem ggX1_below_X1_holds : GoodIn wsX1_below wsX1_holds := goodIn_r _ [19, 20, 21, 6, 22] (by decide +kernel) (by decide +kernel)
set_option maxRecDepth 20000 in
theorem gX1_below_X1_holds : GoodIn wsX1_below (va_wsS RX1 46 yX1_holds wsX1_holds) := goodIn_app (goodIn_of _ (by decide +kernel)) ggX1_below_X1_holds
set_option maxRecDepth 20000 in
theorem ggX1_below_X1_oneIf : GoodIn wsX1_below wsX1_oneIf := goodIn_r _ [25] (by decide +kernel) (by decide +kernel)
set_option maxRecDepth 20000 in
theorem gX1_below_X1_oneIf : GoodIn wsX1_below (va_wsS RX1 61 yX1_oneIf wsX1_oneIf) := goodIn_app (goodIn_of _ (by decide +kernel)) ggX1_below_X1_oneIf
theorem dX1_below_0 : decode cX1_below 0 = .ok (.aload_n 0, 1) := by decide +kernel
theorem dX1_below_1 : decode cX1_below 1 = .ok (.iload_n 1, 1) := by decide +kernel
theorem dX1_below_2 : decode cX1_below 2 = .ok (.invokevirtual 16, 3) := by decide +kernel
theorem dX1_below_5 : decode cX1_below 5 = .ok (.astore_n 3, 1) := by decide +kernel
theorem dX1_below_6 : decode cX1_below 6 = .ok (.iload_n 2, 1) := by decide +kernel
theorem dX1_below_7 : decode cX1_below 7 = .ok (.invokestatic 39, 3) := by decide +kernel
theorem dX1_below_10 : decode cX1_below 10 = .ok (.iconst 0, 1) := by decide +kernel
theorem dX1_below_11 : decode cX1_below 11 = .ok (.istore 4, 2) := by decide +kernel
theorem dX1_below_13 : decode cX1_below 13 = .ok (.iconst 0, 1) := by decide +kernel
theorem dX1_below_14 : decode cX1_below 14 = .ok (.istore 5, 2) := by decide +kernel
theorem dX1_below_16 : decode cX1_below 16 = .ok (.iload 5, 2) := by decide +kernel
theorem dX1_below_18 : decode cX1_below 18 = .ok (.aload_n 3, 1) := by decide +kernel
theorem dX1_below_19 : decode cX1_below 19 = .ok (.getfield 27, 3) := by decide +kernel
theorem dX1_below_22 : decode cX1_below 22 = .ok (.if_icmp .ge 29, 3) := by decide +kernel
theorem dX1_below_25 : decode cX1_below 25 = .ok (.iload 4, 2) := by decide +kernel
theorem dX1_below_27 : decode cX1_below 27 = .ok (.aload_n 3, 1) := by decide +kernel
theorem dX1_below_28 : decode cX1_below 28 = .ok (.getfield 89, 3) := by decide +kernel
theorem dX1_below_31 : decode cX1_below 31 = .ok (.iload 5, 2) := by decide +kernel
theorem dX1_below_33 : decode cX1_below 33 = .ok (.iaload, 1) := by decide +kernel
theorem dX1_below_34 : decode cX1_below 34 = .ok (.iconst 1, 1) := by decide +kernel
theorem dX1_below_35 : decode cX1_below 35 = .ok (.iload_n 2, 1) := by decide +kernel
theorem dX1_below_36 : decode cX1_below 36 = .ok (.invokestatic 46, 3) := by decide +kernel
theorem dX1_below_39 : decode cX1_below 39 = .ok (.invokestatic 61, 3) := by decide +kernel
theorem dX1_below_42 : decode cX1_below 42 = .ok (.iadd, 1) := by decide +kernel
theorem dX1_below_43 : decode cX1_below 43 = .ok (.istore 4, 2) := by decide +kernel
theorem dX1_below_45 : decode cX1_below 45 = .ok (.iinc 5 1, 3) := by decide +kernel
theorem dX1_below_48 : decode cX1_below 48 = .ok (.goto (-32), 3) := by decide +kernel
theorem dX1_below_51 : decode cX1_below 51 = .ok (.iload 4, 2) := by decide +kernel
theorem dX1_below_53 : decode cX1_below 53 = .ok (.ireturn, 1) := by decide +kernel
set_option maxRecDepth 20000 in
theorem ggX1_take_X1_chuteAt : GoodIn wsX1_take wsX1_chuteAt := goodIn_ca (goodIn_r _ [6, 7, 8, 9, 42, 43, 44, 45, 46, 47, 48, 49, 50, 51] (by decide +kernel) (by decide +kernel)) (goodIn_sub (fun _ h => List.mem_cons_of_mem _ (List.mem_append_left _ (List.mem_append_left _ (List.mem_append_right _ h)))) (by decide +kernel))
set_option maxRecDepth 20000 in
theorem gX1_take_X1_chuteAt : GoodIn wsX1_take (wsV RX1 16 RX1 yX1_chuteAt wsX1_chuteAt) := goodIn_app (goodIn_of _ (by decide +kernel)) ggX1_take_X1_chuteAt
set_option maxRecDepth 20000 in
theorem ggX1_take_X1_requireWeight : GoodIn wsX1_take wsX1_requireWeight := goodIn_ca (goodIn_r _ [12, 13, 14, 15] (by decide +kernel) (by decide +kernel)) (goodIn_sub (fun _ h => List.mem_cons_of_mem _ (List.mem_append_left _ (List.mem_append_right _ h))) (by decide +kernel))
set_option maxRecDepth 20000 in
theorem gX1_take_X1_requireWeight : GoodIn wsX1_take (va_wsS RX1 39 yX1_requireWeight wsX1_requireWeight) := goodIn_app (goodIn_of _ (by decide +kernel)) ggX1_take_X1_requireWeight
set_option maxRecDepth 20000 in
theorem ggX1_take_X0_firstOf : GoodIn wsX1_take wsX0_firstOf := goodIn_r _ [20, 21, 22, 34, 35, 36, 37, 38, 39, 40, 41] (by decide +kernel) (by decide +kernel)
set_option maxRecDepth 20000 in
theorem gX1_take_X0_firstOf : GoodIn wsX1_take (wsV RX1 104 RX0 yX0_firstOf wsX0_firstOf) := goodIn_app (goodIn_of _ (by decide +kernel)) ggX1_take_X0_firstOf
set_option maxRecDepth 20000 in
theorem ggX1_take_X1_requirePlace : GoodIn wsX1_take wsX1_requirePlace := goodIn_ca (goodIn_r _ [25, 26, 27, 28, 34, 35, 36, 37, 38, 39, 40, 41] (by decide +kernel) (by decide +kernel)) (goodIn_sub (fun _ h => List.mem_cons_of_mem _ (List.mem_append_right _ h)) (by decide +kernel))
set_option maxRecDepth 20000 in
theorem gX1_take_X1_requirePlace : GoodIn wsX1_take (va_wsS RX1 100 yX1_requirePlace wsX1_requirePlace) := goodIn_app (goodIn_of _ (by decide +kernel)) ggX1_take_X1_requirePlace
set_option maxRecDepth 20000 in
theorem ggX1_take_X0_removeAt : GoodIn wsX1_take wsX0_removeAt := goodIn_r _ [32, 21, 22, 33, 34, 35, 36, 37, 38, 39, 40, 41] (by decide +kernel) (by decide +kernel)
set_option maxRecDepth 20000 in
theorem gX1_take_X0_removeAt : GoodIn wsX1_take (wsV RX1 108 RX0 yX0_removeAt wsX0_removeAt) := goodIn_app (goodIn_of _ (by decide +kernel)) ggX1_take_X0_removeAt
theorem dX1_take_0 : decode cX1_take 0 = .ok (.aload_n 0, 1) := by decide +kernel
theorem dX1_take_1 : decode cX1_take 1 = .ok (.iload_n 1, 1) := by decide +kernel
theorem dX1_take_2 : decode cX1_take 2 = .ok (.invokevirtual 16, 3) := by decide +kernel
theorem dX1_take_5 : decode cX1_take 5 = .ok (.astore_n 3, 1) := by decide +kernel
theorem dX1_take_6 : decode cX1_take 6 = .ok (.iload_n 2, 1) := by decide +kernel
theorem dX1_take_7 : decode cX1_take 7 = .ok (.invokestatic 39, 3) := by decide +kernel
theorem dX1_take_10 : decode cX1_take 10 = .ok (.aload_n 3, 1) := by decide +kernel
theorem dX1_take_11 : decode cX1_take 11 = .ok (.iload_n 2, 1) := by decide +kernel
theorem dX1_take_12 : decode cX1_take 12 = .ok (.invokevirtual 104, 3) := by decide +kernel
theorem dX1_take_15 : decode cX1_take 15 = .ok (.istore 4, 2) := by decide +kernel
theorem dX1_take_17 : decode cX1_take 17 = .ok (.aload_n 3, 1) := by decide +kernel
theorem dX1_take_18 : decode cX1_take 18 = .ok (.iload 4, 2) := by decide +kernel
theorem dX1_take_20 : decode cX1_take 20 = .ok (.invokestatic 100, 3) := by decide +kernel
theorem dX1_take_23 : decode cX1_take 23 = .ok (.aload_n 3, 1) := by decide +kernel
theorem dX1_take_24 : decode cX1_take 24 = .ok (.getfield 97, 3) := by decide +kernel
theorem dX1_take_27 : decode cX1_take 27 = .ok (.iload 4, 2) := by decide +kernel
theorem dX1_take_29 : decode cX1_take 29 = .ok (.iaload, 1) := by decide +kernel
theorem dX1_take_30 : decode cX1_take 30 = .ok (.istore 5, 2) := by decide +kernel
theorem dX1_take_32 : decode cX1_take 32 = .ok (.aload_n 3, 1) := by decide +kernel
theorem dX1_take_33 : decode cX1_take 33 = .ok (.iload 4, 2) := by decide +kernel
theorem dX1_take_35 : decode cX1_take 35 = .ok (.invokevirtual 108, 3) := by decide +kernel
theorem dX1_take_38 : decode cX1_take 38 = .ok (.iload 5, 2) := by decide +kernel
theorem dX1_take_40 : decode cX1_take 40 = .ok (.ireturn, 1) := by decide +kernel
set_option maxRecDepth 20000 in
theorem ggX1_pour_X1_chuteAt : GoodIn wsX1_pour wsX1_chuteAt := goodIn_ca (goodIn_r _ [10, 11, 12, 13, 51, 52, 53, 54, 55, 56, 57, 58, 59, 60] (by decide +kernel) (by decide +kernel)) (goodIn_sub (fun _ h => List.mem_cons_of_mem _ (List.mem_append_right _ h)) (by decide +kernel))
set_option maxRecDepth 20000 in
theorem gX1_pour_X1_chuteAt : GoodIn wsX1_pour (wsV RX1 16 RX1 yX1_chuteAt wsX1_chuteAt) := goodIn_app (goodIn_of _ (by decide +kernel)) ggX1_pour_X1_chuteAt
set_option maxRecDepth 20000 in
theorem ggX1_pour_X0_admit : GoodIn wsX1_pour wsX0_admit := goodIn_r _ [18, 19, 20, 21, 22, 23, 24, 17, 25, 26, 27, 28, 29, 30, 9, 31, 32, 33, 34, 35, 36, 37, 38, 43, 44, 45, 46, 47, 48, 49, 50] (by decide +kernel) (by decide +kernel)
set_option maxRecDepth 20000 in
theorem gX1_pour_X0_admit : GoodIn wsX1_pour (wsV RX1 73 RX0 yX0_admit wsX0_admit) := goodIn_app (goodIn_of _ (by decide +kernel)) ggX1_pour_X0_admit
set_option maxRecDepth 20000 in
theorem ggX1_pour_X0_removeAt : GoodIn wsX1_pour wsX0_removeAt := goodIn_r _ [42, 19, 20, 21, 43, 44, 45, 46, 47, 48, 49, 50] (by decide +kernel) (by decide +kernel)
set_option maxRecDepth 20000 in
theorem gX1_pour_X0_removeAt : GoodIn wsX1_pour (wsV RX1 108 RX0 yX0_removeAt wsX0_removeAt) := goodIn_app (goodIn_of _ (by decide +kernel)) ggX1_pour_X0_removeAt
theorem dX1_pour_0 : decode cX1_pour 0 = .ok (.aload_n 0, 1) := by decide +kernel
theorem dX1_pour_1 : decode cX1_pour 1 = .ok (.iload_n 1, 1) := by decide +kernel
theorem dX1_pour_2 : decode cX1_pour 2 = .ok (.invokevirtual 16, 3) := by decide +kernel
theorem dX1_pour_5 : decode cX1_pour 5 = .ok (.astore_n 3, 1) := by decide +kernel
theorem dX1_pour_6 : decode cX1_pour 6 = .ok (.aload_n 0, 1) := by decide +kernel
theorem dX1_pour_7 : decode cX1_pour 7 = .ok (.iload_n 2, 1) := by decide +kernel
theorem dX1_pour_8 : decode cX1_pour 8 = .ok (.invokevirtual 16, 3) := by decide +kernel
theorem dX1_pour_11 : decode cX1_pour 11 = .ok (.astore 4, 2) := by decide +kernel
theorem dX1_pour_13 : decode cX1_pour 13 = .ok (.iload_n 1, 1) := by decide +kernel
theorem dX1_pour_14 : decode cX1_pour 14 = .ok (.iload_n 2, 1) := by decide +kernel
theorem dX1_pour_15 : decode cX1_pour 15 = .ok (.if_icmp .ne 13, 3) := by decide +kernel
theorem dX1_pour_18 : decode cX1_pour 18 = .ok (.new 20, 3) := by decide +kernel
theorem dX1_pour_21 : decode cX1_pour 21 = .ok (.dup, 1) := by decide +kernel
theorem dX1_pour_22 : decode cX1_pour 22 = .ok (.ldc 111, 2) := by decide +kernel
theorem dX1_pour_24 : decode cX1_pour 24 = .ok (.invokespecial 24, 3) := by decide +kernel
theorem dX1_pour_27 : decode cX1_pour 27 = .ok (.athrow, 1) := by decide +kernel
theorem dX1_pour_28 : decode cX1_pour 28 = .ok (.aload_n 3, 1) := by decide +kernel
theorem dX1_pour_29 : decode cX1_pour 29 = .ok (.getfield 27, 3) := by decide +kernel
theorem dX1_pour_32 : decode cX1_pour 32 = .ok (.istore 5, 2) := by decide +kernel
theorem dX1_pour_34 : decode cX1_pour 34 = .ok (.iconst 0, 1) := by decide +kernel
theorem dX1_pour_35 : decode cX1_pour 35 = .ok (.istore 6, 2) := by decide +kernel
theorem dX1_pour_37 : decode cX1_pour 37 = .ok (.iconst 0, 1) := by decide +kernel
theorem dX1_pour_38 : decode cX1_pour 38 = .ok (.istore 7, 2) := by decide +kernel
theorem dX1_pour_40 : decode cX1_pour 40 = .ok (.iload 7, 2) := by decide +kernel
theorem dX1_pour_42 : decode cX1_pour 42 = .ok (.iload 5, 2) := by decide +kernel
theorem dX1_pour_44 : decode cX1_pour 44 = .ok (.if_icmp .ge 43, 3) := by decide +kernel
theorem dX1_pour_47 : decode cX1_pour 47 = .ok (.aload 4, 2) := by decide +kernel
theorem dX1_pour_49 : decode cX1_pour 49 = .ok (.aload_n 3, 1) := by decide +kernel
theorem dX1_pour_50 : decode cX1_pour 50 = .ok (.getfield 89, 3) := by decide +kernel
theorem dX1_pour_53 : decode cX1_pour 53 = .ok (.iload 6, 2) := by decide +kernel
theorem dX1_pour_55 : decode cX1_pour 55 = .ok (.iaload, 1) := by decide +kernel
theorem dX1_pour_56 : decode cX1_pour 56 = .ok (.aload_n 3, 1) := by decide +kernel
theorem dX1_pour_57 : decode cX1_pour 57 = .ok (.getfield 97, 3) := by decide +kernel
theorem dX1_pour_60 : decode cX1_pour 60 = .ok (.iload 6, 2) := by decide +kernel
theorem dX1_pour_62 : decode cX1_pour 62 = .ok (.iaload, 1) := by decide +kernel
theorem dX1_pour_63 : decode cX1_pour 63 = .ok (.invokevirtual 73, 3) := by decide +kernel
theorem dX1_pour_66 : decode cX1_pour 66 = .ok (.ifCond .eq 12, 3) := by decide +kernel
theorem dX1_pour_69 : decode cX1_pour 69 = .ok (.aload_n 3, 1) := by decide +kernel
theorem dX1_pour_70 : decode cX1_pour 70 = .ok (.iload 6, 2) := by decide +kernel
theorem dX1_pour_72 : decode cX1_pour 72 = .ok (.invokevirtual 108, 3) := by decide +kernel
theorem dX1_pour_75 : decode cX1_pour 75 = .ok (.goto 6, 3) := by decide +kernel
theorem dX1_pour_78 : decode cX1_pour 78 = .ok (.iinc 6 1, 3) := by decide +kernel
theorem dX1_pour_81 : decode cX1_pour 81 = .ok (.iinc 7 1, 3) := by decide +kernel
theorem dX1_pour_84 : decode cX1_pour 84 = .ok (.goto (-44), 3) := by decide +kernel
theorem dX1_pour_87 : decode cX1_pour 87 = .ok (.iload 5, 2) := by decide +kernel
theorem dX1_pour_89 : decode cX1_pour 89 = .ok (.iload 6, 2) := by decide +kernel
theorem dX1_pour_91 : decode cX1_pour 91 = .ok (.isub, 1) := by decide +kernel
theorem dX1_pour_92 : decode cX1_pour 92 = .ok (.ireturn, 1) := by decide +kernel
set_option maxRecDepth 20000 in
theorem ggX1_sweep_X1_chuteAt : GoodIn wsX1_sweep wsX1_chuteAt := goodIn_ca (goodIn_r _ [8, 9, 10, 11, 48, 49, 50, 51, 52, 53, 54, 55, 56, 57] (by decide +kernel) (by decide +kernel)) (goodIn_sub (fun _ h => List.mem_cons_of_mem _ (List.mem_append_right _ h)) (by decide +kernel))
set_option maxRecDepth 20000 in
theorem gX1_sweep_X1_chuteAt : GoodIn wsX1_sweep (wsV RX1 16 RX1 yX1_chuteAt wsX1_chuteAt) := goodIn_app (goodIn_of _ (by decide +kernel)) ggX1_sweep_X1_chuteAt
set_option maxRecDepth 20000 in
theorem ggX1_sweep_X0_suits : GoodIn wsX1_sweep wsX0_suits := goodIn_r _ [16, 17, 18, 19, 20, 21, 7, 22, 23, 24, 25, 40, 41, 42, 43, 44, 45, 46, 47] (by decide +kernel) (by decide +kernel)
set_option maxRecDepth 20000 in
theorem gX1_sweep_X0_suits : GoodIn wsX1_sweep (wsV RX1 80 RX0 yX0_suits wsX0_suits) := goodIn_app (goodIn_of _ (by decide +kernel)) ggX1_sweep_X0_suits
set_option maxRecDepth 20000 in
theorem ggX1_sweep_X1_putAside : GoodIn wsX1_sweep wsX1_putAside := goodIn_r _ [29, 30, 31, 32, 48, 49, 50, 51, 52, 53, 54, 55, 56, 57] (by decide +kernel) (by decide +kernel)
set_option maxRecDepth 20000 in
theorem gX1_sweep_X1_putAside : GoodIn wsX1_sweep (wsV RX1 77 RX1 yX1_putAside wsX1_putAside) := goodIn_app (goodIn_of _ (by decide +kernel)) ggX1_sweep_X1_putAside
set_option maxRecDepth 20000 in
theorem ggX1_sweep_X0_removeAt : GoodIn wsX1_sweep wsX0_removeAt := goodIn_r _ [36, 37, 38, 39, 40, 41, 42, 43, 44, 45, 46, 47] (by decide +kernel) (by decide +kernel)
set_option maxRecDepth 20000 in
theorem gX1_sweep_X0_removeAt : GoodIn wsX1_sweep (wsV RX1 108 RX0 yX0_removeAt wsX0_removeAt) := goodIn_app (goodIn_of _ (by decide +kernel)) ggX1_sweep_X0_removeAt
theorem dX1_sweep_0 : decode cX1_sweep 0 = .ok (.aload_n 0, 1) := by decide +kernel
theorem dX1_sweep_1 : decode cX1_sweep 1 = .ok (.iload_n 1, 1) := by decide +kernel
theorem dX1_sweep_2 : decode cX1_sweep 2 = .ok (.invokevirtual 16, 3) := by decide +kernel
theorem dX1_sweep_5 : decode cX1_sweep 5 = .ok (.astore_n 2, 1) := by decide +kernel
theorem dX1_sweep_6 : decode cX1_sweep 6 = .ok (.aload_n 2, 1) := by decide +kernel
theorem dX1_sweep_7 : decode cX1_sweep 7 = .ok (.getfield 27, 3) := by decide +kernel
theorem dX1_sweep_10 : decode cX1_sweep 10 = .ok (.istore_n 3, 1) := by decide +kernel
theorem dX1_sweep_11 : decode cX1_sweep 11 = .ok (.iconst 0, 1) := by decide +kernel
theorem dX1_sweep_12 : decode cX1_sweep 12 = .ok (.istore 4, 2) := by decide +kernel
theorem dX1_sweep_14 : decode cX1_sweep 14 = .ok (.iconst 0, 1) := by decide +kernel
theorem dX1_sweep_15 : decode cX1_sweep 15 = .ok (.istore 5, 2) := by decide +kernel
theorem dX1_sweep_17 : decode cX1_sweep 17 = .ok (.iload 5, 2) := by decide +kernel
theorem dX1_sweep_19 : decode cX1_sweep 19 = .ok (.iload_n 3, 1) := by decide +kernel
theorem dX1_sweep_20 : decode cX1_sweep 20 = .ok (.if_icmp .ge 60, 3) := by decide +kernel
theorem dX1_sweep_23 : decode cX1_sweep 23 = .ok (.aload_n 2, 1) := by decide +kernel
theorem dX1_sweep_24 : decode cX1_sweep 24 = .ok (.aload_n 2, 1) := by decide +kernel
theorem dX1_sweep_25 : decode cX1_sweep 25 = .ok (.getfield 89, 3) := by decide +kernel
theorem dX1_sweep_28 : decode cX1_sweep 28 = .ok (.iload 4, 2) := by decide +kernel
theorem dX1_sweep_30 : decode cX1_sweep 30 = .ok (.iaload, 1) := by decide +kernel
theorem dX1_sweep_31 : decode cX1_sweep 31 = .ok (.aload_n 2, 1) := by decide +kernel
theorem dX1_sweep_32 : decode cX1_sweep 32 = .ok (.getfield 97, 3) := by decide +kernel
theorem dX1_sweep_35 : decode cX1_sweep 35 = .ok (.iload 4, 2) := by decide +kernel
theorem dX1_sweep_37 : decode cX1_sweep 37 = .ok (.iaload, 1) := by decide +kernel
theorem dX1_sweep_38 : decode cX1_sweep 38 = .ok (.invokevirtual 80, 3) := by decide +kernel
theorem dX1_sweep_41 : decode cX1_sweep 41 = .ok (.ifCond .eq 9, 3) := by decide +kernel
theorem dX1_sweep_44 : decode cX1_sweep 44 = .ok (.iinc 4 1, 3) := by decide +kernel
theorem dX1_sweep_47 : decode cX1_sweep 47 = .ok (.goto 27, 3) := by decide +kernel
theorem dX1_sweep_50 : decode cX1_sweep 50 = .ok (.aload_n 0, 1) := by decide +kernel
theorem dX1_sweep_51 : decode cX1_sweep 51 = .ok (.aload_n 2, 1) := by decide +kernel
theorem dX1_sweep_52 : decode cX1_sweep 52 = .ok (.getfield 89, 3) := by decide +kernel
theorem dX1_sweep_55 : decode cX1_sweep 55 = .ok (.iload 4, 2) := by decide +kernel
theorem dX1_sweep_57 : decode cX1_sweep 57 = .ok (.iaload, 1) := by decide +kernel
theorem dX1_sweep_58 : decode cX1_sweep 58 = .ok (.aload_n 2, 1) := by decide +kernel
theorem dX1_sweep_59 : decode cX1_sweep 59 = .ok (.getfield 97, 3) := by decide +kernel
theorem dX1_sweep_62 : decode cX1_sweep 62 = .ok (.iload 4, 2) := by decide +kernel
theorem dX1_sweep_64 : decode cX1_sweep 64 = .ok (.iaload, 1) := by decide +kernel
theorem dX1_sweep_65 : decode cX1_sweep 65 = .ok (.invokevirtual 77, 3) := by decide +kernel
theorem dX1_sweep_68 : decode cX1_sweep 68 = .ok (.aload_n 2, 1) := by decide +kernel
theorem dX1_sweep_69 : decode cX1_sweep 69 = .ok (.iload 4, 2) := by decide +kernel
theorem dX1_sweep_71 : decode cX1_sweep 71 = .ok (.invokevirtual 108, 3) := by decide +kernel
theorem dX1_sweep_74 : decode cX1_sweep 74 = .ok (.iinc 5 1, 3) := by decide +kernel
theorem dX1_sweep_77 : decode cX1_sweep 77 = .ok (.goto (-60), 3) := by decide +kernel
theorem dX1_sweep_80 : decode cX1_sweep 80 = .ok (.iload_n 3, 1) := by decide +kernel
theorem dX1_sweep_81 : decode cX1_sweep 81 = .ok (.iload 4, 2) := by decide +kernel
theorem dX1_sweep_83 : decode cX1_sweep 83 = .ok (.isub, 1) := by decide +kernel
theorem dX1_sweep_84 : decode cX1_sweep 84 = .ok (.ireturn, 1) := by decide +kernel
set_option maxRecDepth 20000 in
theorem ggX1_heavier_X1_chuteAt : GoodIn wsX1_heavier wsX1_chuteAt := goodIn_ca (goodIn_r _ [5, 6, 7, 8, 28, 29, 30, 31, 32, 33, 34, 35, 36, 37] (by decide +kernel) (by decide +kernel)) (goodIn_sub (fun _ h => List.mem_cons_of_mem _ (List.mem_append_right _ h)) (by decide +kernel))
set_option maxRecDepth 20000 in
theorem gX1_heavier_X1_chuteAt : GoodIn wsX1_heavier (wsV RX1 16 RX1 yX1_chuteAt wsX1_chuteAt) := goodIn_app (goodIn_of _ (by decide +kernel)) ggX1_heavier_X1_chuteAt
set_option maxRecDepth 20000 in
theorem ggX1_heavier_X0_heaviestKnown : GoodIn wsX1_heavier wsX0_heaviestKnown := goodIn_r _ [13, 14, 15, 16, 17, 18, 12, 19, 20, 4, 21, 38, 39, 40, 41, 42, 43, 44, 45] (by decide +kernel) (by decide +kernel)
set_option maxRecDepth 20000 in
theorem gX1_heavier_X0_heaviestKnown : GoodIn wsX1_heavier (wsV RX1 113 RX0 yX0_heaviestKnown wsX0_heaviestKnown) := goodIn_app (goodIn_of _ (by decide +kernel)) ggX1_heavier_X0_heaviestKnown
set_option maxRecDepth 20000 in
theorem ggX1_heavier_X1_holds : GoodIn wsX1_heavier wsX1_holds := goodIn_r _ [24, 25, 26, 4, 27] (by decide +kernel) (by decide +kernel)
set_option maxRecDepth 20000 in
theorem gX1_heavier_X1_holds : GoodIn wsX1_heavier (va_wsS RX1 46 yX1_holds wsX1_holds) := goodIn_app (goodIn_of _ (by decide +kernel)) ggX1_heavier_X1_holds
theorem dX1_heavier_0 : decode cX1_heavier 0 = .ok (.aload_n 0, 1) := by decide +kernel
theorem dX1_heavier_1 : decode cX1_heavier 1 = .ok (.iload_n 1, 1) := by decide +kernel
theorem dX1_heavier_2 : decode cX1_heavier 2 = .ok (.invokevirtual 16, 3) := by decide +kernel
theorem dX1_heavier_5 : decode cX1_heavier 5 = .ok (.invokevirtual 113, 3) := by decide +kernel
theorem dX1_heavier_8 : decode cX1_heavier 8 = .ok (.istore_n 3, 1) := by decide +kernel
theorem dX1_heavier_9 : decode cX1_heavier 9 = .ok (.aload_n 0, 1) := by decide +kernel
theorem dX1_heavier_10 : decode cX1_heavier 10 = .ok (.iload_n 2, 1) := by decide +kernel
theorem dX1_heavier_11 : decode cX1_heavier 11 = .ok (.invokevirtual 16, 3) := by decide +kernel
theorem dX1_heavier_14 : decode cX1_heavier 14 = .ok (.invokevirtual 113, 3) := by decide +kernel
theorem dX1_heavier_17 : decode cX1_heavier 17 = .ok (.istore 4, 2) := by decide +kernel
theorem dX1_heavier_19 : decode cX1_heavier 19 = .ok (.iload_n 3, 1) := by decide +kernel
theorem dX1_heavier_20 : decode cX1_heavier 20 = .ok (.iconst 4, 1) := by decide +kernel
theorem dX1_heavier_21 : decode cX1_heavier 21 = .ok (.iload 4, 2) := by decide +kernel
theorem dX1_heavier_23 : decode cX1_heavier 23 = .ok (.invokestatic 46, 3) := by decide +kernel
theorem dX1_heavier_26 : decode cX1_heavier 26 = .ok (.ifCond .eq 5, 3) := by decide +kernel
theorem dX1_heavier_29 : decode cX1_heavier 29 = .ok (.iconst 1, 1) := by decide +kernel
theorem dX1_heavier_30 : decode cX1_heavier 30 = .ok (.ireturn, 1) := by decide +kernel
theorem dX1_heavier_31 : decode cX1_heavier 31 = .ok (.iload_n 3, 1) := by decide +kernel
theorem dX1_heavier_32 : decode cX1_heavier 32 = .ok (.iconst 1, 1) := by decide +kernel
theorem dX1_heavier_33 : decode cX1_heavier 33 = .ok (.iload 4, 2) := by decide +kernel
theorem dX1_heavier_35 : decode cX1_heavier 35 = .ok (.invokestatic 46, 3) := by decide +kernel
theorem dX1_heavier_38 : decode cX1_heavier 38 = .ok (.ifCond .eq 5, 3) := by decide +kernel
theorem dX1_heavier_41 : decode cX1_heavier 41 = .ok (.iconst (-1), 1) := by decide +kernel
theorem dX1_heavier_42 : decode cX1_heavier 42 = .ok (.ireturn, 1) := by decide +kernel
theorem dX1_heavier_43 : decode cX1_heavier 43 = .ok (.iload_n 3, 1) := by decide +kernel
theorem dX1_heavier_44 : decode cX1_heavier 44 = .ok (.bipush 16, 2) := by decide +kernel
theorem dX1_heavier_46 : decode cX1_heavier 46 = .ok (.iload 4, 2) := by decide +kernel
theorem dX1_heavier_48 : decode cX1_heavier 48 = .ok (.invokestatic 46, 3) := by decide +kernel
theorem dX1_heavier_51 : decode cX1_heavier 51 = .ok (.ifCond .eq 7, 3) := by decide +kernel
theorem dX1_heavier_54 : decode cX1_heavier 54 = .ok (.iconst 0, 1) := by decide +kernel
theorem dX1_heavier_55 : decode cX1_heavier 55 = .ok (.goto 4, 3) := by decide +kernel
theorem dX1_heavier_58 : decode cX1_heavier 58 = .ok (.iconst 2, 1) := by decide +kernel
theorem dX1_heavier_59 : decode cX1_heavier 59 = .ok (.ireturn, 1) := by decide +kernel
set_option maxRecDepth 20000 in
theorem ggX1_alike_X1_chuteAt : GoodIn wsX1_alike wsX1_chuteAt := goodIn_ca (goodIn_r _ [12, 13, 14, 15, 30, 31, 32, 33, 34, 35, 36, 37, 38, 39] (by decide +kernel) (by decide +kernel)) (goodIn_sub (fun _ h => List.mem_cons_of_mem _ (List.mem_append_right _ h)) (by decide +kernel))
set_option maxRecDepth 20000 in
theorem gX1_alike_X1_chuteAt : GoodIn wsX1_alike (wsV RX1 16 RX1 yX1_chuteAt wsX1_chuteAt) := goodIn_app (goodIn_of _ (by decide +kernel)) ggX1_alike_X1_chuteAt
set_option maxRecDepth 20000 in
theorem ggX1_alike_X1_holds : GoodIn wsX1_alike wsX1_holds := goodIn_r _ [18, 19, 20, 11, 21] (by decide +kernel) (by decide +kernel)
set_option maxRecDepth 20000 in
theorem gX1_alike_X1_holds : GoodIn wsX1_alike (va_wsS RX1 46 yX1_holds wsX1_holds) := goodIn_app (goodIn_of _ (by decide +kernel)) ggX1_alike_X1_holds
theorem dX1_alike_0 : decode cX1_alike 0 = .ok (.aload_n 0, 1) := by decide +kernel
theorem dX1_alike_1 : decode cX1_alike 1 = .ok (.iload_n 1, 1) := by decide +kernel
theorem dX1_alike_2 : decode cX1_alike 2 = .ok (.invokevirtual 16, 3) := by decide +kernel
theorem dX1_alike_5 : decode cX1_alike 5 = .ok (.astore_n 3, 1) := by decide +kernel
theorem dX1_alike_6 : decode cX1_alike 6 = .ok (.aload_n 0, 1) := by decide +kernel
theorem dX1_alike_7 : decode cX1_alike 7 = .ok (.iload_n 2, 1) := by decide +kernel
theorem dX1_alike_8 : decode cX1_alike 8 = .ok (.invokevirtual 16, 3) := by decide +kernel
theorem dX1_alike_11 : decode cX1_alike 11 = .ok (.astore 4, 2) := by decide +kernel
theorem dX1_alike_13 : decode cX1_alike 13 = .ok (.aload_n 3, 1) := by decide +kernel
theorem dX1_alike_14 : decode cX1_alike 14 = .ok (.getfield 27, 3) := by decide +kernel
theorem dX1_alike_17 : decode cX1_alike 17 = .ok (.aload 4, 2) := by decide +kernel
theorem dX1_alike_19 : decode cX1_alike 19 = .ok (.getfield 27, 3) := by decide +kernel
theorem dX1_alike_22 : decode cX1_alike 22 = .ok (.invokestatic 117, 3) := by decide +kernel
theorem dX1_alike_25 : decode cX1_alike 25 = .ok (.istore 5, 2) := by decide +kernel
theorem dX1_alike_27 : decode cX1_alike 27 = .ok (.iconst 0, 1) := by decide +kernel
theorem dX1_alike_28 : decode cX1_alike 28 = .ok (.istore 6, 2) := by decide +kernel
theorem dX1_alike_30 : decode cX1_alike 30 = .ok (.iload 6, 2) := by decide +kernel
theorem dX1_alike_32 : decode cX1_alike 32 = .ok (.iload 5, 2) := by decide +kernel
theorem dX1_alike_34 : decode cX1_alike 34 = .ok (.if_icmp .ge 58, 3) := by decide +kernel
theorem dX1_alike_37 : decode cX1_alike 37 = .ok (.aload_n 3, 1) := by decide +kernel
theorem dX1_alike_38 : decode cX1_alike 38 = .ok (.getfield 89, 3) := by decide +kernel
theorem dX1_alike_41 : decode cX1_alike 41 = .ok (.iload 6, 2) := by decide +kernel
theorem dX1_alike_43 : decode cX1_alike 43 = .ok (.iaload, 1) := by decide +kernel
theorem dX1_alike_44 : decode cX1_alike 44 = .ok (.bipush 16, 2) := by decide +kernel
theorem dX1_alike_46 : decode cX1_alike 46 = .ok (.aload 4, 2) := by decide +kernel
theorem dX1_alike_48 : decode cX1_alike 48 = .ok (.getfield 89, 3) := by decide +kernel
theorem dX1_alike_51 : decode cX1_alike 51 = .ok (.iload 6, 2) := by decide +kernel
theorem dX1_alike_53 : decode cX1_alike 53 = .ok (.iaload, 1) := by decide +kernel
theorem dX1_alike_54 : decode cX1_alike 54 = .ok (.invokestatic 46, 3) := by decide +kernel
theorem dX1_alike_57 : decode cX1_alike 57 = .ok (.ifCond .eq 26, 3) := by decide +kernel
theorem dX1_alike_60 : decode cX1_alike 60 = .ok (.aload_n 3, 1) := by decide +kernel
theorem dX1_alike_61 : decode cX1_alike 61 = .ok (.getfield 97, 3) := by decide +kernel
theorem dX1_alike_64 : decode cX1_alike 64 = .ok (.iload 6, 2) := by decide +kernel
theorem dX1_alike_66 : decode cX1_alike 66 = .ok (.iaload, 1) := by decide +kernel
theorem dX1_alike_67 : decode cX1_alike 67 = .ok (.bipush 16, 2) := by decide +kernel
theorem dX1_alike_69 : decode cX1_alike 69 = .ok (.aload 4, 2) := by decide +kernel
theorem dX1_alike_71 : decode cX1_alike 71 = .ok (.getfield 97, 3) := by decide +kernel
theorem dX1_alike_74 : decode cX1_alike 74 = .ok (.iload 6, 2) := by decide +kernel
theorem dX1_alike_76 : decode cX1_alike 76 = .ok (.iaload, 1) := by decide +kernel
theorem dX1_alike_77 : decode cX1_alike 77 = .ok (.invokestatic 46, 3) := by decide +kernel
theorem dX1_alike_80 : decode cX1_alike 80 = .ok (.ifCond .ne 6, 3) := by decide +kernel
theorem dX1_alike_83 : decode cX1_alike 83 = .ok (.iload 6, 2) := by decide +kernel
theorem dX1_alike_85 : decode cX1_alike 85 = .ok (.ireturn, 1) := by decide +kernel
theorem dX1_alike_86 : decode cX1_alike 86 = .ok (.iinc 6 1, 3) := by decide +kernel
theorem dX1_alike_89 : decode cX1_alike 89 = .ok (.goto (-59), 3) := by decide +kernel
theorem dX1_alike_92 : decode cX1_alike 92 = .ok (.iload 5, 2) := by decide +kernel
theorem dX1_alike_94 : decode cX1_alike 94 = .ok (.ireturn, 1) := by decide +kernel
theorem dX1_gauge_0 : decode cX1_gauge 0 = .ok (.iload_n 1, 1) := by decide +kernel
theorem dX1_gauge_1 : decode cX1_gauge 1 = .ok (.tableswitch 87 0 7 #[47, 52, 57, 62, 67, 72, 77, 82], 47) := by decide +kernel
theorem dX1_gauge_48 : decode cX1_gauge 48 = .ok (.aload_n 0, 1) := by decide +kernel
theorem dX1_gauge_49 : decode cX1_gauge 49 = .ok (.getfield 122, 3) := by decide +kernel
theorem dX1_gauge_52 : decode cX1_gauge 52 = .ok (.ireturn, 1) := by decide +kernel
theorem dX1_gauge_53 : decode cX1_gauge 53 = .ok (.aload_n 0, 1) := by decide +kernel
theorem dX1_gauge_54 : decode cX1_gauge 54 = .ok (.getfield 125, 3) := by decide +kernel
theorem dX1_gauge_57 : decode cX1_gauge 57 = .ok (.ireturn, 1) := by decide +kernel
theorem dX1_gauge_58 : decode cX1_gauge 58 = .ok (.aload_n 0, 1) := by decide +kernel
theorem dX1_gauge_59 : decode cX1_gauge 59 = .ok (.getfield 128, 3) := by decide +kernel
theorem dX1_gauge_62 : decode cX1_gauge 62 = .ok (.ireturn, 1) := by decide +kernel
theorem dX1_gauge_63 : decode cX1_gauge 63 = .ok (.aload_n 0, 1) := by decide +kernel
theorem dX1_gauge_64 : decode cX1_gauge 64 = .ok (.getfield 131, 3) := by decide +kernel
theorem dX1_gauge_67 : decode cX1_gauge 67 = .ok (.ireturn, 1) := by decide +kernel
theorem dX1_gauge_68 : decode cX1_gauge 68 = .ok (.aload_n 0, 1) := by decide +kernel
theorem dX1_gauge_69 : decode cX1_gauge 69 = .ok (.getfield 134, 3) := by decide +kernel
theorem dX1_gauge_72 : decode cX1_gauge 72 = .ok (.ireturn, 1) := by decide +kernel
theorem dX1_gauge_73 : decode cX1_gauge 73 = .ok (.aload_n 0, 1) := by decide +kernel
theorem dX1_gauge_74 : decode cX1_gauge 74 = .ok (.getfield 137, 3) := by decide +kernel
theorem dX1_gauge_77 : decode cX1_gauge 77 = .ok (.ireturn, 1) := by decide +kernel
theorem dX1_gauge_78 : decode cX1_gauge 78 = .ok (.aload_n 0, 1) := by decide +kernel
theorem dX1_gauge_79 : decode cX1_gauge 79 = .ok (.getfield 140, 3) := by decide +kernel
theorem dX1_gauge_82 : decode cX1_gauge 82 = .ok (.ireturn, 1) := by decide +kernel
theorem dX1_gauge_83 : decode cX1_gauge 83 = .ok (.aload_n 0, 1) := by decide +kernel
theorem dX1_gauge_84 : decode cX1_gauge 84 = .ok (.getfield 143, 3) := by decide +kernel
theorem dX1_gauge_87 : decode cX1_gauge 87 = .ok (.ireturn, 1) := by decide +kernel
theorem dX1_gauge_88 : decode cX1_gauge 88 = .ok (.new 20, 3) := by decide +kernel
theorem dX1_gauge_91 : decode cX1_gauge 91 = .ok (.dup, 1) := by decide +kernel
theorem dX1_gauge_92 : decode cX1_gauge 92 = .ok (.ldc 87, 2) := by decide +kernel
theorem dX1_gauge_94 : decode cX1_gauge 94 = .ok (.invokespecial 24, 3) := by decide +kernel
theorem dX1_gauge_97 : decode cX1_gauge 97 = .ok (.athrow, 1) := by decide +kernel
theorem dX1_chuteAt_0 : decode cX1_chuteAt 0 = .ok (.iload_n 1, 1) := by decide +kernel
theorem dX1_chuteAt_1 : decode cX1_chuteAt 1 = .ok (.ifCond .lt 9, 3) := by decide +kernel
theorem dX1_chuteAt_4 : decode cX1_chuteAt 4 = .ok (.iload_n 1, 1) := by decide +kernel
theorem dX1_chuteAt_5 : decode cX1_chuteAt 5 = .ok (.bipush 8, 2) := by decide +kernel
theorem dX1_chuteAt_7 : decode cX1_chuteAt 7 = .ok (.if_icmp .lt 13, 3) := by decide +kernel
theorem dX1_chuteAt_10 : decode cX1_chuteAt 10 = .ok (.new 146, 3) := by decide +kernel
theorem dX1_chuteAt_13 : decode cX1_chuteAt 13 = .ok (.dup, 1) := by decide +kernel
theorem dX1_chuteAt_14 : decode cX1_chuteAt 14 = .ok (.ldc 148, 2) := by decide +kernel
theorem dX1_chuteAt_16 : decode cX1_chuteAt 16 = .ok (.invokespecial 150, 3) := by decide +kernel
theorem dX1_chuteAt_19 : decode cX1_chuteAt 19 = .ok (.athrow, 1) := by decide +kernel
theorem dX1_chuteAt_20 : decode cX1_chuteAt 20 = .ok (.aload_n 0, 1) := by decide +kernel
theorem dX1_chuteAt_21 : decode cX1_chuteAt 21 = .ok (.getfield 11, 3) := by decide +kernel
theorem dX1_chuteAt_24 : decode cX1_chuteAt 24 = .ok (.iload_n 1, 1) := by decide +kernel
theorem dX1_chuteAt_25 : decode cX1_chuteAt 25 = .ok (.aaload, 1) := by decide +kernel
theorem dX1_chuteAt_26 : decode cX1_chuteAt 26 = .ok (.areturn, 1) := by decide +kernel
set_option maxRecDepth 20000 in
theorem ggX1_readGauges_X1_holds : GoodIn wsX1_readGauges wsX1_holds := goodIn_r _ [10, 11, 12, 9, 13] (by decide +kernel) (by decide +kernel)
set_option maxRecDepth 20000 in
theorem gX1_readGauges_X1_holds : GoodIn wsX1_readGauges (va_wsS RX1 46 yX1_holds wsX1_holds) := goodIn_app (goodIn_of _ (by decide +kernel)) ggX1_readGauges_X1_holds
theorem dX1_readGauges_0 : decode cX1_readGauges 0 = .ok (.aload_n 0, 1) := by decide +kernel
theorem dX1_readGauges_1 : decode cX1_readGauges 1 = .ok (.getfield 122, 3) := by decide +kernel
theorem dX1_readGauges_4 : decode cX1_readGauges 4 = .ok (.ifCond .eq 15, 3) := by decide +kernel
theorem dX1_readGauges_7 : decode cX1_readGauges 7 = .ok (.iload_n 1, 1) := by decide +kernel
theorem dX1_readGauges_8 : decode cX1_readGauges 8 = .ok (.iconst 1, 1) := by decide +kernel
theorem dX1_readGauges_9 : decode cX1_readGauges 9 = .ok (.aload_n 0, 1) := by decide +kernel
theorem dX1_readGauges_10 : decode cX1_readGauges 10 = .ok (.getfield 122, 3) := by decide +kernel
theorem dX1_readGauges_13 : decode cX1_readGauges 13 = .ok (.invokestatic 46, 3) := by decide +kernel
theorem dX1_readGauges_16 : decode cX1_readGauges 16 = .ok (.ifCond .eq 8, 3) := by decide +kernel
theorem dX1_readGauges_19 : decode cX1_readGauges 19 = .ok (.aload_n 0, 1) := by decide +kernel
theorem dX1_readGauges_20 : decode cX1_readGauges 20 = .ok (.iload_n 1, 1) := by decide +kernel
theorem dX1_readGauges_21 : decode cX1_readGauges 21 = .ok (.putfield 122, 3) := by decide +kernel
theorem dX1_readGauges_24 : decode cX1_readGauges 24 = .ok (.aload_n 0, 1) := by decide +kernel
theorem dX1_readGauges_25 : decode cX1_readGauges 25 = .ok (.getfield 125, 3) := by decide +kernel
theorem dX1_readGauges_28 : decode cX1_readGauges 28 = .ok (.ifCond .eq 15, 3) := by decide +kernel
theorem dX1_readGauges_31 : decode cX1_readGauges 31 = .ok (.iload_n 1, 1) := by decide +kernel
theorem dX1_readGauges_32 : decode cX1_readGauges 32 = .ok (.iconst 4, 1) := by decide +kernel
theorem dX1_readGauges_33 : decode cX1_readGauges 33 = .ok (.aload_n 0, 1) := by decide +kernel
theorem dX1_readGauges_34 : decode cX1_readGauges 34 = .ok (.getfield 125, 3) := by decide +kernel
theorem dX1_readGauges_37 : decode cX1_readGauges 37 = .ok (.invokestatic 46, 3) := by decide +kernel
theorem dX1_readGauges_40 : decode cX1_readGauges 40 = .ok (.ifCond .eq 8, 3) := by decide +kernel
theorem dX1_readGauges_43 : decode cX1_readGauges 43 = .ok (.aload_n 0, 1) := by decide +kernel
theorem dX1_readGauges_44 : decode cX1_readGauges 44 = .ok (.iload_n 1, 1) := by decide +kernel
theorem dX1_readGauges_45 : decode cX1_readGauges 45 = .ok (.putfield 125, 3) := by decide +kernel
theorem dX1_readGauges_48 : decode cX1_readGauges 48 = .ok (.aload_n 0, 1) := by decide +kernel
theorem dX1_readGauges_49 : decode cX1_readGauges 49 = .ok (.getfield 128, 3) := by decide +kernel
theorem dX1_readGauges_52 : decode cX1_readGauges 52 = .ok (.ifCond .eq 15, 3) := by decide +kernel
theorem dX1_readGauges_55 : decode cX1_readGauges 55 = .ok (.iload_n 2, 1) := by decide +kernel
theorem dX1_readGauges_56 : decode cX1_readGauges 56 = .ok (.iconst 4, 1) := by decide +kernel
theorem dX1_readGauges_57 : decode cX1_readGauges 57 = .ok (.aload_n 0, 1) := by decide +kernel
theorem dX1_readGauges_58 : decode cX1_readGauges 58 = .ok (.getfield 128, 3) := by decide +kernel
theorem dX1_readGauges_61 : decode cX1_readGauges 61 = .ok (.invokestatic 46, 3) := by decide +kernel
theorem dX1_readGauges_64 : decode cX1_readGauges 64 = .ok (.ifCond .eq 8, 3) := by decide +kernel
theorem dX1_readGauges_67 : decode cX1_readGauges 67 = .ok (.aload_n 0, 1) := by decide +kernel
theorem dX1_readGauges_68 : decode cX1_readGauges 68 = .ok (.iload_n 2, 1) := by decide +kernel
theorem dX1_readGauges_69 : decode cX1_readGauges 69 = .ok (.putfield 128, 3) := by decide +kernel
theorem dX1_readGauges_72 : decode cX1_readGauges 72 = .ok (.aload_n 0, 1) := by decide +kernel
theorem dX1_readGauges_73 : decode cX1_readGauges 73 = .ok (.iload_n 1, 1) := by decide +kernel
theorem dX1_readGauges_74 : decode cX1_readGauges 74 = .ok (.iconst 1, 1) := by decide +kernel
theorem dX1_readGauges_75 : decode cX1_readGauges 75 = .ok (.aload_n 0, 1) := by decide +kernel
theorem dX1_readGauges_76 : decode cX1_readGauges 76 = .ok (.getfield 151, 3) := by decide +kernel
theorem dX1_readGauges_79 : decode cX1_readGauges 79 = .ok (.invokestatic 46, 3) := by decide +kernel
theorem dX1_readGauges_82 : decode cX1_readGauges 82 = .ok (.ifCond .eq 7, 3) := by decide +kernel
theorem dX1_readGauges_85 : decode cX1_readGauges 85 = .ok (.iconst 1, 1) := by decide +kernel
theorem dX1_readGauges_86 : decode cX1_readGauges 86 = .ok (.goto 9, 3) := by decide +kernel
theorem dX1_readGauges_89 : decode cX1_readGauges 89 = .ok (.aload_n 0, 1) := by decide +kernel
theorem dX1_readGauges_90 : decode cX1_readGauges 90 = .ok (.getfield 131, 3) := by decide +kernel
theorem dX1_readGauges_93 : decode cX1_readGauges 93 = .ok (.iconst 1, 1) := by decide +kernel
theorem dX1_readGauges_94 : decode cX1_readGauges 94 = .ok (.iadd, 1) := by decide +kernel
theorem dX1_readGauges_95 : decode cX1_readGauges 95 = .ok (.putfield 131, 3) := by decide +kernel
theorem dX1_readGauges_98 : decode cX1_readGauges 98 = .ok (.aload_n 0, 1) := by decide +kernel
theorem dX1_readGauges_99 : decode cX1_readGauges 99 = .ok (.iload_n 1, 1) := by decide +kernel
theorem dX1_readGauges_100 : decode cX1_readGauges 100 = .ok (.putfield 151, 3) := by decide +kernel
theorem dX1_readGauges_103 : decode cX1_readGauges 103 = .ok (.aload_n 0, 1) := by decide +kernel
theorem dX1_readGauges_104 : decode cX1_readGauges 104 = .ok (.dup, 1) := by decide +kernel
theorem dX1_readGauges_105 : decode cX1_readGauges 105 = .ok (.getfield 134, 3) := by decide +kernel
theorem dX1_readGauges_108 : decode cX1_readGauges 108 = .ok (.iconst 1, 1) := by decide +kernel
theorem dX1_readGauges_109 : decode cX1_readGauges 109 = .ok (.iadd, 1) := by decide +kernel
theorem dX1_readGauges_110 : decode cX1_readGauges 110 = .ok (.putfield 134, 3) := by decide +kernel
theorem dX1_readGauges_113 : decode cX1_readGauges 113 = .ok (.return_, 1) := by decide +kernel
theorem dX1_putAside_0 : decode cX1_putAside 0 = .ok (.aload_n 0, 1) := by decide +kernel
theorem dX1_putAside_1 : decode cX1_putAside 1 = .ok (.dup, 1) := by decide +kernel
theorem dX1_putAside_2 : decode cX1_putAside 2 = .ok (.getfield 137, 3) := by decide +kernel
theorem dX1_putAside_5 : decode cX1_putAside 5 = .ok (.iconst 1, 1) := by decide +kernel
theorem dX1_putAside_6 : decode cX1_putAside 6 = .ok (.iadd, 1) := by decide +kernel
theorem dX1_putAside_7 : decode cX1_putAside 7 = .ok (.putfield 137, 3) := by decide +kernel
theorem dX1_putAside_10 : decode cX1_putAside 10 = .ok (.aload_n 0, 1) := by decide +kernel
theorem dX1_putAside_11 : decode cX1_putAside 11 = .ok (.iload_n 1, 1) := by decide +kernel
theorem dX1_putAside_12 : decode cX1_putAside 12 = .ok (.putfield 140, 3) := by decide +kernel
theorem dX1_putAside_15 : decode cX1_putAside 15 = .ok (.aload_n 0, 1) := by decide +kernel
theorem dX1_putAside_16 : decode cX1_putAside 16 = .ok (.iload_n 2, 1) := by decide +kernel
theorem dX1_putAside_17 : decode cX1_putAside 17 = .ok (.putfield 143, 3) := by decide +kernel
theorem dX1_putAside_20 : decode cX1_putAside 20 = .ok (.return_, 1) := by decide +kernel
theorem dX1_requireWeight_0 : decode cX1_requireWeight 0 = .ok (.iload_n 0, 1) := by decide +kernel
theorem dX1_requireWeight_1 : decode cX1_requireWeight 1 = .ok (.ifCond .lt 9, 3) := by decide +kernel
theorem dX1_requireWeight_4 : decode cX1_requireWeight 4 = .ok (.iload_n 0, 1) := by decide +kernel
theorem dX1_requireWeight_5 : decode cX1_requireWeight 5 = .ok (.ldc 154, 2) := by decide +kernel
theorem dX1_requireWeight_7 : decode cX1_requireWeight 7 = .ok (.if_icmp .le 13, 3) := by decide +kernel
theorem dX1_requireWeight_10 : decode cX1_requireWeight 10 = .ok (.new 20, 3) := by decide +kernel
theorem dX1_requireWeight_13 : decode cX1_requireWeight 13 = .ok (.dup, 1) := by decide +kernel
theorem dX1_requireWeight_14 : decode cX1_requireWeight 14 = .ok (.ldc 155, 2) := by decide +kernel
theorem dX1_requireWeight_16 : decode cX1_requireWeight 16 = .ok (.invokespecial 24, 3) := by decide +kernel
theorem dX1_requireWeight_19 : decode cX1_requireWeight 19 = .ok (.athrow, 1) := by decide +kernel
theorem dX1_requireWeight_20 : decode cX1_requireWeight 20 = .ok (.return_, 1) := by decide +kernel
theorem dX1_requireGirth_0 : decode cX1_requireGirth 0 = .ok (.iload_n 0, 1) := by decide +kernel
theorem dX1_requireGirth_1 : decode cX1_requireGirth 1 = .ok (.ifCond .lt 10, 3) := by decide +kernel
theorem dX1_requireGirth_4 : decode cX1_requireGirth 4 = .ok (.iload_n 0, 1) := by decide +kernel
theorem dX1_requireGirth_5 : decode cX1_requireGirth 5 = .ok (.sipush 16000, 3) := by decide +kernel
theorem dX1_requireGirth_8 : decode cX1_requireGirth 8 = .ok (.if_icmp .le 13, 3) := by decide +kernel
theorem dX1_requireGirth_11 : decode cX1_requireGirth 11 = .ok (.new 20, 3) := by decide +kernel
theorem dX1_requireGirth_14 : decode cX1_requireGirth 14 = .ok (.dup, 1) := by decide +kernel
theorem dX1_requireGirth_15 : decode cX1_requireGirth 15 = .ok (.ldc 157, 2) := by decide +kernel
theorem dX1_requireGirth_17 : decode cX1_requireGirth 17 = .ok (.invokespecial 24, 3) := by decide +kernel
theorem dX1_requireGirth_20 : decode cX1_requireGirth 20 = .ok (.athrow, 1) := by decide +kernel
theorem dX1_requireGirth_21 : decode cX1_requireGirth 21 = .ok (.return_, 1) := by decide +kernel
theorem dX1_requirePlace_0 : decode cX1_requirePlace 0 = .ok (.iload_n 1, 1) := by decide +kernel
theorem dX1_requirePlace_1 : decode cX1_requirePlace 1 = .ok (.ifCond .lt 11, 3) := by decide +kernel
theorem dX1_requirePlace_4 : decode cX1_requirePlace 4 = .ok (.iload_n 1, 1) := by decide +kernel
theorem dX1_requirePlace_5 : decode cX1_requirePlace 5 = .ok (.aload_n 0, 1) := by decide +kernel
theorem dX1_requirePlace_6 : decode cX1_requirePlace 6 = .ok (.getfield 27, 3) := by decide +kernel
theorem dX1_requirePlace_9 : decode cX1_requirePlace 9 = .ok (.if_icmp .lt 13, 3) := by decide +kernel
theorem dX1_requirePlace_12 : decode cX1_requirePlace 12 = .ok (.new 159, 3) := by decide +kernel
theorem dX1_requirePlace_15 : decode cX1_requirePlace 15 = .ok (.dup, 1) := by decide +kernel
theorem dX1_requirePlace_16 : decode cX1_requirePlace 16 = .ok (.ldc 161, 2) := by decide +kernel
theorem dX1_requirePlace_18 : decode cX1_requirePlace 18 = .ok (.invokespecial 163, 3) := by decide +kernel
theorem dX1_requirePlace_21 : decode cX1_requirePlace 21 = .ok (.athrow, 1) := by decide +kernel
theorem dX1_requirePlace_22 : decode cX1_requirePlace 22 = .ok (.return_, 1) := by decide +kernel
theorem dX1_oneIf_0 : decode cX1_oneIf 0 = .ok (.iload_n 0, 1) := by decide +kernel
theorem dX1_oneIf_1 : decode cX1_oneIf 1 = .ok (.ifCond .eq 7, 3) := by decide +kernel
theorem dX1_oneIf_4 : decode cX1_oneIf 4 = .ok (.iconst 1, 1) := by decide +kernel
theorem dX1_oneIf_5 : decode cX1_oneIf 5 = .ok (.goto 4, 3) := by decide +kernel
theorem dX1_oneIf_8 : decode cX1_oneIf 8 = .ok (.iconst 0, 1) := by decide +kernel
theorem dX1_oneIf_9 : decode cX1_oneIf 9 = .ok (.ireturn, 1) := by decide +kernel
theorem dX1_signsBetween_0 : decode cX1_signsBetween 0 = .ok (.iload_n 0, 1) := by decide +kernel
theorem dX1_signsBetween_1 : decode cX1_signsBetween 1 = .ok (.ifCond .eq 7, 3) := by decide +kernel
theorem dX1_signsBetween_4 : decode cX1_signsBetween 4 = .ok (.iload_n 1, 1) := by decide +kernel
theorem dX1_signsBetween_5 : decode cX1_signsBetween 5 = .ok (.ifCond .ne 6, 3) := by decide +kernel
theorem dX1_signsBetween_8 : decode cX1_signsBetween 8 = .ok (.bipush 32, 2) := by decide +kernel
theorem dX1_signsBetween_10 : decode cX1_signsBetween 10 = .ok (.ireturn, 1) := by decide +kernel
theorem dX1_signsBetween_11 : decode cX1_signsBetween 11 = .ok (.iload_n 0, 1) := by decide +kernel
theorem dX1_signsBetween_12 : decode cX1_signsBetween 12 = .ok (.iload_n 1, 1) := by decide +kernel
theorem dX1_signsBetween_13 : decode cX1_signsBetween 13 = .ok (.if_icmp .ge 6, 3) := by decide +kernel
theorem dX1_signsBetween_16 : decode cX1_signsBetween 16 = .ok (.bipush 35, 2) := by decide +kernel
theorem dX1_signsBetween_18 : decode cX1_signsBetween 18 = .ok (.ireturn, 1) := by decide +kernel
theorem dX1_signsBetween_19 : decode cX1_signsBetween 19 = .ok (.iload_n 0, 1) := by decide +kernel
theorem dX1_signsBetween_20 : decode cX1_signsBetween 20 = .ok (.iload_n 1, 1) := by decide +kernel
theorem dX1_signsBetween_21 : decode cX1_signsBetween 21 = .ok (.if_icmp .le 6, 3) := by decide +kernel
theorem dX1_signsBetween_24 : decode cX1_signsBetween 24 = .ok (.bipush 44, 2) := by decide +kernel
theorem dX1_signsBetween_26 : decode cX1_signsBetween 26 = .ok (.ireturn, 1) := by decide +kernel
theorem dX1_signsBetween_27 : decode cX1_signsBetween 27 = .ok (.bipush 26, 2) := by decide +kernel
theorem dX1_signsBetween_29 : decode cX1_signsBetween 29 = .ok (.ireturn, 1) := by decide +kernel
set_option maxRecDepth 20000 in
theorem ggX1_holds_X1_signsBetween : GoodIn wsX1_holds wsX1_signsBetween := goodIn_r _ [4] (by decide +kernel) (by decide +kernel)
set_option maxRecDepth 20000 in
theorem gX1_holds_X1_signsBetween : GoodIn wsX1_holds (va_wsS RX1 83 yX1_signsBetween wsX1_signsBetween) := goodIn_app (goodIn_of _ (by decide +kernel)) ggX1_holds_X1_signsBetween
theorem dX1_holds_0 : decode cX1_holds 0 = .ok (.iload_n 0, 1) := by decide +kernel
theorem dX1_holds_1 : decode cX1_holds 1 = .ok (.iload_n 2, 1) := by decide +kernel
theorem dX1_holds_2 : decode cX1_holds 2 = .ok (.invokestatic 83, 3) := by decide +kernel
theorem dX1_holds_5 : decode cX1_holds 5 = .ok (.iload_n 1, 1) := by decide +kernel
theorem dX1_holds_6 : decode cX1_holds 6 = .ok (.iand, 1) := by decide +kernel
theorem dX1_holds_7 : decode cX1_holds 7 = .ok (.ifCond .eq 7, 3) := by decide +kernel
theorem dX1_holds_10 : decode cX1_holds 10 = .ok (.iconst 1, 1) := by decide +kernel
theorem dX1_holds_11 : decode cX1_holds 11 = .ok (.goto 4, 3) := by decide +kernel
theorem dX1_holds_14 : decode cX1_holds 14 = .ok (.iconst 0, 1) := by decide +kernel
theorem dX1_holds_15 : decode cX1_holds 15 = .ok (.ireturn, 1) := by decide +kernel
theorem dX2_init_0 : decode cX2_init 0 = .ok (.aload_n 0, 1) := by decide +kernel
theorem dX2_init_1 : decode cX2_init 1 = .ok (.invokespecial 1, 3) := by decide +kernel
theorem dX2_init_4 : decode cX2_init 4 = .ok (.aload_n 0, 1) := by decide +kernel
theorem dX2_init_5 : decode cX2_init 5 = .ok (.bipush 96, 2) := by decide +kernel
theorem dX2_init_7 : decode cX2_init 7 = .ok (.newarray .int, 2) := by decide +kernel
theorem dX2_init_9 : decode cX2_init 9 = .ok (.putfield 7, 3) := by decide +kernel
theorem dX2_init_12 : decode cX2_init 12 = .ok (.aload_n 0, 1) := by decide +kernel
theorem dX2_init_13 : decode cX2_init 13 = .ok (.bipush 96, 2) := by decide +kernel
theorem dX2_init_15 : decode cX2_init 15 = .ok (.newarray .int, 2) := by decide +kernel
theorem dX2_init_17 : decode cX2_init 17 = .ok (.putfield 13, 3) := by decide +kernel
theorem dX2_init_20 : decode cX2_init 20 = .ok (.aload_n 0, 1) := by decide +kernel
theorem dX2_init_21 : decode cX2_init 21 = .ok (.bipush 96, 2) := by decide +kernel
theorem dX2_init_23 : decode cX2_init 23 = .ok (.newarray .int, 2) := by decide +kernel
theorem dX2_init_25 : decode cX2_init 25 = .ok (.putfield 16, 3) := by decide +kernel
theorem dX2_init_28 : decode cX2_init 28 = .ok (.aload_n 0, 1) := by decide +kernel
theorem dX2_init_29 : decode cX2_init 29 = .ok (.bipush 96, 2) := by decide +kernel
theorem dX2_init_31 : decode cX2_init 31 = .ok (.newarray .int, 2) := by decide +kernel
theorem dX2_init_33 : decode cX2_init 33 = .ok (.putfield 19, 3) := by decide +kernel
theorem dX2_init_36 : decode cX2_init 36 = .ok (.aload_n 0, 1) := by decide +kernel
theorem dX2_init_37 : decode cX2_init 37 = .ok (.bipush 8, 2) := by decide +kernel
theorem dX2_init_39 : decode cX2_init 39 = .ok (.newarray .int, 2) := by decide +kernel
theorem dX2_init_41 : decode cX2_init 41 = .ok (.putfield 22, 3) := by decide +kernel
theorem dX2_init_44 : decode cX2_init 44 = .ok (.aload_n 0, 1) := by decide +kernel
theorem dX2_init_45 : decode cX2_init 45 = .ok (.bipush 8, 2) := by decide +kernel
theorem dX2_init_47 : decode cX2_init 47 = .ok (.newarray .int, 2) := by decide +kernel
theorem dX2_init_49 : decode cX2_init 49 = .ok (.putfield 25, 3) := by decide +kernel
theorem dX2_init_52 : decode cX2_init 52 = .ok (.aload_n 0, 1) := by decide +kernel
theorem dX2_init_53 : decode cX2_init 53 = .ok (.bipush 8, 2) := by decide +kernel
theorem dX2_init_55 : decode cX2_init 55 = .ok (.newarray .int, 2) := by decide +kernel
theorem dX2_init_57 : decode cX2_init 57 = .ok (.putfield 28, 3) := by decide +kernel
theorem dX2_init_60 : decode cX2_init 60 = .ok (.aload_n 0, 1) := by decide +kernel
theorem dX2_init_61 : decode cX2_init 61 = .ok (.bipush 8, 2) := by decide +kernel
theorem dX2_init_63 : decode cX2_init 63 = .ok (.newarray .int, 2) := by decide +kernel
theorem dX2_init_65 : decode cX2_init 65 = .ok (.putfield 31, 3) := by decide +kernel
theorem dX2_init_68 : decode cX2_init 68 = .ok (.aload_n 0, 1) := by decide +kernel
theorem dX2_init_69 : decode cX2_init 69 = .ok (.bipush 8, 2) := by decide +kernel
theorem dX2_init_71 : decode cX2_init 71 = .ok (.newarray .boolean, 2) := by decide +kernel
theorem dX2_init_73 : decode cX2_init 73 = .ok (.putfield 34, 3) := by decide +kernel
theorem dX2_init_76 : decode cX2_init 76 = .ok (.iconst 0, 1) := by decide +kernel
theorem dX2_init_77 : decode cX2_init 77 = .ok (.istore_n 1, 1) := by decide +kernel
theorem dX2_init_78 : decode cX2_init 78 = .ok (.iload_n 1, 1) := by decide +kernel
theorem dX2_init_79 : decode cX2_init 79 = .ok (.bipush 96, 2) := by decide +kernel
theorem dX2_init_81 : decode cX2_init 81 = .ok (.if_icmp .ge 16, 3) := by decide +kernel
theorem dX2_init_84 : decode cX2_init 84 = .ok (.aload_n 0, 1) := by decide +kernel
theorem dX2_init_85 : decode cX2_init 85 = .ok (.getfield 7, 3) := by decide +kernel
theorem dX2_init_88 : decode cX2_init 88 = .ok (.iload_n 1, 1) := by decide +kernel
theorem dX2_init_89 : decode cX2_init 89 = .ok (.iconst (-1), 1) := by decide +kernel
theorem dX2_init_90 : decode cX2_init 90 = .ok (.iastore, 1) := by decide +kernel
theorem dX2_init_91 : decode cX2_init 91 = .ok (.iinc 1 1, 3) := by decide +kernel
theorem dX2_init_94 : decode cX2_init 94 = .ok (.goto (-16), 3) := by decide +kernel
theorem dX2_init_97 : decode cX2_init 97 = .ok (.return_, 1) := by decide +kernel
theorem dX2_thrown_0 : decode cX2_thrown 0 = .ok (.aload_n 0, 1) := by decide +kernel
theorem dX2_thrown_1 : decode cX2_thrown 1 = .ok (.getfield 38, 3) := by decide +kernel
theorem dX2_thrown_4 : decode cX2_thrown 4 = .ok (.ireturn, 1) := by decide +kernel
theorem dX2_isWithin_0 : decode cX2_isWithin 0 = .ok (.iload_n 0, 1) := by decide +kernel
theorem dX2_isWithin_1 : decode cX2_isWithin 1 = .ok (.ifCond .lt 12, 3) := by decide +kernel
theorem dX2_isWithin_4 : decode cX2_isWithin 4 = .ok (.iload_n 0, 1) := by decide +kernel
theorem dX2_isWithin_5 : decode cX2_isWithin 5 = .ok (.iload_n 1, 1) := by decide +kernel
theorem dX2_isWithin_6 : decode cX2_isWithin 6 = .ok (.if_icmp .gt 7, 3) := by decide +kernel
theorem dX2_isWithin_9 : decode cX2_isWithin 9 = .ok (.iconst 1, 1) := by decide +kernel
theorem dX2_isWithin_10 : decode cX2_isWithin 10 = .ok (.goto 4, 3) := by decide +kernel
theorem dX2_isWithin_13 : decode cX2_isWithin 13 = .ok (.iconst 0, 1) := by decide +kernel
theorem dX2_isWithin_14 : decode cX2_isWithin 14 = .ok (.ireturn, 1) := by decide +kernel
set_option maxRecDepth 20000 in
theorem ggX2_isChute_X2_isWithin : GoodIn wsX2_isChute wsX2_isWithin := goodIn_r _ [4] (by decide +kernel) (by decide +kernel)
set_option maxRecDepth 20000 in
theorem gX2_isChute_X2_isWithin : GoodIn wsX2_isChute (va_wsS RX2 42 yX2_isWithin wsX2_isWithin) := goodIn_app (goodIn_of _ (by decide +kernel)) ggX2_isChute_X2_isWithin
theorem dX2_isChute_0 : decode cX2_isChute 0 = .ok (.iload_n 0, 1) := by decide +kernel
theorem dX2_isChute_1 : decode cX2_isChute 1 = .ok (.bipush 7, 2) := by decide +kernel
theorem dX2_isChute_3 : decode cX2_isChute 3 = .ok (.invokestatic 42, 3) := by decide +kernel
theorem dX2_isChute_6 : decode cX2_isChute 6 = .ok (.ireturn, 1) := by decide +kernel
set_option maxRecDepth 20000 in
theorem ggX2_isParcel_X2_isWithin : GoodIn wsX2_isParcel wsX2_isWithin := goodIn_r _ [5] (by decide +kernel) (by decide +kernel)
set_option maxRecDepth 20000 in
theorem gX2_isParcel_X2_isWithin : GoodIn wsX2_isParcel (va_wsS RX2 42 yX2_isWithin wsX2_isWithin) := goodIn_app (goodIn_of _ (by decide +kernel)) ggX2_isParcel_X2_isWithin
theorem dX2_isParcel_0 : decode cX2_isParcel 0 = .ok (.iload_n 0, 1) := by decide +kernel
theorem dX2_isParcel_1 : decode cX2_isParcel 1 = .ok (.ldc 46, 2) := by decide +kernel
theorem dX2_isParcel_3 : decode cX2_isParcel 3 = .ok (.invokestatic 42, 3) := by decide +kernel
theorem dX2_isParcel_6 : decode cX2_isParcel 6 = .ok (.ifCond .eq 17, 3) := by decide +kernel
theorem dX2_isParcel_9 : decode cX2_isParcel 9 = .ok (.iload_n 1, 1) := by decide +kernel
theorem dX2_isParcel_10 : decode cX2_isParcel 10 = .ok (.sipush 16000, 3) := by decide +kernel
theorem dX2_isParcel_13 : decode cX2_isParcel 13 = .ok (.invokestatic 42, 3) := by decide +kernel
theorem dX2_isParcel_16 : decode cX2_isParcel 16 = .ok (.ifCond .eq 7, 3) := by decide +kernel
theorem dX2_isParcel_19 : decode cX2_isParcel 19 = .ok (.iconst 1, 1) := by decide +kernel
theorem dX2_isParcel_20 : decode cX2_isParcel 20 = .ok (.goto 4, 3) := by decide +kernel
theorem dX2_isParcel_23 : decode cX2_isParcel 23 = .ok (.iconst 0, 1) := by decide +kernel
theorem dX2_isParcel_24 : decode cX2_isParcel 24 = .ok (.ireturn, 1) := by decide +kernel
theorem dX2_signsOf_0 : decode cX2_signsOf 0 = .ok (.iload_n 0, 1) := by decide +kernel
theorem dX2_signsOf_1 : decode cX2_signsOf 1 = .ok (.ifCond .eq 7, 3) := by decide +kernel
theorem dX2_signsOf_4 : decode cX2_signsOf 4 = .ok (.iload_n 1, 1) := by decide +kernel
theorem dX2_signsOf_5 : decode cX2_signsOf 5 = .ok (.ifCond .ne 6, 3) := by decide +kernel
end
section
theorem dX2_signsOf_8 : decode cX2_signsOf 8 = .ok (.bipush 32, 2) := by decide +kernel
theorem dX2_signsOf_10 : decode cX2_signsOf 10 = .ok (.ireturn, 1) := by decide +kernel
theorem dX2_signsOf_11 : decode cX2_signsOf 11 = .ok (.iload_n 0, 1) := by decide +kernel
theorem dX2_signsOf_12 : decode cX2_signsOf 12 = .ok (.iload_n 1, 1) := by decide +kernel
theorem dX2_signsOf_13 : decode cX2_signsOf 13 = .ok (.if_icmp .ne 6, 3) := by decide +kernel
theorem dX2_signsOf_16 : decode cX2_signsOf 16 = .ok (.bipush 26, 2) := by decide +kernel
theorem dX2_signsOf_18 : decode cX2_signsOf 18 = .ok (.ireturn, 1) := by decide +kernel
theorem dX2_signsOf_19 : decode cX2_signsOf 19 = .ok (.iload_n 0, 1) := by decide +kernel
theorem dX2_signsOf_20 : decode cX2_signsOf 20 = .ok (.iload_n 1, 1) := by decide +kernel
theorem dX2_signsOf_21 : decode cX2_signsOf 21 = .ok (.if_icmp .ge 8, 3) := by decide +kernel
theorem dX2_signsOf_24 : decode cX2_signsOf 24 = .ok (.bipush 35, 2) := by decide +kernel
theorem dX2_signsOf_26 : decode cX2_signsOf 26 = .ok (.goto 5, 3) := by decide +kernel
theorem dX2_signsOf_29 : decode cX2_signsOf 29 = .ok (.bipush 44, 2) := by decide +kernel
theorem dX2_signsOf_31 : decode cX2_signsOf 31 = .ok (.ireturn, 1) := by decide +kernel
set_option maxRecDepth 20000 in
theorem ggX2_holds_X2_signsOf : GoodIn wsX2_holds wsX2_signsOf := goodIn_r _ [4] (by decide +kernel) (by decide +kernel)
set_option maxRecDepth 20000 in
theorem gX2_holds_X2_signsOf : GoodIn wsX2_holds (va_wsS RX2 47 yX2_signsOf wsX2_signsOf) := goodIn_app (goodIn_of _ (by decide +kernel)) ggX2_holds_X2_signsOf
theorem dX2_holds_0 : decode cX2_holds 0 = .ok (.iload_n 0, 1) := by decide +kernel
theorem dX2_holds_1 : decode cX2_holds 1 = .ok (.iload_n 1, 1) := by decide +kernel
theorem dX2_holds_2 : decode cX2_holds 2 = .ok (.invokestatic 47, 3) := by decide +kernel
theorem dX2_holds_5 : decode cX2_holds 5 = .ok (.iload_n 2, 1) := by decide +kernel
theorem dX2_holds_6 : decode cX2_holds 6 = .ok (.iand, 1) := by decide +kernel
theorem dX2_holds_7 : decode cX2_holds 7 = .ok (.ifCond .eq 7, 3) := by decide +kernel
theorem dX2_holds_10 : decode cX2_holds 10 = .ok (.iconst 1, 1) := by decide +kernel
theorem dX2_holds_11 : decode cX2_holds 11 = .ok (.goto 4, 3) := by decide +kernel
theorem dX2_holds_14 : decode cX2_holds 14 = .ok (.iconst 0, 1) := by decide +kernel
theorem dX2_holds_15 : decode cX2_holds 15 = .ok (.ireturn, 1) := by decide +kernel
set_option maxRecDepth 20000 in
theorem ggX2_fitsChute_X2_holds : GoodIn wsX2_fitsChute wsX2_holds := goodIn_r _ [8, 9, 10, 7, 11] (by decide +kernel) (by decide +kernel)
set_option maxRecDepth 20000 in
theorem gX2_fitsChute_X2_holds : GoodIn wsX2_fitsChute (va_wsS RX2 51 yX2_holds wsX2_holds) := goodIn_app (goodIn_of _ (by decide +kernel)) ggX2_fitsChute_X2_holds
theorem dX2_fitsChute_0 : decode cX2_fitsChute 0 = .ok (.aload_n 0, 1) := by decide +kernel
theorem dX2_fitsChute_1 : decode cX2_fitsChute 1 = .ok (.getfield 22, 3) := by decide +kernel
theorem dX2_fitsChute_4 : decode cX2_fitsChute 4 = .ok (.iload_n 3, 1) := by decide +kernel
theorem dX2_fitsChute_5 : decode cX2_fitsChute 5 = .ok (.iaload, 1) := by decide +kernel
theorem dX2_fitsChute_6 : decode cX2_fitsChute 6 = .ok (.tableswitch 215 0 3 #[30, 79, 128, 164], 30) := by decide +kernel
theorem dX2_fitsChute_36 : decode cX2_fitsChute 36 = .ok (.iload_n 1, 1) := by decide +kernel
theorem dX2_fitsChute_37 : decode cX2_fitsChute 37 = .ok (.aload_n 0, 1) := by decide +kernel
theorem dX2_fitsChute_38 : decode cX2_fitsChute 38 = .ok (.getfield 25, 3) := by decide +kernel
theorem dX2_fitsChute_41 : decode cX2_fitsChute 41 = .ok (.iload_n 3, 1) := by decide +kernel
theorem dX2_fitsChute_42 : decode cX2_fitsChute 42 = .ok (.iaload, 1) := by decide +kernel
theorem dX2_fitsChute_43 : decode cX2_fitsChute 43 = .ok (.bipush 8, 2) := by decide +kernel
theorem dX2_fitsChute_45 : decode cX2_fitsChute 45 = .ok (.invokestatic 51, 3) := by decide +kernel
theorem dX2_fitsChute_48 : decode cX2_fitsChute 48 = .ok (.ifCond .eq 35, 3) := by decide +kernel
theorem dX2_fitsChute_51 : decode cX2_fitsChute 51 = .ok (.iload_n 1, 1) := by decide +kernel
theorem dX2_fitsChute_52 : decode cX2_fitsChute 52 = .ok (.aload_n 0, 1) := by decide +kernel
theorem dX2_fitsChute_53 : decode cX2_fitsChute 53 = .ok (.getfield 28, 3) := by decide +kernel
theorem dX2_fitsChute_56 : decode cX2_fitsChute 56 = .ok (.iload_n 3, 1) := by decide +kernel
theorem dX2_fitsChute_57 : decode cX2_fitsChute 57 = .ok (.iaload, 1) := by decide +kernel
theorem dX2_fitsChute_58 : decode cX2_fitsChute 58 = .ok (.iconst 1, 1) := by decide +kernel
theorem dX2_fitsChute_59 : decode cX2_fitsChute 59 = .ok (.invokestatic 51, 3) := by decide +kernel
theorem dX2_fitsChute_62 : decode cX2_fitsChute 62 = .ok (.ifCond .eq 21, 3) := by decide +kernel
theorem dX2_fitsChute_65 : decode cX2_fitsChute 65 = .ok (.iload_n 2, 1) := by decide +kernel
theorem dX2_fitsChute_66 : decode cX2_fitsChute 66 = .ok (.aload_n 0, 1) := by decide +kernel
theorem dX2_fitsChute_67 : decode cX2_fitsChute 67 = .ok (.getfield 31, 3) := by decide +kernel
theorem dX2_fitsChute_70 : decode cX2_fitsChute 70 = .ok (.iload_n 3, 1) := by decide +kernel
theorem dX2_fitsChute_71 : decode cX2_fitsChute 71 = .ok (.iaload, 1) := by decide +kernel
theorem dX2_fitsChute_72 : decode cX2_fitsChute 72 = .ok (.iconst 2, 1) := by decide +kernel
theorem dX2_fitsChute_73 : decode cX2_fitsChute 73 = .ok (.invokestatic 51, 3) := by decide +kernel
theorem dX2_fitsChute_76 : decode cX2_fitsChute 76 = .ok (.ifCond .eq 7, 3) := by decide +kernel
theorem dX2_fitsChute_79 : decode cX2_fitsChute 79 = .ok (.iconst 1, 1) := by decide +kernel
theorem dX2_fitsChute_80 : decode cX2_fitsChute 80 = .ok (.goto 4, 3) := by decide +kernel
theorem dX2_fitsChute_83 : decode cX2_fitsChute 83 = .ok (.iconst 0, 1) := by decide +kernel
theorem dX2_fitsChute_84 : decode cX2_fitsChute 84 = .ok (.ireturn, 1) := by decide +kernel
theorem dX2_fitsChute_85 : decode cX2_fitsChute 85 = .ok (.iload_n 1, 1) := by decide +kernel
theorem dX2_fitsChute_86 : decode cX2_fitsChute 86 = .ok (.aload_n 0, 1) := by decide +kernel
theorem dX2_fitsChute_87 : decode cX2_fitsChute 87 = .ok (.getfield 25, 3) := by decide +kernel
theorem dX2_fitsChute_90 : decode cX2_fitsChute 90 = .ok (.iload_n 3, 1) := by decide +kernel
theorem dX2_fitsChute_91 : decode cX2_fitsChute 91 = .ok (.iaload, 1) := by decide +kernel
theorem dX2_fitsChute_92 : decode cX2_fitsChute 92 = .ok (.iconst 1, 1) := by decide +kernel
theorem dX2_fitsChute_93 : decode cX2_fitsChute 93 = .ok (.invokestatic 51, 3) := by decide +kernel
theorem dX2_fitsChute_96 : decode cX2_fitsChute 96 = .ok (.ifCond .ne 36, 3) := by decide +kernel
theorem dX2_fitsChute_99 : decode cX2_fitsChute 99 = .ok (.iload_n 1, 1) := by decide +kernel
theorem dX2_fitsChute_100 : decode cX2_fitsChute 100 = .ok (.aload_n 0, 1) := by decide +kernel
theorem dX2_fitsChute_101 : decode cX2_fitsChute 101 = .ok (.getfield 28, 3) := by decide +kernel
theorem dX2_fitsChute_104 : decode cX2_fitsChute 104 = .ok (.iload_n 3, 1) := by decide +kernel
theorem dX2_fitsChute_105 : decode cX2_fitsChute 105 = .ok (.iaload, 1) := by decide +kernel
theorem dX2_fitsChute_106 : decode cX2_fitsChute 106 = .ok (.bipush 8, 2) := by decide +kernel
theorem dX2_fitsChute_108 : decode cX2_fitsChute 108 = .ok (.invokestatic 51, 3) := by decide +kernel
theorem dX2_fitsChute_111 : decode cX2_fitsChute 111 = .ok (.ifCond .ne 21, 3) := by decide +kernel
theorem dX2_fitsChute_114 : decode cX2_fitsChute 114 = .ok (.iload_n 2, 1) := by decide +kernel
theorem dX2_fitsChute_115 : decode cX2_fitsChute 115 = .ok (.aload_n 0, 1) := by decide +kernel
theorem dX2_fitsChute_116 : decode cX2_fitsChute 116 = .ok (.getfield 31, 3) := by decide +kernel
theorem dX2_fitsChute_119 : decode cX2_fitsChute 119 = .ok (.iload_n 3, 1) := by decide +kernel
theorem dX2_fitsChute_120 : decode cX2_fitsChute 120 = .ok (.iaload, 1) := by decide +kernel
theorem dX2_fitsChute_121 : decode cX2_fitsChute 121 = .ok (.iconst 4, 1) := by decide +kernel
theorem dX2_fitsChute_122 : decode cX2_fitsChute 122 = .ok (.invokestatic 51, 3) := by decide +kernel
theorem dX2_fitsChute_125 : decode cX2_fitsChute 125 = .ok (.ifCond .ne 7, 3) := by decide +kernel
theorem dX2_fitsChute_128 : decode cX2_fitsChute 128 = .ok (.iconst 1, 1) := by decide +kernel
theorem dX2_fitsChute_129 : decode cX2_fitsChute 129 = .ok (.goto 4, 3) := by decide +kernel
theorem dX2_fitsChute_132 : decode cX2_fitsChute 132 = .ok (.iconst 0, 1) := by decide +kernel
theorem dX2_fitsChute_133 : decode cX2_fitsChute 133 = .ok (.ireturn, 1) := by decide +kernel
theorem dX2_fitsChute_134 : decode cX2_fitsChute 134 = .ok (.iload_n 1, 1) := by decide +kernel
theorem dX2_fitsChute_135 : decode cX2_fitsChute 135 = .ok (.aload_n 0, 1) := by decide +kernel
theorem dX2_fitsChute_136 : decode cX2_fitsChute 136 = .ok (.getfield 25, 3) := by decide +kernel
theorem dX2_fitsChute_139 : decode cX2_fitsChute 139 = .ok (.iload_n 3, 1) := by decide +kernel
theorem dX2_fitsChute_140 : decode cX2_fitsChute 140 = .ok (.iaload, 1) := by decide +kernel
theorem dX2_fitsChute_141 : decode cX2_fitsChute 141 = .ok (.bipush 16, 2) := by decide +kernel
theorem dX2_fitsChute_143 : decode cX2_fitsChute 143 = .ok (.invokestatic 51, 3) := by decide +kernel
theorem dX2_fitsChute_146 : decode cX2_fitsChute 146 = .ok (.ifCond .ne 18, 3) := by decide +kernel
theorem dX2_fitsChute_149 : decode cX2_fitsChute 149 = .ok (.iload_n 2, 1) := by decide +kernel
theorem dX2_fitsChute_150 : decode cX2_fitsChute 150 = .ok (.aload_n 0, 1) := by decide +kernel
theorem dX2_fitsChute_151 : decode cX2_fitsChute 151 = .ok (.getfield 31, 3) := by decide +kernel
theorem dX2_fitsChute_154 : decode cX2_fitsChute 154 = .ok (.iload_n 3, 1) := by decide +kernel
theorem dX2_fitsChute_155 : decode cX2_fitsChute 155 = .ok (.iaload, 1) := by decide +kernel
theorem dX2_fitsChute_156 : decode cX2_fitsChute 156 = .ok (.bipush 16, 2) := by decide +kernel
theorem dX2_fitsChute_158 : decode cX2_fitsChute 158 = .ok (.invokestatic 51, 3) := by decide +kernel
theorem dX2_fitsChute_161 : decode cX2_fitsChute 161 = .ok (.ifCond .eq 7, 3) := by decide +kernel
theorem dX2_fitsChute_164 : decode cX2_fitsChute 164 = .ok (.iconst 1, 1) := by decide +kernel
theorem dX2_fitsChute_165 : decode cX2_fitsChute 165 = .ok (.goto 4, 3) := by decide +kernel
theorem dX2_fitsChute_168 : decode cX2_fitsChute 168 = .ok (.iconst 0, 1) := by decide +kernel
theorem dX2_fitsChute_169 : decode cX2_fitsChute 169 = .ok (.ireturn, 1) := by decide +kernel
theorem dX2_fitsChute_170 : decode cX2_fitsChute 170 = .ok (.iload_n 1, 1) := by decide +kernel
theorem dX2_fitsChute_171 : decode cX2_fitsChute 171 = .ok (.aload_n 0, 1) := by decide +kernel
theorem dX2_fitsChute_172 : decode cX2_fitsChute 172 = .ok (.getfield 25, 3) := by decide +kernel
theorem dX2_fitsChute_175 : decode cX2_fitsChute 175 = .ok (.iload_n 3, 1) := by decide +kernel
theorem dX2_fitsChute_176 : decode cX2_fitsChute 176 = .ok (.iaload, 1) := by decide +kernel
theorem dX2_fitsChute_177 : decode cX2_fitsChute 177 = .ok (.bipush 32, 2) := by decide +kernel
theorem dX2_fitsChute_179 : decode cX2_fitsChute 179 = .ok (.invokestatic 51, 3) := by decide +kernel
theorem dX2_fitsChute_182 : decode cX2_fitsChute 182 = .ok (.ifCond .eq 37, 3) := by decide +kernel
theorem dX2_fitsChute_185 : decode cX2_fitsChute 185 = .ok (.iload_n 1, 1) := by decide +kernel
theorem dX2_fitsChute_186 : decode cX2_fitsChute 186 = .ok (.aload_n 0, 1) := by decide +kernel
theorem dX2_fitsChute_187 : decode cX2_fitsChute 187 = .ok (.getfield 28, 3) := by decide +kernel
theorem dX2_fitsChute_190 : decode cX2_fitsChute 190 = .ok (.iload_n 3, 1) := by decide +kernel
theorem dX2_fitsChute_191 : decode cX2_fitsChute 191 = .ok (.iaload, 1) := by decide +kernel
theorem dX2_fitsChute_192 : decode cX2_fitsChute 192 = .ok (.bipush 32, 2) := by decide +kernel
theorem dX2_fitsChute_194 : decode cX2_fitsChute 194 = .ok (.invokestatic 51, 3) := by decide +kernel
theorem dX2_fitsChute_197 : decode cX2_fitsChute 197 = .ok (.ifCond .eq 22, 3) := by decide +kernel
theorem dX2_fitsChute_200 : decode cX2_fitsChute 200 = .ok (.iload_n 2, 1) := by decide +kernel
theorem dX2_fitsChute_201 : decode cX2_fitsChute 201 = .ok (.aload_n 0, 1) := by decide +kernel
theorem dX2_fitsChute_202 : decode cX2_fitsChute 202 = .ok (.getfield 31, 3) := by decide +kernel
theorem dX2_fitsChute_205 : decode cX2_fitsChute 205 = .ok (.iload_n 3, 1) := by decide +kernel
theorem dX2_fitsChute_206 : decode cX2_fitsChute 206 = .ok (.iaload, 1) := by decide +kernel
theorem dX2_fitsChute_207 : decode cX2_fitsChute 207 = .ok (.bipush 32, 2) := by decide +kernel
theorem dX2_fitsChute_209 : decode cX2_fitsChute 209 = .ok (.invokestatic 51, 3) := by decide +kernel
theorem dX2_fitsChute_212 : decode cX2_fitsChute 212 = .ok (.ifCond .eq 7, 3) := by decide +kernel
theorem dX2_fitsChute_215 : decode cX2_fitsChute 215 = .ok (.iconst 1, 1) := by decide +kernel
theorem dX2_fitsChute_216 : decode cX2_fitsChute 216 = .ok (.goto 4, 3) := by decide +kernel
theorem dX2_fitsChute_219 : decode cX2_fitsChute 219 = .ok (.iconst 0, 1) := by decide +kernel
theorem dX2_fitsChute_220 : decode cX2_fitsChute 220 = .ok (.ireturn, 1) := by decide +kernel
theorem dX2_fitsChute_221 : decode cX2_fitsChute 221 = .ok (.iload_n 1, 1) := by decide +kernel
theorem dX2_fitsChute_222 : decode cX2_fitsChute 222 = .ok (.aload_n 0, 1) := by decide +kernel
theorem dX2_fitsChute_223 : decode cX2_fitsChute 223 = .ok (.getfield 28, 3) := by decide +kernel
theorem dX2_fitsChute_226 : decode cX2_fitsChute 226 = .ok (.iload_n 3, 1) := by decide +kernel
theorem dX2_fitsChute_227 : decode cX2_fitsChute 227 = .ok (.iaload, 1) := by decide +kernel
theorem dX2_fitsChute_228 : decode cX2_fitsChute 228 = .ok (.iconst 4, 1) := by decide +kernel
theorem dX2_fitsChute_229 : decode cX2_fitsChute 229 = .ok (.invokestatic 51, 3) := by decide +kernel
theorem dX2_fitsChute_232 : decode cX2_fitsChute 232 = .ok (.ifCond .ne 32, 3) := by decide +kernel
theorem dX2_fitsChute_235 : decode cX2_fitsChute 235 = .ok (.iload_n 1, 1) := by decide +kernel
theorem dX2_fitsChute_236 : decode cX2_fitsChute 236 = .ok (.aload_n 0, 1) := by decide +kernel
theorem dX2_fitsChute_237 : decode cX2_fitsChute 237 = .ok (.getfield 25, 3) := by decide +kernel
theorem dX2_fitsChute_240 : decode cX2_fitsChute 240 = .ok (.iload_n 3, 1) := by decide +kernel
theorem dX2_fitsChute_241 : decode cX2_fitsChute 241 = .ok (.iaload, 1) := by decide +kernel
theorem dX2_fitsChute_242 : decode cX2_fitsChute 242 = .ok (.iconst 1, 1) := by decide +kernel
theorem dX2_fitsChute_243 : decode cX2_fitsChute 243 = .ok (.invokestatic 51, 3) := by decide +kernel
theorem dX2_fitsChute_246 : decode cX2_fitsChute 246 = .ok (.ifCond .ne 18, 3) := by decide +kernel
theorem dX2_fitsChute_249 : decode cX2_fitsChute 249 = .ok (.iload_n 2, 1) := by decide +kernel
theorem dX2_fitsChute_250 : decode cX2_fitsChute 250 = .ok (.aload_n 0, 1) := by decide +kernel
theorem dX2_fitsChute_251 : decode cX2_fitsChute 251 = .ok (.getfield 31, 3) := by decide +kernel
theorem dX2_fitsChute_254 : decode cX2_fitsChute 254 = .ok (.iload_n 3, 1) := by decide +kernel
theorem dX2_fitsChute_255 : decode cX2_fitsChute 255 = .ok (.iaload, 1) := by decide +kernel
theorem dX2_fitsChute_256 : decode cX2_fitsChute 256 = .ok (.bipush 8, 2) := by decide +kernel
theorem dX2_fitsChute_258 : decode cX2_fitsChute 258 = .ok (.invokestatic 51, 3) := by decide +kernel
theorem dX2_fitsChute_261 : decode cX2_fitsChute 261 = .ok (.ifCond .eq 7, 3) := by decide +kernel
theorem dX2_fitsChute_264 : decode cX2_fitsChute 264 = .ok (.iconst 1, 1) := by decide +kernel
theorem dX2_fitsChute_265 : decode cX2_fitsChute 265 = .ok (.goto 4, 3) := by decide +kernel
theorem dX2_fitsChute_268 : decode cX2_fitsChute 268 = .ok (.iconst 0, 1) := by decide +kernel
theorem dX2_fitsChute_269 : decode cX2_fitsChute 269 = .ok (.ireturn, 1) := by decide +kernel
theorem dX2_many_0 : decode cX2_many 0 = .ok (.iconst 0, 1) := by decide +kernel
theorem dX2_many_1 : decode cX2_many 1 = .ok (.istore_n 2, 1) := by decide +kernel
theorem dX2_many_2 : decode cX2_many 2 = .ok (.iconst 0, 1) := by decide +kernel
theorem dX2_many_3 : decode cX2_many 3 = .ok (.istore_n 3, 1) := by decide +kernel
theorem dX2_many_4 : decode cX2_many 4 = .ok (.iload_n 3, 1) := by decide +kernel
theorem dX2_many_5 : decode cX2_many 5 = .ok (.bipush 96, 2) := by decide +kernel
theorem dX2_many_7 : decode cX2_many 7 = .ok (.if_icmp .ge 27, 3) := by decide +kernel
theorem dX2_many_10 : decode cX2_many 10 = .ok (.iload_n 2, 1) := by decide +kernel
theorem dX2_many_11 : decode cX2_many 11 = .ok (.aload_n 0, 1) := by decide +kernel
theorem dX2_many_12 : decode cX2_many 12 = .ok (.getfield 7, 3) := by decide +kernel
theorem dX2_many_15 : decode cX2_many 15 = .ok (.iload_n 3, 1) := by decide +kernel
theorem dX2_many_16 : decode cX2_many 16 = .ok (.iaload, 1) := by decide +kernel
theorem dX2_many_17 : decode cX2_many 17 = .ok (.iload_n 1, 1) := by decide +kernel
theorem dX2_many_18 : decode cX2_many 18 = .ok (.if_icmp .ne 7, 3) := by decide +kernel
theorem dX2_many_21 : decode cX2_many 21 = .ok (.iconst 1, 1) := by decide +kernel
theorem dX2_many_22 : decode cX2_many 22 = .ok (.goto 4, 3) := by decide +kernel
theorem dX2_many_25 : decode cX2_many 25 = .ok (.iconst 0, 1) := by decide +kernel
theorem dX2_many_26 : decode cX2_many 26 = .ok (.iadd, 1) := by decide +kernel
theorem dX2_many_27 : decode cX2_many 27 = .ok (.istore_n 2, 1) := by decide +kernel
theorem dX2_many_28 : decode cX2_many 28 = .ok (.iinc 3 1, 3) := by decide +kernel
theorem dX2_many_31 : decode cX2_many 31 = .ok (.goto (-27), 3) := by decide +kernel
theorem dX2_many_34 : decode cX2_many 34 = .ok (.iload_n 2, 1) := by decide +kernel
theorem dX2_many_35 : decode cX2_many 35 = .ok (.ireturn, 1) := by decide +kernel
theorem dX2_isAhead_0 : decode cX2_isAhead 0 = .ok (.aload_n 0, 1) := by decide +kernel
theorem dX2_isAhead_1 : decode cX2_isAhead 1 = .ok (.getfield 13, 3) := by decide +kernel
theorem dX2_isAhead_4 : decode cX2_isAhead 4 = .ok (.iload_n 1, 1) := by decide +kernel
theorem dX2_isAhead_5 : decode cX2_isAhead 5 = .ok (.iaload, 1) := by decide +kernel
theorem dX2_isAhead_6 : decode cX2_isAhead 6 = .ok (.ifCond .le 7, 3) := by decide +kernel
theorem dX2_isAhead_9 : decode cX2_isAhead 9 = .ok (.iconst 1, 1) := by decide +kernel
theorem dX2_isAhead_10 : decode cX2_isAhead 10 = .ok (.goto 4, 3) := by decide +kernel
theorem dX2_isAhead_13 : decode cX2_isAhead 13 = .ok (.iconst 0, 1) := by decide +kernel
theorem dX2_isAhead_14 : decode cX2_isAhead 14 = .ok (.istore_n 3, 1) := by decide +kernel
theorem dX2_isAhead_15 : decode cX2_isAhead 15 = .ok (.iload_n 3, 1) := by decide +kernel
theorem dX2_isAhead_16 : decode cX2_isAhead 16 = .ok (.aload_n 0, 1) := by decide +kernel
theorem dX2_isAhead_17 : decode cX2_isAhead 17 = .ok (.getfield 13, 3) := by decide +kernel
theorem dX2_isAhead_20 : decode cX2_isAhead 20 = .ok (.iload_n 2, 1) := by decide +kernel
theorem dX2_isAhead_21 : decode cX2_isAhead 21 = .ok (.iaload, 1) := by decide +kernel
theorem dX2_isAhead_22 : decode cX2_isAhead 22 = .ok (.ifCond .le 7, 3) := by decide +kernel
theorem dX2_isAhead_25 : decode cX2_isAhead 25 = .ok (.iconst 1, 1) := by decide +kernel
theorem dX2_isAhead_26 : decode cX2_isAhead 26 = .ok (.goto 4, 3) := by decide +kernel
theorem dX2_isAhead_29 : decode cX2_isAhead 29 = .ok (.iconst 0, 1) := by decide +kernel
theorem dX2_isAhead_30 : decode cX2_isAhead 30 = .ok (.if_icmp .eq 5, 3) := by decide +kernel
theorem dX2_isAhead_33 : decode cX2_isAhead 33 = .ok (.iload_n 3, 1) := by decide +kernel
theorem dX2_isAhead_34 : decode cX2_isAhead 34 = .ok (.ireturn, 1) := by decide +kernel
theorem dX2_isAhead_35 : decode cX2_isAhead 35 = .ok (.iload_n 3, 1) := by decide +kernel
theorem dX2_isAhead_36 : decode cX2_isAhead 36 = .ok (.ifCond .eq 39, 3) := by decide +kernel
theorem dX2_isAhead_39 : decode cX2_isAhead 39 = .ok (.aload_n 0, 1) := by decide +kernel
theorem dX2_isAhead_40 : decode cX2_isAhead 40 = .ok (.getfield 13, 3) := by decide +kernel
theorem dX2_isAhead_43 : decode cX2_isAhead 43 = .ok (.iload_n 1, 1) := by decide +kernel
theorem dX2_isAhead_44 : decode cX2_isAhead 44 = .ok (.iaload, 1) := by decide +kernel
theorem dX2_isAhead_45 : decode cX2_isAhead 45 = .ok (.aload_n 0, 1) := by decide +kernel
theorem dX2_isAhead_46 : decode cX2_isAhead 46 = .ok (.getfield 13, 3) := by decide +kernel
theorem dX2_isAhead_49 : decode cX2_isAhead 49 = .ok (.iload_n 2, 1) := by decide +kernel
theorem dX2_isAhead_50 : decode cX2_isAhead 50 = .ok (.iaload, 1) := by decide +kernel
theorem dX2_isAhead_51 : decode cX2_isAhead 51 = .ok (.if_icmp .eq 24, 3) := by decide +kernel
theorem dX2_isAhead_54 : decode cX2_isAhead 54 = .ok (.aload_n 0, 1) := by decide +kernel
theorem dX2_isAhead_55 : decode cX2_isAhead 55 = .ok (.getfield 13, 3) := by decide +kernel
theorem dX2_isAhead_58 : decode cX2_isAhead 58 = .ok (.iload_n 1, 1) := by decide +kernel
theorem dX2_isAhead_59 : decode cX2_isAhead 59 = .ok (.iaload, 1) := by decide +kernel
theorem dX2_isAhead_60 : decode cX2_isAhead 60 = .ok (.aload_n 0, 1) := by decide +kernel
theorem dX2_isAhead_61 : decode cX2_isAhead 61 = .ok (.getfield 13, 3) := by decide +kernel
theorem dX2_isAhead_64 : decode cX2_isAhead 64 = .ok (.iload_n 2, 1) := by decide +kernel
theorem dX2_isAhead_65 : decode cX2_isAhead 65 = .ok (.iaload, 1) := by decide +kernel
theorem dX2_isAhead_66 : decode cX2_isAhead 66 = .ok (.if_icmp .ge 7, 3) := by decide +kernel
theorem dX2_isAhead_69 : decode cX2_isAhead 69 = .ok (.iconst 1, 1) := by decide +kernel
theorem dX2_isAhead_70 : decode cX2_isAhead 70 = .ok (.goto 4, 3) := by decide +kernel
theorem dX2_isAhead_73 : decode cX2_isAhead 73 = .ok (.iconst 0, 1) := by decide +kernel
theorem dX2_isAhead_74 : decode cX2_isAhead 74 = .ok (.ireturn, 1) := by decide +kernel
theorem dX2_isAhead_75 : decode cX2_isAhead 75 = .ok (.aload_n 0, 1) := by decide +kernel
theorem dX2_isAhead_76 : decode cX2_isAhead 76 = .ok (.getfield 19, 3) := by decide +kernel
theorem dX2_isAhead_79 : decode cX2_isAhead 79 = .ok (.iload_n 1, 1) := by decide +kernel
theorem dX2_isAhead_80 : decode cX2_isAhead 80 = .ok (.iaload, 1) := by decide +kernel
theorem dX2_isAhead_81 : decode cX2_isAhead 81 = .ok (.aload_n 0, 1) := by decide +kernel
theorem dX2_isAhead_82 : decode cX2_isAhead 82 = .ok (.getfield 19, 3) := by decide +kernel
theorem dX2_isAhead_85 : decode cX2_isAhead 85 = .ok (.iload_n 2, 1) := by decide +kernel
theorem dX2_isAhead_86 : decode cX2_isAhead 86 = .ok (.iaload, 1) := by decide +kernel
theorem dX2_isAhead_87 : decode cX2_isAhead 87 = .ok (.if_icmp .ge 7, 3) := by decide +kernel
theorem dX2_isAhead_90 : decode cX2_isAhead 90 = .ok (.iconst 1, 1) := by decide +kernel
theorem dX2_isAhead_91 : decode cX2_isAhead 91 = .ok (.goto 4, 3) := by decide +kernel
theorem dX2_isAhead_94 : decode cX2_isAhead 94 = .ok (.iconst 0, 1) := by decide +kernel
theorem dX2_isAhead_95 : decode cX2_isAhead 95 = .ok (.ireturn, 1) := by decide +kernel
set_option maxRecDepth 20000 in
theorem ggX2_placeOf_X2_isAhead : GoodIn wsX2_placeOf wsX2_isAhead := goodIn_r _ [6, 7, 8, 9, 10, 11, 12, 13, 14, 15, 16, 17, 18, 19, 20, 21, 22, 23, 24, 25, 26, 27, 28] (by decide +kernel) (by decide +kernel)
set_option maxRecDepth 20000 in
theorem gX2_placeOf_X2_isAhead : GoodIn wsX2_placeOf (wsV RX2 55 RX2 yX2_isAhead wsX2_isAhead) := goodIn_app (goodIn_of _ (by decide +kernel)) ggX2_placeOf_X2_isAhead
theorem dX2_placeOf_0 : decode cX2_placeOf 0 = .ok (.iconst 0, 1) := by decide +kernel
theorem dX2_placeOf_1 : decode cX2_placeOf 1 = .ok (.istore_n 2, 1) := by decide +kernel
theorem dX2_placeOf_2 : decode cX2_placeOf 2 = .ok (.iconst 0, 1) := by decide +kernel
theorem dX2_placeOf_3 : decode cX2_placeOf 3 = .ok (.istore_n 3, 1) := by decide +kernel
theorem dX2_placeOf_4 : decode cX2_placeOf 4 = .ok (.iload_n 3, 1) := by decide +kernel
theorem dX2_placeOf_5 : decode cX2_placeOf 5 = .ok (.bipush 96, 2) := by decide +kernel
theorem dX2_placeOf_7 : decode cX2_placeOf 7 = .ok (.if_icmp .ge 46, 3) := by decide +kernel
theorem dX2_placeOf_10 : decode cX2_placeOf 10 = .ok (.iload_n 2, 1) := by decide +kernel
theorem dX2_placeOf_11 : decode cX2_placeOf 11 = .ok (.aload_n 0, 1) := by decide +kernel
theorem dX2_placeOf_12 : decode cX2_placeOf 12 = .ok (.getfield 7, 3) := by decide +kernel
theorem dX2_placeOf_15 : decode cX2_placeOf 15 = .ok (.iload_n 3, 1) := by decide +kernel
theorem dX2_placeOf_16 : decode cX2_placeOf 16 = .ok (.iaload, 1) := by decide +kernel
theorem dX2_placeOf_17 : decode cX2_placeOf 17 = .ok (.aload_n 0, 1) := by decide +kernel
theorem dX2_placeOf_18 : decode cX2_placeOf 18 = .ok (.getfield 7, 3) := by decide +kernel
theorem dX2_placeOf_21 : decode cX2_placeOf 21 = .ok (.iload_n 1, 1) := by decide +kernel
theorem dX2_placeOf_22 : decode cX2_placeOf 22 = .ok (.iaload, 1) := by decide +kernel
theorem dX2_placeOf_23 : decode cX2_placeOf 23 = .ok (.if_icmp .ne 21, 3) := by decide +kernel
theorem dX2_placeOf_26 : decode cX2_placeOf 26 = .ok (.iload_n 3, 1) := by decide +kernel
theorem dX2_placeOf_27 : decode cX2_placeOf 27 = .ok (.iload_n 1, 1) := by decide +kernel
theorem dX2_placeOf_28 : decode cX2_placeOf 28 = .ok (.if_icmp .eq 16, 3) := by decide +kernel
theorem dX2_placeOf_31 : decode cX2_placeOf 31 = .ok (.aload_n 0, 1) := by decide +kernel
theorem dX2_placeOf_32 : decode cX2_placeOf 32 = .ok (.iload_n 3, 1) := by decide +kernel
theorem dX2_placeOf_33 : decode cX2_placeOf 33 = .ok (.iload_n 1, 1) := by decide +kernel
theorem dX2_placeOf_34 : decode cX2_placeOf 34 = .ok (.invokevirtual 55, 3) := by decide +kernel
theorem dX2_placeOf_37 : decode cX2_placeOf 37 = .ok (.ifCond .eq 7, 3) := by decide +kernel
theorem dX2_placeOf_40 : decode cX2_placeOf 40 = .ok (.iconst 1, 1) := by decide +kernel
theorem dX2_placeOf_41 : decode cX2_placeOf 41 = .ok (.goto 4, 3) := by decide +kernel
theorem dX2_placeOf_44 : decode cX2_placeOf 44 = .ok (.iconst 0, 1) := by decide +kernel
theorem dX2_placeOf_45 : decode cX2_placeOf 45 = .ok (.iadd, 1) := by decide +kernel
theorem dX2_placeOf_46 : decode cX2_placeOf 46 = .ok (.istore_n 2, 1) := by decide +kernel
theorem dX2_placeOf_47 : decode cX2_placeOf 47 = .ok (.iinc 3 1, 3) := by decide +kernel
theorem dX2_placeOf_50 : decode cX2_placeOf 50 = .ok (.goto (-46), 3) := by decide +kernel
theorem dX2_placeOf_53 : decode cX2_placeOf 53 = .ok (.iload_n 2, 1) := by decide +kernel
theorem dX2_placeOf_54 : decode cX2_placeOf 54 = .ok (.ireturn, 1) := by decide +kernel
set_option maxRecDepth 20000 in
theorem ggX2_parcelAt_X2_placeOf : GoodIn wsX2_parcelAt wsX2_placeOf := goodIn_r _ [6, 1, 7, 8, 9, 5, 10, 11, 12, 13, 14, 15, 16, 17, 18, 19, 20, 21, 22, 23, 24, 25, 26, 27, 28, 29, 30, 31, 32] (by decide +kernel) (by decide +kernel)
set_option maxRecDepth 20000 in
theorem gX2_parcelAt_X2_placeOf : GoodIn wsX2_parcelAt (wsV RX2 58 RX2 yX2_placeOf wsX2_placeOf) := goodIn_app (goodIn_of _ (by decide +kernel)) ggX2_parcelAt_X2_placeOf
theorem dX2_parcelAt_0 : decode cX2_parcelAt 0 = .ok (.iconst 0, 1) := by decide +kernel
theorem dX2_parcelAt_1 : decode cX2_parcelAt 1 = .ok (.istore_n 3, 1) := by decide +kernel
theorem dX2_parcelAt_2 : decode cX2_parcelAt 2 = .ok (.iload_n 3, 1) := by decide +kernel
theorem dX2_parcelAt_3 : decode cX2_parcelAt 3 = .ok (.bipush 96, 2) := by decide +kernel
theorem dX2_parcelAt_5 : decode cX2_parcelAt 5 = .ok (.if_icmp .ge 30, 3) := by decide +kernel
theorem dX2_parcelAt_8 : decode cX2_parcelAt 8 = .ok (.aload_n 0, 1) := by decide +kernel
theorem dX2_parcelAt_9 : decode cX2_parcelAt 9 = .ok (.getfield 7, 3) := by decide +kernel
theorem dX2_parcelAt_12 : decode cX2_parcelAt 12 = .ok (.iload_n 3, 1) := by decide +kernel
theorem dX2_parcelAt_13 : decode cX2_parcelAt 13 = .ok (.iaload, 1) := by decide +kernel
theorem dX2_parcelAt_14 : decode cX2_parcelAt 14 = .ok (.iload_n 1, 1) := by decide +kernel
theorem dX2_parcelAt_15 : decode cX2_parcelAt 15 = .ok (.if_icmp .ne 14, 3) := by decide +kernel
theorem dX2_parcelAt_18 : decode cX2_parcelAt 18 = .ok (.aload_n 0, 1) := by decide +kernel
theorem dX2_parcelAt_19 : decode cX2_parcelAt 19 = .ok (.iload_n 3, 1) := by decide +kernel
theorem dX2_parcelAt_20 : decode cX2_parcelAt 20 = .ok (.invokevirtual 58, 3) := by decide +kernel
theorem dX2_parcelAt_23 : decode cX2_parcelAt 23 = .ok (.iload_n 2, 1) := by decide +kernel
theorem dX2_parcelAt_24 : decode cX2_parcelAt 24 = .ok (.if_icmp .ne 5, 3) := by decide +kernel
theorem dX2_parcelAt_27 : decode cX2_parcelAt 27 = .ok (.iload_n 3, 1) := by decide +kernel
theorem dX2_parcelAt_28 : decode cX2_parcelAt 28 = .ok (.ireturn, 1) := by decide +kernel
theorem dX2_parcelAt_29 : decode cX2_parcelAt 29 = .ok (.iinc 3 1, 3) := by decide +kernel
theorem dX2_parcelAt_32 : decode cX2_parcelAt 32 = .ok (.goto (-30), 3) := by decide +kernel
theorem dX2_parcelAt_35 : decode cX2_parcelAt 35 = .ok (.iconst (-1), 1) := by decide +kernel
theorem dX2_parcelAt_36 : decode cX2_parcelAt 36 = .ok (.ireturn, 1) := by decide +kernel
theorem dX2_putIn_0 : decode cX2_putIn 0 = .ok (.iconst 0, 1) := by decide +kernel
theorem dX2_putIn_1 : decode cX2_putIn 1 = .ok (.istore 4, 2) := by decide +kernel
theorem dX2_putIn_3 : decode cX2_putIn 3 = .ok (.aload_n 0, 1) := by decide +kernel
theorem dX2_putIn_4 : decode cX2_putIn 4 = .ok (.getfield 7, 3) := by decide +kernel
theorem dX2_putIn_7 : decode cX2_putIn 7 = .ok (.iload 4, 2) := by decide +kernel
theorem dX2_putIn_9 : decode cX2_putIn 9 = .ok (.iaload, 1) := by decide +kernel
theorem dX2_putIn_10 : decode cX2_putIn 10 = .ok (.iconst (-1), 1) := by decide +kernel
theorem dX2_putIn_11 : decode cX2_putIn 11 = .ok (.if_icmp .eq 9, 3) := by decide +kernel
theorem dX2_putIn_14 : decode cX2_putIn 14 = .ok (.iinc 4 1, 3) := by decide +kernel
theorem dX2_putIn_17 : decode cX2_putIn 17 = .ok (.goto (-14), 3) := by decide +kernel
theorem dX2_putIn_20 : decode cX2_putIn 20 = .ok (.aload_n 0, 1) := by decide +kernel
theorem dX2_putIn_21 : decode cX2_putIn 21 = .ok (.getfield 7, 3) := by decide +kernel
theorem dX2_putIn_24 : decode cX2_putIn 24 = .ok (.iload 4, 2) := by decide +kernel
theorem dX2_putIn_26 : decode cX2_putIn 26 = .ok (.iload_n 3, 1) := by decide +kernel
theorem dX2_putIn_27 : decode cX2_putIn 27 = .ok (.iastore, 1) := by decide +kernel
theorem dX2_putIn_28 : decode cX2_putIn 28 = .ok (.aload_n 0, 1) := by decide +kernel
theorem dX2_putIn_29 : decode cX2_putIn 29 = .ok (.getfield 13, 3) := by decide +kernel
theorem dX2_putIn_32 : decode cX2_putIn 32 = .ok (.iload 4, 2) := by decide +kernel
theorem dX2_putIn_34 : decode cX2_putIn 34 = .ok (.iload_n 1, 1) := by decide +kernel
theorem dX2_putIn_35 : decode cX2_putIn 35 = .ok (.iastore, 1) := by decide +kernel
theorem dX2_putIn_36 : decode cX2_putIn 36 = .ok (.aload_n 0, 1) := by decide +kernel
theorem dX2_putIn_37 : decode cX2_putIn 37 = .ok (.getfield 16, 3) := by decide +kernel
theorem dX2_putIn_40 : decode cX2_putIn 40 = .ok (.iload 4, 2) := by decide +kernel
theorem dX2_putIn_42 : decode cX2_putIn 42 = .ok (.iload_n 2, 1) := by decide +kernel
theorem dX2_putIn_43 : decode cX2_putIn 43 = .ok (.iastore, 1) := by decide +kernel
theorem dX2_putIn_44 : decode cX2_putIn 44 = .ok (.aload_n 0, 1) := by decide +kernel
theorem dX2_putIn_45 : decode cX2_putIn 45 = .ok (.getfield 19, 3) := by decide +kernel
theorem dX2_putIn_48 : decode cX2_putIn 48 = .ok (.iload 4, 2) := by decide +kernel
theorem dX2_putIn_50 : decode cX2_putIn 50 = .ok (.aload_n 0, 1) := by decide +kernel
theorem dX2_putIn_51 : decode cX2_putIn 51 = .ok (.getfield 62, 3) := by decide +kernel
theorem dX2_putIn_54 : decode cX2_putIn 54 = .ok (.iastore, 1) := by decide +kernel
theorem dX2_putIn_55 : decode cX2_putIn 55 = .ok (.aload_n 0, 1) := by decide +kernel
theorem dX2_putIn_56 : decode cX2_putIn 56 = .ok (.dup, 1) := by decide +kernel
theorem dX2_putIn_57 : decode cX2_putIn 57 = .ok (.getfield 62, 3) := by decide +kernel
theorem dX2_putIn_60 : decode cX2_putIn 60 = .ok (.iconst 1, 1) := by decide +kernel
theorem dX2_putIn_61 : decode cX2_putIn 61 = .ok (.iadd, 1) := by decide +kernel
theorem dX2_putIn_62 : decode cX2_putIn 62 = .ok (.putfield 62, 3) := by decide +kernel
theorem dX2_putIn_65 : decode cX2_putIn 65 = .ok (.return_, 1) := by decide +kernel
theorem dX2_putAside_0 : decode cX2_putAside 0 = .ok (.aload_n 0, 1) := by decide +kernel
theorem dX2_putAside_1 : decode cX2_putAside 1 = .ok (.dup, 1) := by decide +kernel
theorem dX2_putAside_2 : decode cX2_putAside 2 = .ok (.getfield 65, 3) := by decide +kernel
theorem dX2_putAside_5 : decode cX2_putAside 5 = .ok (.iconst 1, 1) := by decide +kernel
theorem dX2_putAside_6 : decode cX2_putAside 6 = .ok (.iadd, 1) := by decide +kernel
theorem dX2_putAside_7 : decode cX2_putAside 7 = .ok (.putfield 65, 3) := by decide +kernel
theorem dX2_putAside_10 : decode cX2_putAside 10 = .ok (.aload_n 0, 1) := by decide +kernel
theorem dX2_putAside_11 : decode cX2_putAside 11 = .ok (.iload_n 1, 1) := by decide +kernel
theorem dX2_putAside_12 : decode cX2_putAside 12 = .ok (.putfield 68, 3) := by decide +kernel
theorem dX2_putAside_15 : decode cX2_putAside 15 = .ok (.aload_n 0, 1) := by decide +kernel
theorem dX2_putAside_16 : decode cX2_putAside 16 = .ok (.iload_n 2, 1) := by decide +kernel
theorem dX2_putAside_17 : decode cX2_putAside 17 = .ok (.putfield 71, 3) := by decide +kernel
theorem dX2_putAside_20 : decode cX2_putAside 20 = .ok (.return_, 1) := by decide +kernel
set_option maxRecDepth 20000 in
theorem ggX2_sort_X2_isChute : GoodIn wsX2_sort wsX2_isChute := goodIn_r _ [6, 7, 8, 5, 9] (by decide +kernel) (by decide +kernel)
set_option maxRecDepth 20000 in
theorem gX2_sort_X2_isChute : GoodIn wsX2_sort (va_wsS RX2 74 yX2_isChute wsX2_isChute) := goodIn_app (goodIn_of _ (by decide +kernel)) ggX2_sort_X2_isChute
set_option maxRecDepth 20000 in
theorem ggX2_sort_X2_isWithin : GoodIn wsX2_sort wsX2_isWithin := goodIn_r _ [9] (by decide +kernel) (by decide +kernel)
set_option maxRecDepth 20000 in
theorem gX2_sort_X2_isWithin : GoodIn wsX2_sort (va_wsS RX2 42 yX2_isWithin wsX2_isWithin) := goodIn_app (goodIn_of _ (by decide +kernel)) ggX2_sort_X2_isWithin
set_option maxRecDepth 20000 in
theorem ggX2_sort_X2_many : GoodIn wsX2_sort wsX2_many := goodIn_r _ [13, 14, 15, 16, 17, 18, 19, 20, 21, 22, 23, 24, 25, 26, 27, 28, 29, 30, 31, 32, 33, 34] (by decide +kernel) (by decide +kernel)
set_option maxRecDepth 20000 in
theorem gX2_sort_X2_many : GoodIn wsX2_sort (wsV RX2 78 RX2 yX2_many wsX2_many) := goodIn_app (goodIn_of _ (by decide +kernel)) ggX2_sort_X2_many
theorem dX2_sort_0 : decode cX2_sort 0 = .ok (.aload_n 0, 1) := by decide +kernel
theorem dX2_sort_1 : decode cX2_sort 1 = .ok (.iload_n 1, 1) := by decide +kernel
theorem dX2_sort_2 : decode cX2_sort 2 = .ok (.invokestatic 74, 3) := by decide +kernel
theorem dX2_sort_5 : decode cX2_sort 5 = .ok (.ifCond .ne 7, 3) := by decide +kernel
theorem dX2_sort_8 : decode cX2_sort 8 = .ok (.iconst 1, 1) := by decide +kernel
theorem dX2_sort_9 : decode cX2_sort 9 = .ok (.goto 28, 3) := by decide +kernel
theorem dX2_sort_12 : decode cX2_sort 12 = .ok (.iload_n 2, 1) := by decide +kernel
theorem dX2_sort_13 : decode cX2_sort 13 = .ok (.iconst 4, 1) := by decide +kernel
theorem dX2_sort_14 : decode cX2_sort 14 = .ok (.invokestatic 42, 3) := by decide +kernel
theorem dX2_sort_17 : decode cX2_sort 17 = .ok (.ifCond .ne 7, 3) := by decide +kernel
theorem dX2_sort_20 : decode cX2_sort 20 = .ok (.iconst 2, 1) := by decide +kernel
theorem dX2_sort_21 : decode cX2_sort 21 = .ok (.goto 16, 3) := by decide +kernel
theorem dX2_sort_24 : decode cX2_sort 24 = .ok (.aload_n 0, 1) := by decide +kernel
theorem dX2_sort_25 : decode cX2_sort 25 = .ok (.iload_n 1, 1) := by decide +kernel
theorem dX2_sort_26 : decode cX2_sort 26 = .ok (.invokevirtual 78, 3) := by decide +kernel
theorem dX2_sort_29 : decode cX2_sort 29 = .ok (.ifCond .le 7, 3) := by decide +kernel
theorem dX2_sort_32 : decode cX2_sort 32 = .ok (.iconst 3, 1) := by decide +kernel
theorem dX2_sort_33 : decode cX2_sort 33 = .ok (.goto 4, 3) := by decide +kernel
theorem dX2_sort_36 : decode cX2_sort 36 = .ok (.iconst 0, 1) := by decide +kernel
theorem dX2_sort_37 : decode cX2_sort 37 = .ok (.putfield 38, 3) := by decide +kernel
theorem dX2_sort_40 : decode cX2_sort 40 = .ok (.aload_n 0, 1) := by decide +kernel
theorem dX2_sort_41 : decode cX2_sort 41 = .ok (.getfield 38, 3) := by decide +kernel
theorem dX2_sort_44 : decode cX2_sort 44 = .ok (.ifCond .eq 5, 3) := by decide +kernel
theorem dX2_sort_47 : decode cX2_sort 47 = .ok (.iconst 0, 1) := by decide +kernel
theorem dX2_sort_48 : decode cX2_sort 48 = .ok (.ireturn, 1) := by decide +kernel
theorem dX2_sort_49 : decode cX2_sort 49 = .ok (.aload_n 0, 1) := by decide +kernel
theorem dX2_sort_50 : decode cX2_sort 50 = .ok (.getfield 22, 3) := by decide +kernel
theorem dX2_sort_53 : decode cX2_sort 53 = .ok (.iload_n 1, 1) := by decide +kernel
theorem dX2_sort_54 : decode cX2_sort 54 = .ok (.iaload, 1) := by decide +kernel
theorem dX2_sort_55 : decode cX2_sort 55 = .ok (.istore_n 3, 1) := by decide +kernel
theorem dX2_sort_56 : decode cX2_sort 56 = .ok (.aload_n 0, 1) := by decide +kernel
theorem dX2_sort_57 : decode cX2_sort 57 = .ok (.getfield 22, 3) := by decide +kernel
theorem dX2_sort_60 : decode cX2_sort 60 = .ok (.iload_n 1, 1) := by decide +kernel
theorem dX2_sort_61 : decode cX2_sort 61 = .ok (.iload_n 2, 1) := by decide +kernel
theorem dX2_sort_62 : decode cX2_sort 62 = .ok (.iastore, 1) := by decide +kernel
theorem dX2_sort_63 : decode cX2_sort 63 = .ok (.iload_n 3, 1) := by decide +kernel
theorem dX2_sort_64 : decode cX2_sort 64 = .ok (.ireturn, 1) := by decide +kernel
set_option maxRecDepth 20000 in
theorem ggX2_limits_X2_isChute : GoodIn wsX2_limits wsX2_isChute := goodIn_r _ [9, 10, 11, 8, 12] (by decide +kernel) (by decide +kernel)
set_option maxRecDepth 20000 in
theorem gX2_limits_X2_isChute : GoodIn wsX2_limits (va_wsS RX2 74 yX2_isChute wsX2_isChute) := goodIn_app (goodIn_of _ (by decide +kernel)) ggX2_limits_X2_isChute
set_option maxRecDepth 20000 in
theorem ggX2_limits_X2_isWithin : GoodIn wsX2_limits wsX2_isWithin := goodIn_r _ [12] (by decide +kernel) (by decide +kernel)
set_option maxRecDepth 20000 in
theorem gX2_limits_X2_isWithin : GoodIn wsX2_limits (va_wsS RX2 42 yX2_isWithin wsX2_isWithin) := goodIn_app (goodIn_of _ (by decide +kernel)) ggX2_limits_X2_isWithin
set_option maxRecDepth 20000 in
theorem ggX2_limits_X2_holds : GoodIn wsX2_limits wsX2_holds := goodIn_r _ [15, 16, 17, 8, 18] (by decide +kernel) (by decide +kernel)
set_option maxRecDepth 20000 in
theorem gX2_limits_X2_holds : GoodIn wsX2_limits (va_wsS RX2 51 yX2_holds wsX2_holds) := goodIn_app (goodIn_of _ (by decide +kernel)) ggX2_limits_X2_holds
theorem dX2_limits_0 : decode cX2_limits 0 = .ok (.aload_n 0, 1) := by decide +kernel
theorem dX2_limits_1 : decode cX2_limits 1 = .ok (.iload_n 1, 1) := by decide +kernel
theorem dX2_limits_2 : decode cX2_limits 2 = .ok (.invokestatic 74, 3) := by decide +kernel
theorem dX2_limits_5 : decode cX2_limits 5 = .ok (.ifCond .ne 7, 3) := by decide +kernel
theorem dX2_limits_8 : decode cX2_limits 8 = .ok (.iconst 1, 1) := by decide +kernel
theorem dX2_limits_9 : decode cX2_limits 9 = .ok (.goto 50, 3) := by decide +kernel
theorem dX2_limits_12 : decode cX2_limits 12 = .ok (.iload_n 2, 1) := by decide +kernel
theorem dX2_limits_13 : decode cX2_limits 13 = .ok (.ldc 46, 2) := by decide +kernel
theorem dX2_limits_15 : decode cX2_limits 15 = .ok (.invokestatic 42, 3) := by decide +kernel
theorem dX2_limits_18 : decode cX2_limits 18 = .ok (.ifCond .eq 23, 3) := by decide +kernel
theorem dX2_limits_21 : decode cX2_limits 21 = .ok (.iload_n 3, 1) := by decide +kernel
theorem dX2_limits_22 : decode cX2_limits 22 = .ok (.ldc 46, 2) := by decide +kernel
theorem dX2_limits_24 : decode cX2_limits 24 = .ok (.invokestatic 42, 3) := by decide +kernel
theorem dX2_limits_27 : decode cX2_limits 27 = .ok (.ifCond .eq 14, 3) := by decide +kernel
theorem dX2_limits_30 : decode cX2_limits 30 = .ok (.iload 4, 2) := by decide +kernel
theorem dX2_limits_32 : decode cX2_limits 32 = .ok (.sipush 16000, 3) := by decide +kernel
theorem dX2_limits_35 : decode cX2_limits 35 = .ok (.invokestatic 42, 3) := by decide +kernel
theorem dX2_limits_38 : decode cX2_limits 38 = .ok (.ifCond .ne 7, 3) := by decide +kernel
theorem dX2_limits_41 : decode cX2_limits 41 = .ok (.iconst 2, 1) := by decide +kernel
theorem dX2_limits_42 : decode cX2_limits 42 = .ok (.goto 17, 3) := by decide +kernel
theorem dX2_limits_45 : decode cX2_limits 45 = .ok (.iload_n 3, 1) := by decide +kernel
theorem dX2_limits_46 : decode cX2_limits 46 = .ok (.iload_n 2, 1) := by decide +kernel
theorem dX2_limits_47 : decode cX2_limits 47 = .ok (.iconst 1, 1) := by decide +kernel
theorem dX2_limits_48 : decode cX2_limits 48 = .ok (.invokestatic 51, 3) := by decide +kernel
theorem dX2_limits_51 : decode cX2_limits 51 = .ok (.ifCond .eq 7, 3) := by decide +kernel
theorem dX2_limits_54 : decode cX2_limits 54 = .ok (.iconst 3, 1) := by decide +kernel
theorem dX2_limits_55 : decode cX2_limits 55 = .ok (.goto 4, 3) := by decide +kernel
theorem dX2_limits_58 : decode cX2_limits 58 = .ok (.iconst 0, 1) := by decide +kernel
theorem dX2_limits_59 : decode cX2_limits 59 = .ok (.putfield 38, 3) := by decide +kernel
theorem dX2_limits_62 : decode cX2_limits 62 = .ok (.aload_n 0, 1) := by decide +kernel
theorem dX2_limits_63 : decode cX2_limits 63 = .ok (.getfield 38, 3) := by decide +kernel
theorem dX2_limits_66 : decode cX2_limits 66 = .ok (.ifCond .eq 5, 3) := by decide +kernel
theorem dX2_limits_69 : decode cX2_limits 69 = .ok (.iconst 0, 1) := by decide +kernel
theorem dX2_limits_70 : decode cX2_limits 70 = .ok (.ireturn, 1) := by decide +kernel
theorem dX2_limits_71 : decode cX2_limits 71 = .ok (.aload_n 0, 1) := by decide +kernel
theorem dX2_limits_72 : decode cX2_limits 72 = .ok (.getfield 25, 3) := by decide +kernel
theorem dX2_limits_75 : decode cX2_limits 75 = .ok (.iload_n 1, 1) := by decide +kernel
theorem dX2_limits_76 : decode cX2_limits 76 = .ok (.iload_n 2, 1) := by decide +kernel
theorem dX2_limits_77 : decode cX2_limits 77 = .ok (.iastore, 1) := by decide +kernel
theorem dX2_limits_78 : decode cX2_limits 78 = .ok (.aload_n 0, 1) := by decide +kernel
theorem dX2_limits_79 : decode cX2_limits 79 = .ok (.getfield 28, 3) := by decide +kernel
theorem dX2_limits_82 : decode cX2_limits 82 = .ok (.iload_n 1, 1) := by decide +kernel
theorem dX2_limits_83 : decode cX2_limits 83 = .ok (.iload_n 3, 1) := by decide +kernel
theorem dX2_limits_84 : decode cX2_limits 84 = .ok (.iastore, 1) := by decide +kernel
theorem dX2_limits_85 : decode cX2_limits 85 = .ok (.aload_n 0, 1) := by decide +kernel
theorem dX2_limits_86 : decode cX2_limits 86 = .ok (.getfield 31, 3) := by decide +kernel
theorem dX2_limits_89 : decode cX2_limits 89 = .ok (.iload_n 1, 1) := by decide +kernel
theorem dX2_limits_90 : decode cX2_limits 90 = .ok (.iload 4, 2) := by decide +kernel
theorem dX2_limits_92 : decode cX2_limits 92 = .ok (.iastore, 1) := by decide +kernel
theorem dX2_limits_93 : decode cX2_limits 93 = .ok (.iload_n 2, 1) := by decide +kernel
theorem dX2_limits_94 : decode cX2_limits 94 = .ok (.ifCond .le 7, 3) := by decide +kernel
theorem dX2_limits_97 : decode cX2_limits 97 = .ok (.iconst 1, 1) := by decide +kernel
theorem dX2_limits_98 : decode cX2_limits 98 = .ok (.goto 4, 3) := by decide +kernel
theorem dX2_limits_101 : decode cX2_limits 101 = .ok (.iconst 0, 1) := by decide +kernel
theorem dX2_limits_102 : decode cX2_limits 102 = .ok (.iload_n 3, 1) := by decide +kernel
theorem dX2_limits_103 : decode cX2_limits 103 = .ok (.ifCond .le 7, 3) := by decide +kernel
theorem dX2_limits_106 : decode cX2_limits 106 = .ok (.iconst 1, 1) := by decide +kernel
theorem dX2_limits_107 : decode cX2_limits 107 = .ok (.goto 4, 3) := by decide +kernel
theorem dX2_limits_110 : decode cX2_limits 110 = .ok (.iconst 0, 1) := by decide +kernel
theorem dX2_limits_111 : decode cX2_limits 111 = .ok (.iadd, 1) := by decide +kernel
theorem dX2_limits_112 : decode cX2_limits 112 = .ok (.iload 4, 2) := by decide +kernel
theorem dX2_limits_114 : decode cX2_limits 114 = .ok (.ifCond .le 7, 3) := by decide +kernel
theorem dX2_limits_117 : decode cX2_limits 117 = .ok (.iconst 1, 1) := by decide +kernel
theorem dX2_limits_118 : decode cX2_limits 118 = .ok (.goto 4, 3) := by decide +kernel
theorem dX2_limits_121 : decode cX2_limits 121 = .ok (.iconst 0, 1) := by decide +kernel
theorem dX2_limits_122 : decode cX2_limits 122 = .ok (.iadd, 1) := by decide +kernel
theorem dX2_limits_123 : decode cX2_limits 123 = .ok (.ireturn, 1) := by decide +kernel
set_option maxRecDepth 20000 in
theorem ggX2_shut_X2_isChute : GoodIn wsX2_shut wsX2_isChute := goodIn_r _ [6, 7, 8, 5, 9] (by decide +kernel) (by decide +kernel)
set_option maxRecDepth 20000 in
theorem gX2_shut_X2_isChute : GoodIn wsX2_shut (va_wsS RX2 74 yX2_isChute wsX2_isChute) := goodIn_app (goodIn_of _ (by decide +kernel)) ggX2_shut_X2_isChute
theorem dX2_shut_0 : decode cX2_shut 0 = .ok (.aload_n 0, 1) := by decide +kernel
theorem dX2_shut_1 : decode cX2_shut 1 = .ok (.iload_n 1, 1) := by decide +kernel
theorem dX2_shut_2 : decode cX2_shut 2 = .ok (.invokestatic 74, 3) := by decide +kernel
theorem dX2_shut_5 : decode cX2_shut 5 = .ok (.ifCond .eq 7, 3) := by decide +kernel
theorem dX2_shut_8 : decode cX2_shut 8 = .ok (.iconst 0, 1) := by decide +kernel
theorem dX2_shut_9 : decode cX2_shut 9 = .ok (.goto 4, 3) := by decide +kernel
theorem dX2_shut_12 : decode cX2_shut 12 = .ok (.iconst 1, 1) := by decide +kernel
theorem dX2_shut_13 : decode cX2_shut 13 = .ok (.putfield 38, 3) := by decide +kernel
theorem dX2_shut_16 : decode cX2_shut 16 = .ok (.aload_n 0, 1) := by decide +kernel
theorem dX2_shut_17 : decode cX2_shut 17 = .ok (.getfield 38, 3) := by decide +kernel
theorem dX2_shut_20 : decode cX2_shut 20 = .ok (.ifCond .eq 5, 3) := by decide +kernel
theorem dX2_shut_23 : decode cX2_shut 23 = .ok (.iconst 0, 1) := by decide +kernel
theorem dX2_shut_24 : decode cX2_shut 24 = .ok (.ireturn, 1) := by decide +kernel
theorem dX2_shut_25 : decode cX2_shut 25 = .ok (.aload_n 0, 1) := by decide +kernel
theorem dX2_shut_26 : decode cX2_shut 26 = .ok (.getfield 34, 3) := by decide +kernel
theorem dX2_shut_29 : decode cX2_shut 29 = .ok (.iload_n 1, 1) := by decide +kernel
theorem dX2_shut_30 : decode cX2_shut 30 = .ok (.baload, 1) := by decide +kernel
theorem dX2_shut_31 : decode cX2_shut 31 = .ok (.istore_n 3, 1) := by decide +kernel
theorem dX2_shut_32 : decode cX2_shut 32 = .ok (.aload_n 0, 1) := by decide +kernel
theorem dX2_shut_33 : decode cX2_shut 33 = .ok (.getfield 34, 3) := by decide +kernel
theorem dX2_shut_36 : decode cX2_shut 36 = .ok (.iload_n 1, 1) := by decide +kernel
theorem dX2_shut_37 : decode cX2_shut 37 = .ok (.iload_n 2, 1) := by decide +kernel
theorem dX2_shut_38 : decode cX2_shut 38 = .ok (.bastore, 1) := by decide +kernel
theorem dX2_shut_39 : decode cX2_shut 39 = .ok (.iload_n 3, 1) := by decide +kernel
theorem dX2_shut_40 : decode cX2_shut 40 = .ok (.ireturn, 1) := by decide +kernel
set_option maxRecDepth 20000 in
theorem ggX2_gaugeAll_X2_holds : GoodIn wsX2_gaugeAll wsX2_holds := goodIn_r _ [10, 11, 12, 9, 13] (by decide +kernel) (by decide +kernel)
set_option maxRecDepth 20000 in
theorem gX2_gaugeAll_X2_holds : GoodIn wsX2_gaugeAll (va_wsS RX2 51 yX2_holds wsX2_holds) := goodIn_app (goodIn_of _ (by decide +kernel)) ggX2_gaugeAll_X2_holds
theorem dX2_gaugeAll_0 : decode cX2_gaugeAll 0 = .ok (.aload_n 0, 1) := by decide +kernel
theorem dX2_gaugeAll_1 : decode cX2_gaugeAll 1 = .ok (.aload_n 0, 1) := by decide +kernel
theorem dX2_gaugeAll_2 : decode cX2_gaugeAll 2 = .ok (.getfield 81, 3) := by decide +kernel
theorem dX2_gaugeAll_5 : decode cX2_gaugeAll 5 = .ok (.ifCond .le 19, 3) := by decide +kernel
theorem dX2_gaugeAll_8 : decode cX2_gaugeAll 8 = .ok (.iload_n 1, 1) := by decide +kernel
theorem dX2_gaugeAll_9 : decode cX2_gaugeAll 9 = .ok (.aload_n 0, 1) := by decide +kernel
theorem dX2_gaugeAll_10 : decode cX2_gaugeAll 10 = .ok (.getfield 84, 3) := by decide +kernel
theorem dX2_gaugeAll_13 : decode cX2_gaugeAll 13 = .ok (.iconst 1, 1) := by decide +kernel
theorem dX2_gaugeAll_14 : decode cX2_gaugeAll 14 = .ok (.invokestatic 51, 3) := by decide +kernel
theorem dX2_gaugeAll_17 : decode cX2_gaugeAll 17 = .ok (.ifCond .eq 7, 3) := by decide +kernel
theorem dX2_gaugeAll_20 : decode cX2_gaugeAll 20 = .ok (.iconst 1, 1) := by decide +kernel
theorem dX2_gaugeAll_21 : decode cX2_gaugeAll 21 = .ok (.goto 9, 3) := by decide +kernel
theorem dX2_gaugeAll_24 : decode cX2_gaugeAll 24 = .ok (.aload_n 0, 1) := by decide +kernel
theorem dX2_gaugeAll_25 : decode cX2_gaugeAll 25 = .ok (.getfield 87, 3) := by decide +kernel
theorem dX2_gaugeAll_28 : decode cX2_gaugeAll 28 = .ok (.iconst 1, 1) := by decide +kernel
theorem dX2_gaugeAll_29 : decode cX2_gaugeAll 29 = .ok (.iadd, 1) := by decide +kernel
theorem dX2_gaugeAll_30 : decode cX2_gaugeAll 30 = .ok (.putfield 87, 3) := by decide +kernel
theorem dX2_gaugeAll_33 : decode cX2_gaugeAll 33 = .ok (.aload_n 0, 1) := by decide +kernel
theorem dX2_gaugeAll_34 : decode cX2_gaugeAll 34 = .ok (.iload_n 1, 1) := by decide +kernel
theorem dX2_gaugeAll_35 : decode cX2_gaugeAll 35 = .ok (.putfield 84, 3) := by decide +kernel
theorem dX2_gaugeAll_38 : decode cX2_gaugeAll 38 = .ok (.aload_n 0, 1) := by decide +kernel
theorem dX2_gaugeAll_39 : decode cX2_gaugeAll 39 = .ok (.dup, 1) := by decide +kernel
theorem dX2_gaugeAll_40 : decode cX2_gaugeAll 40 = .ok (.getfield 81, 3) := by decide +kernel
theorem dX2_gaugeAll_43 : decode cX2_gaugeAll 43 = .ok (.iconst 1, 1) := by decide +kernel
theorem dX2_gaugeAll_44 : decode cX2_gaugeAll 44 = .ok (.iadd, 1) := by decide +kernel
theorem dX2_gaugeAll_45 : decode cX2_gaugeAll 45 = .ok (.putfield 81, 3) := by decide +kernel
theorem dX2_gaugeAll_48 : decode cX2_gaugeAll 48 = .ok (.aload_n 0, 1) := by decide +kernel
theorem dX2_gaugeAll_49 : decode cX2_gaugeAll 49 = .ok (.iload_n 1, 1) := by decide +kernel
theorem dX2_gaugeAll_50 : decode cX2_gaugeAll 50 = .ok (.ifCond .le 22, 3) := by decide +kernel
theorem dX2_gaugeAll_53 : decode cX2_gaugeAll 53 = .ok (.aload_n 0, 1) := by decide +kernel
theorem dX2_gaugeAll_54 : decode cX2_gaugeAll 54 = .ok (.getfield 90, 3) := by decide +kernel
theorem dX2_gaugeAll_57 : decode cX2_gaugeAll 57 = .ok (.ifCond .eq 11, 3) := by decide +kernel
theorem dX2_gaugeAll_60 : decode cX2_gaugeAll 60 = .ok (.iload_n 1, 1) := by decide +kernel
theorem dX2_gaugeAll_61 : decode cX2_gaugeAll 61 = .ok (.aload_n 0, 1) := by decide +kernel
theorem dX2_gaugeAll_62 : decode cX2_gaugeAll 62 = .ok (.getfield 90, 3) := by decide +kernel
theorem dX2_gaugeAll_65 : decode cX2_gaugeAll 65 = .ok (.if_icmp .ge 7, 3) := by decide +kernel
theorem dX2_gaugeAll_68 : decode cX2_gaugeAll 68 = .ok (.iload_n 1, 1) := by decide +kernel
theorem dX2_gaugeAll_69 : decode cX2_gaugeAll 69 = .ok (.goto 7, 3) := by decide +kernel
theorem dX2_gaugeAll_72 : decode cX2_gaugeAll 72 = .ok (.aload_n 0, 1) := by decide +kernel
theorem dX2_gaugeAll_73 : decode cX2_gaugeAll 73 = .ok (.getfield 90, 3) := by decide +kernel
theorem dX2_gaugeAll_76 : decode cX2_gaugeAll 76 = .ok (.putfield 90, 3) := by decide +kernel
theorem dX2_gaugeAll_79 : decode cX2_gaugeAll 79 = .ok (.aload_n 0, 1) := by decide +kernel
theorem dX2_gaugeAll_80 : decode cX2_gaugeAll 80 = .ok (.iload_n 1, 1) := by decide +kernel
theorem dX2_gaugeAll_81 : decode cX2_gaugeAll 81 = .ok (.aload_n 0, 1) := by decide +kernel
theorem dX2_gaugeAll_82 : decode cX2_gaugeAll 82 = .ok (.getfield 93, 3) := by decide +kernel
theorem dX2_gaugeAll_85 : decode cX2_gaugeAll 85 = .ok (.if_icmp .le 7, 3) := by decide +kernel
theorem dX2_gaugeAll_88 : decode cX2_gaugeAll 88 = .ok (.iload_n 1, 1) := by decide +kernel
theorem dX2_gaugeAll_89 : decode cX2_gaugeAll 89 = .ok (.goto 7, 3) := by decide +kernel
theorem dX2_gaugeAll_92 : decode cX2_gaugeAll 92 = .ok (.aload_n 0, 1) := by decide +kernel
theorem dX2_gaugeAll_93 : decode cX2_gaugeAll 93 = .ok (.getfield 93, 3) := by decide +kernel
theorem dX2_gaugeAll_96 : decode cX2_gaugeAll 96 = .ok (.putfield 93, 3) := by decide +kernel
theorem dX2_gaugeAll_99 : decode cX2_gaugeAll 99 = .ok (.aload_n 0, 1) := by decide +kernel
theorem dX2_gaugeAll_100 : decode cX2_gaugeAll 100 = .ok (.iload_n 2, 1) := by decide +kernel
theorem dX2_gaugeAll_101 : decode cX2_gaugeAll 101 = .ok (.aload_n 0, 1) := by decide +kernel
theorem dX2_gaugeAll_102 : decode cX2_gaugeAll 102 = .ok (.getfield 96, 3) := by decide +kernel
theorem dX2_gaugeAll_105 : decode cX2_gaugeAll 105 = .ok (.if_icmp .le 7, 3) := by decide +kernel
theorem dX2_gaugeAll_108 : decode cX2_gaugeAll 108 = .ok (.iload_n 2, 1) := by decide +kernel
theorem dX2_gaugeAll_109 : decode cX2_gaugeAll 109 = .ok (.goto 7, 3) := by decide +kernel
theorem dX2_gaugeAll_112 : decode cX2_gaugeAll 112 = .ok (.aload_n 0, 1) := by decide +kernel
theorem dX2_gaugeAll_113 : decode cX2_gaugeAll 113 = .ok (.getfield 96, 3) := by decide +kernel
theorem dX2_gaugeAll_116 : decode cX2_gaugeAll 116 = .ok (.putfield 96, 3) := by decide +kernel
theorem dX2_gaugeAll_119 : decode cX2_gaugeAll 119 = .ok (.return_, 1) := by decide +kernel
set_option maxRecDepth 20000 in
theorem ggX2_send_X2_isParcel : GoodIn wsX2_send wsX2_isParcel := goodIn_r _ [6, 7, 8, 9, 5, 10] (by decide +kernel) (by decide +kernel)
set_option maxRecDepth 20000 in
theorem gX2_send_X2_isParcel : GoodIn wsX2_send (va_wsS RX2 99 yX2_isParcel wsX2_isParcel) := goodIn_app (goodIn_of _ (by decide +kernel)) ggX2_send_X2_isParcel
set_option maxRecDepth 20000 in
theorem ggX2_send_X2_gaugeAll : GoodIn wsX2_send wsX2_gaugeAll := goodIn_r _ [14, 15, 16, 17, 18, 19, 20, 21, 22, 5, 23, 24, 25, 26, 55, 56, 57, 58, 59, 60, 61, 62, 63, 64, 65, 66, 67, 68, 69, 70, 71, 72, 73, 74] (by decide +kernel) (by decide +kernel)
set_option maxRecDepth 20000 in
theorem gX2_send_X2_gaugeAll : GoodIn wsX2_send (wsV RX2 102 RX2 yX2_gaugeAll wsX2_gaugeAll) := goodIn_app (goodIn_of _ (by decide +kernel)) ggX2_send_X2_gaugeAll
set_option maxRecDepth 20000 in
theorem ggX2_send_X2_many : GoodIn wsX2_send wsX2_many := goodIn_r _ [30, 31, 55, 56, 57, 58, 59, 60, 61, 62, 63, 64, 65, 66, 67, 68, 69, 70, 71, 72, 73, 74] (by decide +kernel) (by decide +kernel)
set_option maxRecDepth 20000 in
theorem gX2_send_X2_many : GoodIn wsX2_send (wsV RX2 78 RX2 yX2_many wsX2_many) := goodIn_app (goodIn_of _ (by decide +kernel)) ggX2_send_X2_many
set_option maxRecDepth 20000 in
theorem ggX2_send_X2_fitsChute : GoodIn wsX2_send wsX2_fitsChute := goodIn_r _ [35, 36, 37, 38, 39, 21, 22, 5, 23, 24, 25, 26, 55, 56, 57, 58, 59, 60, 61, 62, 63, 64, 65, 66, 67, 68, 69, 70, 71, 72, 73, 74] (by decide +kernel) (by decide +kernel)
set_option maxRecDepth 20000 in
theorem gX2_send_X2_fitsChute : GoodIn wsX2_send (wsV RX2 106 RX2 yX2_fitsChute wsX2_fitsChute) := goodIn_app (goodIn_of _ (by decide +kernel)) ggX2_send_X2_fitsChute
set_option maxRecDepth 20000 in
theorem ggX2_send_X2_putIn : GoodIn wsX2_send wsX2_putIn := goodIn_r _ [43, 31, 44, 45, 46, 47, 55, 56, 57, 58, 59, 60, 61, 62, 63, 64, 65, 66, 67, 68, 69, 70, 71, 72, 73, 74] (by decide +kernel) (by decide +kernel)
set_option maxRecDepth 20000 in
theorem gX2_send_X2_putIn : GoodIn wsX2_send (wsV RX2 109 RX2 yX2_putIn wsX2_putIn) := goodIn_app (goodIn_of _ (by decide +kernel)) ggX2_send_X2_putIn
set_option maxRecDepth 20000 in
theorem ggX2_send_X2_putAside : GoodIn wsX2_send wsX2_putAside := goodIn_r _ [51, 52, 53, 54, 55, 56, 57, 58, 59, 60, 61, 62, 63, 64, 65, 66, 67, 68, 69, 70, 71, 72, 73, 74] (by decide +kernel) (by decide +kernel)
set_option maxRecDepth 20000 in
theorem gX2_send_X2_putAside : GoodIn wsX2_send (wsV RX2 113 RX2 yX2_putAside wsX2_putAside) := goodIn_app (goodIn_of _ (by decide +kernel)) ggX2_send_X2_putAside
theorem dX2_send_0 : decode cX2_send 0 = .ok (.aload_n 0, 1) := by decide +kernel
theorem dX2_send_1 : decode cX2_send 1 = .ok (.iload_n 1, 1) := by decide +kernel
theorem dX2_send_2 : decode cX2_send 2 = .ok (.iload_n 2, 1) := by decide +kernel
theorem dX2_send_3 : decode cX2_send 3 = .ok (.invokestatic 99, 3) := by decide +kernel
theorem dX2_send_6 : decode cX2_send 6 = .ok (.ifCond .eq 7, 3) := by decide +kernel
theorem dX2_send_9 : decode cX2_send 9 = .ok (.iconst 0, 1) := by decide +kernel
theorem dX2_send_10 : decode cX2_send 10 = .ok (.goto 4, 3) := by decide +kernel
theorem dX2_send_13 : decode cX2_send 13 = .ok (.iconst 1, 1) := by decide +kernel
theorem dX2_send_14 : decode cX2_send 14 = .ok (.putfield 38, 3) := by decide +kernel
theorem dX2_send_17 : decode cX2_send 17 = .ok (.aload_n 0, 1) := by decide +kernel
theorem dX2_send_18 : decode cX2_send 18 = .ok (.getfield 38, 3) := by decide +kernel
theorem dX2_send_21 : decode cX2_send 21 = .ok (.ifCond .eq 5, 3) := by decide +kernel
theorem dX2_send_24 : decode cX2_send 24 = .ok (.iconst 0, 1) := by decide +kernel
theorem dX2_send_25 : decode cX2_send 25 = .ok (.ireturn, 1) := by decide +kernel
theorem dX2_send_26 : decode cX2_send 26 = .ok (.aload_n 0, 1) := by decide +kernel
theorem dX2_send_27 : decode cX2_send 27 = .ok (.iload_n 1, 1) := by decide +kernel
theorem dX2_send_28 : decode cX2_send 28 = .ok (.iload_n 2, 1) := by decide +kernel
theorem dX2_send_29 : decode cX2_send 29 = .ok (.invokevirtual 102, 3) := by decide +kernel
theorem dX2_send_32 : decode cX2_send 32 = .ok (.iconst 0, 1) := by decide +kernel
theorem dX2_send_33 : decode cX2_send 33 = .ok (.istore_n 3, 1) := by decide +kernel
theorem dX2_send_34 : decode cX2_send 34 = .ok (.iload_n 3, 1) := by decide +kernel
theorem dX2_send_35 : decode cX2_send 35 = .ok (.bipush 8, 2) := by decide +kernel
theorem dX2_send_37 : decode cX2_send 37 = .ok (.if_icmp .ge 47, 3) := by decide +kernel
theorem dX2_send_40 : decode cX2_send 40 = .ok (.aload_n 0, 1) := by decide +kernel
theorem dX2_send_41 : decode cX2_send 41 = .ok (.getfield 34, 3) := by decide +kernel
theorem dX2_send_44 : decode cX2_send 44 = .ok (.iload_n 3, 1) := by decide +kernel
theorem dX2_send_45 : decode cX2_send 45 = .ok (.baload, 1) := by decide +kernel
theorem dX2_send_46 : decode cX2_send 46 = .ok (.ifCond .ne 32, 3) := by decide +kernel
theorem dX2_send_49 : decode cX2_send 49 = .ok (.aload_n 0, 1) := by decide +kernel
theorem dX2_send_50 : decode cX2_send 50 = .ok (.iload_n 3, 1) := by decide +kernel
theorem dX2_send_51 : decode cX2_send 51 = .ok (.invokevirtual 78, 3) := by decide +kernel
theorem dX2_send_54 : decode cX2_send 54 = .ok (.bipush 12, 2) := by decide +kernel
theorem dX2_send_56 : decode cX2_send 56 = .ok (.if_icmp .ge 22, 3) := by decide +kernel
theorem dX2_send_59 : decode cX2_send 59 = .ok (.aload_n 0, 1) := by decide +kernel
theorem dX2_send_60 : decode cX2_send 60 = .ok (.iload_n 1, 1) := by decide +kernel
theorem dX2_send_61 : decode cX2_send 61 = .ok (.iload_n 2, 1) := by decide +kernel
theorem dX2_send_62 : decode cX2_send 62 = .ok (.iload_n 3, 1) := by decide +kernel
theorem dX2_send_63 : decode cX2_send 63 = .ok (.invokevirtual 106, 3) := by decide +kernel
theorem dX2_send_66 : decode cX2_send 66 = .ok (.ifCond .eq 12, 3) := by decide +kernel
theorem dX2_send_69 : decode cX2_send 69 = .ok (.aload_n 0, 1) := by decide +kernel
theorem dX2_send_70 : decode cX2_send 70 = .ok (.iload_n 1, 1) := by decide +kernel
theorem dX2_send_71 : decode cX2_send 71 = .ok (.iload_n 2, 1) := by decide +kernel
theorem dX2_send_72 : decode cX2_send 72 = .ok (.iload_n 3, 1) := by decide +kernel
theorem dX2_send_73 : decode cX2_send 73 = .ok (.invokevirtual 109, 3) := by decide +kernel
theorem dX2_send_76 : decode cX2_send 76 = .ok (.iload_n 3, 1) := by decide +kernel
theorem dX2_send_77 : decode cX2_send 77 = .ok (.ireturn, 1) := by decide +kernel
theorem dX2_send_78 : decode cX2_send 78 = .ok (.iinc 3 1, 3) := by decide +kernel
theorem dX2_send_81 : decode cX2_send 81 = .ok (.goto (-47), 3) := by decide +kernel
theorem dX2_send_84 : decode cX2_send 84 = .ok (.aload_n 0, 1) := by decide +kernel
theorem dX2_send_85 : decode cX2_send 85 = .ok (.iload_n 1, 1) := by decide +kernel
theorem dX2_send_86 : decode cX2_send 86 = .ok (.iload_n 2, 1) := by decide +kernel
theorem dX2_send_87 : decode cX2_send 87 = .ok (.invokevirtual 113, 3) := by decide +kernel
theorem dX2_send_90 : decode cX2_send 90 = .ok (.iconst (-1), 1) := by decide +kernel
theorem dX2_send_91 : decode cX2_send 91 = .ok (.ireturn, 1) := by decide +kernel
set_option maxRecDepth 20000 in
theorem ggX2_fits_X2_isParcel : GoodIn wsX2_fits wsX2_isParcel := goodIn_r _ [5, 6, 7, 8, 4, 9] (by decide +kernel) (by decide +kernel)
set_option maxRecDepth 20000 in
theorem gX2_fits_X2_isParcel : GoodIn wsX2_fits (va_wsS RX2 99 yX2_isParcel wsX2_isParcel) := goodIn_app (goodIn_of _ (by decide +kernel)) ggX2_fits_X2_isParcel
set_option maxRecDepth 20000 in
theorem ggX2_fits_X2_fitsChute : GoodIn wsX2_fits wsX2_fitsChute := goodIn_r _ [13, 14, 15, 16, 17, 18, 19, 4, 20, 21, 22, 23, 24, 25, 26, 27, 28, 29, 30, 31, 32, 33, 34, 35, 36, 37, 38, 39, 40, 41, 42, 43] (by decide +kernel) (by decide +kernel)
set_option maxRecDepth 20000 in
theorem gX2_fits_X2_fitsChute : GoodIn wsX2_fits (wsV RX2 106 RX2 yX2_fitsChute wsX2_fitsChute) := goodIn_app (goodIn_of _ (by decide +kernel)) ggX2_fits_X2_fitsChute
theorem dX2_fits_0 : decode cX2_fits 0 = .ok (.aload_n 0, 1) := by decide +kernel
theorem dX2_fits_1 : decode cX2_fits 1 = .ok (.iload_n 1, 1) := by decide +kernel
theorem dX2_fits_2 : decode cX2_fits 2 = .ok (.iload_n 2, 1) := by decide +kernel
theorem dX2_fits_3 : decode cX2_fits 3 = .ok (.invokestatic 99, 3) := by decide +kernel
theorem dX2_fits_6 : decode cX2_fits 6 = .ok (.ifCond .eq 7, 3) := by decide +kernel
theorem dX2_fits_9 : decode cX2_fits 9 = .ok (.iconst 0, 1) := by decide +kernel
theorem dX2_fits_10 : decode cX2_fits 10 = .ok (.goto 4, 3) := by decide +kernel
theorem dX2_fits_13 : decode cX2_fits 13 = .ok (.iconst 1, 1) := by decide +kernel
theorem dX2_fits_14 : decode cX2_fits 14 = .ok (.putfield 38, 3) := by decide +kernel
theorem dX2_fits_17 : decode cX2_fits 17 = .ok (.iconst 0, 1) := by decide +kernel
theorem dX2_fits_18 : decode cX2_fits 18 = .ok (.istore_n 3, 1) := by decide +kernel
theorem dX2_fits_19 : decode cX2_fits 19 = .ok (.iconst 0, 1) := by decide +kernel
theorem dX2_fits_20 : decode cX2_fits 20 = .ok (.istore 4, 2) := by decide +kernel
theorem dX2_fits_22 : decode cX2_fits 22 = .ok (.iload 4, 2) := by decide +kernel
theorem dX2_fits_24 : decode cX2_fits 24 = .ok (.bipush 8, 2) := by decide +kernel
theorem dX2_fits_26 : decode cX2_fits 26 = .ok (.if_icmp .ge 38, 3) := by decide +kernel
theorem dX2_fits_29 : decode cX2_fits 29 = .ok (.aload_n 0, 1) := by decide +kernel
theorem dX2_fits_30 : decode cX2_fits 30 = .ok (.getfield 38, 3) := by decide +kernel
theorem dX2_fits_33 : decode cX2_fits 33 = .ok (.ifCond .ne 31, 3) := by decide +kernel
theorem dX2_fits_36 : decode cX2_fits 36 = .ok (.iload_n 3, 1) := by decide +kernel
theorem dX2_fits_37 : decode cX2_fits 37 = .ok (.aload_n 0, 1) := by decide +kernel
theorem dX2_fits_38 : decode cX2_fits 38 = .ok (.iload_n 1, 1) := by decide +kernel
theorem dX2_fits_39 : decode cX2_fits 39 = .ok (.iload_n 2, 1) := by decide +kernel
theorem dX2_fits_40 : decode cX2_fits 40 = .ok (.iload 4, 2) := by decide +kernel
theorem dX2_fits_42 : decode cX2_fits 42 = .ok (.invokevirtual 106, 3) := by decide +kernel
theorem dX2_fits_45 : decode cX2_fits 45 = .ok (.ifCond .eq 10, 3) := by decide +kernel
theorem dX2_fits_48 : decode cX2_fits 48 = .ok (.iconst 1, 1) := by decide +kernel
theorem dX2_fits_49 : decode cX2_fits 49 = .ok (.iload 4, 2) := by decide +kernel
theorem dX2_fits_51 : decode cX2_fits 51 = .ok (.ishl, 1) := by decide +kernel
theorem dX2_fits_52 : decode cX2_fits 52 = .ok (.goto 4, 3) := by decide +kernel
theorem dX2_fits_55 : decode cX2_fits 55 = .ok (.iconst 0, 1) := by decide +kernel
theorem dX2_fits_56 : decode cX2_fits 56 = .ok (.ior, 1) := by decide +kernel
theorem dX2_fits_57 : decode cX2_fits 57 = .ok (.istore_n 3, 1) := by decide +kernel
theorem dX2_fits_58 : decode cX2_fits 58 = .ok (.iinc 4 1, 3) := by decide +kernel
theorem dX2_fits_61 : decode cX2_fits 61 = .ok (.goto (-39), 3) := by decide +kernel
theorem dX2_fits_64 : decode cX2_fits 64 = .ok (.iload_n 3, 1) := by decide +kernel
theorem dX2_fits_65 : decode cX2_fits 65 = .ok (.ireturn, 1) := by decide +kernel
set_option maxRecDepth 20000 in
theorem ggX2_signs_X2_isChute : GoodIn wsX2_signs wsX2_isChute := goodIn_r _ [9, 10, 11, 8, 12] (by decide +kernel) (by decide +kernel)
set_option maxRecDepth 20000 in
theorem gX2_signs_X2_isChute : GoodIn wsX2_signs (va_wsS RX2 74 yX2_isChute wsX2_isChute) := goodIn_app (goodIn_of _ (by decide +kernel)) ggX2_signs_X2_isChute
set_option maxRecDepth 20000 in
theorem ggX2_signs_X2_isWithin : GoodIn wsX2_signs wsX2_isWithin := goodIn_r _ [12] (by decide +kernel) (by decide +kernel)
set_option maxRecDepth 20000 in
theorem gX2_signs_X2_isWithin : GoodIn wsX2_signs (va_wsS RX2 42 yX2_isWithin wsX2_isWithin) := goodIn_app (goodIn_of _ (by decide +kernel)) ggX2_signs_X2_isWithin
set_option maxRecDepth 20000 in
theorem ggX2_signs_X2_signsOf : GoodIn wsX2_signs wsX2_signsOf := goodIn_r _ [15] (by decide +kernel) (by decide +kernel)
set_option maxRecDepth 20000 in
theorem gX2_signs_X2_signsOf : GoodIn wsX2_signs (va_wsS RX2 47 yX2_signsOf wsX2_signsOf) := goodIn_app (goodIn_of _ (by decide +kernel)) ggX2_signs_X2_signsOf
theorem dX2_signs_0 : decode cX2_signs 0 = .ok (.aload_n 0, 1) := by decide +kernel
theorem dX2_signs_1 : decode cX2_signs 1 = .ok (.iload_n 1, 1) := by decide +kernel
theorem dX2_signs_2 : decode cX2_signs 2 = .ok (.invokestatic 74, 3) := by decide +kernel
theorem dX2_signs_5 : decode cX2_signs 5 = .ok (.ifCond .ne 7, 3) := by decide +kernel
theorem dX2_signs_8 : decode cX2_signs 8 = .ok (.iconst 1, 1) := by decide +kernel
theorem dX2_signs_9 : decode cX2_signs 9 = .ok (.goto 36, 3) := by decide +kernel
theorem dX2_signs_12 : decode cX2_signs 12 = .ok (.iload_n 2, 1) := by decide +kernel
theorem dX2_signs_13 : decode cX2_signs 13 = .ok (.iconst 2, 1) := by decide +kernel
theorem dX2_signs_14 : decode cX2_signs 14 = .ok (.invokestatic 42, 3) := by decide +kernel
theorem dX2_signs_17 : decode cX2_signs 17 = .ok (.ifCond .eq 23, 3) := by decide +kernel
theorem dX2_signs_20 : decode cX2_signs 20 = .ok (.iload_n 3, 1) := by decide +kernel
theorem dX2_signs_21 : decode cX2_signs 21 = .ok (.iload_n 2, 1) := by decide +kernel
theorem dX2_signs_22 : decode cX2_signs 22 = .ok (.iconst 2, 1) := by decide +kernel
theorem dX2_signs_23 : decode cX2_signs 23 = .ok (.if_icmp .ne 9, 3) := by decide +kernel
theorem dX2_signs_26 : decode cX2_signs 26 = .ok (.sipush 16000, 3) := by decide +kernel
theorem dX2_signs_29 : decode cX2_signs 29 = .ok (.goto 5, 3) := by decide +kernel
theorem dX2_signs_32 : decode cX2_signs 32 = .ok (.ldc 46, 2) := by decide +kernel
theorem dX2_signs_34 : decode cX2_signs 34 = .ok (.invokestatic 42, 3) := by decide +kernel
theorem dX2_signs_37 : decode cX2_signs 37 = .ok (.ifCond .ne 7, 3) := by decide +kernel
theorem dX2_signs_40 : decode cX2_signs 40 = .ok (.iconst 2, 1) := by decide +kernel
theorem dX2_signs_41 : decode cX2_signs 41 = .ok (.goto 4, 3) := by decide +kernel
theorem dX2_signs_44 : decode cX2_signs 44 = .ok (.iconst 0, 1) := by decide +kernel
theorem dX2_signs_45 : decode cX2_signs 45 = .ok (.putfield 38, 3) := by decide +kernel
theorem dX2_signs_48 : decode cX2_signs 48 = .ok (.aload_n 0, 1) := by decide +kernel
theorem dX2_signs_49 : decode cX2_signs 49 = .ok (.getfield 38, 3) := by decide +kernel
theorem dX2_signs_52 : decode cX2_signs 52 = .ok (.ifCond .eq 5, 3) := by decide +kernel
theorem dX2_signs_55 : decode cX2_signs 55 = .ok (.iconst 0, 1) := by decide +kernel
theorem dX2_signs_56 : decode cX2_signs 56 = .ok (.ireturn, 1) := by decide +kernel
theorem dX2_signs_57 : decode cX2_signs 57 = .ok (.iload_n 3, 1) := by decide +kernel
theorem dX2_signs_58 : decode cX2_signs 58 = .ok (.iload_n 2, 1) := by decide +kernel
theorem dX2_signs_59 : decode cX2_signs 59 = .ok (.ifCond .ne 12, 3) := by decide +kernel
theorem dX2_signs_62 : decode cX2_signs 62 = .ok (.aload_n 0, 1) := by decide +kernel
theorem dX2_signs_63 : decode cX2_signs 63 = .ok (.getfield 25, 3) := by decide +kernel
theorem dX2_signs_66 : decode cX2_signs 66 = .ok (.iload_n 1, 1) := by decide +kernel
theorem dX2_signs_67 : decode cX2_signs 67 = .ok (.iaload, 1) := by decide +kernel
theorem dX2_signs_68 : decode cX2_signs 68 = .ok (.goto 23, 3) := by decide +kernel
theorem dX2_signs_71 : decode cX2_signs 71 = .ok (.iload_n 2, 1) := by decide +kernel
theorem dX2_signs_72 : decode cX2_signs 72 = .ok (.iconst 1, 1) := by decide +kernel
theorem dX2_signs_73 : decode cX2_signs 73 = .ok (.if_icmp .ne 12, 3) := by decide +kernel
theorem dX2_signs_76 : decode cX2_signs 76 = .ok (.aload_n 0, 1) := by decide +kernel
theorem dX2_signs_77 : decode cX2_signs 77 = .ok (.getfield 28, 3) := by decide +kernel
theorem dX2_signs_80 : decode cX2_signs 80 = .ok (.iload_n 1, 1) := by decide +kernel
theorem dX2_signs_81 : decode cX2_signs 81 = .ok (.iaload, 1) := by decide +kernel
theorem dX2_signs_82 : decode cX2_signs 82 = .ok (.goto 9, 3) := by decide +kernel
theorem dX2_signs_85 : decode cX2_signs 85 = .ok (.aload_n 0, 1) := by decide +kernel
theorem dX2_signs_86 : decode cX2_signs 86 = .ok (.getfield 31, 3) := by decide +kernel
theorem dX2_signs_89 : decode cX2_signs 89 = .ok (.iload_n 1, 1) := by decide +kernel
theorem dX2_signs_90 : decode cX2_signs 90 = .ok (.iaload, 1) := by decide +kernel
theorem dX2_signs_91 : decode cX2_signs 91 = .ok (.invokestatic 47, 3) := by decide +kernel
theorem dX2_signs_94 : decode cX2_signs 94 = .ok (.ireturn, 1) := by decide +kernel
theorem dX2_unknownIn_0 : decode cX2_unknownIn 0 = .ok (.iconst 0, 1) := by decide +kernel
theorem dX2_unknownIn_1 : decode cX2_unknownIn 1 = .ok (.istore_n 3, 1) := by decide +kernel
theorem dX2_unknownIn_2 : decode cX2_unknownIn 2 = .ok (.iconst 0, 1) := by decide +kernel
theorem dX2_unknownIn_3 : decode cX2_unknownIn 3 = .ok (.istore 4, 2) := by decide +kernel
theorem dX2_unknownIn_5 : decode cX2_unknownIn 5 = .ok (.iload 4, 2) := by decide +kernel
theorem dX2_unknownIn_7 : decode cX2_unknownIn 7 = .ok (.bipush 96, 2) := by decide +kernel
theorem dX2_unknownIn_9 : decode cX2_unknownIn 9 = .ok (.if_icmp .ge 52, 3) := by decide +kernel
theorem dX2_unknownIn_12 : decode cX2_unknownIn 12 = .ok (.iload_n 3, 1) := by decide +kernel
theorem dX2_unknownIn_13 : decode cX2_unknownIn 13 = .ok (.aload_n 0, 1) := by decide +kernel
theorem dX2_unknownIn_14 : decode cX2_unknownIn 14 = .ok (.getfield 7, 3) := by decide +kernel
theorem dX2_unknownIn_17 : decode cX2_unknownIn 17 = .ok (.iload 4, 2) := by decide +kernel
theorem dX2_unknownIn_19 : decode cX2_unknownIn 19 = .ok (.iaload, 1) := by decide +kernel
theorem dX2_unknownIn_20 : decode cX2_unknownIn 20 = .ok (.iload_n 1, 1) := by decide +kernel
theorem dX2_unknownIn_21 : decode cX2_unknownIn 21 = .ok (.if_icmp .ne 31, 3) := by decide +kernel
theorem dX2_unknownIn_24 : decode cX2_unknownIn 24 = .ok (.iload_n 2, 1) := by decide +kernel
theorem dX2_unknownIn_25 : decode cX2_unknownIn 25 = .ok (.ifCond .eq 13, 3) := by decide +kernel
theorem dX2_unknownIn_28 : decode cX2_unknownIn 28 = .ok (.aload_n 0, 1) := by decide +kernel
theorem dX2_unknownIn_29 : decode cX2_unknownIn 29 = .ok (.getfield 16, 3) := by decide +kernel
theorem dX2_unknownIn_32 : decode cX2_unknownIn 32 = .ok (.iload 4, 2) := by decide +kernel
theorem dX2_unknownIn_34 : decode cX2_unknownIn 34 = .ok (.iaload, 1) := by decide +kernel
theorem dX2_unknownIn_35 : decode cX2_unknownIn 35 = .ok (.goto 10, 3) := by decide +kernel
theorem dX2_unknownIn_38 : decode cX2_unknownIn 38 = .ok (.aload_n 0, 1) := by decide +kernel
theorem dX2_unknownIn_39 : decode cX2_unknownIn 39 = .ok (.getfield 13, 3) := by decide +kernel
theorem dX2_unknownIn_42 : decode cX2_unknownIn 42 = .ok (.iload 4, 2) := by decide +kernel
theorem dX2_unknownIn_44 : decode cX2_unknownIn 44 = .ok (.iaload, 1) := by decide +kernel
theorem dX2_unknownIn_45 : decode cX2_unknownIn 45 = .ok (.ifCond .ne 7, 3) := by decide +kernel
theorem dX2_unknownIn_48 : decode cX2_unknownIn 48 = .ok (.iconst 1, 1) := by decide +kernel
theorem dX2_unknownIn_49 : decode cX2_unknownIn 49 = .ok (.goto 4, 3) := by decide +kernel
theorem dX2_unknownIn_52 : decode cX2_unknownIn 52 = .ok (.iconst 0, 1) := by decide +kernel
theorem dX2_unknownIn_53 : decode cX2_unknownIn 53 = .ok (.iadd, 1) := by decide +kernel
theorem dX2_unknownIn_54 : decode cX2_unknownIn 54 = .ok (.istore_n 3, 1) := by decide +kernel
theorem dX2_unknownIn_55 : decode cX2_unknownIn 55 = .ok (.iinc 4 1, 3) := by decide +kernel
theorem dX2_unknownIn_58 : decode cX2_unknownIn 58 = .ok (.goto (-53), 3) := by decide +kernel
theorem dX2_unknownIn_61 : decode cX2_unknownIn 61 = .ok (.iload_n 3, 1) := by decide +kernel
theorem dX2_unknownIn_62 : decode cX2_unknownIn 62 = .ok (.ireturn, 1) := by decide +kernel
set_option maxRecDepth 20000 in
theorem ggX2_chute_X2_isChute : GoodIn wsX2_chute wsX2_isChute := goodIn_r _ [10, 11, 12, 9, 13] (by decide +kernel) (by decide +kernel)
set_option maxRecDepth 20000 in
theorem gX2_chute_X2_isChute : GoodIn wsX2_chute (va_wsS RX2 74 yX2_isChute wsX2_isChute) := goodIn_app (goodIn_of _ (by decide +kernel)) ggX2_chute_X2_isChute
set_option maxRecDepth 20000 in
theorem ggX2_chute_X2_isWithin : GoodIn wsX2_chute wsX2_isWithin := goodIn_r _ [13] (by decide +kernel) (by decide +kernel)
set_option maxRecDepth 20000 in
theorem gX2_chute_X2_isWithin : GoodIn wsX2_chute (va_wsS RX2 42 yX2_isWithin wsX2_isWithin) := goodIn_app (goodIn_of _ (by decide +kernel)) ggX2_chute_X2_isWithin
set_option maxRecDepth 20000 in
theorem ggX2_chute_X2_many : GoodIn wsX2_chute wsX2_many := goodIn_r _ [17, 18, 25, 26, 27, 28, 29, 30, 31, 32, 33, 34, 35, 36, 37, 38, 39, 40, 41, 42, 43, 44] (by decide +kernel) (by decide +kernel)
set_option maxRecDepth 20000 in
theorem gX2_chute_X2_many : GoodIn wsX2_chute (wsV RX2 78 RX2 yX2_many wsX2_many) := goodIn_app (goodIn_of _ (by decide +kernel)) ggX2_chute_X2_many
set_option maxRecDepth 20000 in
theorem ggX2_chute_X2_unknownIn : GoodIn wsX2_chute wsX2_unknownIn := goodIn_r _ [22, 18, 23, 24, 25, 26, 27, 28, 29, 30, 31, 32, 33, 34, 35, 36, 37, 38, 39, 40, 41, 42, 43, 44] (by decide +kernel) (by decide +kernel)
set_option maxRecDepth 20000 in
theorem gX2_chute_X2_unknownIn : GoodIn wsX2_chute (wsV RX2 116 RX2 yX2_unknownIn wsX2_unknownIn) := goodIn_app (goodIn_of _ (by decide +kernel)) ggX2_chute_X2_unknownIn
theorem dX2_chute_0 : decode cX2_chute 0 = .ok (.aload_n 0, 1) := by decide +kernel
theorem dX2_chute_1 : decode cX2_chute 1 = .ok (.iload_n 1, 1) := by decide +kernel
theorem dX2_chute_2 : decode cX2_chute 2 = .ok (.invokestatic 74, 3) := by decide +kernel
theorem dX2_chute_5 : decode cX2_chute 5 = .ok (.ifCond .ne 7, 3) := by decide +kernel
theorem dX2_chute_8 : decode cX2_chute 8 = .ok (.iconst 1, 1) := by decide +kernel
theorem dX2_chute_9 : decode cX2_chute 9 = .ok (.goto 17, 3) := by decide +kernel
theorem dX2_chute_12 : decode cX2_chute 12 = .ok (.iload_n 2, 1) := by decide +kernel
theorem dX2_chute_13 : decode cX2_chute 13 = .ok (.bipush 7, 2) := by decide +kernel
theorem dX2_chute_15 : decode cX2_chute 15 = .ok (.invokestatic 42, 3) := by decide +kernel
theorem dX2_chute_18 : decode cX2_chute 18 = .ok (.ifCond .ne 7, 3) := by decide +kernel
theorem dX2_chute_21 : decode cX2_chute 21 = .ok (.iconst 2, 1) := by decide +kernel
theorem dX2_chute_22 : decode cX2_chute 22 = .ok (.goto 4, 3) := by decide +kernel
theorem dX2_chute_25 : decode cX2_chute 25 = .ok (.iconst 0, 1) := by decide +kernel
theorem dX2_chute_26 : decode cX2_chute 26 = .ok (.putfield 38, 3) := by decide +kernel
theorem dX2_chute_29 : decode cX2_chute 29 = .ok (.aload_n 0, 1) := by decide +kernel
theorem dX2_chute_30 : decode cX2_chute 30 = .ok (.getfield 38, 3) := by decide +kernel
theorem dX2_chute_33 : decode cX2_chute 33 = .ok (.ifCond .eq 5, 3) := by decide +kernel
theorem dX2_chute_36 : decode cX2_chute 36 = .ok (.iconst 0, 1) := by decide +kernel
theorem dX2_chute_37 : decode cX2_chute 37 = .ok (.ireturn, 1) := by decide +kernel
theorem dX2_chute_38 : decode cX2_chute 38 = .ok (.iload_n 2, 1) := by decide +kernel
theorem dX2_chute_39 : decode cX2_chute 39 = .ok (.tableswitch 86 0 5 #[37, 44, 51, 58, 65, 80], 37) := by decide +kernel
theorem dX2_chute_76 : decode cX2_chute 76 = .ok (.aload_n 0, 1) := by decide +kernel
theorem dX2_chute_77 : decode cX2_chute 77 = .ok (.getfield 22, 3) := by decide +kernel
theorem dX2_chute_80 : decode cX2_chute 80 = .ok (.iload_n 1, 1) := by decide +kernel
theorem dX2_chute_81 : decode cX2_chute 81 = .ok (.iaload, 1) := by decide +kernel
theorem dX2_chute_82 : decode cX2_chute 82 = .ok (.ireturn, 1) := by decide +kernel
theorem dX2_chute_83 : decode cX2_chute 83 = .ok (.aload_n 0, 1) := by decide +kernel
theorem dX2_chute_84 : decode cX2_chute 84 = .ok (.getfield 25, 3) := by decide +kernel
theorem dX2_chute_87 : decode cX2_chute 87 = .ok (.iload_n 1, 1) := by decide +kernel
theorem dX2_chute_88 : decode cX2_chute 88 = .ok (.iaload, 1) := by decide +kernel
theorem dX2_chute_89 : decode cX2_chute 89 = .ok (.ireturn, 1) := by decide +kernel
theorem dX2_chute_90 : decode cX2_chute 90 = .ok (.aload_n 0, 1) := by decide +kernel
theorem dX2_chute_91 : decode cX2_chute 91 = .ok (.getfield 28, 3) := by decide +kernel
theorem dX2_chute_94 : decode cX2_chute 94 = .ok (.iload_n 1, 1) := by decide +kernel
theorem dX2_chute_95 : decode cX2_chute 95 = .ok (.iaload, 1) := by decide +kernel
theorem dX2_chute_96 : decode cX2_chute 96 = .ok (.ireturn, 1) := by decide +kernel
theorem dX2_chute_97 : decode cX2_chute 97 = .ok (.aload_n 0, 1) := by decide +kernel
theorem dX2_chute_98 : decode cX2_chute 98 = .ok (.getfield 31, 3) := by decide +kernel
theorem dX2_chute_101 : decode cX2_chute 101 = .ok (.iload_n 1, 1) := by decide +kernel
theorem dX2_chute_102 : decode cX2_chute 102 = .ok (.iaload, 1) := by decide +kernel
theorem dX2_chute_103 : decode cX2_chute 103 = .ok (.ireturn, 1) := by decide +kernel
theorem dX2_chute_104 : decode cX2_chute 104 = .ok (.aload_n 0, 1) := by decide +kernel
theorem dX2_chute_105 : decode cX2_chute 105 = .ok (.getfield 34, 3) := by decide +kernel
theorem dX2_chute_108 : decode cX2_chute 108 = .ok (.iload_n 1, 1) := by decide +kernel
theorem dX2_chute_109 : decode cX2_chute 109 = .ok (.baload, 1) := by decide +kernel
theorem dX2_chute_110 : decode cX2_chute 110 = .ok (.ifCond .eq 7, 3) := by decide +kernel
theorem dX2_chute_113 : decode cX2_chute 113 = .ok (.iconst 1, 1) := by decide +kernel
theorem dX2_chute_114 : decode cX2_chute 114 = .ok (.goto 4, 3) := by decide +kernel
theorem dX2_chute_117 : decode cX2_chute 117 = .ok (.iconst 0, 1) := by decide +kernel
theorem dX2_chute_118 : decode cX2_chute 118 = .ok (.ireturn, 1) := by decide +kernel
theorem dX2_chute_119 : decode cX2_chute 119 = .ok (.aload_n 0, 1) := by decide +kernel
theorem dX2_chute_120 : decode cX2_chute 120 = .ok (.iload_n 1, 1) := by decide +kernel
theorem dX2_chute_121 : decode cX2_chute 121 = .ok (.invokevirtual 78, 3) := by decide +kernel
theorem dX2_chute_124 : decode cX2_chute 124 = .ok (.ireturn, 1) := by decide +kernel
theorem dX2_chute_125 : decode cX2_chute 125 = .ok (.aload_n 0, 1) := by decide +kernel
theorem dX2_chute_126 : decode cX2_chute 126 = .ok (.iload_n 1, 1) := by decide +kernel
theorem dX2_chute_127 : decode cX2_chute 127 = .ok (.iload_n 2, 1) := by decide +kernel
theorem dX2_chute_128 : decode cX2_chute 128 = .ok (.bipush 7, 2) := by decide +kernel
theorem dX2_chute_130 : decode cX2_chute 130 = .ok (.if_icmp .ne 7, 3) := by decide +kernel
theorem dX2_chute_133 : decode cX2_chute 133 = .ok (.iconst 1, 1) := by decide +kernel
theorem dX2_chute_134 : decode cX2_chute 134 = .ok (.goto 4, 3) := by decide +kernel
theorem dX2_chute_137 : decode cX2_chute 137 = .ok (.iconst 0, 1) := by decide +kernel
theorem dX2_chute_138 : decode cX2_chute 138 = .ok (.invokevirtual 116, 3) := by decide +kernel
theorem dX2_chute_141 : decode cX2_chute 141 = .ok (.ireturn, 1) := by decide +kernel
set_option maxRecDepth 20000 in
theorem ggX2_askedFor_X2_isChute : GoodIn wsX2_askedFor wsX2_isChute := goodIn_r _ [5, 6, 7, 4, 8] (by decide +kernel) (by decide +kernel)
set_option maxRecDepth 20000 in
theorem gX2_askedFor_X2_isChute : GoodIn wsX2_askedFor (va_wsS RX2 74 yX2_isChute wsX2_isChute) := goodIn_app (goodIn_of _ (by decide +kernel)) ggX2_askedFor_X2_isChute
set_option maxRecDepth 20000 in
theorem ggX2_askedFor_X2_parcelAt : GoodIn wsX2_askedFor wsX2_parcelAt := goodIn_r _ [12, 13, 14, 15, 16, 4, 17, 18, 19, 20, 21, 22, 23, 24, 25, 26, 27, 28, 29, 30, 31, 32, 33, 34, 35, 36, 37, 38, 39, 40, 41, 42, 43] (by decide +kernel) (by decide +kernel)
set_option maxRecDepth 20000 in
theorem gX2_askedFor_X2_parcelAt : GoodIn wsX2_askedFor (wsV RX2 120 RX2 yX2_parcelAt wsX2_parcelAt) := goodIn_app (goodIn_of _ (by decide +kernel)) ggX2_askedFor_X2_parcelAt
theorem dX2_askedFor_0 : decode cX2_askedFor 0 = .ok (.iload_n 1, 1) := by decide +kernel
theorem dX2_askedFor_1 : decode cX2_askedFor 1 = .ok (.invokestatic 74, 3) := by decide +kernel
theorem dX2_askedFor_4 : decode cX2_askedFor 4 = .ok (.ifCond .eq 12, 3) := by decide +kernel
theorem dX2_askedFor_7 : decode cX2_askedFor 7 = .ok (.aload_n 0, 1) := by decide +kernel
theorem dX2_askedFor_8 : decode cX2_askedFor 8 = .ok (.iload_n 1, 1) := by decide +kernel
theorem dX2_askedFor_9 : decode cX2_askedFor 9 = .ok (.iload_n 2, 1) := by decide +kernel
theorem dX2_askedFor_10 : decode cX2_askedFor 10 = .ok (.invokevirtual 120, 3) := by decide +kernel
theorem dX2_askedFor_13 : decode cX2_askedFor 13 = .ok (.goto 4, 3) := by decide +kernel
theorem dX2_askedFor_16 : decode cX2_askedFor 16 = .ok (.iconst (-1), 1) := by decide +kernel
theorem dX2_askedFor_17 : decode cX2_askedFor 17 = .ok (.istore_n 3, 1) := by decide +kernel
theorem dX2_askedFor_18 : decode cX2_askedFor 18 = .ok (.aload_n 0, 1) := by decide +kernel
theorem dX2_askedFor_19 : decode cX2_askedFor 19 = .ok (.iload_n 1, 1) := by decide +kernel
theorem dX2_askedFor_20 : decode cX2_askedFor 20 = .ok (.invokestatic 74, 3) := by decide +kernel
theorem dX2_askedFor_23 : decode cX2_askedFor 23 = .ok (.ifCond .ne 7, 3) := by decide +kernel
theorem dX2_askedFor_26 : decode cX2_askedFor 26 = .ok (.iconst 1, 1) := by decide +kernel
theorem dX2_askedFor_27 : decode cX2_askedFor 27 = .ok (.goto 13, 3) := by decide +kernel
theorem dX2_askedFor_30 : decode cX2_askedFor 30 = .ok (.iload_n 3, 1) := by decide +kernel
theorem dX2_askedFor_31 : decode cX2_askedFor 31 = .ok (.iconst (-1), 1) := by decide +kernel
theorem dX2_askedFor_32 : decode cX2_askedFor 32 = .ok (.if_icmp .ne 7, 3) := by decide +kernel
theorem dX2_askedFor_35 : decode cX2_askedFor 35 = .ok (.iconst 2, 1) := by decide +kernel
theorem dX2_askedFor_36 : decode cX2_askedFor 36 = .ok (.goto 4, 3) := by decide +kernel
theorem dX2_askedFor_39 : decode cX2_askedFor 39 = .ok (.iconst 0, 1) := by decide +kernel
theorem dX2_askedFor_40 : decode cX2_askedFor 40 = .ok (.putfield 38, 3) := by decide +kernel
theorem dX2_askedFor_43 : decode cX2_askedFor 43 = .ok (.iload_n 3, 1) := by decide +kernel
theorem dX2_askedFor_44 : decode cX2_askedFor 44 = .ok (.ireturn, 1) := by decide +kernel
set_option maxRecDepth 20000 in
theorem ggX2_weight_X2_askedFor : GoodIn wsX2_weight wsX2_askedFor := goodIn_r _ [7, 1, 8, 9, 6, 10, 11, 12, 13, 14, 15, 16, 17, 18, 19, 20, 21, 22, 23, 24, 25, 26, 2, 27, 28, 29, 30, 31, 32, 33, 34, 35, 36, 37, 38, 39, 40, 41, 42, 43, 44, 45, 46, 47] (by decide +kernel) (by decide +kernel)
set_option maxRecDepth 20000 in
theorem gX2_weight_X2_askedFor : GoodIn wsX2_weight (wsV RX2 123 RX2 yX2_askedFor wsX2_askedFor) := goodIn_app (goodIn_of _ (by decide +kernel)) ggX2_weight_X2_askedFor
theorem dX2_weight_0 : decode cX2_weight 0 = .ok (.aload_n 0, 1) := by decide +kernel
theorem dX2_weight_1 : decode cX2_weight 1 = .ok (.iload_n 1, 1) := by decide +kernel
theorem dX2_weight_2 : decode cX2_weight 2 = .ok (.iload_n 2, 1) := by decide +kernel
theorem dX2_weight_3 : decode cX2_weight 3 = .ok (.invokevirtual 123, 3) := by decide +kernel
theorem dX2_weight_6 : decode cX2_weight 6 = .ok (.istore_n 3, 1) := by decide +kernel
theorem dX2_weight_7 : decode cX2_weight 7 = .ok (.aload_n 0, 1) := by decide +kernel
theorem dX2_weight_8 : decode cX2_weight 8 = .ok (.getfield 38, 3) := by decide +kernel
theorem dX2_weight_11 : decode cX2_weight 11 = .ok (.ifCond .ne 12, 3) := by decide +kernel
theorem dX2_weight_14 : decode cX2_weight 14 = .ok (.aload_n 0, 1) := by decide +kernel
theorem dX2_weight_15 : decode cX2_weight 15 = .ok (.getfield 13, 3) := by decide +kernel
theorem dX2_weight_18 : decode cX2_weight 18 = .ok (.iload_n 3, 1) := by decide +kernel
theorem dX2_weight_19 : decode cX2_weight 19 = .ok (.iaload, 1) := by decide +kernel
theorem dX2_weight_20 : decode cX2_weight 20 = .ok (.goto 4, 3) := by decide +kernel
theorem dX2_weight_23 : decode cX2_weight 23 = .ok (.iconst 0, 1) := by decide +kernel
theorem dX2_weight_24 : decode cX2_weight 24 = .ok (.ireturn, 1) := by decide +kernel
set_option maxRecDepth 20000 in
theorem ggX2_girth_X2_askedFor : GoodIn wsX2_girth wsX2_askedFor := goodIn_r _ [7, 1, 8, 9, 6, 10, 11, 12, 13, 14, 15, 16, 17, 18, 19, 20, 21, 22, 23, 24, 25, 26, 27, 28, 29, 30, 31, 32, 33, 34, 35, 36, 37, 38, 39, 40, 41, 42, 43, 44, 45, 46, 47, 48] (by decide +kernel) (by decide +kernel)
set_option maxRecDepth 20000 in
theorem gX2_girth_X2_askedFor : GoodIn wsX2_girth (wsV RX2 123 RX2 yX2_askedFor wsX2_askedFor) := goodIn_app (goodIn_of _ (by decide +kernel)) ggX2_girth_X2_askedFor
theorem dX2_girth_0 : decode cX2_girth 0 = .ok (.aload_n 0, 1) := by decide +kernel
theorem dX2_girth_1 : decode cX2_girth 1 = .ok (.iload_n 1, 1) := by decide +kernel
theorem dX2_girth_2 : decode cX2_girth 2 = .ok (.iload_n 2, 1) := by decide +kernel
theorem dX2_girth_3 : decode cX2_girth 3 = .ok (.invokevirtual 123, 3) := by decide +kernel
theorem dX2_girth_6 : decode cX2_girth 6 = .ok (.istore_n 3, 1) := by decide +kernel
theorem dX2_girth_7 : decode cX2_girth 7 = .ok (.aload_n 0, 1) := by decide +kernel
theorem dX2_girth_8 : decode cX2_girth 8 = .ok (.getfield 38, 3) := by decide +kernel
theorem dX2_girth_11 : decode cX2_girth 11 = .ok (.ifCond .ne 12, 3) := by decide +kernel
theorem dX2_girth_14 : decode cX2_girth 14 = .ok (.aload_n 0, 1) := by decide +kernel
theorem dX2_girth_15 : decode cX2_girth 15 = .ok (.getfield 16, 3) := by decide +kernel
theorem dX2_girth_18 : decode cX2_girth 18 = .ok (.iload_n 3, 1) := by decide +kernel
theorem dX2_girth_19 : decode cX2_girth 19 = .ok (.iaload, 1) := by decide +kernel
theorem dX2_girth_20 : decode cX2_girth 20 = .ok (.goto 4, 3) := by decide +kernel
theorem dX2_girth_23 : decode cX2_girth 23 = .ok (.iconst 0, 1) := by decide +kernel
theorem dX2_girth_24 : decode cX2_girth 24 = .ok (.ireturn, 1) := by decide +kernel
set_option maxRecDepth 20000 in
theorem ggX2_below_X2_isChute : GoodIn wsX2_below wsX2_isChute := goodIn_r _ [8, 9, 10, 7, 11] (by decide +kernel) (by decide +kernel)
set_option maxRecDepth 20000 in
theorem gX2_below_X2_isChute : GoodIn wsX2_below (va_wsS RX2 74 yX2_isChute wsX2_isChute) := goodIn_app (goodIn_of _ (by decide +kernel)) ggX2_below_X2_isChute
set_option maxRecDepth 20000 in
theorem ggX2_below_X2_isWithin : GoodIn wsX2_below wsX2_isWithin := goodIn_r _ [11] (by decide +kernel) (by decide +kernel)
set_option maxRecDepth 20000 in
theorem gX2_below_X2_isWithin : GoodIn wsX2_below (va_wsS RX2 42 yX2_isWithin wsX2_isWithin) := goodIn_app (goodIn_of _ (by decide +kernel)) ggX2_below_X2_isWithin
set_option maxRecDepth 20000 in
theorem ggX2_below_X2_holds : GoodIn wsX2_below wsX2_holds := goodIn_r _ [14, 15, 16, 7, 17] (by decide +kernel) (by decide +kernel)
set_option maxRecDepth 20000 in
theorem gX2_below_X2_holds : GoodIn wsX2_below (va_wsS RX2 51 yX2_holds wsX2_holds) := goodIn_app (goodIn_of _ (by decide +kernel)) ggX2_below_X2_holds
theorem dX2_below_0 : decode cX2_below 0 = .ok (.aload_n 0, 1) := by decide +kernel
theorem dX2_below_1 : decode cX2_below 1 = .ok (.iload_n 1, 1) := by decide +kernel
theorem dX2_below_2 : decode cX2_below 2 = .ok (.invokestatic 74, 3) := by decide +kernel
theorem dX2_below_5 : decode cX2_below 5 = .ok (.ifCond .ne 7, 3) := by decide +kernel
theorem dX2_below_8 : decode cX2_below 8 = .ok (.iconst 1, 1) := by decide +kernel
theorem dX2_below_9 : decode cX2_below 9 = .ok (.goto 17, 3) := by decide +kernel
theorem dX2_below_12 : decode cX2_below 12 = .ok (.iload_n 2, 1) := by decide +kernel
theorem dX2_below_13 : decode cX2_below 13 = .ok (.ldc 46, 2) := by decide +kernel
theorem dX2_below_15 : decode cX2_below 15 = .ok (.invokestatic 42, 3) := by decide +kernel
theorem dX2_below_18 : decode cX2_below 18 = .ok (.ifCond .ne 7, 3) := by decide +kernel
theorem dX2_below_21 : decode cX2_below 21 = .ok (.iconst 2, 1) := by decide +kernel
theorem dX2_below_22 : decode cX2_below 22 = .ok (.goto 4, 3) := by decide +kernel
theorem dX2_below_25 : decode cX2_below 25 = .ok (.iconst 0, 1) := by decide +kernel
theorem dX2_below_26 : decode cX2_below 26 = .ok (.putfield 38, 3) := by decide +kernel
theorem dX2_below_29 : decode cX2_below 29 = .ok (.iconst 0, 1) := by decide +kernel
theorem dX2_below_30 : decode cX2_below 30 = .ok (.istore_n 3, 1) := by decide +kernel
theorem dX2_below_31 : decode cX2_below 31 = .ok (.iconst 0, 1) := by decide +kernel
theorem dX2_below_32 : decode cX2_below 32 = .ok (.istore 4, 2) := by decide +kernel
theorem dX2_below_34 : decode cX2_below 34 = .ok (.iload 4, 2) := by decide +kernel
theorem dX2_below_36 : decode cX2_below 36 = .ok (.bipush 96, 2) := by decide +kernel
theorem dX2_below_38 : decode cX2_below 38 = .ok (.if_icmp .ge 50, 3) := by decide +kernel
theorem dX2_below_41 : decode cX2_below 41 = .ok (.aload_n 0, 1) := by decide +kernel
theorem dX2_below_42 : decode cX2_below 42 = .ok (.getfield 38, 3) := by decide +kernel
theorem dX2_below_45 : decode cX2_below 45 = .ok (.ifCond .ne 43, 3) := by decide +kernel
theorem dX2_below_48 : decode cX2_below 48 = .ok (.iload_n 3, 1) := by decide +kernel
theorem dX2_below_49 : decode cX2_below 49 = .ok (.aload_n 0, 1) := by decide +kernel
theorem dX2_below_50 : decode cX2_below 50 = .ok (.getfield 7, 3) := by decide +kernel
theorem dX2_below_53 : decode cX2_below 53 = .ok (.iload 4, 2) := by decide +kernel
theorem dX2_below_55 : decode cX2_below 55 = .ok (.iaload, 1) := by decide +kernel
theorem dX2_below_56 : decode cX2_below 56 = .ok (.iload_n 1, 1) := by decide +kernel
theorem dX2_below_57 : decode cX2_below 57 = .ok (.if_icmp .ne 22, 3) := by decide +kernel
theorem dX2_below_60 : decode cX2_below 60 = .ok (.aload_n 0, 1) := by decide +kernel
theorem dX2_below_61 : decode cX2_below 61 = .ok (.getfield 13, 3) := by decide +kernel
theorem dX2_below_64 : decode cX2_below 64 = .ok (.iload 4, 2) := by decide +kernel
theorem dX2_below_66 : decode cX2_below 66 = .ok (.iaload, 1) := by decide +kernel
theorem dX2_below_67 : decode cX2_below 67 = .ok (.iload_n 2, 1) := by decide +kernel
theorem dX2_below_68 : decode cX2_below 68 = .ok (.iconst 1, 1) := by decide +kernel
theorem dX2_below_69 : decode cX2_below 69 = .ok (.invokestatic 51, 3) := by decide +kernel
theorem dX2_below_72 : decode cX2_below 72 = .ok (.ifCond .eq 7, 3) := by decide +kernel
theorem dX2_below_75 : decode cX2_below 75 = .ok (.iconst 1, 1) := by decide +kernel
theorem dX2_below_76 : decode cX2_below 76 = .ok (.goto 4, 3) := by decide +kernel
theorem dX2_below_79 : decode cX2_below 79 = .ok (.iconst 0, 1) := by decide +kernel
theorem dX2_below_80 : decode cX2_below 80 = .ok (.iadd, 1) := by decide +kernel
theorem dX2_below_81 : decode cX2_below 81 = .ok (.istore_n 3, 1) := by decide +kernel
theorem dX2_below_82 : decode cX2_below 82 = .ok (.iinc 4 1, 3) := by decide +kernel
theorem dX2_below_85 : decode cX2_below 85 = .ok (.goto (-51), 3) := by decide +kernel
theorem dX2_below_88 : decode cX2_below 88 = .ok (.iload_n 3, 1) := by decide +kernel
theorem dX2_below_89 : decode cX2_below 89 = .ok (.ireturn, 1) := by decide +kernel
set_option maxRecDepth 20000 in
theorem ggX2_take_X2_isChute : GoodIn wsX2_take wsX2_isChute := goodIn_r _ [10, 11, 12, 9, 13] (by decide +kernel) (by decide +kernel)
set_option maxRecDepth 20000 in
theorem gX2_take_X2_isChute : GoodIn wsX2_take (va_wsS RX2 74 yX2_isChute wsX2_isChute) := goodIn_app (goodIn_of _ (by decide +kernel)) ggX2_take_X2_isChute
set_option maxRecDepth 20000 in
theorem ggX2_take_X2_isWithin : GoodIn wsX2_take wsX2_isWithin := goodIn_r _ [13] (by decide +kernel) (by decide +kernel)
set_option maxRecDepth 20000 in
theorem gX2_take_X2_isWithin : GoodIn wsX2_take (va_wsS RX2 42 yX2_isWithin wsX2_isWithin) := goodIn_app (goodIn_of _ (by decide +kernel)) ggX2_take_X2_isWithin
theorem dX2_take_0 : decode cX2_take 0 = .ok (.aload_n 0, 1) := by decide +kernel
theorem dX2_take_1 : decode cX2_take 1 = .ok (.iload_n 1, 1) := by decide +kernel
theorem dX2_take_2 : decode cX2_take 2 = .ok (.invokestatic 74, 3) := by decide +kernel
theorem dX2_take_5 : decode cX2_take 5 = .ok (.ifCond .ne 7, 3) := by decide +kernel
theorem dX2_take_8 : decode cX2_take 8 = .ok (.iconst 1, 1) := by decide +kernel
theorem dX2_take_9 : decode cX2_take 9 = .ok (.goto 17, 3) := by decide +kernel
theorem dX2_take_12 : decode cX2_take 12 = .ok (.iload_n 2, 1) := by decide +kernel
theorem dX2_take_13 : decode cX2_take 13 = .ok (.ldc 46, 2) := by decide +kernel
theorem dX2_take_15 : decode cX2_take 15 = .ok (.invokestatic 42, 3) := by decide +kernel
theorem dX2_take_18 : decode cX2_take 18 = .ok (.ifCond .ne 7, 3) := by decide +kernel
theorem dX2_take_21 : decode cX2_take 21 = .ok (.iconst 2, 1) := by decide +kernel
theorem dX2_take_22 : decode cX2_take 22 = .ok (.goto 4, 3) := by decide +kernel
theorem dX2_take_25 : decode cX2_take 25 = .ok (.iconst 0, 1) := by decide +kernel
theorem dX2_take_26 : decode cX2_take 26 = .ok (.putfield 38, 3) := by decide +kernel
theorem dX2_take_29 : decode cX2_take 29 = .ok (.aload_n 0, 1) := by decide +kernel
theorem dX2_take_30 : decode cX2_take 30 = .ok (.getfield 38, 3) := by decide +kernel
theorem dX2_take_33 : decode cX2_take 33 = .ok (.ifCond .eq 5, 3) := by decide +kernel
theorem dX2_take_36 : decode cX2_take 36 = .ok (.iconst 0, 1) := by decide +kernel
theorem dX2_take_37 : decode cX2_take 37 = .ok (.ireturn, 1) := by decide +kernel
theorem dX2_take_38 : decode cX2_take 38 = .ok (.iconst (-1), 1) := by decide +kernel
theorem dX2_take_39 : decode cX2_take 39 = .ok (.istore_n 3, 1) := by decide +kernel
theorem dX2_take_40 : decode cX2_take 40 = .ok (.iconst 0, 1) := by decide +kernel
theorem dX2_take_41 : decode cX2_take 41 = .ok (.istore 4, 2) := by decide +kernel
theorem dX2_take_43 : decode cX2_take 43 = .ok (.iload 4, 2) := by decide +kernel
theorem dX2_take_45 : decode cX2_take 45 = .ok (.bipush 96, 2) := by decide +kernel
theorem dX2_take_47 : decode cX2_take 47 = .ok (.if_icmp .ge 55, 3) := by decide +kernel
theorem dX2_take_50 : decode cX2_take 50 = .ok (.aload_n 0, 1) := by decide +kernel
theorem dX2_take_51 : decode cX2_take 51 = .ok (.getfield 7, 3) := by decide +kernel
theorem dX2_take_54 : decode cX2_take 54 = .ok (.iload 4, 2) := by decide +kernel
theorem dX2_take_56 : decode cX2_take 56 = .ok (.iaload, 1) := by decide +kernel
theorem dX2_take_57 : decode cX2_take 57 = .ok (.iload_n 1, 1) := by decide +kernel
theorem dX2_take_58 : decode cX2_take 58 = .ok (.if_icmp .ne 38, 3) := by decide +kernel
theorem dX2_take_61 : decode cX2_take 61 = .ok (.aload_n 0, 1) := by decide +kernel
theorem dX2_take_62 : decode cX2_take 62 = .ok (.getfield 13, 3) := by decide +kernel
theorem dX2_take_65 : decode cX2_take 65 = .ok (.iload 4, 2) := by decide +kernel
theorem dX2_take_67 : decode cX2_take 67 = .ok (.iaload, 1) := by decide +kernel
theorem dX2_take_68 : decode cX2_take 68 = .ok (.iload_n 2, 1) := by decide +kernel
theorem dX2_take_69 : decode cX2_take 69 = .ok (.if_icmp .ne 27, 3) := by decide +kernel
theorem dX2_take_72 : decode cX2_take 72 = .ok (.iload_n 3, 1) := by decide +kernel
theorem dX2_take_73 : decode cX2_take 73 = .ok (.iconst (-1), 1) := by decide +kernel
theorem dX2_take_74 : decode cX2_take 74 = .ok (.if_icmp .eq 19, 3) := by decide +kernel
theorem dX2_take_77 : decode cX2_take 77 = .ok (.aload_n 0, 1) := by decide +kernel
theorem dX2_take_78 : decode cX2_take 78 = .ok (.getfield 19, 3) := by decide +kernel
theorem dX2_take_81 : decode cX2_take 81 = .ok (.iload 4, 2) := by decide +kernel
theorem dX2_take_83 : decode cX2_take 83 = .ok (.iaload, 1) := by decide +kernel
theorem dX2_take_84 : decode cX2_take 84 = .ok (.aload_n 0, 1) := by decide +kernel
theorem dX2_take_85 : decode cX2_take 85 = .ok (.getfield 19, 3) := by decide +kernel
theorem dX2_take_88 : decode cX2_take 88 = .ok (.iload_n 3, 1) := by decide +kernel
theorem dX2_take_89 : decode cX2_take 89 = .ok (.iaload, 1) := by decide +kernel
theorem dX2_take_90 : decode cX2_take 90 = .ok (.if_icmp .ge 6, 3) := by decide +kernel
theorem dX2_take_93 : decode cX2_take 93 = .ok (.iload 4, 2) := by decide +kernel
theorem dX2_take_95 : decode cX2_take 95 = .ok (.istore_n 3, 1) := by decide +kernel
theorem dX2_take_96 : decode cX2_take 96 = .ok (.iinc 4 1, 3) := by decide +kernel
theorem dX2_take_99 : decode cX2_take 99 = .ok (.goto (-56), 3) := by decide +kernel
theorem dX2_take_102 : decode cX2_take 102 = .ok (.aload_n 0, 1) := by decide +kernel
theorem dX2_take_103 : decode cX2_take 103 = .ok (.iload_n 3, 1) := by decide +kernel
theorem dX2_take_104 : decode cX2_take 104 = .ok (.iconst (-1), 1) := by decide +kernel
theorem dX2_take_105 : decode cX2_take 105 = .ok (.if_icmp .ne 7, 3) := by decide +kernel
theorem dX2_take_108 : decode cX2_take 108 = .ok (.iconst 3, 1) := by decide +kernel
theorem dX2_take_109 : decode cX2_take 109 = .ok (.goto 4, 3) := by decide +kernel
theorem dX2_take_112 : decode cX2_take 112 = .ok (.iconst 0, 1) := by decide +kernel
theorem dX2_take_113 : decode cX2_take 113 = .ok (.putfield 38, 3) := by decide +kernel
theorem dX2_take_116 : decode cX2_take 116 = .ok (.aload_n 0, 1) := by decide +kernel
theorem dX2_take_117 : decode cX2_take 117 = .ok (.getfield 38, 3) := by decide +kernel
theorem dX2_take_120 : decode cX2_take 120 = .ok (.ifCond .eq 5, 3) := by decide +kernel
theorem dX2_take_123 : decode cX2_take 123 = .ok (.iconst 0, 1) := by decide +kernel
theorem dX2_take_124 : decode cX2_take 124 = .ok (.ireturn, 1) := by decide +kernel
theorem dX2_take_125 : decode cX2_take 125 = .ok (.aload_n 0, 1) := by decide +kernel
theorem dX2_take_126 : decode cX2_take 126 = .ok (.getfield 7, 3) := by decide +kernel
theorem dX2_take_129 : decode cX2_take 129 = .ok (.iload_n 3, 1) := by decide +kernel
theorem dX2_take_130 : decode cX2_take 130 = .ok (.iconst (-1), 1) := by decide +kernel
theorem dX2_take_131 : decode cX2_take 131 = .ok (.iastore, 1) := by decide +kernel
theorem dX2_take_132 : decode cX2_take 132 = .ok (.aload_n 0, 1) := by decide +kernel
theorem dX2_take_133 : decode cX2_take 133 = .ok (.getfield 16, 3) := by decide +kernel
theorem dX2_take_136 : decode cX2_take 136 = .ok (.iload_n 3, 1) := by decide +kernel
theorem dX2_take_137 : decode cX2_take 137 = .ok (.iaload, 1) := by decide +kernel
theorem dX2_take_138 : decode cX2_take 138 = .ok (.ireturn, 1) := by decide +kernel
set_option maxRecDepth 20000 in
theorem ggX2_pour_X2_isChute : GoodIn wsX2_pour wsX2_isChute := goodIn_r _ [10, 11, 12, 9, 13] (by decide +kernel) (by decide +kernel)
set_option maxRecDepth 20000 in
theorem gX2_pour_X2_isChute : GoodIn wsX2_pour (va_wsS RX2 74 yX2_isChute wsX2_isChute) := goodIn_app (goodIn_of _ (by decide +kernel)) ggX2_pour_X2_isChute
set_option maxRecDepth 20000 in
theorem ggX2_pour_X2_many : GoodIn wsX2_pour wsX2_many := goodIn_r _ [17, 4, 44, 45, 46, 47, 48, 49, 50, 51, 52, 53, 54, 55, 56, 57, 58, 59, 60, 61, 62, 63] (by decide +kernel) (by decide +kernel)
set_option maxRecDepth 20000 in
theorem gX2_pour_X2_many : GoodIn wsX2_pour (wsV RX2 78 RX2 yX2_many wsX2_many) := goodIn_app (goodIn_of _ (by decide +kernel)) ggX2_pour_X2_many
set_option maxRecDepth 20000 in
theorem ggX2_pour_X2_parcelAt : GoodIn wsX2_pour wsX2_parcelAt := goodIn_r _ [21, 4, 22, 23, 24, 9, 25, 26, 27, 28, 29, 2, 5, 44, 45, 46, 47, 48, 49, 50, 51, 52, 53, 54, 55, 56, 57, 58, 59, 60, 61, 62, 63] (by decide +kernel) (by decide +kernel)
set_option maxRecDepth 20000 in
theorem gX2_pour_X2_parcelAt : GoodIn wsX2_pour (wsV RX2 120 RX2 yX2_parcelAt wsX2_parcelAt) := goodIn_app (goodIn_of _ (by decide +kernel)) ggX2_pour_X2_parcelAt
set_option maxRecDepth 20000 in
theorem ggX2_pour_X2_fitsChute : GoodIn wsX2_pour wsX2_fitsChute := goodIn_r _ [33, 34, 35, 36, 37, 38, 39, 9, 40, 41, 42, 43, 44, 45, 46, 47, 48, 49, 50, 51, 52, 53, 54, 55, 56, 57, 58, 59, 60, 61, 62, 63] (by decide +kernel) (by decide +kernel)
set_option maxRecDepth 20000 in
theorem gX2_pour_X2_fitsChute : GoodIn wsX2_pour (wsV RX2 106 RX2 yX2_fitsChute wsX2_fitsChute) := goodIn_app (goodIn_of _ (by decide +kernel)) ggX2_pour_X2_fitsChute
theorem dX2_pour_0 : decode cX2_pour 0 = .ok (.aload_n 0, 1) := by decide +kernel
theorem dX2_pour_1 : decode cX2_pour 1 = .ok (.iload_n 1, 1) := by decide +kernel
theorem dX2_pour_2 : decode cX2_pour 2 = .ok (.invokestatic 74, 3) := by decide +kernel
theorem dX2_pour_5 : decode cX2_pour 5 = .ok (.ifCond .eq 10, 3) := by decide +kernel
theorem dX2_pour_8 : decode cX2_pour 8 = .ok (.iload_n 2, 1) := by decide +kernel
theorem dX2_pour_9 : decode cX2_pour 9 = .ok (.invokestatic 74, 3) := by decide +kernel
theorem dX2_pour_12 : decode cX2_pour 12 = .ok (.ifCond .ne 7, 3) := by decide +kernel
theorem dX2_pour_15 : decode cX2_pour 15 = .ok (.iconst 1, 1) := by decide +kernel
theorem dX2_pour_16 : decode cX2_pour 16 = .ok (.goto 13, 3) := by decide +kernel
theorem dX2_pour_19 : decode cX2_pour 19 = .ok (.iload_n 1, 1) := by decide +kernel
theorem dX2_pour_20 : decode cX2_pour 20 = .ok (.iload_n 2, 1) := by decide +kernel
theorem dX2_pour_21 : decode cX2_pour 21 = .ok (.if_icmp .ne 7, 3) := by decide +kernel
theorem dX2_pour_24 : decode cX2_pour 24 = .ok (.iconst 2, 1) := by decide +kernel
theorem dX2_pour_25 : decode cX2_pour 25 = .ok (.goto 4, 3) := by decide +kernel
theorem dX2_pour_28 : decode cX2_pour 28 = .ok (.iconst 0, 1) := by decide +kernel
theorem dX2_pour_29 : decode cX2_pour 29 = .ok (.putfield 38, 3) := by decide +kernel
theorem dX2_pour_32 : decode cX2_pour 32 = .ok (.aload_n 0, 1) := by decide +kernel
theorem dX2_pour_33 : decode cX2_pour 33 = .ok (.getfield 38, 3) := by decide +kernel
theorem dX2_pour_36 : decode cX2_pour 36 = .ok (.ifCond .eq 5, 3) := by decide +kernel
theorem dX2_pour_39 : decode cX2_pour 39 = .ok (.iconst 0, 1) := by decide +kernel
theorem dX2_pour_40 : decode cX2_pour 40 = .ok (.ireturn, 1) := by decide +kernel
theorem dX2_pour_41 : decode cX2_pour 41 = .ok (.iconst 0, 1) := by decide +kernel
theorem dX2_pour_42 : decode cX2_pour 42 = .ok (.istore_n 3, 1) := by decide +kernel
theorem dX2_pour_43 : decode cX2_pour 43 = .ok (.iconst 0, 1) := by decide +kernel
theorem dX2_pour_44 : decode cX2_pour 44 = .ok (.istore 4, 2) := by decide +kernel
theorem dX2_pour_46 : decode cX2_pour 46 = .ok (.aload_n 0, 1) := by decide +kernel
theorem dX2_pour_47 : decode cX2_pour 47 = .ok (.iload_n 1, 1) := by decide +kernel
theorem dX2_pour_48 : decode cX2_pour 48 = .ok (.invokevirtual 78, 3) := by decide +kernel
theorem dX2_pour_51 : decode cX2_pour 51 = .ok (.istore 5, 2) := by decide +kernel
theorem dX2_pour_53 : decode cX2_pour 53 = .ok (.iconst 0, 1) := by decide +kernel
theorem dX2_pour_54 : decode cX2_pour 54 = .ok (.istore 6, 2) := by decide +kernel
theorem dX2_pour_56 : decode cX2_pour 56 = .ok (.iload 6, 2) := by decide +kernel
theorem dX2_pour_58 : decode cX2_pour 58 = .ok (.iload 5, 2) := by decide +kernel
theorem dX2_pour_60 : decode cX2_pour 60 = .ok (.if_icmp .ge 88, 3) := by decide +kernel
theorem dX2_pour_63 : decode cX2_pour 63 = .ok (.aload_n 0, 1) := by decide +kernel
theorem dX2_pour_64 : decode cX2_pour 64 = .ok (.iload_n 1, 1) := by decide +kernel
theorem dX2_pour_65 : decode cX2_pour 65 = .ok (.iload 4, 2) := by decide +kernel
theorem dX2_pour_67 : decode cX2_pour 67 = .ok (.invokevirtual 120, 3) := by decide +kernel
theorem dX2_pour_70 : decode cX2_pour 70 = .ok (.istore 7, 2) := by decide +kernel
theorem dX2_pour_72 : decode cX2_pour 72 = .ok (.aload_n 0, 1) := by decide +kernel
theorem dX2_pour_73 : decode cX2_pour 73 = .ok (.iload_n 2, 1) := by decide +kernel
theorem dX2_pour_74 : decode cX2_pour 74 = .ok (.invokevirtual 78, 3) := by decide +kernel
theorem dX2_pour_77 : decode cX2_pour 77 = .ok (.bipush 12, 2) := by decide +kernel
theorem dX2_pour_79 : decode cX2_pour 79 = .ok (.if_icmp .ge 60, 3) := by decide +kernel
theorem dX2_pour_82 : decode cX2_pour 82 = .ok (.aload_n 0, 1) := by decide +kernel
theorem dX2_pour_83 : decode cX2_pour 83 = .ok (.aload_n 0, 1) := by decide +kernel
theorem dX2_pour_84 : decode cX2_pour 84 = .ok (.getfield 13, 3) := by decide +kernel
theorem dX2_pour_87 : decode cX2_pour 87 = .ok (.iload 7, 2) := by decide +kernel
theorem dX2_pour_89 : decode cX2_pour 89 = .ok (.iaload, 1) := by decide +kernel
theorem dX2_pour_90 : decode cX2_pour 90 = .ok (.aload_n 0, 1) := by decide +kernel
theorem dX2_pour_91 : decode cX2_pour 91 = .ok (.getfield 16, 3) := by decide +kernel
theorem dX2_pour_94 : decode cX2_pour 94 = .ok (.iload 7, 2) := by decide +kernel
theorem dX2_pour_96 : decode cX2_pour 96 = .ok (.iaload, 1) := by decide +kernel
theorem dX2_pour_97 : decode cX2_pour 97 = .ok (.iload_n 2, 1) := by decide +kernel
theorem dX2_pour_98 : decode cX2_pour 98 = .ok (.invokevirtual 106, 3) := by decide +kernel
theorem dX2_pour_101 : decode cX2_pour 101 = .ok (.ifCond .eq 38, 3) := by decide +kernel
theorem dX2_pour_104 : decode cX2_pour 104 = .ok (.aload_n 0, 1) := by decide +kernel
theorem dX2_pour_105 : decode cX2_pour 105 = .ok (.getfield 7, 3) := by decide +kernel
theorem dX2_pour_108 : decode cX2_pour 108 = .ok (.iload 7, 2) := by decide +kernel
theorem dX2_pour_110 : decode cX2_pour 110 = .ok (.iload_n 2, 1) := by decide +kernel
theorem dX2_pour_111 : decode cX2_pour 111 = .ok (.iastore, 1) := by decide +kernel
theorem dX2_pour_112 : decode cX2_pour 112 = .ok (.aload_n 0, 1) := by decide +kernel
theorem dX2_pour_113 : decode cX2_pour 113 = .ok (.getfield 19, 3) := by decide +kernel
theorem dX2_pour_116 : decode cX2_pour 116 = .ok (.iload 7, 2) := by decide +kernel
theorem dX2_pour_118 : decode cX2_pour 118 = .ok (.aload_n 0, 1) := by decide +kernel
theorem dX2_pour_119 : decode cX2_pour 119 = .ok (.getfield 62, 3) := by decide +kernel
theorem dX2_pour_122 : decode cX2_pour 122 = .ok (.iastore, 1) := by decide +kernel
theorem dX2_pour_123 : decode cX2_pour 123 = .ok (.aload_n 0, 1) := by decide +kernel
theorem dX2_pour_124 : decode cX2_pour 124 = .ok (.dup, 1) := by decide +kernel
theorem dX2_pour_125 : decode cX2_pour 125 = .ok (.getfield 62, 3) := by decide +kernel
theorem dX2_pour_128 : decode cX2_pour 128 = .ok (.iconst 1, 1) := by decide +kernel
theorem dX2_pour_129 : decode cX2_pour 129 = .ok (.iadd, 1) := by decide +kernel
theorem dX2_pour_130 : decode cX2_pour 130 = .ok (.putfield 62, 3) := by decide +kernel
theorem dX2_pour_133 : decode cX2_pour 133 = .ok (.iinc 3 1, 3) := by decide +kernel
theorem dX2_pour_136 : decode cX2_pour 136 = .ok (.goto 6, 3) := by decide +kernel
theorem dX2_pour_139 : decode cX2_pour 139 = .ok (.iinc 4 1, 3) := by decide +kernel
theorem dX2_pour_142 : decode cX2_pour 142 = .ok (.iinc 6 1, 3) := by decide +kernel
theorem dX2_pour_145 : decode cX2_pour 145 = .ok (.goto (-89), 3) := by decide +kernel
theorem dX2_pour_148 : decode cX2_pour 148 = .ok (.iload_n 3, 1) := by decide +kernel
theorem dX2_pour_149 : decode cX2_pour 149 = .ok (.ireturn, 1) := by decide +kernel
set_option maxRecDepth 20000 in
theorem ggX2_sweep_X2_isChute : GoodIn wsX2_sweep wsX2_isChute := goodIn_r _ [8, 9, 10, 7, 11] (by decide +kernel) (by decide +kernel)
set_option maxRecDepth 20000 in
theorem gX2_sweep_X2_isChute : GoodIn wsX2_sweep (va_wsS RX2 74 yX2_isChute wsX2_isChute) := goodIn_app (goodIn_of _ (by decide +kernel)) ggX2_sweep_X2_isChute
set_option maxRecDepth 20000 in
theorem ggX2_sweep_X2_many : GoodIn wsX2_sweep wsX2_many := goodIn_r _ [15, 4, 50, 51, 52, 53, 54, 55, 56, 57, 58, 59, 60, 61, 62, 63, 64, 65, 66, 67, 68, 69] (by decide +kernel) (by decide +kernel)
set_option maxRecDepth 20000 in
theorem gX2_sweep_X2_many : GoodIn wsX2_sweep (wsV RX2 78 RX2 yX2_many wsX2_many) := goodIn_app (goodIn_of _ (by decide +kernel)) ggX2_sweep_X2_many
set_option maxRecDepth 20000 in
theorem ggX2_sweep_X2_parcelAt : GoodIn wsX2_sweep wsX2_parcelAt := goodIn_r _ [19, 4, 20, 21, 22, 7, 23, 24, 25, 26, 27, 2, 28, 50, 51, 52, 53, 54, 55, 56, 57, 58, 59, 60, 61, 62, 63, 64, 65, 66, 67, 68, 69] (by decide +kernel) (by decide +kernel)
set_option maxRecDepth 20000 in
theorem gX2_sweep_X2_parcelAt : GoodIn wsX2_sweep (wsV RX2 120 RX2 yX2_parcelAt wsX2_parcelAt) := goodIn_app (goodIn_of _ (by decide +kernel)) ggX2_sweep_X2_parcelAt
set_option maxRecDepth 20000 in
theorem ggX2_sweep_X2_fitsChute : GoodIn wsX2_sweep wsX2_fitsChute := goodIn_r _ [32, 33, 34, 35, 36, 37, 38, 7, 39, 40, 41, 42, 50, 51, 52, 53, 54, 55, 56, 57, 58, 59, 60, 61, 62, 63, 64, 65, 66, 67, 68, 69] (by decide +kernel) (by decide +kernel)
set_option maxRecDepth 20000 in
theorem gX2_sweep_X2_fitsChute : GoodIn wsX2_sweep (wsV RX2 106 RX2 yX2_fitsChute wsX2_fitsChute) := goodIn_app (goodIn_of _ (by decide +kernel)) ggX2_sweep_X2_fitsChute
set_option maxRecDepth 20000 in
theorem ggX2_sweep_X2_putAside : GoodIn wsX2_sweep wsX2_putAside := goodIn_r _ [46, 47, 48, 49, 50, 51, 52, 53, 54, 55, 56, 57, 58, 59, 60, 61, 62, 63, 64, 65, 66, 67, 68, 69] (by decide +kernel) (by decide +kernel)
set_option maxRecDepth 20000 in
theorem gX2_sweep_X2_putAside : GoodIn wsX2_sweep (wsV RX2 113 RX2 yX2_putAside wsX2_putAside) := goodIn_app (goodIn_of _ (by decide +kernel)) ggX2_sweep_X2_putAside
theorem dX2_sweep_0 : decode cX2_sweep 0 = .ok (.aload_n 0, 1) := by decide +kernel
theorem dX2_sweep_1 : decode cX2_sweep 1 = .ok (.iload_n 1, 1) := by decide +kernel
theorem dX2_sweep_2 : decode cX2_sweep 2 = .ok (.invokestatic 74, 3) := by decide +kernel
theorem dX2_sweep_5 : decode cX2_sweep 5 = .ok (.ifCond .eq 7, 3) := by decide +kernel
theorem dX2_sweep_8 : decode cX2_sweep 8 = .ok (.iconst 0, 1) := by decide +kernel
theorem dX2_sweep_9 : decode cX2_sweep 9 = .ok (.goto 4, 3) := by decide +kernel
theorem dX2_sweep_12 : decode cX2_sweep 12 = .ok (.iconst 1, 1) := by decide +kernel
theorem dX2_sweep_13 : decode cX2_sweep 13 = .ok (.putfield 38, 3) := by decide +kernel
theorem dX2_sweep_16 : decode cX2_sweep 16 = .ok (.aload_n 0, 1) := by decide +kernel
theorem dX2_sweep_17 : decode cX2_sweep 17 = .ok (.getfield 38, 3) := by decide +kernel
theorem dX2_sweep_20 : decode cX2_sweep 20 = .ok (.ifCond .eq 5, 3) := by decide +kernel
theorem dX2_sweep_23 : decode cX2_sweep 23 = .ok (.iconst 0, 1) := by decide +kernel
theorem dX2_sweep_24 : decode cX2_sweep 24 = .ok (.ireturn, 1) := by decide +kernel
theorem dX2_sweep_25 : decode cX2_sweep 25 = .ok (.iconst 0, 1) := by decide +kernel
theorem dX2_sweep_26 : decode cX2_sweep 26 = .ok (.istore_n 2, 1) := by decide +kernel
theorem dX2_sweep_27 : decode cX2_sweep 27 = .ok (.aload_n 0, 1) := by decide +kernel
theorem dX2_sweep_28 : decode cX2_sweep 28 = .ok (.iload_n 1, 1) := by decide +kernel
theorem dX2_sweep_29 : decode cX2_sweep 29 = .ok (.invokevirtual 78, 3) := by decide +kernel
theorem dX2_sweep_32 : decode cX2_sweep 32 = .ok (.istore_n 3, 1) := by decide +kernel
theorem dX2_sweep_33 : decode cX2_sweep 33 = .ok (.iconst 0, 1) := by decide +kernel
theorem dX2_sweep_34 : decode cX2_sweep 34 = .ok (.istore 4, 2) := by decide +kernel
theorem dX2_sweep_36 : decode cX2_sweep 36 = .ok (.iload 4, 2) := by decide +kernel
theorem dX2_sweep_38 : decode cX2_sweep 38 = .ok (.iload_n 3, 1) := by decide +kernel
theorem dX2_sweep_39 : decode cX2_sweep 39 = .ok (.if_icmp .ge 71, 3) := by decide +kernel
theorem dX2_sweep_42 : decode cX2_sweep 42 = .ok (.aload_n 0, 1) := by decide +kernel
theorem dX2_sweep_43 : decode cX2_sweep 43 = .ok (.iload_n 1, 1) := by decide +kernel
theorem dX2_sweep_44 : decode cX2_sweep 44 = .ok (.iload 4, 2) := by decide +kernel
theorem dX2_sweep_46 : decode cX2_sweep 46 = .ok (.iload_n 2, 1) := by decide +kernel
theorem dX2_sweep_47 : decode cX2_sweep 47 = .ok (.isub, 1) := by decide +kernel
theorem dX2_sweep_48 : decode cX2_sweep 48 = .ok (.invokevirtual 120, 3) := by decide +kernel
theorem dX2_sweep_51 : decode cX2_sweep 51 = .ok (.istore 5, 2) := by decide +kernel
theorem dX2_sweep_53 : decode cX2_sweep 53 = .ok (.aload_n 0, 1) := by decide +kernel
theorem dX2_sweep_54 : decode cX2_sweep 54 = .ok (.aload_n 0, 1) := by decide +kernel
theorem dX2_sweep_55 : decode cX2_sweep 55 = .ok (.getfield 13, 3) := by decide +kernel
theorem dX2_sweep_58 : decode cX2_sweep 58 = .ok (.iload 5, 2) := by decide +kernel
theorem dX2_sweep_60 : decode cX2_sweep 60 = .ok (.iaload, 1) := by decide +kernel
theorem dX2_sweep_61 : decode cX2_sweep 61 = .ok (.aload_n 0, 1) := by decide +kernel
theorem dX2_sweep_62 : decode cX2_sweep 62 = .ok (.getfield 16, 3) := by decide +kernel
theorem dX2_sweep_65 : decode cX2_sweep 65 = .ok (.iload 5, 2) := by decide +kernel
theorem dX2_sweep_67 : decode cX2_sweep 67 = .ok (.iaload, 1) := by decide +kernel
theorem dX2_sweep_68 : decode cX2_sweep 68 = .ok (.iload_n 1, 1) := by decide +kernel
theorem dX2_sweep_69 : decode cX2_sweep 69 = .ok (.invokevirtual 106, 3) := by decide +kernel
theorem dX2_sweep_72 : decode cX2_sweep 72 = .ok (.ifCond .ne 32, 3) := by decide +kernel
theorem dX2_sweep_75 : decode cX2_sweep 75 = .ok (.aload_n 0, 1) := by decide +kernel
theorem dX2_sweep_76 : decode cX2_sweep 76 = .ok (.aload_n 0, 1) := by decide +kernel
theorem dX2_sweep_77 : decode cX2_sweep 77 = .ok (.getfield 13, 3) := by decide +kernel
theorem dX2_sweep_80 : decode cX2_sweep 80 = .ok (.iload 5, 2) := by decide +kernel
theorem dX2_sweep_82 : decode cX2_sweep 82 = .ok (.iaload, 1) := by decide +kernel
theorem dX2_sweep_83 : decode cX2_sweep 83 = .ok (.aload_n 0, 1) := by decide +kernel
theorem dX2_sweep_84 : decode cX2_sweep 84 = .ok (.getfield 16, 3) := by decide +kernel
theorem dX2_sweep_87 : decode cX2_sweep 87 = .ok (.iload 5, 2) := by decide +kernel
theorem dX2_sweep_89 : decode cX2_sweep 89 = .ok (.iaload, 1) := by decide +kernel
theorem dX2_sweep_90 : decode cX2_sweep 90 = .ok (.invokevirtual 113, 3) := by decide +kernel
theorem dX2_sweep_93 : decode cX2_sweep 93 = .ok (.aload_n 0, 1) := by decide +kernel
theorem dX2_sweep_94 : decode cX2_sweep 94 = .ok (.getfield 7, 3) := by decide +kernel
theorem dX2_sweep_97 : decode cX2_sweep 97 = .ok (.iload 5, 2) := by decide +kernel
theorem dX2_sweep_99 : decode cX2_sweep 99 = .ok (.iconst (-1), 1) := by decide +kernel
theorem dX2_sweep_100 : decode cX2_sweep 100 = .ok (.iastore, 1) := by decide +kernel
theorem dX2_sweep_101 : decode cX2_sweep 101 = .ok (.iinc 2 1, 3) := by decide +kernel
theorem dX2_sweep_104 : decode cX2_sweep 104 = .ok (.iinc 4 1, 3) := by decide +kernel
theorem dX2_sweep_107 : decode cX2_sweep 107 = .ok (.goto (-71), 3) := by decide +kernel
theorem dX2_sweep_110 : decode cX2_sweep 110 = .ok (.iload_n 2, 1) := by decide +kernel
theorem dX2_sweep_111 : decode cX2_sweep 111 = .ok (.ireturn, 1) := by decide +kernel
theorem dX2_heaviestIn_0 : decode cX2_heaviestIn 0 = .ok (.iconst 0, 1) := by decide +kernel
theorem dX2_heaviestIn_1 : decode cX2_heaviestIn 1 = .ok (.istore_n 2, 1) := by decide +kernel
theorem dX2_heaviestIn_2 : decode cX2_heaviestIn 2 = .ok (.iconst 0, 1) := by decide +kernel
theorem dX2_heaviestIn_3 : decode cX2_heaviestIn 3 = .ok (.istore_n 3, 1) := by decide +kernel
theorem dX2_heaviestIn_4 : decode cX2_heaviestIn 4 = .ok (.iload_n 3, 1) := by decide +kernel
theorem dX2_heaviestIn_5 : decode cX2_heaviestIn 5 = .ok (.bipush 96, 2) := by decide +kernel
theorem dX2_heaviestIn_7 : decode cX2_heaviestIn 7 = .ok (.if_icmp .ge 40, 3) := by decide +kernel
theorem dX2_heaviestIn_10 : decode cX2_heaviestIn 10 = .ok (.aload_n 0, 1) := by decide +kernel
theorem dX2_heaviestIn_11 : decode cX2_heaviestIn 11 = .ok (.getfield 7, 3) := by decide +kernel
theorem dX2_heaviestIn_14 : decode cX2_heaviestIn 14 = .ok (.iload_n 3, 1) := by decide +kernel
theorem dX2_heaviestIn_15 : decode cX2_heaviestIn 15 = .ok (.iaload, 1) := by decide +kernel
theorem dX2_heaviestIn_16 : decode cX2_heaviestIn 16 = .ok (.iload_n 1, 1) := by decide +kernel
theorem dX2_heaviestIn_17 : decode cX2_heaviestIn 17 = .ok (.if_icmp .ne 22, 3) := by decide +kernel
theorem dX2_heaviestIn_20 : decode cX2_heaviestIn 20 = .ok (.aload_n 0, 1) := by decide +kernel
theorem dX2_heaviestIn_21 : decode cX2_heaviestIn 21 = .ok (.getfield 13, 3) := by decide +kernel
theorem dX2_heaviestIn_24 : decode cX2_heaviestIn 24 = .ok (.iload_n 3, 1) := by decide +kernel
theorem dX2_heaviestIn_25 : decode cX2_heaviestIn 25 = .ok (.iaload, 1) := by decide +kernel
end
section
theorem dX2_heaviestIn_26 : decode cX2_heaviestIn 26 = .ok (.iload_n 2, 1) := by decide +kernel
theorem dX2_heaviestIn_27 : decode cX2_heaviestIn 27 = .ok (.if_icmp .le 12, 3) := by decide +kernel
theorem dX2_heaviestIn_30 : decode cX2_heaviestIn 30 = .ok (.aload_n 0, 1) := by decide +kernel
theorem dX2_heaviestIn_31 : decode cX2_heaviestIn 31 = .ok (.getfield 13, 3) := by decide +kernel
theorem dX2_heaviestIn_34 : decode cX2_heaviestIn 34 = .ok (.iload_n 3, 1) := by decide +kernel
theorem dX2_heaviestIn_35 : decode cX2_heaviestIn 35 = .ok (.iaload, 1) := by decide +kernel
theorem dX2_heaviestIn_36 : decode cX2_heaviestIn 36 = .ok (.goto 4, 3) := by decide +kernel
theorem dX2_heaviestIn_39 : decode cX2_heaviestIn 39 = .ok (.iload_n 2, 1) := by decide +kernel
theorem dX2_heaviestIn_40 : decode cX2_heaviestIn 40 = .ok (.istore_n 2, 1) := by decide +kernel
theorem dX2_heaviestIn_41 : decode cX2_heaviestIn 41 = .ok (.iinc 3 1, 3) := by decide +kernel
theorem dX2_heaviestIn_44 : decode cX2_heaviestIn 44 = .ok (.goto (-40), 3) := by decide +kernel
theorem dX2_heaviestIn_47 : decode cX2_heaviestIn 47 = .ok (.iload_n 2, 1) := by decide +kernel
theorem dX2_heaviestIn_48 : decode cX2_heaviestIn 48 = .ok (.ireturn, 1) := by decide +kernel
set_option maxRecDepth 20000 in
theorem ggX2_heavier_X2_isChute : GoodIn wsX2_heavier wsX2_isChute := goodIn_r _ [5, 6, 7, 4, 8] (by decide +kernel) (by decide +kernel)
set_option maxRecDepth 20000 in
theorem gX2_heavier_X2_isChute : GoodIn wsX2_heavier (va_wsS RX2 74 yX2_isChute wsX2_isChute) := goodIn_app (goodIn_of _ (by decide +kernel)) ggX2_heavier_X2_isChute
set_option maxRecDepth 20000 in
theorem ggX2_heavier_X2_heaviestIn : GoodIn wsX2_heavier wsX2_heaviestIn := goodIn_r _ [12, 13, 14, 18, 19, 20, 21, 22, 23, 24, 25, 26, 27, 28, 29, 30, 31, 32, 33, 34, 35, 36, 37] (by decide +kernel) (by decide +kernel)
set_option maxRecDepth 20000 in
theorem gX2_heavier_X2_heaviestIn : GoodIn wsX2_heavier (wsV RX2 126 RX2 yX2_heaviestIn wsX2_heaviestIn) := goodIn_app (goodIn_of _ (by decide +kernel)) ggX2_heavier_X2_heaviestIn
set_option maxRecDepth 20000 in
theorem ggX2_heavier_X2_signsOf : GoodIn wsX2_heavier wsX2_signsOf := goodIn_r _ [17] (by decide +kernel) (by decide +kernel)
set_option maxRecDepth 20000 in
theorem gX2_heavier_X2_signsOf : GoodIn wsX2_heavier (va_wsS RX2 47 yX2_signsOf wsX2_signsOf) := goodIn_app (goodIn_of _ (by decide +kernel)) ggX2_heavier_X2_signsOf
theorem dX2_heavier_0 : decode cX2_heavier 0 = .ok (.aload_n 0, 1) := by decide +kernel
theorem dX2_heavier_1 : decode cX2_heavier 1 = .ok (.iload_n 1, 1) := by decide +kernel
theorem dX2_heavier_2 : decode cX2_heavier 2 = .ok (.invokestatic 74, 3) := by decide +kernel
theorem dX2_heavier_5 : decode cX2_heavier 5 = .ok (.ifCond .eq 14, 3) := by decide +kernel
theorem dX2_heavier_8 : decode cX2_heavier 8 = .ok (.iload_n 2, 1) := by decide +kernel
theorem dX2_heavier_9 : decode cX2_heavier 9 = .ok (.invokestatic 74, 3) := by decide +kernel
theorem dX2_heavier_12 : decode cX2_heavier 12 = .ok (.ifCond .eq 7, 3) := by decide +kernel
theorem dX2_heavier_15 : decode cX2_heavier 15 = .ok (.iconst 0, 1) := by decide +kernel
theorem dX2_heavier_16 : decode cX2_heavier 16 = .ok (.goto 4, 3) := by decide +kernel
theorem dX2_heavier_19 : decode cX2_heavier 19 = .ok (.iconst 1, 1) := by decide +kernel
theorem dX2_heavier_20 : decode cX2_heavier 20 = .ok (.putfield 38, 3) := by decide +kernel
theorem dX2_heavier_23 : decode cX2_heavier 23 = .ok (.aload_n 0, 1) := by decide +kernel
theorem dX2_heavier_24 : decode cX2_heavier 24 = .ok (.getfield 38, 3) := by decide +kernel
theorem dX2_heavier_27 : decode cX2_heavier 27 = .ok (.ifCond .eq 5, 3) := by decide +kernel
theorem dX2_heavier_30 : decode cX2_heavier 30 = .ok (.iconst 0, 1) := by decide +kernel
theorem dX2_heavier_31 : decode cX2_heavier 31 = .ok (.ireturn, 1) := by decide +kernel
theorem dX2_heavier_32 : decode cX2_heavier 32 = .ok (.aload_n 0, 1) := by decide +kernel
theorem dX2_heavier_33 : decode cX2_heavier 33 = .ok (.iload_n 1, 1) := by decide +kernel
theorem dX2_heavier_34 : decode cX2_heavier 34 = .ok (.invokevirtual 126, 3) := by decide +kernel
theorem dX2_heavier_37 : decode cX2_heavier 37 = .ok (.aload_n 0, 1) := by decide +kernel
theorem dX2_heavier_38 : decode cX2_heavier 38 = .ok (.iload_n 2, 1) := by decide +kernel
theorem dX2_heavier_39 : decode cX2_heavier 39 = .ok (.invokevirtual 126, 3) := by decide +kernel
theorem dX2_heavier_42 : decode cX2_heavier 42 = .ok (.invokestatic 47, 3) := by decide +kernel
theorem dX2_heavier_45 : decode cX2_heavier 45 = .ok (.istore_n 3, 1) := by decide +kernel
theorem dX2_heavier_46 : decode cX2_heavier 46 = .ok (.iload_n 3, 1) := by decide +kernel
theorem dX2_heavier_47 : decode cX2_heavier 47 = .ok (.iconst 4, 1) := by decide +kernel
theorem dX2_heavier_48 : decode cX2_heavier 48 = .ok (.iand, 1) := by decide +kernel
theorem dX2_heavier_49 : decode cX2_heavier 49 = .ok (.ifCond .eq 7, 3) := by decide +kernel
theorem dX2_heavier_52 : decode cX2_heavier 52 = .ok (.iconst 1, 1) := by decide +kernel
theorem dX2_heavier_53 : decode cX2_heavier 53 = .ok (.goto 25, 3) := by decide +kernel
theorem dX2_heavier_56 : decode cX2_heavier 56 = .ok (.iload_n 3, 1) := by decide +kernel
theorem dX2_heavier_57 : decode cX2_heavier 57 = .ok (.iconst 1, 1) := by decide +kernel
theorem dX2_heavier_58 : decode cX2_heavier 58 = .ok (.iand, 1) := by decide +kernel
theorem dX2_heavier_59 : decode cX2_heavier 59 = .ok (.ifCond .eq 7, 3) := by decide +kernel
theorem dX2_heavier_62 : decode cX2_heavier 62 = .ok (.iconst (-1), 1) := by decide +kernel
theorem dX2_heavier_63 : decode cX2_heavier 63 = .ok (.goto 15, 3) := by decide +kernel
theorem dX2_heavier_66 : decode cX2_heavier 66 = .ok (.iload_n 3, 1) := by decide +kernel
theorem dX2_heavier_67 : decode cX2_heavier 67 = .ok (.bipush 16, 2) := by decide +kernel
theorem dX2_heavier_69 : decode cX2_heavier 69 = .ok (.iand, 1) := by decide +kernel
theorem dX2_heavier_70 : decode cX2_heavier 70 = .ok (.ifCond .eq 7, 3) := by decide +kernel
theorem dX2_heavier_73 : decode cX2_heavier 73 = .ok (.iconst 0, 1) := by decide +kernel
theorem dX2_heavier_74 : decode cX2_heavier 74 = .ok (.goto 4, 3) := by decide +kernel
theorem dX2_heavier_77 : decode cX2_heavier 77 = .ok (.iconst 2, 1) := by decide +kernel
theorem dX2_heavier_78 : decode cX2_heavier 78 = .ok (.ireturn, 1) := by decide +kernel
set_option maxRecDepth 20000 in
theorem ggX2_alike_X2_isChute : GoodIn wsX2_alike wsX2_isChute := goodIn_r _ [7, 8, 9, 6, 10] (by decide +kernel) (by decide +kernel)
set_option maxRecDepth 20000 in
theorem gX2_alike_X2_isChute : GoodIn wsX2_alike (va_wsS RX2 74 yX2_isChute wsX2_isChute) := goodIn_app (goodIn_of _ (by decide +kernel)) ggX2_alike_X2_isChute
set_option maxRecDepth 20000 in
theorem ggX2_alike_X2_parcelAt : GoodIn wsX2_alike wsX2_parcelAt := goodIn_r _ [14, 15, 16, 17, 18, 6, 19, 20, 21, 22, 23, 2, 24, 31, 32, 33, 34, 35, 36, 37, 38, 39, 40, 41, 42, 43, 44, 45, 46, 47, 48, 49, 50] (by decide +kernel) (by decide +kernel)
set_option maxRecDepth 20000 in
theorem gX2_alike_X2_parcelAt : GoodIn wsX2_alike (wsV RX2 120 RX2 yX2_parcelAt wsX2_parcelAt) := goodIn_app (goodIn_of _ (by decide +kernel)) ggX2_alike_X2_parcelAt
set_option maxRecDepth 20000 in
theorem ggX2_alike_X2_holds : GoodIn wsX2_alike wsX2_holds := goodIn_r _ [27, 28, 29, 6, 30] (by decide +kernel) (by decide +kernel)
set_option maxRecDepth 20000 in
theorem gX2_alike_X2_holds : GoodIn wsX2_alike (va_wsS RX2 51 yX2_holds wsX2_holds) := goodIn_app (goodIn_of _ (by decide +kernel)) ggX2_alike_X2_holds
theorem dX2_alike_0 : decode cX2_alike 0 = .ok (.aload_n 0, 1) := by decide +kernel
theorem dX2_alike_1 : decode cX2_alike 1 = .ok (.iload_n 1, 1) := by decide +kernel
theorem dX2_alike_2 : decode cX2_alike 2 = .ok (.invokestatic 74, 3) := by decide +kernel
theorem dX2_alike_5 : decode cX2_alike 5 = .ok (.ifCond .eq 14, 3) := by decide +kernel
theorem dX2_alike_8 : decode cX2_alike 8 = .ok (.iload_n 2, 1) := by decide +kernel
theorem dX2_alike_9 : decode cX2_alike 9 = .ok (.invokestatic 74, 3) := by decide +kernel
theorem dX2_alike_12 : decode cX2_alike 12 = .ok (.ifCond .eq 7, 3) := by decide +kernel
theorem dX2_alike_15 : decode cX2_alike 15 = .ok (.iconst 0, 1) := by decide +kernel
theorem dX2_alike_16 : decode cX2_alike 16 = .ok (.goto 4, 3) := by decide +kernel
theorem dX2_alike_19 : decode cX2_alike 19 = .ok (.iconst 1, 1) := by decide +kernel
theorem dX2_alike_20 : decode cX2_alike 20 = .ok (.putfield 38, 3) := by decide +kernel
theorem dX2_alike_23 : decode cX2_alike 23 = .ok (.aload_n 0, 1) := by decide +kernel
theorem dX2_alike_24 : decode cX2_alike 24 = .ok (.getfield 38, 3) := by decide +kernel
theorem dX2_alike_27 : decode cX2_alike 27 = .ok (.ifCond .eq 5, 3) := by decide +kernel
theorem dX2_alike_30 : decode cX2_alike 30 = .ok (.iconst 0, 1) := by decide +kernel
theorem dX2_alike_31 : decode cX2_alike 31 = .ok (.ireturn, 1) := by decide +kernel
theorem dX2_alike_32 : decode cX2_alike 32 = .ok (.iconst 0, 1) := by decide +kernel
theorem dX2_alike_33 : decode cX2_alike 33 = .ok (.istore_n 3, 1) := by decide +kernel
theorem dX2_alike_34 : decode cX2_alike 34 = .ok (.iload_n 3, 1) := by decide +kernel
theorem dX2_alike_35 : decode cX2_alike 35 = .ok (.bipush 12, 2) := by decide +kernel
theorem dX2_alike_37 : decode cX2_alike 37 = .ok (.if_icmp .ge 83, 3) := by decide +kernel
theorem dX2_alike_40 : decode cX2_alike 40 = .ok (.aload_n 0, 1) := by decide +kernel
theorem dX2_alike_41 : decode cX2_alike 41 = .ok (.iload_n 1, 1) := by decide +kernel
theorem dX2_alike_42 : decode cX2_alike 42 = .ok (.iload_n 3, 1) := by decide +kernel
theorem dX2_alike_43 : decode cX2_alike 43 = .ok (.invokevirtual 120, 3) := by decide +kernel
theorem dX2_alike_46 : decode cX2_alike 46 = .ok (.istore 4, 2) := by decide +kernel
theorem dX2_alike_48 : decode cX2_alike 48 = .ok (.aload_n 0, 1) := by decide +kernel
theorem dX2_alike_49 : decode cX2_alike 49 = .ok (.iload_n 2, 1) := by decide +kernel
theorem dX2_alike_50 : decode cX2_alike 50 = .ok (.iload_n 3, 1) := by decide +kernel
theorem dX2_alike_51 : decode cX2_alike 51 = .ok (.invokevirtual 120, 3) := by decide +kernel
theorem dX2_alike_54 : decode cX2_alike 54 = .ok (.istore 5, 2) := by decide +kernel
theorem dX2_alike_56 : decode cX2_alike 56 = .ok (.iload 4, 2) := by decide +kernel
theorem dX2_alike_58 : decode cX2_alike 58 = .ok (.iconst (-1), 1) := by decide +kernel
theorem dX2_alike_59 : decode cX2_alike 59 = .ok (.if_icmp .eq 53, 3) := by decide +kernel
theorem dX2_alike_62 : decode cX2_alike 62 = .ok (.iload 5, 2) := by decide +kernel
theorem dX2_alike_64 : decode cX2_alike 64 = .ok (.iconst (-1), 1) := by decide +kernel
theorem dX2_alike_65 : decode cX2_alike 65 = .ok (.if_icmp .eq 47, 3) := by decide +kernel
theorem dX2_alike_68 : decode cX2_alike 68 = .ok (.aload_n 0, 1) := by decide +kernel
theorem dX2_alike_69 : decode cX2_alike 69 = .ok (.getfield 13, 3) := by decide +kernel
theorem dX2_alike_72 : decode cX2_alike 72 = .ok (.iload 4, 2) := by decide +kernel
theorem dX2_alike_74 : decode cX2_alike 74 = .ok (.iaload, 1) := by decide +kernel
theorem dX2_alike_75 : decode cX2_alike 75 = .ok (.aload_n 0, 1) := by decide +kernel
theorem dX2_alike_76 : decode cX2_alike 76 = .ok (.getfield 13, 3) := by decide +kernel
theorem dX2_alike_79 : decode cX2_alike 79 = .ok (.iload 5, 2) := by decide +kernel
theorem dX2_alike_81 : decode cX2_alike 81 = .ok (.iaload, 1) := by decide +kernel
theorem dX2_alike_82 : decode cX2_alike 82 = .ok (.bipush 16, 2) := by decide +kernel
theorem dX2_alike_84 : decode cX2_alike 84 = .ok (.invokestatic 51, 3) := by decide +kernel
theorem dX2_alike_87 : decode cX2_alike 87 = .ok (.ifCond .eq 25, 3) := by decide +kernel
theorem dX2_alike_90 : decode cX2_alike 90 = .ok (.aload_n 0, 1) := by decide +kernel
theorem dX2_alike_91 : decode cX2_alike 91 = .ok (.getfield 16, 3) := by decide +kernel
theorem dX2_alike_94 : decode cX2_alike 94 = .ok (.iload 4, 2) := by decide +kernel
theorem dX2_alike_96 : decode cX2_alike 96 = .ok (.iaload, 1) := by decide +kernel
theorem dX2_alike_97 : decode cX2_alike 97 = .ok (.aload_n 0, 1) := by decide +kernel
theorem dX2_alike_98 : decode cX2_alike 98 = .ok (.getfield 16, 3) := by decide +kernel
theorem dX2_alike_101 : decode cX2_alike 101 = .ok (.iload 5, 2) := by decide +kernel
theorem dX2_alike_103 : decode cX2_alike 103 = .ok (.iaload, 1) := by decide +kernel
theorem dX2_alike_104 : decode cX2_alike 104 = .ok (.bipush 16, 2) := by decide +kernel
theorem dX2_alike_106 : decode cX2_alike 106 = .ok (.invokestatic 51, 3) := by decide +kernel
theorem dX2_alike_109 : decode cX2_alike 109 = .ok (.ifCond .ne 5, 3) := by decide +kernel
theorem dX2_alike_112 : decode cX2_alike 112 = .ok (.iload_n 3, 1) := by decide +kernel
theorem dX2_alike_113 : decode cX2_alike 113 = .ok (.ireturn, 1) := by decide +kernel
theorem dX2_alike_114 : decode cX2_alike 114 = .ok (.iinc 3 1, 3) := by decide +kernel
theorem dX2_alike_117 : decode cX2_alike 117 = .ok (.goto (-83), 3) := by decide +kernel
theorem dX2_alike_120 : decode cX2_alike 120 = .ok (.bipush 12, 2) := by decide +kernel
theorem dX2_alike_122 : decode cX2_alike 122 = .ok (.ireturn, 1) := by decide +kernel
set_option maxRecDepth 20000 in
theorem ggX2_gauge_X2_isWithin : GoodIn wsX2_gauge wsX2_isWithin := goodIn_r _ [13] (by decide +kernel) (by decide +kernel)
set_option maxRecDepth 20000 in
theorem gX2_gauge_X2_isWithin : GoodIn wsX2_gauge (va_wsS RX2 42 yX2_isWithin wsX2_isWithin) := goodIn_app (goodIn_of _ (by decide +kernel)) ggX2_gauge_X2_isWithin
theorem dX2_gauge_0 : decode cX2_gauge 0 = .ok (.aload_n 0, 1) := by decide +kernel
theorem dX2_gauge_1 : decode cX2_gauge 1 = .ok (.iload_n 1, 1) := by decide +kernel
theorem dX2_gauge_2 : decode cX2_gauge 2 = .ok (.bipush 7, 2) := by decide +kernel
theorem dX2_gauge_4 : decode cX2_gauge 4 = .ok (.invokestatic 42, 3) := by decide +kernel
theorem dX2_gauge_7 : decode cX2_gauge 7 = .ok (.ifCond .eq 7, 3) := by decide +kernel
theorem dX2_gauge_10 : decode cX2_gauge 10 = .ok (.iconst 0, 1) := by decide +kernel
theorem dX2_gauge_11 : decode cX2_gauge 11 = .ok (.goto 4, 3) := by decide +kernel
theorem dX2_gauge_14 : decode cX2_gauge 14 = .ok (.iconst 1, 1) := by decide +kernel
theorem dX2_gauge_15 : decode cX2_gauge 15 = .ok (.putfield 38, 3) := by decide +kernel
theorem dX2_gauge_18 : decode cX2_gauge 18 = .ok (.iload_n 1, 1) := by decide +kernel
theorem dX2_gauge_19 : decode cX2_gauge 19 = .ok (.tableswitch 85 0 7 #[45, 50, 55, 60, 65, 70, 75, 80], 45) := by decide +kernel
theorem dX2_gauge_64 : decode cX2_gauge 64 = .ok (.aload_n 0, 1) := by decide +kernel
theorem dX2_gauge_65 : decode cX2_gauge 65 = .ok (.getfield 90, 3) := by decide +kernel
theorem dX2_gauge_68 : decode cX2_gauge 68 = .ok (.ireturn, 1) := by decide +kernel
theorem dX2_gauge_69 : decode cX2_gauge 69 = .ok (.aload_n 0, 1) := by decide +kernel
theorem dX2_gauge_70 : decode cX2_gauge 70 = .ok (.getfield 93, 3) := by decide +kernel
theorem dX2_gauge_73 : decode cX2_gauge 73 = .ok (.ireturn, 1) := by decide +kernel
theorem dX2_gauge_74 : decode cX2_gauge 74 = .ok (.aload_n 0, 1) := by decide +kernel
theorem dX2_gauge_75 : decode cX2_gauge 75 = .ok (.getfield 96, 3) := by decide +kernel
theorem dX2_gauge_78 : decode cX2_gauge 78 = .ok (.ireturn, 1) := by decide +kernel
theorem dX2_gauge_79 : decode cX2_gauge 79 = .ok (.aload_n 0, 1) := by decide +kernel
theorem dX2_gauge_80 : decode cX2_gauge 80 = .ok (.getfield 87, 3) := by decide +kernel
theorem dX2_gauge_83 : decode cX2_gauge 83 = .ok (.ireturn, 1) := by decide +kernel
theorem dX2_gauge_84 : decode cX2_gauge 84 = .ok (.aload_n 0, 1) := by decide +kernel
theorem dX2_gauge_85 : decode cX2_gauge 85 = .ok (.getfield 81, 3) := by decide +kernel
theorem dX2_gauge_88 : decode cX2_gauge 88 = .ok (.ireturn, 1) := by decide +kernel
theorem dX2_gauge_89 : decode cX2_gauge 89 = .ok (.aload_n 0, 1) := by decide +kernel
theorem dX2_gauge_90 : decode cX2_gauge 90 = .ok (.getfield 65, 3) := by decide +kernel
theorem dX2_gauge_93 : decode cX2_gauge 93 = .ok (.ireturn, 1) := by decide +kernel
theorem dX2_gauge_94 : decode cX2_gauge 94 = .ok (.aload_n 0, 1) := by decide +kernel
theorem dX2_gauge_95 : decode cX2_gauge 95 = .ok (.getfield 68, 3) := by decide +kernel
theorem dX2_gauge_98 : decode cX2_gauge 98 = .ok (.ireturn, 1) := by decide +kernel
theorem dX2_gauge_99 : decode cX2_gauge 99 = .ok (.aload_n 0, 1) := by decide +kernel
theorem dX2_gauge_100 : decode cX2_gauge 100 = .ok (.getfield 71, 3) := by decide +kernel
theorem dX2_gauge_103 : decode cX2_gauge 103 = .ok (.ireturn, 1) := by decide +kernel
theorem dX2_gauge_104 : decode cX2_gauge 104 = .ok (.iconst 0, 1) := by decide +kernel
theorem dX2_gauge_105 : decode cX2_gauge 105 = .ok (.ireturn, 1) := by decide +kernel
theorem dJ9_min_7cf53_0 : decode cJ9_min_7cf53 0 = .ok (.iload_n 0, 1) := by decide +kernel
theorem dJ9_min_7cf53_1 : decode cJ9_min_7cf53 1 = .ok (.iload_n 1, 1) := by decide +kernel
theorem dJ9_min_7cf53_2 : decode cJ9_min_7cf53 2 = .ok (.if_icmp .gt 7, 3) := by decide +kernel
theorem dJ9_min_7cf53_5 : decode cJ9_min_7cf53 5 = .ok (.iload_n 0, 1) := by decide +kernel
theorem dJ9_min_7cf53_6 : decode cJ9_min_7cf53 6 = .ok (.goto 4, 3) := by decide +kernel
theorem dJ9_min_7cf53_9 : decode cJ9_min_7cf53 9 = .ok (.iload_n 1, 1) := by decide +kernel
theorem dJ9_min_7cf53_10 : decode cJ9_min_7cf53 10 = .ok (.ireturn, 1) := by decide +kernel
set_option maxRecDepth 20000 in
theorem ggL_sort_X1_sort : GoodIn wsL_sort wsX1_sort := goodIn_ca (goodIn_ca (goodIn_ca (goodIn_r _ [8, 9, 10, 11, 12, 13, 14, 15, 16, 17, 7, 18, 19, 20, 21, 22, 23, 24, 25, 26, 27, 28, 29, 30, 31, 32, 33, 34, 35, 36, 37, 38, 39] (by decide +kernel) (by decide +kernel)) (goodIn_sub (fun _ h => List.mem_cons_of_mem _ (List.mem_append_left _ (List.mem_append_left _ (List.mem_append_right _ h)))) (by decide +kernel))) (goodIn_sub (fun _ h => List.mem_cons_of_mem _ (List.mem_append_left _ (List.mem_append_right _ h))) (by decide +kernel))) (goodIn_sub (fun _ h => List.mem_cons_of_mem _ (List.mem_append_right _ h)) (by decide +kernel))
set_option maxRecDepth 20000 in
theorem gL_sort_X1_sort : GoodIn wsL_sort (wsV RL 7 RX1 yX1_sort wsX1_sort) := goodIn_app (goodIn_of _ (by decide +kernel)) ggL_sort_X1_sort
theorem dL_sort_0 : decode cL_sort 0 = .ok (.aload_n 3, 1) := by decide +kernel
theorem dL_sort_1 : decode cL_sort 1 = .ok (.iconst 0, 1) := by decide +kernel
theorem dL_sort_2 : decode cL_sort 2 = .ok (.aload_n 0, 1) := by decide +kernel
theorem dL_sort_3 : decode cL_sort 3 = .ok (.iload_n 1, 1) := by decide +kernel
theorem dL_sort_4 : decode cL_sort 4 = .ok (.iload_n 2, 1) := by decide +kernel
theorem dL_sort_5 : decode cL_sort 5 = .ok (.invokevirtual 7, 3) := by decide +kernel
theorem dL_sort_8 : decode cL_sort 8 = .ok (.i2l, 1) := by decide +kernel
theorem dL_sort_9 : decode cL_sort 9 = .ok (.lastore, 1) := by decide +kernel
theorem dL_sort_10 : decode cL_sort 10 = .ok (.goto 15, 3) := by decide +kernel
theorem dL_sort_13 : decode cL_sort 13 = .ok (.astore 4, 2) := by decide +kernel
theorem dL_sort_15 : decode cL_sort 15 = .ok (.iconst 1, 1) := by decide +kernel
theorem dL_sort_16 : decode cL_sort 16 = .ok (.ireturn, 1) := by decide +kernel
theorem dL_sort_17 : decode cL_sort 17 = .ok (.astore 4, 2) := by decide +kernel
theorem dL_sort_19 : decode cL_sort 19 = .ok (.iconst 2, 1) := by decide +kernel
theorem dL_sort_20 : decode cL_sort 20 = .ok (.ireturn, 1) := by decide +kernel
theorem dL_sort_21 : decode cL_sort 21 = .ok (.astore 4, 2) := by decide +kernel
theorem dL_sort_23 : decode cL_sort 23 = .ok (.iconst 3, 1) := by decide +kernel
theorem dL_sort_24 : decode cL_sort 24 = .ok (.ireturn, 1) := by decide +kernel
theorem dL_sort_25 : decode cL_sort 25 = .ok (.iconst 0, 1) := by decide +kernel
theorem dL_sort_26 : decode cL_sort 26 = .ok (.ireturn, 1) := by decide +kernel
set_option maxRecDepth 20000 in
theorem ggL_limits_X1_limits : GoodIn wsL_limits wsX1_limits := goodIn_ca (goodIn_ca (goodIn_ca (goodIn_r _ [8, 9, 10, 11, 12, 13, 14, 15, 16, 7, 17, 18, 19, 20, 21, 22, 23, 24, 25, 26, 27, 28, 29, 30, 31, 32, 33, 34, 35, 36, 37, 38, 39, 40, 41, 42, 43, 44, 45, 46, 47, 48, 49, 50, 51, 52, 53, 54, 55, 56] (by decide +kernel) (by decide +kernel)) (goodIn_sub (fun _ h => List.mem_cons_of_mem _ (List.mem_append_left _ (List.mem_append_left _ (List.mem_append_right _ h)))) (by decide +kernel))) (goodIn_sub (fun _ h => List.mem_cons_of_mem _ (List.mem_append_left _ (List.mem_append_right _ h))) (by decide +kernel))) (goodIn_sub (fun _ h => List.mem_cons_of_mem _ (List.mem_append_right _ h)) (by decide +kernel))
set_option maxRecDepth 20000 in
theorem gL_limits_X1_limits : GoodIn wsL_limits (wsV RL 19 RX1 yX1_limits wsX1_limits) := goodIn_app (goodIn_of _ (by decide +kernel)) ggL_limits_X1_limits
theorem dL_limits_0 : decode cL_limits 0 = .ok (.aload 5, 2) := by decide +kernel
theorem dL_limits_2 : decode cL_limits 2 = .ok (.iconst 0, 1) := by decide +kernel
theorem dL_limits_3 : decode cL_limits 3 = .ok (.aload_n 0, 1) := by decide +kernel
theorem dL_limits_4 : decode cL_limits 4 = .ok (.iload_n 1, 1) := by decide +kernel
theorem dL_limits_5 : decode cL_limits 5 = .ok (.iload_n 2, 1) := by decide +kernel
theorem dL_limits_6 : decode cL_limits 6 = .ok (.iload_n 3, 1) := by decide +kernel
theorem dL_limits_7 : decode cL_limits 7 = .ok (.iload 4, 2) := by decide +kernel
theorem dL_limits_9 : decode cL_limits 9 = .ok (.invokevirtual 19, 3) := by decide +kernel
theorem dL_limits_12 : decode cL_limits 12 = .ok (.i2l, 1) := by decide +kernel
theorem dL_limits_13 : decode cL_limits 13 = .ok (.lastore, 1) := by decide +kernel
theorem dL_limits_14 : decode cL_limits 14 = .ok (.goto 15, 3) := by decide +kernel
theorem dL_limits_17 : decode cL_limits 17 = .ok (.astore 6, 2) := by decide +kernel
theorem dL_limits_19 : decode cL_limits 19 = .ok (.iconst 1, 1) := by decide +kernel
theorem dL_limits_20 : decode cL_limits 20 = .ok (.ireturn, 1) := by decide +kernel
theorem dL_limits_21 : decode cL_limits 21 = .ok (.astore 6, 2) := by decide +kernel
theorem dL_limits_23 : decode cL_limits 23 = .ok (.iconst 2, 1) := by decide +kernel
theorem dL_limits_24 : decode cL_limits 24 = .ok (.ireturn, 1) := by decide +kernel
theorem dL_limits_25 : decode cL_limits 25 = .ok (.astore 6, 2) := by decide +kernel
theorem dL_limits_27 : decode cL_limits 27 = .ok (.iconst 3, 1) := by decide +kernel
theorem dL_limits_28 : decode cL_limits 28 = .ok (.ireturn, 1) := by decide +kernel
theorem dL_limits_29 : decode cL_limits 29 = .ok (.iconst 0, 1) := by decide +kernel
theorem dL_limits_30 : decode cL_limits 30 = .ok (.ireturn, 1) := by decide +kernel
set_option maxRecDepth 20000 in
theorem ggL_shut_X1_shut : GoodIn wsL_shut wsX1_shut := goodIn_ca (goodIn_r _ [6, 7, 8, 9, 10, 5, 11, 12, 13, 14, 15, 16, 17, 18, 19, 20, 21, 22, 23, 24, 25, 26, 27, 28, 29, 30, 31, 32] (by decide +kernel) (by decide +kernel)) (goodIn_sub (fun _ h => List.mem_cons_of_mem _ (List.mem_append_right _ h)) (by decide +kernel))
set_option maxRecDepth 20000 in
theorem gL_shut_X1_shut : GoodIn wsL_shut (wsV RL 23 RX1 yX1_shut wsX1_shut) := goodIn_app (goodIn_of _ (by decide +kernel)) ggL_shut_X1_shut
theorem dL_shut_0 : decode cL_shut 0 = .ok (.aload_n 3, 1) := by decide +kernel
theorem dL_shut_1 : decode cL_shut 1 = .ok (.iconst 0, 1) := by decide +kernel
theorem dL_shut_2 : decode cL_shut 2 = .ok (.aload_n 0, 1) := by decide +kernel
theorem dL_shut_3 : decode cL_shut 3 = .ok (.iload_n 1, 1) := by decide +kernel
theorem dL_shut_4 : decode cL_shut 4 = .ok (.iload_n 2, 1) := by decide +kernel
theorem dL_shut_5 : decode cL_shut 5 = .ok (.invokevirtual 23, 3) := by decide +kernel
theorem dL_shut_8 : decode cL_shut 8 = .ok (.ifCond .eq 7, 3) := by decide +kernel
theorem dL_shut_11 : decode cL_shut 11 = .ok (.lconst 1, 1) := by decide +kernel
theorem dL_shut_12 : decode cL_shut 12 = .ok (.goto 4, 3) := by decide +kernel
theorem dL_shut_15 : decode cL_shut 15 = .ok (.lconst 0, 1) := by decide +kernel
theorem dL_shut_16 : decode cL_shut 16 = .ok (.lastore, 1) := by decide +kernel
theorem dL_shut_17 : decode cL_shut 17 = .ok (.goto 7, 3) := by decide +kernel
theorem dL_shut_20 : decode cL_shut 20 = .ok (.astore 4, 2) := by decide +kernel
theorem dL_shut_22 : decode cL_shut 22 = .ok (.iconst 1, 1) := by decide +kernel
theorem dL_shut_23 : decode cL_shut 23 = .ok (.ireturn, 1) := by decide +kernel
theorem dL_shut_24 : decode cL_shut 24 = .ok (.iconst 0, 1) := by decide +kernel
theorem dL_shut_25 : decode cL_shut 25 = .ok (.ireturn, 1) := by decide +kernel
set_option maxRecDepth 20000 in
theorem ggL_send_X1_send : GoodIn wsL_send wsX1_send := goodIn_ca (goodIn_r _ [6, 7, 8, 9, 10, 5, 11, 12, 13, 14, 15, 16, 17, 18, 19, 20, 21, 22, 23, 24, 25, 26, 27, 28, 29, 30, 31, 32, 33, 34, 35, 36, 37, 38, 39, 40, 41, 42, 43, 44, 45, 46, 47, 48, 49, 50, 51, 52, 53, 54, 55, 56, 57, 58, 59, 60, 61, 62, 63, 64, 65, 66, 67, 68, 69, 70, 71, 72, 73, 74, 75, 76, 77, 78] (by decide +kernel) (by decide +kernel)) (goodIn_sub (fun _ h => List.mem_cons_of_mem _ (List.mem_append_right _ h)) (by decide +kernel))
set_option maxRecDepth 20000 in
theorem gL_send_X1_send : GoodIn wsL_send (wsV RL 27 RX1 yX1_send wsX1_send) := goodIn_app (goodIn_of _ (by decide +kernel)) ggL_send_X1_send
theorem dL_send_0 : decode cL_send 0 = .ok (.aload_n 3, 1) := by decide +kernel
theorem dL_send_1 : decode cL_send 1 = .ok (.iconst 0, 1) := by decide +kernel
theorem dL_send_2 : decode cL_send 2 = .ok (.aload_n 0, 1) := by decide +kernel
theorem dL_send_3 : decode cL_send 3 = .ok (.iload_n 1, 1) := by decide +kernel
theorem dL_send_4 : decode cL_send 4 = .ok (.iload_n 2, 1) := by decide +kernel
theorem dL_send_5 : decode cL_send 5 = .ok (.invokevirtual 27, 3) := by decide +kernel
theorem dL_send_8 : decode cL_send 8 = .ok (.i2l, 1) := by decide +kernel
theorem dL_send_9 : decode cL_send 9 = .ok (.lastore, 1) := by decide +kernel
theorem dL_send_10 : decode cL_send 10 = .ok (.goto 7, 3) := by decide +kernel
theorem dL_send_13 : decode cL_send 13 = .ok (.astore 4, 2) := by decide +kernel
theorem dL_send_15 : decode cL_send 15 = .ok (.iconst 1, 1) := by decide +kernel
theorem dL_send_16 : decode cL_send 16 = .ok (.ireturn, 1) := by decide +kernel
theorem dL_send_17 : decode cL_send 17 = .ok (.iconst 0, 1) := by decide +kernel
theorem dL_send_18 : decode cL_send 18 = .ok (.ireturn, 1) := by decide +kernel
set_option maxRecDepth 20000 in
theorem ggL_fits_X1_fits : GoodIn wsL_fits wsX1_fits := goodIn_ca (goodIn_r _ [6, 7, 8, 9, 5, 10, 11, 12, 13, 14, 15, 16, 17, 18, 19, 20, 21, 22, 23, 24, 25, 26, 27, 28, 29, 30, 31, 32, 33, 34, 35, 36, 37, 38, 39, 40, 41, 42, 43, 44, 45, 46, 47, 48] (by decide +kernel) (by decide +kernel)) (goodIn_sub (fun _ h => List.mem_cons_of_mem _ (List.mem_append_right _ h)) (by decide +kernel))
set_option maxRecDepth 20000 in
theorem gL_fits_X1_fits : GoodIn wsL_fits (wsV RL 30 RX1 yX1_fits wsX1_fits) := goodIn_app (goodIn_of _ (by decide +kernel)) ggL_fits_X1_fits
theorem dL_fits_0 : decode cL_fits 0 = .ok (.aload_n 3, 1) := by decide +kernel
theorem dL_fits_1 : decode cL_fits 1 = .ok (.iconst 0, 1) := by decide +kernel
theorem dL_fits_2 : decode cL_fits 2 = .ok (.aload_n 0, 1) := by decide +kernel
theorem dL_fits_3 : decode cL_fits 3 = .ok (.iload_n 1, 1) := by decide +kernel
theorem dL_fits_4 : decode cL_fits 4 = .ok (.iload_n 2, 1) := by decide +kernel
theorem dL_fits_5 : decode cL_fits 5 = .ok (.invokevirtual 30, 3) := by decide +kernel
theorem dL_fits_8 : decode cL_fits 8 = .ok (.i2l, 1) := by decide +kernel
theorem dL_fits_9 : decode cL_fits 9 = .ok (.lastore, 1) := by decide +kernel
theorem dL_fits_10 : decode cL_fits 10 = .ok (.goto 7, 3) := by decide +kernel
theorem dL_fits_13 : decode cL_fits 13 = .ok (.astore 4, 2) := by decide +kernel
theorem dL_fits_15 : decode cL_fits 15 = .ok (.iconst 1, 1) := by decide +kernel
theorem dL_fits_16 : decode cL_fits 16 = .ok (.ireturn, 1) := by decide +kernel
theorem dL_fits_17 : decode cL_fits 17 = .ok (.iconst 0, 1) := by decide +kernel
theorem dL_fits_18 : decode cL_fits 18 = .ok (.ireturn, 1) := by decide +kernel
set_option maxRecDepth 20000 in
theorem ggL_signs_X1_signs : GoodIn wsL_signs wsX1_signs := goodIn_ca (goodIn_ca (goodIn_r _ [7, 8, 9, 10, 11, 12, 13, 14, 15, 6, 16, 17, 18, 19, 20, 21, 22, 23, 24, 25, 26, 27, 28, 29, 30, 31, 32, 33, 34, 35, 36, 37, 38, 39, 40, 41, 42, 43, 44, 45, 46, 47] (by decide +kernel) (by decide +kernel)) (goodIn_sub (fun _ h => List.mem_cons_of_mem _ (List.mem_append_left _ (List.mem_append_right _ h))) (by decide +kernel))) (goodIn_sub (fun _ h => List.mem_cons_of_mem _ (List.mem_append_right _ h)) (by decide +kernel))
set_option maxRecDepth 20000 in
theorem gL_signs_X1_signs : GoodIn wsL_signs (wsV RL 33 RX1 yX1_signs wsX1_signs) := goodIn_app (goodIn_of _ (by decide +kernel)) ggL_signs_X1_signs
theorem dL_signs_0 : decode cL_signs 0 = .ok (.aload 4, 2) := by decide +kernel
theorem dL_signs_2 : decode cL_signs 2 = .ok (.iconst 0, 1) := by decide +kernel
theorem dL_signs_3 : decode cL_signs 3 = .ok (.aload_n 0, 1) := by decide +kernel
theorem dL_signs_4 : decode cL_signs 4 = .ok (.iload_n 1, 1) := by decide +kernel
theorem dL_signs_5 : decode cL_signs 5 = .ok (.iload_n 2, 1) := by decide +kernel
theorem dL_signs_6 : decode cL_signs 6 = .ok (.iload_n 3, 1) := by decide +kernel
theorem dL_signs_7 : decode cL_signs 7 = .ok (.invokevirtual 33, 3) := by decide +kernel
theorem dL_signs_10 : decode cL_signs 10 = .ok (.i2l, 1) := by decide +kernel
theorem dL_signs_11 : decode cL_signs 11 = .ok (.lastore, 1) := by decide +kernel
theorem dL_signs_12 : decode cL_signs 12 = .ok (.goto 11, 3) := by decide +kernel
theorem dL_signs_15 : decode cL_signs 15 = .ok (.astore 5, 2) := by decide +kernel
theorem dL_signs_17 : decode cL_signs 17 = .ok (.iconst 1, 1) := by decide +kernel
theorem dL_signs_18 : decode cL_signs 18 = .ok (.ireturn, 1) := by decide +kernel
theorem dL_signs_19 : decode cL_signs 19 = .ok (.astore 5, 2) := by decide +kernel
theorem dL_signs_21 : decode cL_signs 21 = .ok (.iconst 2, 1) := by decide +kernel
theorem dL_signs_22 : decode cL_signs 22 = .ok (.ireturn, 1) := by decide +kernel
theorem dL_signs_23 : decode cL_signs 23 = .ok (.iconst 0, 1) := by decide +kernel
theorem dL_signs_24 : decode cL_signs 24 = .ok (.ireturn, 1) := by decide +kernel
set_option maxRecDepth 20000 in
theorem ggL_chute_X1_chute : GoodIn wsL_chute wsX1_chute := goodIn_ca (goodIn_ca (goodIn_r _ [7, 8, 9, 10, 11, 12, 13, 14, 15, 16, 17, 18, 19, 20, 6, 21, 22, 23, 24, 25, 26, 27, 28, 29, 30, 31, 32, 33, 34, 35, 36, 37, 38, 39, 40, 41, 42, 43, 44, 45, 46, 47, 48, 49, 50, 51] (by decide +kernel) (by decide +kernel)) (goodIn_sub (fun _ h => List.mem_cons_of_mem _ (List.mem_append_left _ (List.mem_append_right _ h))) (by decide +kernel))) (goodIn_sub (fun _ h => List.mem_cons_of_mem _ (List.mem_append_right _ h)) (by decide +kernel))
set_option maxRecDepth 20000 in
theorem gL_chute_X1_chute : GoodIn wsL_chute (wsV RL 37 RX1 yX1_chute wsX1_chute) := goodIn_app (goodIn_of _ (by decide +kernel)) ggL_chute_X1_chute
theorem dL_chute_0 : decode cL_chute 0 = .ok (.aload_n 3, 1) := by decide +kernel
theorem dL_chute_1 : decode cL_chute 1 = .ok (.iconst 0, 1) := by decide +kernel
theorem dL_chute_2 : decode cL_chute 2 = .ok (.aload_n 0, 1) := by decide +kernel
theorem dL_chute_3 : decode cL_chute 3 = .ok (.iload_n 1, 1) := by decide +kernel
theorem dL_chute_4 : decode cL_chute 4 = .ok (.iload_n 2, 1) := by decide +kernel
theorem dL_chute_5 : decode cL_chute 5 = .ok (.invokevirtual 37, 3) := by decide +kernel
theorem dL_chute_8 : decode cL_chute 8 = .ok (.i2l, 1) := by decide +kernel
theorem dL_chute_9 : decode cL_chute 9 = .ok (.lastore, 1) := by decide +kernel
theorem dL_chute_10 : decode cL_chute 10 = .ok (.goto 11, 3) := by decide +kernel
theorem dL_chute_13 : decode cL_chute 13 = .ok (.astore 4, 2) := by decide +kernel
theorem dL_chute_15 : decode cL_chute 15 = .ok (.iconst 1, 1) := by decide +kernel
theorem dL_chute_16 : decode cL_chute 16 = .ok (.ireturn, 1) := by decide +kernel
theorem dL_chute_17 : decode cL_chute 17 = .ok (.astore 4, 2) := by decide +kernel
theorem dL_chute_19 : decode cL_chute 19 = .ok (.iconst 2, 1) := by decide +kernel
theorem dL_chute_20 : decode cL_chute 20 = .ok (.ireturn, 1) := by decide +kernel
theorem dL_chute_21 : decode cL_chute 21 = .ok (.iconst 0, 1) := by decide +kernel
theorem dL_chute_22 : decode cL_chute 22 = .ok (.ireturn, 1) := by decide +kernel
set_option maxRecDepth 20000 in
theorem ggL_weight_X1_weight : GoodIn wsL_weight wsX1_weight := goodIn_ca (goodIn_ca (goodIn_r _ [7, 8, 9, 10, 11, 6, 12, 13, 14, 15, 16, 17, 18, 19, 20, 21, 22, 23, 24, 25, 26, 27, 28, 29, 30, 31, 32, 33, 34, 35, 36, 37, 38, 39] (by decide +kernel) (by decide +kernel)) (goodIn_sub (fun _ h => List.mem_cons_of_mem _ (List.mem_append_left _ (List.mem_append_right _ h))) (by decide +kernel))) (goodIn_sub (fun _ h => List.mem_cons_of_mem _ (List.mem_append_right _ h)) (by decide +kernel))
set_option maxRecDepth 20000 in
theorem gL_weight_X1_weight : GoodIn wsL_weight (wsV RL 40 RX1 yX1_weight wsX1_weight) := goodIn_app (goodIn_of _ (by decide +kernel)) ggL_weight_X1_weight
theorem dL_weight_0 : decode cL_weight 0 = .ok (.aload_n 3, 1) := by decide +kernel
theorem dL_weight_1 : decode cL_weight 1 = .ok (.iconst 0, 1) := by decide +kernel
theorem dL_weight_2 : decode cL_weight 2 = .ok (.aload_n 0, 1) := by decide +kernel
theorem dL_weight_3 : decode cL_weight 3 = .ok (.iload_n 1, 1) := by decide +kernel
theorem dL_weight_4 : decode cL_weight 4 = .ok (.iload_n 2, 1) := by decide +kernel
theorem dL_weight_5 : decode cL_weight 5 = .ok (.invokevirtual 40, 3) := by decide +kernel
theorem dL_weight_8 : decode cL_weight 8 = .ok (.i2l, 1) := by decide +kernel
theorem dL_weight_9 : decode cL_weight 9 = .ok (.lastore, 1) := by decide +kernel
theorem dL_weight_10 : decode cL_weight 10 = .ok (.goto 11, 3) := by decide +kernel
theorem dL_weight_13 : decode cL_weight 13 = .ok (.astore 4, 2) := by decide +kernel
theorem dL_weight_15 : decode cL_weight 15 = .ok (.iconst 1, 1) := by decide +kernel
theorem dL_weight_16 : decode cL_weight 16 = .ok (.ireturn, 1) := by decide +kernel
theorem dL_weight_17 : decode cL_weight 17 = .ok (.astore 4, 2) := by decide +kernel
theorem dL_weight_19 : decode cL_weight 19 = .ok (.iconst 2, 1) := by decide +kernel
theorem dL_weight_20 : decode cL_weight 20 = .ok (.ireturn, 1) := by decide +kernel
theorem dL_weight_21 : decode cL_weight 21 = .ok (.iconst 0, 1) := by decide +kernel
theorem dL_weight_22 : decode cL_weight 22 = .ok (.ireturn, 1) := by decide +kernel
set_option maxRecDepth 20000 in
theorem ggL_girth_X1_girth : GoodIn wsL_girth wsX1_girth := goodIn_ca (goodIn_ca (goodIn_r _ [7, 8, 9, 10, 11, 6, 12, 13, 14, 15, 16, 17, 18, 19, 20, 21, 22, 23, 24, 25, 26, 27, 28, 29, 30, 31, 32, 33, 34, 35, 36, 37, 38, 39] (by decide +kernel) (by decide +kernel)) (goodIn_sub (fun _ h => List.mem_cons_of_mem _ (List.mem_append_left _ (List.mem_append_right _ h))) (by decide +kernel))) (goodIn_sub (fun _ h => List.mem_cons_of_mem _ (List.mem_append_right _ h)) (by decide +kernel))
set_option maxRecDepth 20000 in
theorem gL_girth_X1_girth : GoodIn wsL_girth (wsV RL 45 RX1 yX1_girth wsX1_girth) := goodIn_app (goodIn_of _ (by decide +kernel)) ggL_girth_X1_girth
theorem dL_girth_0 : decode cL_girth 0 = .ok (.aload_n 3, 1) := by decide +kernel
theorem dL_girth_1 : decode cL_girth 1 = .ok (.iconst 0, 1) := by decide +kernel
theorem dL_girth_2 : decode cL_girth 2 = .ok (.aload_n 0, 1) := by decide +kernel
theorem dL_girth_3 : decode cL_girth 3 = .ok (.iload_n 1, 1) := by decide +kernel
theorem dL_girth_4 : decode cL_girth 4 = .ok (.iload_n 2, 1) := by decide +kernel
theorem dL_girth_5 : decode cL_girth 5 = .ok (.invokevirtual 45, 3) := by decide +kernel
theorem dL_girth_8 : decode cL_girth 8 = .ok (.i2l, 1) := by decide +kernel
theorem dL_girth_9 : decode cL_girth 9 = .ok (.lastore, 1) := by decide +kernel
theorem dL_girth_10 : decode cL_girth 10 = .ok (.goto 11, 3) := by decide +kernel
theorem dL_girth_13 : decode cL_girth 13 = .ok (.astore 4, 2) := by decide +kernel
theorem dL_girth_15 : decode cL_girth 15 = .ok (.iconst 1, 1) := by decide +kernel
theorem dL_girth_16 : decode cL_girth 16 = .ok (.ireturn, 1) := by decide +kernel
theorem dL_girth_17 : decode cL_girth 17 = .ok (.astore 4, 2) := by decide +kernel
theorem dL_girth_19 : decode cL_girth 19 = .ok (.iconst 2, 1) := by decide +kernel
theorem dL_girth_20 : decode cL_girth 20 = .ok (.ireturn, 1) := by decide +kernel
theorem dL_girth_21 : decode cL_girth 21 = .ok (.iconst 0, 1) := by decide +kernel
theorem dL_girth_22 : decode cL_girth 22 = .ok (.ireturn, 1) := by decide +kernel
set_option maxRecDepth 20000 in
theorem ggL_below_X1_below : GoodIn wsL_below wsX1_below := goodIn_ca (goodIn_ca (goodIn_r _ [7, 8, 9, 10, 11, 12, 6, 13, 14, 15, 16, 17, 18, 19, 20, 21, 22, 23, 24, 25, 26, 27, 28, 29, 30, 31, 32, 33, 34, 35, 36, 37, 38, 39, 40, 41, 42, 43, 44, 45, 46, 47, 48, 49] (by decide +kernel) (by decide +kernel)) (goodIn_sub (fun _ h => List.mem_cons_of_mem _ (List.mem_append_left _ (List.mem_append_right _ h))) (by decide +kernel))) (goodIn_sub (fun _ h => List.mem_cons_of_mem _ (List.mem_append_right _ h)) (by decide +kernel))
set_option maxRecDepth 20000 in
theorem gL_below_X1_below : GoodIn wsL_below (wsV RL 48 RX1 yX1_below wsX1_below) := goodIn_app (goodIn_of _ (by decide +kernel)) ggL_below_X1_below
theorem dL_below_0 : decode cL_below 0 = .ok (.aload_n 3, 1) := by decide +kernel
theorem dL_below_1 : decode cL_below 1 = .ok (.iconst 0, 1) := by decide +kernel
theorem dL_below_2 : decode cL_below 2 = .ok (.aload_n 0, 1) := by decide +kernel
theorem dL_below_3 : decode cL_below 3 = .ok (.iload_n 1, 1) := by decide +kernel
theorem dL_below_4 : decode cL_below 4 = .ok (.iload_n 2, 1) := by decide +kernel
theorem dL_below_5 : decode cL_below 5 = .ok (.invokevirtual 48, 3) := by decide +kernel
theorem dL_below_8 : decode cL_below 8 = .ok (.i2l, 1) := by decide +kernel
theorem dL_below_9 : decode cL_below 9 = .ok (.lastore, 1) := by decide +kernel
theorem dL_below_10 : decode cL_below 10 = .ok (.goto 11, 3) := by decide +kernel
theorem dL_below_13 : decode cL_below 13 = .ok (.astore 4, 2) := by decide +kernel
theorem dL_below_15 : decode cL_below 15 = .ok (.iconst 1, 1) := by decide +kernel
theorem dL_below_16 : decode cL_below 16 = .ok (.ireturn, 1) := by decide +kernel
theorem dL_below_17 : decode cL_below 17 = .ok (.astore 4, 2) := by decide +kernel
theorem dL_below_19 : decode cL_below 19 = .ok (.iconst 2, 1) := by decide +kernel
theorem dL_below_20 : decode cL_below 20 = .ok (.ireturn, 1) := by decide +kernel
theorem dL_below_21 : decode cL_below 21 = .ok (.iconst 0, 1) := by decide +kernel
theorem dL_below_22 : decode cL_below 22 = .ok (.ireturn, 1) := by decide +kernel
set_option maxRecDepth 20000 in
theorem ggL_take_X1_take : GoodIn wsL_take wsX1_take := goodIn_ca (goodIn_ca (goodIn_ca (goodIn_r _ [8, 9, 10, 11, 12, 7, 13, 14, 15, 16, 17, 18, 19, 20, 21, 22, 23, 24, 25, 26, 27, 28, 29, 30, 31, 32, 33, 34, 35, 36, 37, 38, 39, 40, 41, 42, 43, 44, 45, 46, 47, 48, 49, 50, 51, 52, 53, 54, 55, 56, 57, 58] (by decide +kernel) (by decide +kernel)) (goodIn_sub (fun _ h => List.mem_cons_of_mem _ (List.mem_append_left _ (List.mem_append_left _ (List.mem_append_right _ h)))) (by decide +kernel))) (goodIn_sub (fun _ h => List.mem_cons_of_mem _ (List.mem_append_left _ (List.mem_append_right _ h))) (by decide +kernel))) (goodIn_sub (fun _ h => List.mem_cons_of_mem _ (List.mem_append_right _ h)) (by decide +kernel))
set_option maxRecDepth 20000 in
theorem gL_take_X1_take : GoodIn wsL_take (wsV RL 51 RX1 yX1_take wsX1_take) := goodIn_app (goodIn_of _ (by decide +kernel)) ggL_take_X1_take
theorem dL_take_0 : decode cL_take 0 = .ok (.aload_n 3, 1) := by decide +kernel
theorem dL_take_1 : decode cL_take 1 = .ok (.iconst 0, 1) := by decide +kernel
theorem dL_take_2 : decode cL_take 2 = .ok (.aload_n 0, 1) := by decide +kernel
theorem dL_take_3 : decode cL_take 3 = .ok (.iload_n 1, 1) := by decide +kernel
theorem dL_take_4 : decode cL_take 4 = .ok (.iload_n 2, 1) := by decide +kernel
theorem dL_take_5 : decode cL_take 5 = .ok (.invokevirtual 51, 3) := by decide +kernel
theorem dL_take_8 : decode cL_take 8 = .ok (.i2l, 1) := by decide +kernel
theorem dL_take_9 : decode cL_take 9 = .ok (.lastore, 1) := by decide +kernel
theorem dL_take_10 : decode cL_take 10 = .ok (.goto 15, 3) := by decide +kernel
theorem dL_take_13 : decode cL_take 13 = .ok (.astore 4, 2) := by decide +kernel
theorem dL_take_15 : decode cL_take 15 = .ok (.iconst 1, 1) := by decide +kernel
theorem dL_take_16 : decode cL_take 16 = .ok (.ireturn, 1) := by decide +kernel
theorem dL_take_17 : decode cL_take 17 = .ok (.astore 4, 2) := by decide +kernel
theorem dL_take_19 : decode cL_take 19 = .ok (.iconst 2, 1) := by decide +kernel
theorem dL_take_20 : decode cL_take 20 = .ok (.ireturn, 1) := by decide +kernel
theorem dL_take_21 : decode cL_take 21 = .ok (.astore 4, 2) := by decide +kernel
theorem dL_take_23 : decode cL_take 23 = .ok (.iconst 3, 1) := by decide +kernel
theorem dL_take_24 : decode cL_take 24 = .ok (.ireturn, 1) := by decide +kernel
theorem dL_take_25 : decode cL_take 25 = .ok (.iconst 0, 1) := by decide +kernel
theorem dL_take_26 : decode cL_take 26 = .ok (.ireturn, 1) := by decide +kernel
set_option maxRecDepth 20000 in
theorem ggL_pour_X1_pour : GoodIn wsL_pour wsX1_pour := goodIn_ca (goodIn_ca (goodIn_r _ [7, 8, 9, 10, 11, 12, 13, 14, 15, 6, 16, 17, 18, 19, 20, 21, 22, 23, 24, 25, 26, 27, 28, 29, 30, 31, 32, 33, 34, 35, 36, 37, 38, 39, 40, 41, 42, 43, 44, 45, 46, 47, 48, 49, 50, 51, 52, 53, 54, 55, 56, 57, 58, 59, 60, 61, 62, 63, 64, 65, 66] (by decide +kernel) (by decide +kernel)) (goodIn_sub (fun _ h => List.mem_cons_of_mem _ (List.mem_append_left _ (List.mem_append_right _ h))) (by decide +kernel))) (goodIn_sub (fun _ h => List.mem_cons_of_mem _ (List.mem_append_right _ h)) (by decide +kernel))
set_option maxRecDepth 20000 in
theorem gL_pour_X1_pour : GoodIn wsL_pour (wsV RL 54 RX1 yX1_pour wsX1_pour) := goodIn_app (goodIn_of _ (by decide +kernel)) ggL_pour_X1_pour
theorem dL_pour_0 : decode cL_pour 0 = .ok (.aload_n 3, 1) := by decide +kernel
theorem dL_pour_1 : decode cL_pour 1 = .ok (.iconst 0, 1) := by decide +kernel
theorem dL_pour_2 : decode cL_pour 2 = .ok (.aload_n 0, 1) := by decide +kernel
theorem dL_pour_3 : decode cL_pour 3 = .ok (.iload_n 1, 1) := by decide +kernel
theorem dL_pour_4 : decode cL_pour 4 = .ok (.iload_n 2, 1) := by decide +kernel
theorem dL_pour_5 : decode cL_pour 5 = .ok (.invokevirtual 54, 3) := by decide +kernel
theorem dL_pour_8 : decode cL_pour 8 = .ok (.i2l, 1) := by decide +kernel
theorem dL_pour_9 : decode cL_pour 9 = .ok (.lastore, 1) := by decide +kernel
theorem dL_pour_10 : decode cL_pour 10 = .ok (.goto 11, 3) := by decide +kernel
theorem dL_pour_13 : decode cL_pour 13 = .ok (.astore 4, 2) := by decide +kernel
theorem dL_pour_15 : decode cL_pour 15 = .ok (.iconst 1, 1) := by decide +kernel
theorem dL_pour_16 : decode cL_pour 16 = .ok (.ireturn, 1) := by decide +kernel
theorem dL_pour_17 : decode cL_pour 17 = .ok (.astore 4, 2) := by decide +kernel
theorem dL_pour_19 : decode cL_pour 19 = .ok (.iconst 2, 1) := by decide +kernel
theorem dL_pour_20 : decode cL_pour 20 = .ok (.ireturn, 1) := by decide +kernel
theorem dL_pour_21 : decode cL_pour 21 = .ok (.iconst 0, 1) := by decide +kernel
theorem dL_pour_22 : decode cL_pour 22 = .ok (.ireturn, 1) := by decide +kernel
set_option maxRecDepth 20000 in
theorem ggL_sweep_X1_sweep : GoodIn wsL_sweep wsX1_sweep := goodIn_ca (goodIn_r _ [6, 7, 8, 9, 10, 11, 12, 5, 13, 14, 15, 16, 17, 18, 19, 20, 21, 22, 23, 24, 25, 26, 27, 28, 29, 30, 31, 32, 33, 34, 35, 36, 37, 38, 39, 40, 41, 42, 43, 44, 45, 46, 47, 48, 49, 50, 51, 52, 53, 54, 55, 56, 57, 58, 59, 60, 61, 62] (by decide +kernel) (by decide +kernel)) (goodIn_sub (fun _ h => List.mem_cons_of_mem _ (List.mem_append_right _ h)) (by decide +kernel))
set_option maxRecDepth 20000 in
theorem gL_sweep_X1_sweep : GoodIn wsL_sweep (wsV RL 57 RX1 yX1_sweep wsX1_sweep) := goodIn_app (goodIn_of _ (by decide +kernel)) ggL_sweep_X1_sweep
theorem dL_sweep_0 : decode cL_sweep 0 = .ok (.aload_n 2, 1) := by decide +kernel
theorem dL_sweep_1 : decode cL_sweep 1 = .ok (.iconst 0, 1) := by decide +kernel
theorem dL_sweep_2 : decode cL_sweep 2 = .ok (.aload_n 0, 1) := by decide +kernel
theorem dL_sweep_3 : decode cL_sweep 3 = .ok (.iload_n 1, 1) := by decide +kernel
theorem dL_sweep_4 : decode cL_sweep 4 = .ok (.invokevirtual 57, 3) := by decide +kernel
theorem dL_sweep_7 : decode cL_sweep 7 = .ok (.i2l, 1) := by decide +kernel
theorem dL_sweep_8 : decode cL_sweep 8 = .ok (.lastore, 1) := by decide +kernel
theorem dL_sweep_9 : decode cL_sweep 9 = .ok (.goto 6, 3) := by decide +kernel
theorem dL_sweep_12 : decode cL_sweep 12 = .ok (.astore_n 3, 1) := by decide +kernel
theorem dL_sweep_13 : decode cL_sweep 13 = .ok (.iconst 1, 1) := by decide +kernel
theorem dL_sweep_14 : decode cL_sweep 14 = .ok (.ireturn, 1) := by decide +kernel
theorem dL_sweep_15 : decode cL_sweep 15 = .ok (.iconst 0, 1) := by decide +kernel
theorem dL_sweep_16 : decode cL_sweep 16 = .ok (.ireturn, 1) := by decide +kernel
set_option maxRecDepth 20000 in
theorem ggL_heavier_X1_heavier : GoodIn wsL_heavier wsX1_heavier := goodIn_ca (goodIn_r _ [6, 7, 8, 9, 5, 10, 11, 12, 13, 14, 15, 16, 17, 18, 19, 20, 21, 22, 23, 24, 25, 26, 27, 28, 29, 30, 31, 32, 33, 34, 35, 36, 37, 38, 39, 40, 41, 42, 43, 44, 45, 46, 47, 48, 49, 50] (by decide +kernel) (by decide +kernel)) (goodIn_sub (fun _ h => List.mem_cons_of_mem _ (List.mem_append_right _ h)) (by decide +kernel))
set_option maxRecDepth 20000 in
theorem gL_heavier_X1_heavier : GoodIn wsL_heavier (wsV RL 61 RX1 yX1_heavier wsX1_heavier) := goodIn_app (goodIn_of _ (by decide +kernel)) ggL_heavier_X1_heavier
theorem dL_heavier_0 : decode cL_heavier 0 = .ok (.aload_n 3, 1) := by decide +kernel
theorem dL_heavier_1 : decode cL_heavier 1 = .ok (.iconst 0, 1) := by decide +kernel
theorem dL_heavier_2 : decode cL_heavier 2 = .ok (.aload_n 0, 1) := by decide +kernel
theorem dL_heavier_3 : decode cL_heavier 3 = .ok (.iload_n 1, 1) := by decide +kernel
theorem dL_heavier_4 : decode cL_heavier 4 = .ok (.iload_n 2, 1) := by decide +kernel
theorem dL_heavier_5 : decode cL_heavier 5 = .ok (.invokevirtual 61, 3) := by decide +kernel
theorem dL_heavier_8 : decode cL_heavier 8 = .ok (.i2l, 1) := by decide +kernel
theorem dL_heavier_9 : decode cL_heavier 9 = .ok (.lastore, 1) := by decide +kernel
theorem dL_heavier_10 : decode cL_heavier 10 = .ok (.goto 7, 3) := by decide +kernel
theorem dL_heavier_13 : decode cL_heavier 13 = .ok (.astore 4, 2) := by decide +kernel
theorem dL_heavier_15 : decode cL_heavier 15 = .ok (.iconst 1, 1) := by decide +kernel
theorem dL_heavier_16 : decode cL_heavier 16 = .ok (.ireturn, 1) := by decide +kernel
theorem dL_heavier_17 : decode cL_heavier 17 = .ok (.iconst 0, 1) := by decide +kernel
theorem dL_heavier_18 : decode cL_heavier 18 = .ok (.ireturn, 1) := by decide +kernel
set_option maxRecDepth 20000 in
theorem ggL_alike_X1_alike : GoodIn wsL_alike wsX1_alike := goodIn_ca (goodIn_r _ [6, 7, 8, 9, 10, 11, 12, 13, 14, 15, 16, 5, 17, 18, 19, 20, 21, 22, 23, 24, 25, 26, 27, 28, 29, 30, 31, 32, 33, 34, 35, 36, 37, 38, 39, 40, 41, 42, 43, 44] (by decide +kernel) (by decide +kernel)) (goodIn_sub (fun _ h => List.mem_cons_of_mem _ (List.mem_append_right _ h)) (by decide +kernel))
set_option maxRecDepth 20000 in
theorem gL_alike_X1_alike : GoodIn wsL_alike (wsV RL 64 RX1 yX1_alike wsX1_alike) := goodIn_app (goodIn_of _ (by decide +kernel)) ggL_alike_X1_alike
theorem dL_alike_0 : decode cL_alike 0 = .ok (.aload_n 3, 1) := by decide +kernel
theorem dL_alike_1 : decode cL_alike 1 = .ok (.iconst 0, 1) := by decide +kernel
theorem dL_alike_2 : decode cL_alike 2 = .ok (.aload_n 0, 1) := by decide +kernel
theorem dL_alike_3 : decode cL_alike 3 = .ok (.iload_n 1, 1) := by decide +kernel
theorem dL_alike_4 : decode cL_alike 4 = .ok (.iload_n 2, 1) := by decide +kernel
theorem dL_alike_5 : decode cL_alike 5 = .ok (.invokevirtual 64, 3) := by decide +kernel
theorem dL_alike_8 : decode cL_alike 8 = .ok (.i2l, 1) := by decide +kernel
theorem dL_alike_9 : decode cL_alike 9 = .ok (.lastore, 1) := by decide +kernel
theorem dL_alike_10 : decode cL_alike 10 = .ok (.goto 7, 3) := by decide +kernel
theorem dL_alike_13 : decode cL_alike 13 = .ok (.astore 4, 2) := by decide +kernel
theorem dL_alike_15 : decode cL_alike 15 = .ok (.iconst 1, 1) := by decide +kernel
theorem dL_alike_16 : decode cL_alike 16 = .ok (.ireturn, 1) := by decide +kernel
theorem dL_alike_17 : decode cL_alike 17 = .ok (.iconst 0, 1) := by decide +kernel
theorem dL_alike_18 : decode cL_alike 18 = .ok (.ireturn, 1) := by decide +kernel
set_option maxRecDepth 20000 in
theorem ggL_gauge_X1_gauge : GoodIn wsL_gauge wsX1_gauge := goodIn_ca (goodIn_r _ [6, 7, 8, 9, 10, 11, 12, 13, 14, 15, 16, 17, 18, 19, 20, 21, 22, 23, 24, 25, 26] (by decide +kernel) (by decide +kernel)) (goodIn_sub (fun _ h => List.mem_cons_of_mem _ (List.mem_append_right _ h)) (by decide +kernel))
set_option maxRecDepth 20000 in
theorem gL_gauge_X1_gauge : GoodIn wsL_gauge (wsV RL 67 RX1 yX1_gauge wsX1_gauge) := goodIn_app (goodIn_of _ (by decide +kernel)) ggL_gauge_X1_gauge
theorem dL_gauge_0 : decode cL_gauge 0 = .ok (.aload_n 2, 1) := by decide +kernel
theorem dL_gauge_1 : decode cL_gauge 1 = .ok (.iconst 0, 1) := by decide +kernel
theorem dL_gauge_2 : decode cL_gauge 2 = .ok (.aload_n 0, 1) := by decide +kernel
theorem dL_gauge_3 : decode cL_gauge 3 = .ok (.iload_n 1, 1) := by decide +kernel
theorem dL_gauge_4 : decode cL_gauge 4 = .ok (.invokevirtual 67, 3) := by decide +kernel
theorem dL_gauge_7 : decode cL_gauge 7 = .ok (.i2l, 1) := by decide +kernel
theorem dL_gauge_8 : decode cL_gauge 8 = .ok (.lastore, 1) := by decide +kernel
theorem dL_gauge_9 : decode cL_gauge 9 = .ok (.goto 6, 3) := by decide +kernel
theorem dL_gauge_12 : decode cL_gauge 12 = .ok (.astore_n 3, 1) := by decide +kernel
theorem dL_gauge_13 : decode cL_gauge 13 = .ok (.iconst 1, 1) := by decide +kernel
theorem dL_gauge_14 : decode cL_gauge 14 = .ok (.ireturn, 1) := by decide +kernel
theorem dL_gauge_15 : decode cL_gauge 15 = .ok (.iconst 0, 1) := by decide +kernel
theorem dL_gauge_16 : decode cL_gauge 16 = .ok (.ireturn, 1) := by decide +kernel
set_option maxRecDepth 20000 in
theorem ggL_law_X1_init : GoodIn wsL_law wsX1_init := goodIn_r _ [9, 10, 11, 12, 13, 14, 15, 16, 17, 18, 19, 20, 21, 22, 388, 389, 390, 391, 392, 393, 394, 395, 396, 397, 418, 419, 420, 421, 422, 423, 424, 425] (by decide +kernel) (by decide +kernel)
set_option maxRecDepth 20000 in
theorem gL_law_X1_init : GoodIn wsL_law (wsX1_init) := ggL_law_X1_init
set_option maxRecDepth 20000 in
theorem ggL_law_X2_init : GoodIn wsL_law wsX2_init := goodIn_r _ [25, 26, 11, 12, 20, 27, 28, 29, 30, 31, 32, 33, 34, 35, 36, 398, 399, 400, 401, 402, 403, 404, 405, 406, 407, 408, 409, 410, 411, 412, 413, 414, 415, 416, 417] (by decide +kernel) (by decide +kernel)
set_option maxRecDepth 20000 in
theorem gL_law_X2_init : GoodIn wsL_law (wsX2_init) := ggL_law_X2_init
set_option maxRecDepth 20000 in
theorem ggL_law_L_sort : GoodIn wsL_law wsL_sort := goodIn_ca (goodIn_ca (goodIn_ca (goodIn_r _ [40, 41, 42, 43, 44, 45, 46, 2, 47, 48, 49, 50, 51, 52, 53, 54, 55, 56, 57, 58, 59, 14, 418, 419, 420, 421, 422, 423, 424, 425, 388, 389, 390, 391, 392, 393, 394, 395, 396, 397] (by decide +kernel) (by decide +kernel)) (goodIn_sub (fun _ h => List.mem_append_left _ (List.mem_append_left _ (List.mem_append_left _ (List.mem_append_right _ h)))) (by decide +kernel))) (goodIn_sub (fun _ h => List.mem_append_left _ (List.mem_append_left _ (List.mem_append_right _ h))) (by decide +kernel))) (goodIn_sub (fun _ h => List.mem_append_left _ (List.mem_append_right _ h)) (by decide +kernel))
set_option maxRecDepth 20000 in
theorem gL_law_L_sort : GoodIn wsL_law (va_wsS RL 74 yL_sort wsL_sort) := goodIn_app (goodIn_of _ (by decide +kernel)) ggL_law_L_sort
set_option maxRecDepth 20000 in
theorem ggL_law_X2_sort : GoodIn wsL_law wsX2_sort := goodIn_r _ [63, 64, 31, 65, 66, 5, 67, 68, 69, 70, 71, 72, 73, 74, 27, 398, 399, 400, 401, 402, 403, 404, 405, 406, 407, 408, 409, 410, 411, 412, 413, 414, 415, 416, 417] (by decide +kernel) (by decide +kernel)
set_option maxRecDepth 20000 in
theorem gL_law_X2_sort : GoodIn wsL_law (wsV RL 79 RX2 yX2_sort wsX2_sort) := goodIn_app (goodIn_of _ (by decide +kernel)) ggL_law_X2_sort
set_option maxRecDepth 20000 in
theorem ggL_law_X2_thrown : GoodIn wsL_law wsX2_thrown := goodIn_r _ [78, 64, 398, 399, 400, 401, 402, 403, 404, 405, 406, 407, 408, 409, 410, 411, 412, 413, 414, 415, 416, 417] (by decide +kernel) (by decide +kernel)
set_option maxRecDepth 20000 in
theorem gL_law_X2_thrown : GoodIn wsL_law (wsV RL 80 RX2 yX2_thrown wsX2_thrown) := goodIn_app (goodIn_of _ (by decide +kernel)) ggL_law_X2_thrown
set_option maxRecDepth 20000 in
theorem ggL_law_L_limits : GoodIn wsL_law wsL_limits := goodIn_ca (goodIn_ca (goodIn_ca (goodIn_r _ [81, 41, 42, 43, 82, 83, 84, 2, 85, 50, 51, 86, 87, 88, 54, 55, 56, 57, 58, 59, 14, 89, 90, 91, 48, 49, 92, 93, 94, 95, 96, 97, 98, 99, 100, 101, 102, 103, 104, 418, 419, 420, 421, 422, 423, 424, 425, 388, 389, 390, 391, 392, 393, 394, 395, 396, 397] (by decide +kernel) (by decide +kernel)) (goodIn_sub (fun _ h => List.mem_append_left _ (List.mem_append_left _ (List.mem_append_right _ h))) (by decide +kernel))) (goodIn_sub (fun _ h => List.mem_append_left _ (List.mem_append_right _ h)) (by decide +kernel))) (goodIn_sub (fun _ h => List.mem_append_left _ (List.mem_append_left _ (List.mem_append_left _ (List.mem_append_right _ h)))) (by decide +kernel))
set_option maxRecDepth 20000 in
theorem gL_law_L_limits : GoodIn wsL_law (va_wsS RL 84 yL_limits wsL_limits) := goodIn_app (goodIn_of _ (by decide +kernel)) ggL_law_L_limits
set_option maxRecDepth 20000 in
theorem ggL_law_X2_limits : GoodIn wsL_law wsX2_limits := goodIn_r _ [108, 109, 64, 32, 33, 34, 65, 66, 5, 67, 68, 69, 70, 110, 111, 112, 113, 114, 115, 398, 399, 400, 401, 402, 403, 404, 405, 406, 407, 408, 409, 410, 411, 412, 413, 414, 415, 416, 417] (by decide +kernel) (by decide +kernel)
set_option maxRecDepth 20000 in
theorem gL_law_X2_limits : GoodIn wsL_law (wsV RL 87 RX2 yX2_limits wsX2_limits) := goodIn_app (goodIn_of _ (by decide +kernel)) ggL_law_X2_limits
set_option maxRecDepth 20000 in
theorem ggL_law_L_shut : GoodIn wsL_law wsL_shut := goodIn_ca (goodIn_r _ [118, 41, 119, 120, 121, 2, 122, 123, 54, 55, 56, 57, 58, 59, 14, 418, 419, 420, 421, 422, 423, 424, 425, 388, 389, 390, 391, 392, 393, 394, 395, 396, 397] (by decide +kernel) (by decide +kernel)) (goodIn_sub (fun _ h => List.mem_append_left _ (List.mem_append_right _ h)) (by decide +kernel))
set_option maxRecDepth 20000 in
theorem gL_law_L_shut : GoodIn wsL_law (va_wsS RL 88 yL_shut wsL_shut) := goodIn_app (goodIn_of _ (by decide +kernel)) ggL_law_L_shut
set_option maxRecDepth 20000 in
theorem ggL_law_X2_shut : GoodIn wsL_law wsX2_shut := goodIn_r _ [127, 64, 36, 65, 66, 5, 67, 68, 69, 70, 398, 399, 400, 401, 402, 403, 404, 405, 406, 407, 408, 409, 410, 411, 412, 413, 414, 415, 416, 417] (by decide +kernel) (by decide +kernel)
set_option maxRecDepth 20000 in
theorem gL_law_X2_shut : GoodIn wsL_law (wsV RL 91 RX2 yX2_shut wsX2_shut) := goodIn_app (goodIn_of _ (by decide +kernel)) ggL_law_X2_shut
set_option maxRecDepth 20000 in
theorem ggL_law_L_send : GoodIn wsL_law wsL_send := goodIn_ca (goodIn_r _ [130, 42, 131, 132, 133, 2, 134, 14, 123, 89, 90, 91, 48, 49, 92, 93, 94, 95, 135, 136, 137, 138, 139, 140, 141, 142, 143, 144, 96, 97, 98, 99, 100, 101, 145, 146, 147, 16, 148, 149, 21, 22, 150, 151, 152, 153, 154, 155, 156, 157, 158, 159, 160, 161, 162, 163, 164, 165, 166, 167, 168, 388, 389, 390, 391, 392, 393, 394, 395, 396, 397, 418, 419, 420, 421, 422, 423, 424, 425] (by decide +kernel) (by decide +kernel)) (goodIn_sub (fun _ h => List.mem_append_left _ (List.mem_append_left _ (List.mem_append_left _ (List.mem_append_right _ h)))) (by decide +kernel))
set_option maxRecDepth 20000 in
theorem gL_law_L_send : GoodIn wsL_law (va_wsS RL 92 yL_send wsL_send) := goodIn_app (goodIn_of _ (by decide +kernel)) ggL_law_L_send
set_option maxRecDepth 20000 in
theorem ggL_law_X2_send : GoodIn wsL_law wsX2_send := goodIn_r _ [172, 64, 36, 173, 174, 5, 175, 109, 68, 69, 70, 176, 177, 178, 179, 180, 181, 182, 183, 184, 185, 110, 111, 112, 113, 114, 115, 71, 72, 73, 74, 27, 186, 187, 188, 189, 31, 32, 33, 34, 190, 191, 192, 193, 28, 29, 30, 194, 195, 196, 197, 198, 199, 200, 201, 398, 399, 400, 401, 402, 403, 404, 405, 406, 407, 408, 409, 410, 411, 412, 413, 414, 415, 416, 417] (by decide +kernel) (by decide +kernel)
set_option maxRecDepth 20000 in
theorem gL_law_X2_send : GoodIn wsL_law (wsV RL 94 RX2 yX2_send wsX2_send) := goodIn_app (goodIn_of _ (by decide +kernel)) ggL_law_X2_send
set_option maxRecDepth 20000 in
theorem ggL_law_L_fits : GoodIn wsL_law wsL_fits := goodIn_ca (goodIn_r _ [204, 42, 205, 206, 207, 2, 208, 14, 89, 90, 91, 48, 49, 92, 93, 94, 95, 209, 151, 152, 16, 153, 154, 155, 156, 157, 97, 98, 99, 100, 101, 388, 389, 390, 391, 392, 393, 394, 395, 396, 397, 418, 419, 420, 421, 422, 423, 424, 425] (by decide +kernel) (by decide +kernel)) (goodIn_sub (fun _ h => List.mem_append_left _ (List.mem_append_left _ (List.mem_append_left _ (List.mem_append_right _ h)))) (by decide +kernel))
set_option maxRecDepth 20000 in
theorem gL_law_L_fits : GoodIn wsL_law (va_wsS RL 95 yL_fits wsL_fits) := goodIn_app (goodIn_of _ (by decide +kernel)) ggL_law_L_fits
set_option maxRecDepth 20000 in
theorem ggL_law_X2_fits : GoodIn wsL_law wsX2_fits := goodIn_r _ [213, 64, 173, 174, 5, 175, 109, 68, 69, 70, 186, 187, 188, 189, 31, 32, 33, 34, 110, 111, 112, 113, 114, 115, 398, 399, 400, 401, 402, 403, 404, 405, 406, 407, 408, 409, 410, 411, 412, 413, 414, 415, 416, 417] (by decide +kernel) (by decide +kernel)
set_option maxRecDepth 20000 in
theorem gL_law_X2_fits : GoodIn wsL_law (wsV RL 97 RX2 yX2_fits wsX2_fits) := goodIn_app (goodIn_of _ (by decide +kernel)) ggL_law_X2_fits
set_option maxRecDepth 20000 in
theorem ggL_law_L_signs : GoodIn wsL_law wsL_signs := goodIn_ca (goodIn_ca (goodIn_r _ [216, 41, 42, 217, 218, 219, 2, 220, 48, 49, 86, 87, 88, 54, 55, 56, 57, 58, 59, 14, 89, 90, 91, 92, 99, 100, 101, 93, 94, 95, 418, 419, 420, 421, 422, 423, 424, 425, 388, 389, 390, 391, 392, 393, 394, 395, 396, 397] (by decide +kernel) (by decide +kernel)) (goodIn_sub (fun _ h => List.mem_append_left _ (List.mem_append_left _ (List.mem_append_left _ (List.mem_append_right _ h)))) (by decide +kernel))) (goodIn_sub (fun _ h => List.mem_append_left _ (List.mem_append_right _ h)) (by decide +kernel))
set_option maxRecDepth 20000 in
theorem gL_law_L_signs : GoodIn wsL_law (va_wsS RL 98 yL_signs wsL_signs) := goodIn_app (goodIn_of _ (by decide +kernel)) ggL_law_L_signs
set_option maxRecDepth 20000 in
theorem ggL_law_X2_signs : GoodIn wsL_law wsX2_signs := goodIn_r _ [224, 109, 64, 32, 33, 34, 65, 66, 5, 67, 68, 69, 70, 113, 114, 115, 398, 399, 400, 401, 402, 403, 404, 405, 406, 407, 408, 409, 410, 411, 412, 413, 414, 415, 416, 417] (by decide +kernel) (by decide +kernel)
set_option maxRecDepth 20000 in
theorem gL_law_X2_signs : GoodIn wsL_law (wsV RL 101 RX2 yX2_signs wsX2_signs) := goodIn_app (goodIn_of _ (by decide +kernel)) ggL_law_X2_signs
set_option maxRecDepth 20000 in
theorem ggL_law_L_chute : GoodIn wsL_law wsL_chute := goodIn_ca (goodIn_ca (goodIn_r _ [227, 41, 42, 228, 229, 230, 2, 231, 48, 49, 53, 86, 87, 88, 123, 52, 232, 233, 54, 55, 56, 57, 58, 59, 14, 102, 103, 104, 234, 235, 236, 16, 237, 149, 418, 419, 420, 421, 422, 423, 424, 425, 388, 389, 390, 391, 392, 393, 394, 395, 396, 397] (by decide +kernel) (by decide +kernel)) (goodIn_sub (fun _ h => List.mem_append_left _ (List.mem_append_left _ (List.mem_append_left _ (List.mem_append_right _ h)))) (by decide +kernel))) (goodIn_sub (fun _ h => List.mem_append_left _ (List.mem_append_right _ h)) (by decide +kernel))
set_option maxRecDepth 20000 in
theorem gL_law_L_chute : GoodIn wsL_law (va_wsS RL 102 yL_chute wsL_chute) := goodIn_app (goodIn_of _ (by decide +kernel)) ggL_law_L_chute
set_option maxRecDepth 20000 in
theorem ggL_law_X2_chute : GoodIn wsL_law wsX2_chute := goodIn_r _ [241, 64, 31, 32, 33, 34, 36, 65, 66, 5, 67, 68, 69, 70, 71, 72, 73, 74, 27, 242, 243, 244, 245, 29, 28, 398, 399, 400, 401, 402, 403, 404, 405, 406, 407, 408, 409, 410, 411, 412, 413, 414, 415, 416, 417] (by decide +kernel) (by decide +kernel)
set_option maxRecDepth 20000 in
theorem gL_law_X2_chute : GoodIn wsL_law (wsV RL 104 RX2 yX2_chute wsX2_chute) := goodIn_app (goodIn_of _ (by decide +kernel)) ggL_law_X2_chute
set_option maxRecDepth 20000 in
theorem ggL_law_L_weight : GoodIn wsL_law wsL_weight := goodIn_ca (goodIn_ca (goodIn_r _ [248, 41, 249, 250, 251, 252, 2, 253, 232, 54, 55, 56, 57, 58, 59, 14, 254, 255, 256, 257, 258, 52, 418, 419, 420, 421, 422, 423, 424, 425, 388, 389, 390, 391, 392, 393, 394, 395, 396, 397] (by decide +kernel) (by decide +kernel)) (goodIn_sub (fun _ h => List.mem_append_left _ (List.mem_append_right _ h)) (by decide +kernel))) (goodIn_sub (fun _ h => List.mem_append_right _ h) (by decide +kernel))
set_option maxRecDepth 20000 in
theorem gL_law_L_weight : GoodIn wsL_law (va_wsS RL 105 yL_weight wsL_weight) := goodIn_app (goodIn_of _ (by decide +kernel)) ggL_law_L_weight
set_option maxRecDepth 20000 in
theorem ggL_law_X2_weight : GoodIn wsL_law wsX2_weight := goodIn_r _ [262, 64, 28, 263, 264, 265, 5, 266, 65, 66, 67, 68, 69, 70, 267, 268, 269, 270, 27, 271, 272, 273, 274, 275, 276, 277, 278, 30, 398, 399, 400, 401, 402, 403, 404, 405, 406, 407, 408, 409, 410, 411, 412, 413, 414, 415, 416, 417] (by decide +kernel) (by decide +kernel)
set_option maxRecDepth 20000 in
theorem gL_law_X2_weight : GoodIn wsL_law (wsV RL 107 RX2 yX2_weight wsX2_weight) := goodIn_app (goodIn_of _ (by decide +kernel)) ggL_law_X2_weight
set_option maxRecDepth 20000 in
theorem ggL_law_L_girth : GoodIn wsL_law wsL_girth := goodIn_ca (goodIn_ca (goodIn_r _ [281, 41, 249, 282, 283, 284, 2, 285, 233, 54, 55, 56, 57, 58, 59, 14, 254, 255, 256, 257, 258, 52, 418, 419, 420, 421, 422, 423, 424, 425, 388, 389, 390, 391, 392, 393, 394, 395, 396, 397] (by decide +kernel) (by decide +kernel)) (goodIn_sub (fun _ h => List.mem_append_left _ (List.mem_append_right _ h)) (by decide +kernel))) (goodIn_sub (fun _ h => List.mem_append_right _ h) (by decide +kernel))
set_option maxRecDepth 20000 in
theorem gL_law_L_girth : GoodIn wsL_law (va_wsS RL 108 yL_girth wsL_girth) := goodIn_app (goodIn_of _ (by decide +kernel)) ggL_law_L_girth
set_option maxRecDepth 20000 in
theorem ggL_law_X2_girth : GoodIn wsL_law wsX2_girth := goodIn_r _ [289, 64, 29, 263, 264, 265, 5, 266, 65, 66, 67, 68, 69, 70, 267, 268, 269, 270, 27, 271, 272, 273, 274, 275, 276, 277, 278, 28, 30, 398, 399, 400, 401, 402, 403, 404, 405, 406, 407, 408, 409, 410, 411, 412, 413, 414, 415, 416, 417] (by decide +kernel) (by decide +kernel)
set_option maxRecDepth 20000 in
theorem gL_law_X2_girth : GoodIn wsL_law (wsV RL 110 RX2 yX2_girth wsX2_girth) := goodIn_app (goodIn_of _ (by decide +kernel)) ggL_law_X2_girth
set_option maxRecDepth 20000 in
theorem ggL_law_L_below : GoodIn wsL_law wsL_below := goodIn_ca (goodIn_ca (goodIn_r _ [292, 41, 42, 293, 294, 295, 2, 296, 52, 232, 54, 55, 56, 57, 58, 59, 14, 89, 90, 91, 48, 49, 92, 96, 97, 98, 99, 100, 101, 102, 103, 104, 418, 419, 420, 421, 422, 423, 424, 425, 388, 389, 390, 391, 392, 393, 394, 395, 396, 397] (by decide +kernel) (by decide +kernel)) (goodIn_sub (fun _ h => List.mem_append_left _ (List.mem_append_right _ h)) (by decide +kernel))) (goodIn_sub (fun _ h => List.mem_append_left _ (List.mem_append_left _ (List.mem_append_left _ (List.mem_append_right _ h)))) (by decide +kernel))
set_option maxRecDepth 20000 in
theorem gL_law_L_below : GoodIn wsL_law (va_wsS RL 111 yL_below wsL_below) := goodIn_app (goodIn_of _ (by decide +kernel)) ggL_law_L_below
set_option maxRecDepth 20000 in
theorem ggL_law_X2_below : GoodIn wsL_law wsX2_below := goodIn_r _ [300, 109, 64, 27, 28, 65, 66, 5, 67, 68, 69, 70, 110, 111, 112, 113, 114, 115, 398, 399, 400, 401, 402, 403, 404, 405, 406, 407, 408, 409, 410, 411, 412, 413, 414, 415, 416, 417] (by decide +kernel) (by decide +kernel)
set_option maxRecDepth 20000 in
theorem gL_law_X2_below : GoodIn wsL_law (wsV RL 113 RX2 yX2_below wsX2_below) := goodIn_app (goodIn_of _ (by decide +kernel)) ggL_law_X2_below
set_option maxRecDepth 20000 in
theorem ggL_law_L_take : GoodIn wsL_law wsL_take := goodIn_ca (goodIn_ca (goodIn_ca (goodIn_r _ [303, 41, 42, 249, 304, 305, 306, 2, 307, 233, 54, 55, 56, 57, 58, 59, 14, 89, 90, 91, 48, 49, 92, 308, 309, 310, 16, 311, 149, 21, 254, 255, 256, 257, 258, 52, 312, 313, 314, 315, 22, 418, 419, 420, 421, 422, 423, 424, 425, 388, 389, 390, 391, 392, 393, 394, 395, 396, 397] (by decide +kernel) (by decide +kernel)) (goodIn_sub (fun _ h => List.mem_append_left _ (List.mem_append_right _ h)) (by decide +kernel))) (goodIn_sub (fun _ h => List.mem_append_left _ (List.mem_append_left _ (List.mem_append_left _ (List.mem_append_right _ h)))) (by decide +kernel))) (goodIn_sub (fun _ h => List.mem_append_right _ h) (by decide +kernel))
set_option maxRecDepth 20000 in
theorem gL_law_L_take : GoodIn wsL_law (va_wsS RL 114 yL_take wsL_take) := goodIn_app (goodIn_of _ (by decide +kernel)) ggL_law_L_take
set_option maxRecDepth 20000 in
theorem ggL_law_X2_take : GoodIn wsL_law wsX2_take := goodIn_r _ [319, 109, 64, 27, 28, 30, 29, 65, 66, 5, 67, 68, 69, 70, 398, 399, 400, 401, 402, 403, 404, 405, 406, 407, 408, 409, 410, 411, 412, 413, 414, 415, 416, 417] (by decide +kernel) (by decide +kernel)
set_option maxRecDepth 20000 in
theorem gL_law_X2_take : GoodIn wsL_law (wsV RL 116 RX2 yX2_take wsX2_take) := goodIn_app (goodIn_of _ (by decide +kernel)) ggL_law_X2_take
set_option maxRecDepth 20000 in
theorem ggL_law_L_pour : GoodIn wsL_law wsL_pour := goodIn_ca (goodIn_ca (goodIn_r _ [322, 41, 42, 323, 324, 325, 2, 326, 48, 49, 52, 232, 233, 54, 55, 56, 57, 58, 59, 14, 145, 146, 147, 16, 148, 149, 21, 22, 150, 151, 152, 153, 154, 155, 156, 157, 97, 98, 99, 100, 101, 158, 159, 160, 161, 312, 313, 314, 315, 418, 419, 420, 421, 422, 423, 424, 425, 388, 389, 390, 391, 392, 393, 394, 395, 396, 397] (by decide +kernel) (by decide +kernel)) (goodIn_sub (fun _ h => List.mem_append_left _ (List.mem_append_left _ (List.mem_append_left _ (List.mem_append_right _ h)))) (by decide +kernel))) (goodIn_sub (fun _ h => List.mem_append_left _ (List.mem_append_right _ h)) (by decide +kernel))
set_option maxRecDepth 20000 in
theorem gL_law_L_pour : GoodIn wsL_law (va_wsS RL 117 yL_pour wsL_pour) := goodIn_app (goodIn_of _ (by decide +kernel)) ggL_law_L_pour
set_option maxRecDepth 20000 in
theorem ggL_law_X2_pour : GoodIn wsL_law wsX2_pour := goodIn_r _ [330, 64, 28, 29, 27, 30, 194, 65, 66, 5, 67, 68, 69, 70, 71, 72, 73, 74, 267, 268, 269, 270, 271, 272, 273, 274, 275, 276, 277, 278, 186, 187, 188, 189, 31, 32, 33, 34, 110, 111, 112, 113, 114, 115, 398, 399, 400, 401, 402, 403, 404, 405, 406, 407, 408, 409, 410, 411, 412, 413, 414, 415, 416, 417] (by decide +kernel) (by decide +kernel)
set_option maxRecDepth 20000 in
theorem gL_law_X2_pour : GoodIn wsL_law (wsV RL 119 RX2 yX2_pour wsX2_pour) := goodIn_app (goodIn_of _ (by decide +kernel)) ggL_law_X2_pour
set_option maxRecDepth 20000 in
theorem ggL_law_L_sweep : GoodIn wsL_law wsL_sweep := goodIn_ca (goodIn_r _ [333, 41, 334, 335, 336, 2, 337, 52, 232, 233, 54, 55, 56, 57, 58, 59, 14, 209, 151, 152, 16, 153, 154, 155, 156, 157, 97, 98, 99, 100, 101, 162, 163, 164, 165, 166, 167, 168, 312, 313, 314, 315, 149, 21, 22, 418, 419, 420, 421, 422, 423, 424, 425, 388, 389, 390, 391, 392, 393, 394, 395, 396, 397] (by decide +kernel) (by decide +kernel)) (goodIn_sub (fun _ h => List.mem_append_left _ (List.mem_append_right _ h)) (by decide +kernel))
set_option maxRecDepth 20000 in
theorem gL_law_L_sweep : GoodIn wsL_law (va_wsS RL 120 yL_sweep wsL_sweep) := goodIn_app (goodIn_of _ (by decide +kernel)) ggL_law_L_sweep
set_option maxRecDepth 20000 in
theorem ggL_law_X2_sweep : GoodIn wsL_law wsX2_sweep := goodIn_r _ [341, 64, 28, 29, 27, 65, 66, 5, 67, 68, 69, 70, 71, 72, 73, 74, 267, 268, 269, 270, 271, 272, 273, 274, 275, 276, 277, 278, 30, 186, 187, 188, 189, 31, 32, 33, 34, 110, 111, 112, 113, 114, 115, 195, 196, 197, 198, 199, 200, 201, 398, 399, 400, 401, 402, 403, 404, 405, 406, 407, 408, 409, 410, 411, 412, 413, 414, 415, 416, 417] (by decide +kernel) (by decide +kernel)
set_option maxRecDepth 20000 in
theorem gL_law_X2_sweep : GoodIn wsL_law (wsV RL 123 RX2 yX2_sweep wsX2_sweep) := goodIn_app (goodIn_of _ (by decide +kernel)) ggL_law_X2_sweep
set_option maxRecDepth 20000 in
theorem ggL_law_L_heavier : GoodIn wsL_law wsL_heavier := goodIn_ca (goodIn_r _ [344, 41, 345, 346, 347, 2, 348, 54, 55, 56, 57, 58, 59, 14, 349, 350, 351, 16, 352, 149, 21, 353, 235, 236, 237, 103, 104, 96, 97, 98, 99, 100, 101, 388, 389, 390, 391, 392, 393, 394, 395, 396, 397, 418, 419, 420, 421, 422, 423, 424, 425] (by decide +kernel) (by decide +kernel)) (goodIn_sub (fun _ h => List.mem_append_left _ (List.mem_append_right _ h)) (by decide +kernel))
set_option maxRecDepth 20000 in
theorem gL_law_L_heavier : GoodIn wsL_law (va_wsS RL 124 yL_heavier wsL_heavier) := goodIn_app (goodIn_of _ (by decide +kernel)) ggL_law_L_heavier
set_option maxRecDepth 20000 in
theorem ggL_law_X2_heavier : GoodIn wsL_law wsX2_heavier := goodIn_r _ [357, 64, 65, 66, 5, 67, 68, 69, 70, 358, 359, 360, 361, 27, 28, 113, 114, 115, 398, 399, 400, 401, 402, 403, 404, 405, 406, 407, 408, 409, 410, 411, 412, 413, 414, 415, 416, 417] (by decide +kernel) (by decide +kernel)
set_option maxRecDepth 20000 in
theorem gL_law_X2_heavier : GoodIn wsL_law (wsV RL 126 RX2 yX2_heavier wsX2_heavier) := goodIn_app (goodIn_of _ (by decide +kernel)) ggL_law_X2_heavier
set_option maxRecDepth 20000 in
theorem ggL_law_L_alike : GoodIn wsL_law wsL_alike := goodIn_ca (goodIn_r _ [364, 41, 365, 366, 367, 2, 368, 52, 369, 370, 371, 372, 232, 233, 54, 55, 56, 57, 58, 59, 14, 96, 97, 98, 99, 100, 101, 418, 419, 420, 421, 422, 423, 424, 425, 388, 389, 390, 391, 392, 393, 394, 395, 396, 397] (by decide +kernel) (by decide +kernel)) (goodIn_sub (fun _ h => List.mem_append_left _ (List.mem_append_right _ h)) (by decide +kernel))
set_option maxRecDepth 20000 in
theorem gL_law_L_alike : GoodIn wsL_law (va_wsS RL 127 yL_alike wsL_alike) := goodIn_app (goodIn_of _ (by decide +kernel)) ggL_law_L_alike
set_option maxRecDepth 20000 in
theorem ggL_law_X2_alike : GoodIn wsL_law wsX2_alike := goodIn_r _ [376, 64, 28, 29, 65, 66, 5, 67, 68, 69, 70, 267, 268, 269, 270, 27, 271, 272, 273, 274, 275, 276, 277, 278, 30, 110, 111, 112, 113, 114, 115, 398, 399, 400, 401, 402, 403, 404, 405, 406, 407, 408, 409, 410, 411, 412, 413, 414, 415, 416, 417] (by decide +kernel) (by decide +kernel)
set_option maxRecDepth 20000 in
theorem gL_law_X2_alike : GoodIn wsL_law (wsV RL 129 RX2 yX2_alike wsX2_alike) := goodIn_app (goodIn_of _ (by decide +kernel)) ggL_law_X2_alike
set_option maxRecDepth 20000 in
theorem ggL_law_L_gauge : GoodIn wsL_law wsL_gauge := goodIn_ca (goodIn_r _ [379, 42, 380, 381, 382, 2, 383, 48, 49, 139, 140, 141, 143, 144, 166, 167, 168, 388, 389, 390, 391, 392, 393, 394, 395, 396, 397] (by decide +kernel) (by decide +kernel)) (goodIn_sub (fun _ h => List.mem_append_left _ (List.mem_append_left _ (List.mem_append_left _ (List.mem_append_right _ h)))) (by decide +kernel))
set_option maxRecDepth 20000 in
theorem gL_law_L_gauge : GoodIn wsL_law (va_wsS RL 130 yL_gauge wsL_gauge) := goodIn_app (goodIn_of _ (by decide +kernel)) ggL_law_L_gauge
set_option maxRecDepth 20000 in
theorem ggL_law_X2_gauge : GoodIn wsL_law wsX2_gauge := goodIn_r _ [387, 64, 183, 184, 185, 182, 180, 199, 200, 201, 68, 69, 5, 70, 398, 399, 400, 401, 402, 403, 404, 405, 406, 407, 408, 409, 410, 411, 412, 413, 414, 415, 416, 417] (by decide +kernel) (by decide +kernel)
set_option maxRecDepth 20000 in
theorem gL_law_X2_gauge : GoodIn wsL_law (wsV RL 132 RX2 yX2_gauge wsX2_gauge) := goodIn_app (goodIn_of _ (by decide +kernel)) ggL_law_X2_gauge
theorem dL_law_0 : decode cL_law 0 = .ok (.new 8, 3) := by decide +kernel
theorem dL_law_3 : decode cL_law 3 = .ok (.dup, 1) := by decide +kernel
theorem dL_law_4 : decode cL_law 4 = .ok (.invokespecial 70, 3) := by decide +kernel
theorem dL_law_7 : decode cL_law 7 = .ok (.astore_n 1, 1) := by decide +kernel
theorem dL_law_8 : decode cL_law 8 = .ok (.new 71, 3) := by decide +kernel
theorem dL_law_11 : decode cL_law 11 = .ok (.dup, 1) := by decide +kernel
theorem dL_law_12 : decode cL_law 12 = .ok (.invokespecial 73, 3) := by decide +kernel
theorem dL_law_15 : decode cL_law 15 = .ok (.astore_n 2, 1) := by decide +kernel
theorem dL_law_16 : decode cL_law 16 = .ok (.iconst 1, 1) := by decide +kernel
theorem dL_law_17 : decode cL_law 17 = .ok (.newarray .long, 2) := by decide +kernel
theorem dL_law_19 : decode cL_law 19 = .ok (.astore_n 3, 1) := by decide +kernel
theorem dL_law_20 : decode cL_law 20 = .ok (.iconst 0, 1) := by decide +kernel
theorem dL_law_21 : decode cL_law 21 = .ok (.istore 4, 2) := by decide +kernel
theorem dL_law_23 : decode cL_law 23 = .ok (.iload 4, 2) := by decide +kernel
theorem dL_law_25 : decode cL_law 25 = .ok (.aload_n 0, 1) := by decide +kernel
theorem dL_law_26 : decode cL_law 26 = .ok (.arraylength, 1) := by decide +kernel
theorem dL_law_27 : decode cL_law 27 = .ok (.iconst 5, 1) := by decide +kernel
theorem dL_law_28 : decode cL_law 28 = .ok (.isub, 1) := by decide +kernel
theorem dL_law_29 : decode cL_law 29 = .ok (.if_icmp .gt 1216, 3) := by decide +kernel
theorem dL_law_32 : decode cL_law 32 = .ok (.aload_n 0, 1) := by decide +kernel
theorem dL_law_33 : decode cL_law 33 = .ok (.iload 4, 2) := by decide +kernel
theorem dL_law_35 : decode cL_law 35 = .ok (.iaload, 1) := by decide +kernel
theorem dL_law_36 : decode cL_law 36 = .ok (.bipush 15, 2) := by decide +kernel
theorem dL_law_38 : decode cL_law 38 = .ok (.iand, 1) := by decide +kernel
theorem dL_law_39 : decode cL_law 39 = .ok (.tableswitch 1200 0 15 #[77, 145, 237, 328, 396, 464, 544, 612, 680, 748, 816, 884, 952, 1008, 1076, 1144], 77) := by decide +kernel
theorem dL_law_116 : decode cL_law 116 = .ok (.aload_n 1, 1) := by decide +kernel
theorem dL_law_117 : decode cL_law 117 = .ok (.aload_n 0, 1) := by decide +kernel
theorem dL_law_118 : decode cL_law 118 = .ok (.iload 4, 2) := by decide +kernel
theorem dL_law_120 : decode cL_law 120 = .ok (.iconst 1, 1) := by decide +kernel
theorem dL_law_121 : decode cL_law 121 = .ok (.iadd, 1) := by decide +kernel
theorem dL_law_122 : decode cL_law 122 = .ok (.iaload, 1) := by decide +kernel
theorem dL_law_123 : decode cL_law 123 = .ok (.aload_n 0, 1) := by decide +kernel
theorem dL_law_124 : decode cL_law 124 = .ok (.iload 4, 2) := by decide +kernel
theorem dL_law_126 : decode cL_law 126 = .ok (.iconst 2, 1) := by decide +kernel
theorem dL_law_127 : decode cL_law 127 = .ok (.iadd, 1) := by decide +kernel
theorem dL_law_128 : decode cL_law 128 = .ok (.iaload, 1) := by decide +kernel
theorem dL_law_129 : decode cL_law 129 = .ok (.aload_n 3, 1) := by decide +kernel
theorem dL_law_130 : decode cL_law 130 = .ok (.invokestatic 74, 3) := by decide +kernel
theorem dL_law_133 : decode cL_law 133 = .ok (.istore 5, 2) := by decide +kernel
theorem dL_law_135 : decode cL_law 135 = .ok (.aload_n 2, 1) := by decide +kernel
theorem dL_law_136 : decode cL_law 136 = .ok (.aload_n 0, 1) := by decide +kernel
theorem dL_law_137 : decode cL_law 137 = .ok (.iload 4, 2) := by decide +kernel
theorem dL_law_139 : decode cL_law 139 = .ok (.iconst 1, 1) := by decide +kernel
theorem dL_law_140 : decode cL_law 140 = .ok (.iadd, 1) := by decide +kernel
theorem dL_law_141 : decode cL_law 141 = .ok (.iaload, 1) := by decide +kernel
theorem dL_law_142 : decode cL_law 142 = .ok (.aload_n 0, 1) := by decide +kernel
theorem dL_law_143 : decode cL_law 143 = .ok (.iload 4, 2) := by decide +kernel
theorem dL_law_145 : decode cL_law 145 = .ok (.iconst 2, 1) := by decide +kernel
theorem dL_law_146 : decode cL_law 146 = .ok (.iadd, 1) := by decide +kernel
theorem dL_law_147 : decode cL_law 147 = .ok (.iaload, 1) := by decide +kernel
theorem dL_law_148 : decode cL_law 148 = .ok (.invokevirtual 79, 3) := by decide +kernel
theorem dL_law_151 : decode cL_law 151 = .ok (.istore 6, 2) := by decide +kernel
theorem dL_law_153 : decode cL_law 153 = .ok (.aload_n 2, 1) := by decide +kernel
theorem dL_law_154 : decode cL_law 154 = .ok (.invokevirtual 80, 3) := by decide +kernel
theorem dL_law_157 : decode cL_law 157 = .ok (.iload 5, 2) := by decide +kernel
theorem dL_law_159 : decode cL_law 159 = .ok (.if_icmp .eq 5, 3) := by decide +kernel
theorem dL_law_162 : decode cL_law 162 = .ok (.iconst 0, 1) := by decide +kernel
theorem dL_law_163 : decode cL_law 163 = .ok (.ireturn, 1) := by decide +kernel
theorem dL_law_164 : decode cL_law 164 = .ok (.iload 5, 2) := by decide +kernel
theorem dL_law_166 : decode cL_law 166 = .ok (.ifCond .ne 15, 3) := by decide +kernel
theorem dL_law_169 : decode cL_law 169 = .ok (.aload_n 3, 1) := by decide +kernel
theorem dL_law_170 : decode cL_law 170 = .ok (.iconst 0, 1) := by decide +kernel
theorem dL_law_171 : decode cL_law 171 = .ok (.laload, 1) := by decide +kernel
theorem dL_law_172 : decode cL_law 172 = .ok (.iload 6, 2) := by decide +kernel
theorem dL_law_174 : decode cL_law 174 = .ok (.i2l, 1) := by decide +kernel
theorem dL_law_175 : decode cL_law 175 = .ok (.lcmp, 1) := by decide +kernel
theorem dL_law_176 : decode cL_law 176 = .ok (.ifCond .eq 5, 3) := by decide +kernel
theorem dL_law_179 : decode cL_law 179 = .ok (.iconst 0, 1) := by decide +kernel
theorem dL_law_180 : decode cL_law 180 = .ok (.ireturn, 1) := by decide +kernel
theorem dL_law_181 : decode cL_law 181 = .ok (.goto 1058, 3) := by decide +kernel
theorem dL_law_184 : decode cL_law 184 = .ok (.aload_n 1, 1) := by decide +kernel
theorem dL_law_185 : decode cL_law 185 = .ok (.aload_n 0, 1) := by decide +kernel
theorem dL_law_186 : decode cL_law 186 = .ok (.iload 4, 2) := by decide +kernel
theorem dL_law_188 : decode cL_law 188 = .ok (.iconst 1, 1) := by decide +kernel
theorem dL_law_189 : decode cL_law 189 = .ok (.iadd, 1) := by decide +kernel
theorem dL_law_190 : decode cL_law 190 = .ok (.iaload, 1) := by decide +kernel
theorem dL_law_191 : decode cL_law 191 = .ok (.aload_n 0, 1) := by decide +kernel
theorem dL_law_192 : decode cL_law 192 = .ok (.iload 4, 2) := by decide +kernel
theorem dL_law_194 : decode cL_law 194 = .ok (.iconst 2, 1) := by decide +kernel
theorem dL_law_195 : decode cL_law 195 = .ok (.iadd, 1) := by decide +kernel
theorem dL_law_196 : decode cL_law 196 = .ok (.iaload, 1) := by decide +kernel
theorem dL_law_197 : decode cL_law 197 = .ok (.aload_n 0, 1) := by decide +kernel
theorem dL_law_198 : decode cL_law 198 = .ok (.iload 4, 2) := by decide +kernel
theorem dL_law_200 : decode cL_law 200 = .ok (.iconst 3, 1) := by decide +kernel
theorem dL_law_201 : decode cL_law 201 = .ok (.iadd, 1) := by decide +kernel
theorem dL_law_202 : decode cL_law 202 = .ok (.iaload, 1) := by decide +kernel
theorem dL_law_203 : decode cL_law 203 = .ok (.aload_n 0, 1) := by decide +kernel
theorem dL_law_204 : decode cL_law 204 = .ok (.iload 4, 2) := by decide +kernel
theorem dL_law_206 : decode cL_law 206 = .ok (.iconst 4, 1) := by decide +kernel
theorem dL_law_207 : decode cL_law 207 = .ok (.iadd, 1) := by decide +kernel
theorem dL_law_208 : decode cL_law 208 = .ok (.iaload, 1) := by decide +kernel
theorem dL_law_209 : decode cL_law 209 = .ok (.aload_n 3, 1) := by decide +kernel
theorem dL_law_210 : decode cL_law 210 = .ok (.invokestatic 84, 3) := by decide +kernel
theorem dL_law_213 : decode cL_law 213 = .ok (.istore 5, 2) := by decide +kernel
theorem dL_law_215 : decode cL_law 215 = .ok (.aload_n 2, 1) := by decide +kernel
theorem dL_law_216 : decode cL_law 216 = .ok (.aload_n 0, 1) := by decide +kernel
theorem dL_law_217 : decode cL_law 217 = .ok (.iload 4, 2) := by decide +kernel
theorem dL_law_219 : decode cL_law 219 = .ok (.iconst 1, 1) := by decide +kernel
theorem dL_law_220 : decode cL_law 220 = .ok (.iadd, 1) := by decide +kernel
theorem dL_law_221 : decode cL_law 221 = .ok (.iaload, 1) := by decide +kernel
theorem dL_law_222 : decode cL_law 222 = .ok (.aload_n 0, 1) := by decide +kernel
theorem dL_law_223 : decode cL_law 223 = .ok (.iload 4, 2) := by decide +kernel
theorem dL_law_225 : decode cL_law 225 = .ok (.iconst 2, 1) := by decide +kernel
theorem dL_law_226 : decode cL_law 226 = .ok (.iadd, 1) := by decide +kernel
theorem dL_law_227 : decode cL_law 227 = .ok (.iaload, 1) := by decide +kernel
theorem dL_law_228 : decode cL_law 228 = .ok (.aload_n 0, 1) := by decide +kernel
theorem dL_law_229 : decode cL_law 229 = .ok (.iload 4, 2) := by decide +kernel
theorem dL_law_231 : decode cL_law 231 = .ok (.iconst 3, 1) := by decide +kernel
theorem dL_law_232 : decode cL_law 232 = .ok (.iadd, 1) := by decide +kernel
theorem dL_law_233 : decode cL_law 233 = .ok (.iaload, 1) := by decide +kernel
theorem dL_law_234 : decode cL_law 234 = .ok (.aload_n 0, 1) := by decide +kernel
theorem dL_law_235 : decode cL_law 235 = .ok (.iload 4, 2) := by decide +kernel
theorem dL_law_237 : decode cL_law 237 = .ok (.iconst 4, 1) := by decide +kernel
theorem dL_law_238 : decode cL_law 238 = .ok (.iadd, 1) := by decide +kernel
theorem dL_law_239 : decode cL_law 239 = .ok (.iaload, 1) := by decide +kernel
theorem dL_law_240 : decode cL_law 240 = .ok (.invokevirtual 87, 3) := by decide +kernel
theorem dL_law_243 : decode cL_law 243 = .ok (.istore 6, 2) := by decide +kernel
theorem dL_law_245 : decode cL_law 245 = .ok (.aload_n 2, 1) := by decide +kernel
theorem dL_law_246 : decode cL_law 246 = .ok (.invokevirtual 80, 3) := by decide +kernel
theorem dL_law_249 : decode cL_law 249 = .ok (.iload 5, 2) := by decide +kernel
theorem dL_law_251 : decode cL_law 251 = .ok (.if_icmp .eq 5, 3) := by decide +kernel
theorem dL_law_254 : decode cL_law 254 = .ok (.iconst 0, 1) := by decide +kernel
theorem dL_law_255 : decode cL_law 255 = .ok (.ireturn, 1) := by decide +kernel
theorem dL_law_256 : decode cL_law 256 = .ok (.iload 5, 2) := by decide +kernel
theorem dL_law_258 : decode cL_law 258 = .ok (.ifCond .ne 15, 3) := by decide +kernel
theorem dL_law_261 : decode cL_law 261 = .ok (.aload_n 3, 1) := by decide +kernel
theorem dL_law_262 : decode cL_law 262 = .ok (.iconst 0, 1) := by decide +kernel
theorem dL_law_263 : decode cL_law 263 = .ok (.laload, 1) := by decide +kernel
theorem dL_law_264 : decode cL_law 264 = .ok (.iload 6, 2) := by decide +kernel
theorem dL_law_266 : decode cL_law 266 = .ok (.i2l, 1) := by decide +kernel
theorem dL_law_267 : decode cL_law 267 = .ok (.lcmp, 1) := by decide +kernel
theorem dL_law_268 : decode cL_law 268 = .ok (.ifCond .eq 5, 3) := by decide +kernel
theorem dL_law_271 : decode cL_law 271 = .ok (.iconst 0, 1) := by decide +kernel
theorem dL_law_272 : decode cL_law 272 = .ok (.ireturn, 1) := by decide +kernel
theorem dL_law_273 : decode cL_law 273 = .ok (.goto 966, 3) := by decide +kernel
theorem dL_law_276 : decode cL_law 276 = .ok (.aload_n 1, 1) := by decide +kernel
theorem dL_law_277 : decode cL_law 277 = .ok (.aload_n 0, 1) := by decide +kernel
theorem dL_law_278 : decode cL_law 278 = .ok (.iload 4, 2) := by decide +kernel
theorem dL_law_280 : decode cL_law 280 = .ok (.iconst 1, 1) := by decide +kernel
theorem dL_law_281 : decode cL_law 281 = .ok (.iadd, 1) := by decide +kernel
theorem dL_law_282 : decode cL_law 282 = .ok (.iaload, 1) := by decide +kernel
theorem dL_law_283 : decode cL_law 283 = .ok (.aload_n 0, 1) := by decide +kernel
theorem dL_law_284 : decode cL_law 284 = .ok (.iload 4, 2) := by decide +kernel
theorem dL_law_286 : decode cL_law 286 = .ok (.iconst 2, 1) := by decide +kernel
theorem dL_law_287 : decode cL_law 287 = .ok (.iadd, 1) := by decide +kernel
theorem dL_law_288 : decode cL_law 288 = .ok (.iaload, 1) := by decide +kernel
theorem dL_law_289 : decode cL_law 289 = .ok (.ifCond .eq 7, 3) := by decide +kernel
theorem dL_law_292 : decode cL_law 292 = .ok (.iconst 1, 1) := by decide +kernel
theorem dL_law_293 : decode cL_law 293 = .ok (.goto 4, 3) := by decide +kernel
theorem dL_law_296 : decode cL_law 296 = .ok (.iconst 0, 1) := by decide +kernel
theorem dL_law_297 : decode cL_law 297 = .ok (.aload_n 3, 1) := by decide +kernel
theorem dL_law_298 : decode cL_law 298 = .ok (.invokestatic 88, 3) := by decide +kernel
theorem dL_law_301 : decode cL_law 301 = .ok (.istore 5, 2) := by decide +kernel
theorem dL_law_303 : decode cL_law 303 = .ok (.aload_n 2, 1) := by decide +kernel
theorem dL_law_304 : decode cL_law 304 = .ok (.aload_n 0, 1) := by decide +kernel
theorem dL_law_305 : decode cL_law 305 = .ok (.iload 4, 2) := by decide +kernel
theorem dL_law_307 : decode cL_law 307 = .ok (.iconst 1, 1) := by decide +kernel
theorem dL_law_308 : decode cL_law 308 = .ok (.iadd, 1) := by decide +kernel
theorem dL_law_309 : decode cL_law 309 = .ok (.iaload, 1) := by decide +kernel
theorem dL_law_310 : decode cL_law 310 = .ok (.aload_n 0, 1) := by decide +kernel
theorem dL_law_311 : decode cL_law 311 = .ok (.iload 4, 2) := by decide +kernel
theorem dL_law_313 : decode cL_law 313 = .ok (.iconst 2, 1) := by decide +kernel
theorem dL_law_314 : decode cL_law 314 = .ok (.iadd, 1) := by decide +kernel
theorem dL_law_315 : decode cL_law 315 = .ok (.iaload, 1) := by decide +kernel
theorem dL_law_316 : decode cL_law 316 = .ok (.ifCond .eq 7, 3) := by decide +kernel
theorem dL_law_319 : decode cL_law 319 = .ok (.iconst 1, 1) := by decide +kernel
theorem dL_law_320 : decode cL_law 320 = .ok (.goto 4, 3) := by decide +kernel
theorem dL_law_323 : decode cL_law 323 = .ok (.iconst 0, 1) := by decide +kernel
theorem dL_law_324 : decode cL_law 324 = .ok (.invokevirtual 91, 3) := by decide +kernel
theorem dL_law_327 : decode cL_law 327 = .ok (.istore 6, 2) := by decide +kernel
theorem dL_law_329 : decode cL_law 329 = .ok (.aload_n 2, 1) := by decide +kernel
theorem dL_law_330 : decode cL_law 330 = .ok (.invokevirtual 80, 3) := by decide +kernel
theorem dL_law_333 : decode cL_law 333 = .ok (.iload 5, 2) := by decide +kernel
theorem dL_law_335 : decode cL_law 335 = .ok (.if_icmp .eq 5, 3) := by decide +kernel
theorem dL_law_338 : decode cL_law 338 = .ok (.iconst 0, 1) := by decide +kernel
theorem dL_law_339 : decode cL_law 339 = .ok (.ireturn, 1) := by decide +kernel
theorem dL_law_340 : decode cL_law 340 = .ok (.iload 5, 2) := by decide +kernel
theorem dL_law_342 : decode cL_law 342 = .ok (.ifCond .ne 22, 3) := by decide +kernel
theorem dL_law_345 : decode cL_law 345 = .ok (.aload_n 3, 1) := by decide +kernel
theorem dL_law_346 : decode cL_law 346 = .ok (.iconst 0, 1) := by decide +kernel
theorem dL_law_347 : decode cL_law 347 = .ok (.laload, 1) := by decide +kernel
theorem dL_law_348 : decode cL_law 348 = .ok (.iload 6, 2) := by decide +kernel
theorem dL_law_350 : decode cL_law 350 = .ok (.ifCond .eq 7, 3) := by decide +kernel
theorem dL_law_353 : decode cL_law 353 = .ok (.lconst 1, 1) := by decide +kernel
theorem dL_law_354 : decode cL_law 354 = .ok (.goto 4, 3) := by decide +kernel
theorem dL_law_357 : decode cL_law 357 = .ok (.lconst 0, 1) := by decide +kernel
theorem dL_law_358 : decode cL_law 358 = .ok (.lcmp, 1) := by decide +kernel
theorem dL_law_359 : decode cL_law 359 = .ok (.ifCond .eq 5, 3) := by decide +kernel
theorem dL_law_362 : decode cL_law 362 = .ok (.iconst 0, 1) := by decide +kernel
theorem dL_law_363 : decode cL_law 363 = .ok (.ireturn, 1) := by decide +kernel
theorem dL_law_364 : decode cL_law 364 = .ok (.goto 875, 3) := by decide +kernel
theorem dL_law_367 : decode cL_law 367 = .ok (.aload_n 1, 1) := by decide +kernel
theorem dL_law_368 : decode cL_law 368 = .ok (.aload_n 0, 1) := by decide +kernel
theorem dL_law_369 : decode cL_law 369 = .ok (.iload 4, 2) := by decide +kernel
theorem dL_law_371 : decode cL_law 371 = .ok (.iconst 1, 1) := by decide +kernel
theorem dL_law_372 : decode cL_law 372 = .ok (.iadd, 1) := by decide +kernel
theorem dL_law_373 : decode cL_law 373 = .ok (.iaload, 1) := by decide +kernel
theorem dL_law_374 : decode cL_law 374 = .ok (.aload_n 0, 1) := by decide +kernel
theorem dL_law_375 : decode cL_law 375 = .ok (.iload 4, 2) := by decide +kernel
theorem dL_law_377 : decode cL_law 377 = .ok (.iconst 2, 1) := by decide +kernel
theorem dL_law_378 : decode cL_law 378 = .ok (.iadd, 1) := by decide +kernel
theorem dL_law_379 : decode cL_law 379 = .ok (.iaload, 1) := by decide +kernel
theorem dL_law_380 : decode cL_law 380 = .ok (.aload_n 3, 1) := by decide +kernel
theorem dL_law_381 : decode cL_law 381 = .ok (.invokestatic 92, 3) := by decide +kernel
theorem dL_law_384 : decode cL_law 384 = .ok (.istore 5, 2) := by decide +kernel
theorem dL_law_386 : decode cL_law 386 = .ok (.aload_n 2, 1) := by decide +kernel
theorem dL_law_387 : decode cL_law 387 = .ok (.aload_n 0, 1) := by decide +kernel
theorem dL_law_388 : decode cL_law 388 = .ok (.iload 4, 2) := by decide +kernel
theorem dL_law_390 : decode cL_law 390 = .ok (.iconst 1, 1) := by decide +kernel
theorem dL_law_391 : decode cL_law 391 = .ok (.iadd, 1) := by decide +kernel
theorem dL_law_392 : decode cL_law 392 = .ok (.iaload, 1) := by decide +kernel
theorem dL_law_393 : decode cL_law 393 = .ok (.aload_n 0, 1) := by decide +kernel
theorem dL_law_394 : decode cL_law 394 = .ok (.iload 4, 2) := by decide +kernel
theorem dL_law_396 : decode cL_law 396 = .ok (.iconst 2, 1) := by decide +kernel
theorem dL_law_397 : decode cL_law 397 = .ok (.iadd, 1) := by decide +kernel
theorem dL_law_398 : decode cL_law 398 = .ok (.iaload, 1) := by decide +kernel
theorem dL_law_399 : decode cL_law 399 = .ok (.invokevirtual 94, 3) := by decide +kernel
theorem dL_law_402 : decode cL_law 402 = .ok (.istore 6, 2) := by decide +kernel
theorem dL_law_404 : decode cL_law 404 = .ok (.aload_n 2, 1) := by decide +kernel
theorem dL_law_405 : decode cL_law 405 = .ok (.invokevirtual 80, 3) := by decide +kernel
theorem dL_law_408 : decode cL_law 408 = .ok (.iload 5, 2) := by decide +kernel
theorem dL_law_410 : decode cL_law 410 = .ok (.if_icmp .eq 5, 3) := by decide +kernel
theorem dL_law_413 : decode cL_law 413 = .ok (.iconst 0, 1) := by decide +kernel
theorem dL_law_414 : decode cL_law 414 = .ok (.ireturn, 1) := by decide +kernel
theorem dL_law_415 : decode cL_law 415 = .ok (.iload 5, 2) := by decide +kernel
theorem dL_law_417 : decode cL_law 417 = .ok (.ifCond .ne 15, 3) := by decide +kernel
theorem dL_law_420 : decode cL_law 420 = .ok (.aload_n 3, 1) := by decide +kernel
theorem dL_law_421 : decode cL_law 421 = .ok (.iconst 0, 1) := by decide +kernel
theorem dL_law_422 : decode cL_law 422 = .ok (.laload, 1) := by decide +kernel
theorem dL_law_423 : decode cL_law 423 = .ok (.iload 6, 2) := by decide +kernel
theorem dL_law_425 : decode cL_law 425 = .ok (.i2l, 1) := by decide +kernel
theorem dL_law_426 : decode cL_law 426 = .ok (.lcmp, 1) := by decide +kernel
theorem dL_law_427 : decode cL_law 427 = .ok (.ifCond .eq 5, 3) := by decide +kernel
theorem dL_law_430 : decode cL_law 430 = .ok (.iconst 0, 1) := by decide +kernel
theorem dL_law_431 : decode cL_law 431 = .ok (.ireturn, 1) := by decide +kernel
theorem dL_law_432 : decode cL_law 432 = .ok (.goto 807, 3) := by decide +kernel
theorem dL_law_435 : decode cL_law 435 = .ok (.aload_n 1, 1) := by decide +kernel
theorem dL_law_436 : decode cL_law 436 = .ok (.aload_n 0, 1) := by decide +kernel
theorem dL_law_437 : decode cL_law 437 = .ok (.iload 4, 2) := by decide +kernel
theorem dL_law_439 : decode cL_law 439 = .ok (.iconst 1, 1) := by decide +kernel
theorem dL_law_440 : decode cL_law 440 = .ok (.iadd, 1) := by decide +kernel
theorem dL_law_441 : decode cL_law 441 = .ok (.iaload, 1) := by decide +kernel
theorem dL_law_442 : decode cL_law 442 = .ok (.aload_n 0, 1) := by decide +kernel
theorem dL_law_443 : decode cL_law 443 = .ok (.iload 4, 2) := by decide +kernel
theorem dL_law_445 : decode cL_law 445 = .ok (.iconst 2, 1) := by decide +kernel
theorem dL_law_446 : decode cL_law 446 = .ok (.iadd, 1) := by decide +kernel
theorem dL_law_447 : decode cL_law 447 = .ok (.iaload, 1) := by decide +kernel
theorem dL_law_448 : decode cL_law 448 = .ok (.aload_n 3, 1) := by decide +kernel
theorem dL_law_449 : decode cL_law 449 = .ok (.invokestatic 95, 3) := by decide +kernel
theorem dL_law_452 : decode cL_law 452 = .ok (.istore 5, 2) := by decide +kernel
theorem dL_law_454 : decode cL_law 454 = .ok (.aload_n 2, 1) := by decide +kernel
theorem dL_law_455 : decode cL_law 455 = .ok (.aload_n 0, 1) := by decide +kernel
theorem dL_law_456 : decode cL_law 456 = .ok (.iload 4, 2) := by decide +kernel
theorem dL_law_458 : decode cL_law 458 = .ok (.iconst 1, 1) := by decide +kernel
theorem dL_law_459 : decode cL_law 459 = .ok (.iadd, 1) := by decide +kernel
theorem dL_law_460 : decode cL_law 460 = .ok (.iaload, 1) := by decide +kernel
theorem dL_law_461 : decode cL_law 461 = .ok (.aload_n 0, 1) := by decide +kernel
theorem dL_law_462 : decode cL_law 462 = .ok (.iload 4, 2) := by decide +kernel
theorem dL_law_464 : decode cL_law 464 = .ok (.iconst 2, 1) := by decide +kernel
theorem dL_law_465 : decode cL_law 465 = .ok (.iadd, 1) := by decide +kernel
theorem dL_law_466 : decode cL_law 466 = .ok (.iaload, 1) := by decide +kernel
theorem dL_law_467 : decode cL_law 467 = .ok (.invokevirtual 97, 3) := by decide +kernel
theorem dL_law_470 : decode cL_law 470 = .ok (.istore 6, 2) := by decide +kernel
theorem dL_law_472 : decode cL_law 472 = .ok (.aload_n 2, 1) := by decide +kernel
theorem dL_law_473 : decode cL_law 473 = .ok (.invokevirtual 80, 3) := by decide +kernel
theorem dL_law_476 : decode cL_law 476 = .ok (.iload 5, 2) := by decide +kernel
theorem dL_law_478 : decode cL_law 478 = .ok (.if_icmp .eq 5, 3) := by decide +kernel
theorem dL_law_481 : decode cL_law 481 = .ok (.iconst 0, 1) := by decide +kernel
theorem dL_law_482 : decode cL_law 482 = .ok (.ireturn, 1) := by decide +kernel
theorem dL_law_483 : decode cL_law 483 = .ok (.iload 5, 2) := by decide +kernel
theorem dL_law_485 : decode cL_law 485 = .ok (.ifCond .ne 15, 3) := by decide +kernel
theorem dL_law_488 : decode cL_law 488 = .ok (.aload_n 3, 1) := by decide +kernel
theorem dL_law_489 : decode cL_law 489 = .ok (.iconst 0, 1) := by decide +kernel
theorem dL_law_490 : decode cL_law 490 = .ok (.laload, 1) := by decide +kernel
theorem dL_law_491 : decode cL_law 491 = .ok (.iload 6, 2) := by decide +kernel
theorem dL_law_493 : decode cL_law 493 = .ok (.i2l, 1) := by decide +kernel
theorem dL_law_494 : decode cL_law 494 = .ok (.lcmp, 1) := by decide +kernel
theorem dL_law_495 : decode cL_law 495 = .ok (.ifCond .eq 5, 3) := by decide +kernel
theorem dL_law_498 : decode cL_law 498 = .ok (.iconst 0, 1) := by decide +kernel
theorem dL_law_499 : decode cL_law 499 = .ok (.ireturn, 1) := by decide +kernel
theorem dL_law_500 : decode cL_law 500 = .ok (.goto 739, 3) := by decide +kernel
theorem dL_law_503 : decode cL_law 503 = .ok (.aload_n 1, 1) := by decide +kernel
theorem dL_law_504 : decode cL_law 504 = .ok (.aload_n 0, 1) := by decide +kernel
theorem dL_law_505 : decode cL_law 505 = .ok (.iload 4, 2) := by decide +kernel
theorem dL_law_507 : decode cL_law 507 = .ok (.iconst 1, 1) := by decide +kernel
theorem dL_law_508 : decode cL_law 508 = .ok (.iadd, 1) := by decide +kernel
theorem dL_law_509 : decode cL_law 509 = .ok (.iaload, 1) := by decide +kernel
theorem dL_law_510 : decode cL_law 510 = .ok (.aload_n 0, 1) := by decide +kernel
theorem dL_law_511 : decode cL_law 511 = .ok (.iload 4, 2) := by decide +kernel
theorem dL_law_513 : decode cL_law 513 = .ok (.iconst 2, 1) := by decide +kernel
theorem dL_law_514 : decode cL_law 514 = .ok (.iadd, 1) := by decide +kernel
theorem dL_law_515 : decode cL_law 515 = .ok (.iaload, 1) := by decide +kernel
theorem dL_law_516 : decode cL_law 516 = .ok (.aload_n 0, 1) := by decide +kernel
theorem dL_law_517 : decode cL_law 517 = .ok (.iload 4, 2) := by decide +kernel
theorem dL_law_519 : decode cL_law 519 = .ok (.iconst 3, 1) := by decide +kernel
theorem dL_law_520 : decode cL_law 520 = .ok (.iadd, 1) := by decide +kernel
theorem dL_law_521 : decode cL_law 521 = .ok (.iaload, 1) := by decide +kernel
theorem dL_law_522 : decode cL_law 522 = .ok (.aload_n 3, 1) := by decide +kernel
theorem dL_law_523 : decode cL_law 523 = .ok (.invokestatic 98, 3) := by decide +kernel
theorem dL_law_526 : decode cL_law 526 = .ok (.istore 5, 2) := by decide +kernel
theorem dL_law_528 : decode cL_law 528 = .ok (.aload_n 2, 1) := by decide +kernel
theorem dL_law_529 : decode cL_law 529 = .ok (.aload_n 0, 1) := by decide +kernel
theorem dL_law_530 : decode cL_law 530 = .ok (.iload 4, 2) := by decide +kernel
theorem dL_law_532 : decode cL_law 532 = .ok (.iconst 1, 1) := by decide +kernel
theorem dL_law_533 : decode cL_law 533 = .ok (.iadd, 1) := by decide +kernel
theorem dL_law_534 : decode cL_law 534 = .ok (.iaload, 1) := by decide +kernel
theorem dL_law_535 : decode cL_law 535 = .ok (.aload_n 0, 1) := by decide +kernel
theorem dL_law_536 : decode cL_law 536 = .ok (.iload 4, 2) := by decide +kernel
theorem dL_law_538 : decode cL_law 538 = .ok (.iconst 2, 1) := by decide +kernel
theorem dL_law_539 : decode cL_law 539 = .ok (.iadd, 1) := by decide +kernel
theorem dL_law_540 : decode cL_law 540 = .ok (.iaload, 1) := by decide +kernel
theorem dL_law_541 : decode cL_law 541 = .ok (.aload_n 0, 1) := by decide +kernel
theorem dL_law_542 : decode cL_law 542 = .ok (.iload 4, 2) := by decide +kernel
theorem dL_law_544 : decode cL_law 544 = .ok (.iconst 3, 1) := by decide +kernel
theorem dL_law_545 : decode cL_law 545 = .ok (.iadd, 1) := by decide +kernel
theorem dL_law_546 : decode cL_law 546 = .ok (.iaload, 1) := by decide +kernel
theorem dL_law_547 : decode cL_law 547 = .ok (.invokevirtual 101, 3) := by decide +kernel
theorem dL_law_550 : decode cL_law 550 = .ok (.istore 6, 2) := by decide +kernel
theorem dL_law_552 : decode cL_law 552 = .ok (.aload_n 2, 1) := by decide +kernel
theorem dL_law_553 : decode cL_law 553 = .ok (.invokevirtual 80, 3) := by decide +kernel
theorem dL_law_556 : decode cL_law 556 = .ok (.iload 5, 2) := by decide +kernel
theorem dL_law_558 : decode cL_law 558 = .ok (.if_icmp .eq 5, 3) := by decide +kernel
theorem dL_law_561 : decode cL_law 561 = .ok (.iconst 0, 1) := by decide +kernel
theorem dL_law_562 : decode cL_law 562 = .ok (.ireturn, 1) := by decide +kernel
theorem dL_law_563 : decode cL_law 563 = .ok (.iload 5, 2) := by decide +kernel
theorem dL_law_565 : decode cL_law 565 = .ok (.ifCond .ne 15, 3) := by decide +kernel
theorem dL_law_568 : decode cL_law 568 = .ok (.aload_n 3, 1) := by decide +kernel
theorem dL_law_569 : decode cL_law 569 = .ok (.iconst 0, 1) := by decide +kernel
theorem dL_law_570 : decode cL_law 570 = .ok (.laload, 1) := by decide +kernel
theorem dL_law_571 : decode cL_law 571 = .ok (.iload 6, 2) := by decide +kernel
theorem dL_law_573 : decode cL_law 573 = .ok (.i2l, 1) := by decide +kernel
theorem dL_law_574 : decode cL_law 574 = .ok (.lcmp, 1) := by decide +kernel
theorem dL_law_575 : decode cL_law 575 = .ok (.ifCond .eq 5, 3) := by decide +kernel
theorem dL_law_578 : decode cL_law 578 = .ok (.iconst 0, 1) := by decide +kernel
theorem dL_law_579 : decode cL_law 579 = .ok (.ireturn, 1) := by decide +kernel
theorem dL_law_580 : decode cL_law 580 = .ok (.goto 659, 3) := by decide +kernel
theorem dL_law_583 : decode cL_law 583 = .ok (.aload_n 1, 1) := by decide +kernel
theorem dL_law_584 : decode cL_law 584 = .ok (.aload_n 0, 1) := by decide +kernel
theorem dL_law_585 : decode cL_law 585 = .ok (.iload 4, 2) := by decide +kernel
theorem dL_law_587 : decode cL_law 587 = .ok (.iconst 1, 1) := by decide +kernel
theorem dL_law_588 : decode cL_law 588 = .ok (.iadd, 1) := by decide +kernel
theorem dL_law_589 : decode cL_law 589 = .ok (.iaload, 1) := by decide +kernel
theorem dL_law_590 : decode cL_law 590 = .ok (.aload_n 0, 1) := by decide +kernel
theorem dL_law_591 : decode cL_law 591 = .ok (.iload 4, 2) := by decide +kernel
theorem dL_law_593 : decode cL_law 593 = .ok (.iconst 2, 1) := by decide +kernel
theorem dL_law_594 : decode cL_law 594 = .ok (.iadd, 1) := by decide +kernel
theorem dL_law_595 : decode cL_law 595 = .ok (.iaload, 1) := by decide +kernel
theorem dL_law_596 : decode cL_law 596 = .ok (.aload_n 3, 1) := by decide +kernel
theorem dL_law_597 : decode cL_law 597 = .ok (.invokestatic 102, 3) := by decide +kernel
theorem dL_law_600 : decode cL_law 600 = .ok (.istore 5, 2) := by decide +kernel
theorem dL_law_602 : decode cL_law 602 = .ok (.aload_n 2, 1) := by decide +kernel
theorem dL_law_603 : decode cL_law 603 = .ok (.aload_n 0, 1) := by decide +kernel
theorem dL_law_604 : decode cL_law 604 = .ok (.iload 4, 2) := by decide +kernel
theorem dL_law_606 : decode cL_law 606 = .ok (.iconst 1, 1) := by decide +kernel
theorem dL_law_607 : decode cL_law 607 = .ok (.iadd, 1) := by decide +kernel
theorem dL_law_608 : decode cL_law 608 = .ok (.iaload, 1) := by decide +kernel
theorem dL_law_609 : decode cL_law 609 = .ok (.aload_n 0, 1) := by decide +kernel
theorem dL_law_610 : decode cL_law 610 = .ok (.iload 4, 2) := by decide +kernel
theorem dL_law_612 : decode cL_law 612 = .ok (.iconst 2, 1) := by decide +kernel
theorem dL_law_613 : decode cL_law 613 = .ok (.iadd, 1) := by decide +kernel
theorem dL_law_614 : decode cL_law 614 = .ok (.iaload, 1) := by decide +kernel
theorem dL_law_615 : decode cL_law 615 = .ok (.invokevirtual 104, 3) := by decide +kernel
theorem dL_law_618 : decode cL_law 618 = .ok (.istore 6, 2) := by decide +kernel
theorem dL_law_620 : decode cL_law 620 = .ok (.aload_n 2, 1) := by decide +kernel
theorem dL_law_621 : decode cL_law 621 = .ok (.invokevirtual 80, 3) := by decide +kernel
theorem dL_law_624 : decode cL_law 624 = .ok (.iload 5, 2) := by decide +kernel
theorem dL_law_626 : decode cL_law 626 = .ok (.if_icmp .eq 5, 3) := by decide +kernel
theorem dL_law_629 : decode cL_law 629 = .ok (.iconst 0, 1) := by decide +kernel
theorem dL_law_630 : decode cL_law 630 = .ok (.ireturn, 1) := by decide +kernel
theorem dL_law_631 : decode cL_law 631 = .ok (.iload 5, 2) := by decide +kernel
theorem dL_law_633 : decode cL_law 633 = .ok (.ifCond .ne 15, 3) := by decide +kernel
theorem dL_law_636 : decode cL_law 636 = .ok (.aload_n 3, 1) := by decide +kernel
theorem dL_law_637 : decode cL_law 637 = .ok (.iconst 0, 1) := by decide +kernel
theorem dL_law_638 : decode cL_law 638 = .ok (.laload, 1) := by decide +kernel
theorem dL_law_639 : decode cL_law 639 = .ok (.iload 6, 2) := by decide +kernel
theorem dL_law_641 : decode cL_law 641 = .ok (.i2l, 1) := by decide +kernel
theorem dL_law_642 : decode cL_law 642 = .ok (.lcmp, 1) := by decide +kernel
theorem dL_law_643 : decode cL_law 643 = .ok (.ifCond .eq 5, 3) := by decide +kernel
theorem dL_law_646 : decode cL_law 646 = .ok (.iconst 0, 1) := by decide +kernel
theorem dL_law_647 : decode cL_law 647 = .ok (.ireturn, 1) := by decide +kernel
theorem dL_law_648 : decode cL_law 648 = .ok (.goto 591, 3) := by decide +kernel
theorem dL_law_651 : decode cL_law 651 = .ok (.aload_n 1, 1) := by decide +kernel
theorem dL_law_652 : decode cL_law 652 = .ok (.aload_n 0, 1) := by decide +kernel
theorem dL_law_653 : decode cL_law 653 = .ok (.iload 4, 2) := by decide +kernel
theorem dL_law_655 : decode cL_law 655 = .ok (.iconst 1, 1) := by decide +kernel
theorem dL_law_656 : decode cL_law 656 = .ok (.iadd, 1) := by decide +kernel
theorem dL_law_657 : decode cL_law 657 = .ok (.iaload, 1) := by decide +kernel
theorem dL_law_658 : decode cL_law 658 = .ok (.aload_n 0, 1) := by decide +kernel
theorem dL_law_659 : decode cL_law 659 = .ok (.iload 4, 2) := by decide +kernel
theorem dL_law_661 : decode cL_law 661 = .ok (.iconst 2, 1) := by decide +kernel
theorem dL_law_662 : decode cL_law 662 = .ok (.iadd, 1) := by decide +kernel
theorem dL_law_663 : decode cL_law 663 = .ok (.iaload, 1) := by decide +kernel
theorem dL_law_664 : decode cL_law 664 = .ok (.aload_n 3, 1) := by decide +kernel
theorem dL_law_665 : decode cL_law 665 = .ok (.invokestatic 105, 3) := by decide +kernel
theorem dL_law_668 : decode cL_law 668 = .ok (.istore 5, 2) := by decide +kernel
theorem dL_law_670 : decode cL_law 670 = .ok (.aload_n 2, 1) := by decide +kernel
theorem dL_law_671 : decode cL_law 671 = .ok (.aload_n 0, 1) := by decide +kernel
theorem dL_law_672 : decode cL_law 672 = .ok (.iload 4, 2) := by decide +kernel
theorem dL_law_674 : decode cL_law 674 = .ok (.iconst 1, 1) := by decide +kernel
theorem dL_law_675 : decode cL_law 675 = .ok (.iadd, 1) := by decide +kernel
theorem dL_law_676 : decode cL_law 676 = .ok (.iaload, 1) := by decide +kernel
theorem dL_law_677 : decode cL_law 677 = .ok (.aload_n 0, 1) := by decide +kernel
theorem dL_law_678 : decode cL_law 678 = .ok (.iload 4, 2) := by decide +kernel
theorem dL_law_680 : decode cL_law 680 = .ok (.iconst 2, 1) := by decide +kernel
theorem dL_law_681 : decode cL_law 681 = .ok (.iadd, 1) := by decide +kernel
theorem dL_law_682 : decode cL_law 682 = .ok (.iaload, 1) := by decide +kernel
theorem dL_law_683 : decode cL_law 683 = .ok (.invokevirtual 107, 3) := by decide +kernel
theorem dL_law_686 : decode cL_law 686 = .ok (.istore 6, 2) := by decide +kernel
theorem dL_law_688 : decode cL_law 688 = .ok (.aload_n 2, 1) := by decide +kernel
theorem dL_law_689 : decode cL_law 689 = .ok (.invokevirtual 80, 3) := by decide +kernel
theorem dL_law_692 : decode cL_law 692 = .ok (.iload 5, 2) := by decide +kernel
theorem dL_law_694 : decode cL_law 694 = .ok (.if_icmp .eq 5, 3) := by decide +kernel
theorem dL_law_697 : decode cL_law 697 = .ok (.iconst 0, 1) := by decide +kernel
theorem dL_law_698 : decode cL_law 698 = .ok (.ireturn, 1) := by decide +kernel
theorem dL_law_699 : decode cL_law 699 = .ok (.iload 5, 2) := by decide +kernel
theorem dL_law_701 : decode cL_law 701 = .ok (.ifCond .ne 15, 3) := by decide +kernel
theorem dL_law_704 : decode cL_law 704 = .ok (.aload_n 3, 1) := by decide +kernel
theorem dL_law_705 : decode cL_law 705 = .ok (.iconst 0, 1) := by decide +kernel
theorem dL_law_706 : decode cL_law 706 = .ok (.laload, 1) := by decide +kernel
theorem dL_law_707 : decode cL_law 707 = .ok (.iload 6, 2) := by decide +kernel
theorem dL_law_709 : decode cL_law 709 = .ok (.i2l, 1) := by decide +kernel
theorem dL_law_710 : decode cL_law 710 = .ok (.lcmp, 1) := by decide +kernel
theorem dL_law_711 : decode cL_law 711 = .ok (.ifCond .eq 5, 3) := by decide +kernel
theorem dL_law_714 : decode cL_law 714 = .ok (.iconst 0, 1) := by decide +kernel
theorem dL_law_715 : decode cL_law 715 = .ok (.ireturn, 1) := by decide +kernel
theorem dL_law_716 : decode cL_law 716 = .ok (.goto 523, 3) := by decide +kernel
theorem dL_law_719 : decode cL_law 719 = .ok (.aload_n 1, 1) := by decide +kernel
theorem dL_law_720 : decode cL_law 720 = .ok (.aload_n 0, 1) := by decide +kernel
theorem dL_law_721 : decode cL_law 721 = .ok (.iload 4, 2) := by decide +kernel
theorem dL_law_723 : decode cL_law 723 = .ok (.iconst 1, 1) := by decide +kernel
theorem dL_law_724 : decode cL_law 724 = .ok (.iadd, 1) := by decide +kernel
theorem dL_law_725 : decode cL_law 725 = .ok (.iaload, 1) := by decide +kernel
theorem dL_law_726 : decode cL_law 726 = .ok (.aload_n 0, 1) := by decide +kernel
theorem dL_law_727 : decode cL_law 727 = .ok (.iload 4, 2) := by decide +kernel
theorem dL_law_729 : decode cL_law 729 = .ok (.iconst 2, 1) := by decide +kernel
theorem dL_law_730 : decode cL_law 730 = .ok (.iadd, 1) := by decide +kernel
theorem dL_law_731 : decode cL_law 731 = .ok (.iaload, 1) := by decide +kernel
theorem dL_law_732 : decode cL_law 732 = .ok (.aload_n 3, 1) := by decide +kernel
theorem dL_law_733 : decode cL_law 733 = .ok (.invokestatic 108, 3) := by decide +kernel
theorem dL_law_736 : decode cL_law 736 = .ok (.istore 5, 2) := by decide +kernel
theorem dL_law_738 : decode cL_law 738 = .ok (.aload_n 2, 1) := by decide +kernel
theorem dL_law_739 : decode cL_law 739 = .ok (.aload_n 0, 1) := by decide +kernel
theorem dL_law_740 : decode cL_law 740 = .ok (.iload 4, 2) := by decide +kernel
theorem dL_law_742 : decode cL_law 742 = .ok (.iconst 1, 1) := by decide +kernel
theorem dL_law_743 : decode cL_law 743 = .ok (.iadd, 1) := by decide +kernel
theorem dL_law_744 : decode cL_law 744 = .ok (.iaload, 1) := by decide +kernel
theorem dL_law_745 : decode cL_law 745 = .ok (.aload_n 0, 1) := by decide +kernel
theorem dL_law_746 : decode cL_law 746 = .ok (.iload 4, 2) := by decide +kernel
theorem dL_law_748 : decode cL_law 748 = .ok (.iconst 2, 1) := by decide +kernel
theorem dL_law_749 : decode cL_law 749 = .ok (.iadd, 1) := by decide +kernel
theorem dL_law_750 : decode cL_law 750 = .ok (.iaload, 1) := by decide +kernel
theorem dL_law_751 : decode cL_law 751 = .ok (.invokevirtual 110, 3) := by decide +kernel
theorem dL_law_754 : decode cL_law 754 = .ok (.istore 6, 2) := by decide +kernel
theorem dL_law_756 : decode cL_law 756 = .ok (.aload_n 2, 1) := by decide +kernel
theorem dL_law_757 : decode cL_law 757 = .ok (.invokevirtual 80, 3) := by decide +kernel
theorem dL_law_760 : decode cL_law 760 = .ok (.iload 5, 2) := by decide +kernel
theorem dL_law_762 : decode cL_law 762 = .ok (.if_icmp .eq 5, 3) := by decide +kernel
theorem dL_law_765 : decode cL_law 765 = .ok (.iconst 0, 1) := by decide +kernel
theorem dL_law_766 : decode cL_law 766 = .ok (.ireturn, 1) := by decide +kernel
theorem dL_law_767 : decode cL_law 767 = .ok (.iload 5, 2) := by decide +kernel
theorem dL_law_769 : decode cL_law 769 = .ok (.ifCond .ne 15, 3) := by decide +kernel
theorem dL_law_772 : decode cL_law 772 = .ok (.aload_n 3, 1) := by decide +kernel
theorem dL_law_773 : decode cL_law 773 = .ok (.iconst 0, 1) := by decide +kernel
theorem dL_law_774 : decode cL_law 774 = .ok (.laload, 1) := by decide +kernel
theorem dL_law_775 : decode cL_law 775 = .ok (.iload 6, 2) := by decide +kernel
theorem dL_law_777 : decode cL_law 777 = .ok (.i2l, 1) := by decide +kernel
theorem dL_law_778 : decode cL_law 778 = .ok (.lcmp, 1) := by decide +kernel
theorem dL_law_779 : decode cL_law 779 = .ok (.ifCond .eq 5, 3) := by decide +kernel
theorem dL_law_782 : decode cL_law 782 = .ok (.iconst 0, 1) := by decide +kernel
theorem dL_law_783 : decode cL_law 783 = .ok (.ireturn, 1) := by decide +kernel
theorem dL_law_784 : decode cL_law 784 = .ok (.goto 455, 3) := by decide +kernel
theorem dL_law_787 : decode cL_law 787 = .ok (.aload_n 1, 1) := by decide +kernel
theorem dL_law_788 : decode cL_law 788 = .ok (.aload_n 0, 1) := by decide +kernel
theorem dL_law_789 : decode cL_law 789 = .ok (.iload 4, 2) := by decide +kernel
theorem dL_law_791 : decode cL_law 791 = .ok (.iconst 1, 1) := by decide +kernel
theorem dL_law_792 : decode cL_law 792 = .ok (.iadd, 1) := by decide +kernel
theorem dL_law_793 : decode cL_law 793 = .ok (.iaload, 1) := by decide +kernel
theorem dL_law_794 : decode cL_law 794 = .ok (.aload_n 0, 1) := by decide +kernel
theorem dL_law_795 : decode cL_law 795 = .ok (.iload 4, 2) := by decide +kernel
theorem dL_law_797 : decode cL_law 797 = .ok (.iconst 2, 1) := by decide +kernel
theorem dL_law_798 : decode cL_law 798 = .ok (.iadd, 1) := by decide +kernel
theorem dL_law_799 : decode cL_law 799 = .ok (.iaload, 1) := by decide +kernel
theorem dL_law_800 : decode cL_law 800 = .ok (.aload_n 3, 1) := by decide +kernel
theorem dL_law_801 : decode cL_law 801 = .ok (.invokestatic 111, 3) := by decide +kernel
theorem dL_law_804 : decode cL_law 804 = .ok (.istore 5, 2) := by decide +kernel
theorem dL_law_806 : decode cL_law 806 = .ok (.aload_n 2, 1) := by decide +kernel
theorem dL_law_807 : decode cL_law 807 = .ok (.aload_n 0, 1) := by decide +kernel
theorem dL_law_808 : decode cL_law 808 = .ok (.iload 4, 2) := by decide +kernel
theorem dL_law_810 : decode cL_law 810 = .ok (.iconst 1, 1) := by decide +kernel
theorem dL_law_811 : decode cL_law 811 = .ok (.iadd, 1) := by decide +kernel
theorem dL_law_812 : decode cL_law 812 = .ok (.iaload, 1) := by decide +kernel
theorem dL_law_813 : decode cL_law 813 = .ok (.aload_n 0, 1) := by decide +kernel
theorem dL_law_814 : decode cL_law 814 = .ok (.iload 4, 2) := by decide +kernel
theorem dL_law_816 : decode cL_law 816 = .ok (.iconst 2, 1) := by decide +kernel
theorem dL_law_817 : decode cL_law 817 = .ok (.iadd, 1) := by decide +kernel
theorem dL_law_818 : decode cL_law 818 = .ok (.iaload, 1) := by decide +kernel
theorem dL_law_819 : decode cL_law 819 = .ok (.invokevirtual 113, 3) := by decide +kernel
theorem dL_law_822 : decode cL_law 822 = .ok (.istore 6, 2) := by decide +kernel
theorem dL_law_824 : decode cL_law 824 = .ok (.aload_n 2, 1) := by decide +kernel
theorem dL_law_825 : decode cL_law 825 = .ok (.invokevirtual 80, 3) := by decide +kernel
theorem dL_law_828 : decode cL_law 828 = .ok (.iload 5, 2) := by decide +kernel
theorem dL_law_830 : decode cL_law 830 = .ok (.if_icmp .eq 5, 3) := by decide +kernel
theorem dL_law_833 : decode cL_law 833 = .ok (.iconst 0, 1) := by decide +kernel
theorem dL_law_834 : decode cL_law 834 = .ok (.ireturn, 1) := by decide +kernel
theorem dL_law_835 : decode cL_law 835 = .ok (.iload 5, 2) := by decide +kernel
theorem dL_law_837 : decode cL_law 837 = .ok (.ifCond .ne 15, 3) := by decide +kernel
theorem dL_law_840 : decode cL_law 840 = .ok (.aload_n 3, 1) := by decide +kernel
theorem dL_law_841 : decode cL_law 841 = .ok (.iconst 0, 1) := by decide +kernel
theorem dL_law_842 : decode cL_law 842 = .ok (.laload, 1) := by decide +kernel
theorem dL_law_843 : decode cL_law 843 = .ok (.iload 6, 2) := by decide +kernel
theorem dL_law_845 : decode cL_law 845 = .ok (.i2l, 1) := by decide +kernel
theorem dL_law_846 : decode cL_law 846 = .ok (.lcmp, 1) := by decide +kernel
theorem dL_law_847 : decode cL_law 847 = .ok (.ifCond .eq 5, 3) := by decide +kernel
theorem dL_law_850 : decode cL_law 850 = .ok (.iconst 0, 1) := by decide +kernel
theorem dL_law_851 : decode cL_law 851 = .ok (.ireturn, 1) := by decide +kernel
theorem dL_law_852 : decode cL_law 852 = .ok (.goto 387, 3) := by decide +kernel
theorem dL_law_855 : decode cL_law 855 = .ok (.aload_n 1, 1) := by decide +kernel
theorem dL_law_856 : decode cL_law 856 = .ok (.aload_n 0, 1) := by decide +kernel
theorem dL_law_857 : decode cL_law 857 = .ok (.iload 4, 2) := by decide +kernel
theorem dL_law_859 : decode cL_law 859 = .ok (.iconst 1, 1) := by decide +kernel
theorem dL_law_860 : decode cL_law 860 = .ok (.iadd, 1) := by decide +kernel
theorem dL_law_861 : decode cL_law 861 = .ok (.iaload, 1) := by decide +kernel
theorem dL_law_862 : decode cL_law 862 = .ok (.aload_n 0, 1) := by decide +kernel
theorem dL_law_863 : decode cL_law 863 = .ok (.iload 4, 2) := by decide +kernel
theorem dL_law_865 : decode cL_law 865 = .ok (.iconst 2, 1) := by decide +kernel
theorem dL_law_866 : decode cL_law 866 = .ok (.iadd, 1) := by decide +kernel
theorem dL_law_867 : decode cL_law 867 = .ok (.iaload, 1) := by decide +kernel
theorem dL_law_868 : decode cL_law 868 = .ok (.aload_n 3, 1) := by decide +kernel
theorem dL_law_869 : decode cL_law 869 = .ok (.invokestatic 114, 3) := by decide +kernel
theorem dL_law_872 : decode cL_law 872 = .ok (.istore 5, 2) := by decide +kernel
theorem dL_law_874 : decode cL_law 874 = .ok (.aload_n 2, 1) := by decide +kernel
theorem dL_law_875 : decode cL_law 875 = .ok (.aload_n 0, 1) := by decide +kernel
theorem dL_law_876 : decode cL_law 876 = .ok (.iload 4, 2) := by decide +kernel
theorem dL_law_878 : decode cL_law 878 = .ok (.iconst 1, 1) := by decide +kernel
theorem dL_law_879 : decode cL_law 879 = .ok (.iadd, 1) := by decide +kernel
theorem dL_law_880 : decode cL_law 880 = .ok (.iaload, 1) := by decide +kernel
theorem dL_law_881 : decode cL_law 881 = .ok (.aload_n 0, 1) := by decide +kernel
theorem dL_law_882 : decode cL_law 882 = .ok (.iload 4, 2) := by decide +kernel
theorem dL_law_884 : decode cL_law 884 = .ok (.iconst 2, 1) := by decide +kernel
theorem dL_law_885 : decode cL_law 885 = .ok (.iadd, 1) := by decide +kernel
theorem dL_law_886 : decode cL_law 886 = .ok (.iaload, 1) := by decide +kernel
theorem dL_law_887 : decode cL_law 887 = .ok (.invokevirtual 116, 3) := by decide +kernel
theorem dL_law_890 : decode cL_law 890 = .ok (.istore 6, 2) := by decide +kernel
theorem dL_law_892 : decode cL_law 892 = .ok (.aload_n 2, 1) := by decide +kernel
theorem dL_law_893 : decode cL_law 893 = .ok (.invokevirtual 80, 3) := by decide +kernel
theorem dL_law_896 : decode cL_law 896 = .ok (.iload 5, 2) := by decide +kernel
theorem dL_law_898 : decode cL_law 898 = .ok (.if_icmp .eq 5, 3) := by decide +kernel
theorem dL_law_901 : decode cL_law 901 = .ok (.iconst 0, 1) := by decide +kernel
theorem dL_law_902 : decode cL_law 902 = .ok (.ireturn, 1) := by decide +kernel
theorem dL_law_903 : decode cL_law 903 = .ok (.iload 5, 2) := by decide +kernel
theorem dL_law_905 : decode cL_law 905 = .ok (.ifCond .ne 15, 3) := by decide +kernel
theorem dL_law_908 : decode cL_law 908 = .ok (.aload_n 3, 1) := by decide +kernel
theorem dL_law_909 : decode cL_law 909 = .ok (.iconst 0, 1) := by decide +kernel
theorem dL_law_910 : decode cL_law 910 = .ok (.laload, 1) := by decide +kernel
theorem dL_law_911 : decode cL_law 911 = .ok (.iload 6, 2) := by decide +kernel
theorem dL_law_913 : decode cL_law 913 = .ok (.i2l, 1) := by decide +kernel
theorem dL_law_914 : decode cL_law 914 = .ok (.lcmp, 1) := by decide +kernel
theorem dL_law_915 : decode cL_law 915 = .ok (.ifCond .eq 5, 3) := by decide +kernel
theorem dL_law_918 : decode cL_law 918 = .ok (.iconst 0, 1) := by decide +kernel
theorem dL_law_919 : decode cL_law 919 = .ok (.ireturn, 1) := by decide +kernel
theorem dL_law_920 : decode cL_law 920 = .ok (.goto 319, 3) := by decide +kernel
theorem dL_law_923 : decode cL_law 923 = .ok (.aload_n 1, 1) := by decide +kernel
theorem dL_law_924 : decode cL_law 924 = .ok (.aload_n 0, 1) := by decide +kernel
theorem dL_law_925 : decode cL_law 925 = .ok (.iload 4, 2) := by decide +kernel
theorem dL_law_927 : decode cL_law 927 = .ok (.iconst 1, 1) := by decide +kernel
theorem dL_law_928 : decode cL_law 928 = .ok (.iadd, 1) := by decide +kernel
theorem dL_law_929 : decode cL_law 929 = .ok (.iaload, 1) := by decide +kernel
theorem dL_law_930 : decode cL_law 930 = .ok (.aload_n 0, 1) := by decide +kernel
theorem dL_law_931 : decode cL_law 931 = .ok (.iload 4, 2) := by decide +kernel
theorem dL_law_933 : decode cL_law 933 = .ok (.iconst 2, 1) := by decide +kernel
theorem dL_law_934 : decode cL_law 934 = .ok (.iadd, 1) := by decide +kernel
theorem dL_law_935 : decode cL_law 935 = .ok (.iaload, 1) := by decide +kernel
theorem dL_law_936 : decode cL_law 936 = .ok (.aload_n 3, 1) := by decide +kernel
theorem dL_law_937 : decode cL_law 937 = .ok (.invokestatic 117, 3) := by decide +kernel
theorem dL_law_940 : decode cL_law 940 = .ok (.istore 5, 2) := by decide +kernel
theorem dL_law_942 : decode cL_law 942 = .ok (.aload_n 2, 1) := by decide +kernel
theorem dL_law_943 : decode cL_law 943 = .ok (.aload_n 0, 1) := by decide +kernel
theorem dL_law_944 : decode cL_law 944 = .ok (.iload 4, 2) := by decide +kernel
theorem dL_law_946 : decode cL_law 946 = .ok (.iconst 1, 1) := by decide +kernel
theorem dL_law_947 : decode cL_law 947 = .ok (.iadd, 1) := by decide +kernel
theorem dL_law_948 : decode cL_law 948 = .ok (.iaload, 1) := by decide +kernel
theorem dL_law_949 : decode cL_law 949 = .ok (.aload_n 0, 1) := by decide +kernel
theorem dL_law_950 : decode cL_law 950 = .ok (.iload 4, 2) := by decide +kernel
theorem dL_law_952 : decode cL_law 952 = .ok (.iconst 2, 1) := by decide +kernel
theorem dL_law_953 : decode cL_law 953 = .ok (.iadd, 1) := by decide +kernel
theorem dL_law_954 : decode cL_law 954 = .ok (.iaload, 1) := by decide +kernel
theorem dL_law_955 : decode cL_law 955 = .ok (.invokevirtual 119, 3) := by decide +kernel
theorem dL_law_958 : decode cL_law 958 = .ok (.istore 6, 2) := by decide +kernel
theorem dL_law_960 : decode cL_law 960 = .ok (.aload_n 2, 1) := by decide +kernel
theorem dL_law_961 : decode cL_law 961 = .ok (.invokevirtual 80, 3) := by decide +kernel
theorem dL_law_964 : decode cL_law 964 = .ok (.iload 5, 2) := by decide +kernel
theorem dL_law_966 : decode cL_law 966 = .ok (.if_icmp .eq 5, 3) := by decide +kernel
theorem dL_law_969 : decode cL_law 969 = .ok (.iconst 0, 1) := by decide +kernel
theorem dL_law_970 : decode cL_law 970 = .ok (.ireturn, 1) := by decide +kernel
theorem dL_law_971 : decode cL_law 971 = .ok (.iload 5, 2) := by decide +kernel
theorem dL_law_973 : decode cL_law 973 = .ok (.ifCond .ne 15, 3) := by decide +kernel
theorem dL_law_976 : decode cL_law 976 = .ok (.aload_n 3, 1) := by decide +kernel
theorem dL_law_977 : decode cL_law 977 = .ok (.iconst 0, 1) := by decide +kernel
theorem dL_law_978 : decode cL_law 978 = .ok (.laload, 1) := by decide +kernel
theorem dL_law_979 : decode cL_law 979 = .ok (.iload 6, 2) := by decide +kernel
theorem dL_law_981 : decode cL_law 981 = .ok (.i2l, 1) := by decide +kernel
theorem dL_law_982 : decode cL_law 982 = .ok (.lcmp, 1) := by decide +kernel
theorem dL_law_983 : decode cL_law 983 = .ok (.ifCond .eq 5, 3) := by decide +kernel
theorem dL_law_986 : decode cL_law 986 = .ok (.iconst 0, 1) := by decide +kernel
theorem dL_law_987 : decode cL_law 987 = .ok (.ireturn, 1) := by decide +kernel
theorem dL_law_988 : decode cL_law 988 = .ok (.goto 251, 3) := by decide +kernel
theorem dL_law_991 : decode cL_law 991 = .ok (.aload_n 1, 1) := by decide +kernel
theorem dL_law_992 : decode cL_law 992 = .ok (.aload_n 0, 1) := by decide +kernel
theorem dL_law_993 : decode cL_law 993 = .ok (.iload 4, 2) := by decide +kernel
theorem dL_law_995 : decode cL_law 995 = .ok (.iconst 1, 1) := by decide +kernel
theorem dL_law_996 : decode cL_law 996 = .ok (.iadd, 1) := by decide +kernel
theorem dL_law_997 : decode cL_law 997 = .ok (.iaload, 1) := by decide +kernel
theorem dL_law_998 : decode cL_law 998 = .ok (.aload_n 3, 1) := by decide +kernel
theorem dL_law_999 : decode cL_law 999 = .ok (.invokestatic 120, 3) := by decide +kernel
theorem dL_law_1002 : decode cL_law 1002 = .ok (.istore 5, 2) := by decide +kernel
theorem dL_law_1004 : decode cL_law 1004 = .ok (.aload_n 2, 1) := by decide +kernel
theorem dL_law_1005 : decode cL_law 1005 = .ok (.aload_n 0, 1) := by decide +kernel
theorem dL_law_1006 : decode cL_law 1006 = .ok (.iload 4, 2) := by decide +kernel
theorem dL_law_1008 : decode cL_law 1008 = .ok (.iconst 1, 1) := by decide +kernel
theorem dL_law_1009 : decode cL_law 1009 = .ok (.iadd, 1) := by decide +kernel
theorem dL_law_1010 : decode cL_law 1010 = .ok (.iaload, 1) := by decide +kernel
theorem dL_law_1011 : decode cL_law 1011 = .ok (.invokevirtual 123, 3) := by decide +kernel
theorem dL_law_1014 : decode cL_law 1014 = .ok (.istore 6, 2) := by decide +kernel
theorem dL_law_1016 : decode cL_law 1016 = .ok (.aload_n 2, 1) := by decide +kernel
theorem dL_law_1017 : decode cL_law 1017 = .ok (.invokevirtual 80, 3) := by decide +kernel
theorem dL_law_1020 : decode cL_law 1020 = .ok (.iload 5, 2) := by decide +kernel
theorem dL_law_1022 : decode cL_law 1022 = .ok (.if_icmp .eq 5, 3) := by decide +kernel
theorem dL_law_1025 : decode cL_law 1025 = .ok (.iconst 0, 1) := by decide +kernel
theorem dL_law_1026 : decode cL_law 1026 = .ok (.ireturn, 1) := by decide +kernel
theorem dL_law_1027 : decode cL_law 1027 = .ok (.iload 5, 2) := by decide +kernel
theorem dL_law_1029 : decode cL_law 1029 = .ok (.ifCond .ne 15, 3) := by decide +kernel
theorem dL_law_1032 : decode cL_law 1032 = .ok (.aload_n 3, 1) := by decide +kernel
theorem dL_law_1033 : decode cL_law 1033 = .ok (.iconst 0, 1) := by decide +kernel
theorem dL_law_1034 : decode cL_law 1034 = .ok (.laload, 1) := by decide +kernel
theorem dL_law_1035 : decode cL_law 1035 = .ok (.iload 6, 2) := by decide +kernel
theorem dL_law_1037 : decode cL_law 1037 = .ok (.i2l, 1) := by decide +kernel
theorem dL_law_1038 : decode cL_law 1038 = .ok (.lcmp, 1) := by decide +kernel
theorem dL_law_1039 : decode cL_law 1039 = .ok (.ifCond .eq 5, 3) := by decide +kernel
end
section
theorem dL_law_1042 : decode cL_law 1042 = .ok (.iconst 0, 1) := by decide +kernel
theorem dL_law_1043 : decode cL_law 1043 = .ok (.ireturn, 1) := by decide +kernel
theorem dL_law_1044 : decode cL_law 1044 = .ok (.goto 195, 3) := by decide +kernel
theorem dL_law_1047 : decode cL_law 1047 = .ok (.aload_n 1, 1) := by decide +kernel
theorem dL_law_1048 : decode cL_law 1048 = .ok (.aload_n 0, 1) := by decide +kernel
theorem dL_law_1049 : decode cL_law 1049 = .ok (.iload 4, 2) := by decide +kernel
theorem dL_law_1051 : decode cL_law 1051 = .ok (.iconst 1, 1) := by decide +kernel
theorem dL_law_1052 : decode cL_law 1052 = .ok (.iadd, 1) := by decide +kernel
theorem dL_law_1053 : decode cL_law 1053 = .ok (.iaload, 1) := by decide +kernel
theorem dL_law_1054 : decode cL_law 1054 = .ok (.aload_n 0, 1) := by decide +kernel
theorem dL_law_1055 : decode cL_law 1055 = .ok (.iload 4, 2) := by decide +kernel
theorem dL_law_1057 : decode cL_law 1057 = .ok (.iconst 2, 1) := by decide +kernel
theorem dL_law_1058 : decode cL_law 1058 = .ok (.iadd, 1) := by decide +kernel
theorem dL_law_1059 : decode cL_law 1059 = .ok (.iaload, 1) := by decide +kernel
theorem dL_law_1060 : decode cL_law 1060 = .ok (.aload_n 3, 1) := by decide +kernel
theorem dL_law_1061 : decode cL_law 1061 = .ok (.invokestatic 124, 3) := by decide +kernel
theorem dL_law_1064 : decode cL_law 1064 = .ok (.istore 5, 2) := by decide +kernel
theorem dL_law_1066 : decode cL_law 1066 = .ok (.aload_n 2, 1) := by decide +kernel
theorem dL_law_1067 : decode cL_law 1067 = .ok (.aload_n 0, 1) := by decide +kernel
theorem dL_law_1068 : decode cL_law 1068 = .ok (.iload 4, 2) := by decide +kernel
theorem dL_law_1070 : decode cL_law 1070 = .ok (.iconst 1, 1) := by decide +kernel
theorem dL_law_1071 : decode cL_law 1071 = .ok (.iadd, 1) := by decide +kernel
theorem dL_law_1072 : decode cL_law 1072 = .ok (.iaload, 1) := by decide +kernel
theorem dL_law_1073 : decode cL_law 1073 = .ok (.aload_n 0, 1) := by decide +kernel
theorem dL_law_1074 : decode cL_law 1074 = .ok (.iload 4, 2) := by decide +kernel
theorem dL_law_1076 : decode cL_law 1076 = .ok (.iconst 2, 1) := by decide +kernel
theorem dL_law_1077 : decode cL_law 1077 = .ok (.iadd, 1) := by decide +kernel
theorem dL_law_1078 : decode cL_law 1078 = .ok (.iaload, 1) := by decide +kernel
theorem dL_law_1079 : decode cL_law 1079 = .ok (.invokevirtual 126, 3) := by decide +kernel
theorem dL_law_1082 : decode cL_law 1082 = .ok (.istore 6, 2) := by decide +kernel
theorem dL_law_1084 : decode cL_law 1084 = .ok (.aload_n 2, 1) := by decide +kernel
theorem dL_law_1085 : decode cL_law 1085 = .ok (.invokevirtual 80, 3) := by decide +kernel
theorem dL_law_1088 : decode cL_law 1088 = .ok (.iload 5, 2) := by decide +kernel
theorem dL_law_1090 : decode cL_law 1090 = .ok (.if_icmp .eq 5, 3) := by decide +kernel
theorem dL_law_1093 : decode cL_law 1093 = .ok (.iconst 0, 1) := by decide +kernel
theorem dL_law_1094 : decode cL_law 1094 = .ok (.ireturn, 1) := by decide +kernel
theorem dL_law_1095 : decode cL_law 1095 = .ok (.iload 5, 2) := by decide +kernel
theorem dL_law_1097 : decode cL_law 1097 = .ok (.ifCond .ne 15, 3) := by decide +kernel
theorem dL_law_1100 : decode cL_law 1100 = .ok (.aload_n 3, 1) := by decide +kernel
theorem dL_law_1101 : decode cL_law 1101 = .ok (.iconst 0, 1) := by decide +kernel
theorem dL_law_1102 : decode cL_law 1102 = .ok (.laload, 1) := by decide +kernel
theorem dL_law_1103 : decode cL_law 1103 = .ok (.iload 6, 2) := by decide +kernel
theorem dL_law_1105 : decode cL_law 1105 = .ok (.i2l, 1) := by decide +kernel
theorem dL_law_1106 : decode cL_law 1106 = .ok (.lcmp, 1) := by decide +kernel
theorem dL_law_1107 : decode cL_law 1107 = .ok (.ifCond .eq 5, 3) := by decide +kernel
theorem dL_law_1110 : decode cL_law 1110 = .ok (.iconst 0, 1) := by decide +kernel
theorem dL_law_1111 : decode cL_law 1111 = .ok (.ireturn, 1) := by decide +kernel
theorem dL_law_1112 : decode cL_law 1112 = .ok (.goto 127, 3) := by decide +kernel
theorem dL_law_1115 : decode cL_law 1115 = .ok (.aload_n 1, 1) := by decide +kernel
theorem dL_law_1116 : decode cL_law 1116 = .ok (.aload_n 0, 1) := by decide +kernel
theorem dL_law_1117 : decode cL_law 1117 = .ok (.iload 4, 2) := by decide +kernel
theorem dL_law_1119 : decode cL_law 1119 = .ok (.iconst 1, 1) := by decide +kernel
theorem dL_law_1120 : decode cL_law 1120 = .ok (.iadd, 1) := by decide +kernel
theorem dL_law_1121 : decode cL_law 1121 = .ok (.iaload, 1) := by decide +kernel
theorem dL_law_1122 : decode cL_law 1122 = .ok (.aload_n 0, 1) := by decide +kernel
theorem dL_law_1123 : decode cL_law 1123 = .ok (.iload 4, 2) := by decide +kernel
theorem dL_law_1125 : decode cL_law 1125 = .ok (.iconst 2, 1) := by decide +kernel
theorem dL_law_1126 : decode cL_law 1126 = .ok (.iadd, 1) := by decide +kernel
theorem dL_law_1127 : decode cL_law 1127 = .ok (.iaload, 1) := by decide +kernel
theorem dL_law_1128 : decode cL_law 1128 = .ok (.aload_n 3, 1) := by decide +kernel
theorem dL_law_1129 : decode cL_law 1129 = .ok (.invokestatic 127, 3) := by decide +kernel
theorem dL_law_1132 : decode cL_law 1132 = .ok (.istore 5, 2) := by decide +kernel
theorem dL_law_1134 : decode cL_law 1134 = .ok (.aload_n 2, 1) := by decide +kernel
theorem dL_law_1135 : decode cL_law 1135 = .ok (.aload_n 0, 1) := by decide +kernel
theorem dL_law_1136 : decode cL_law 1136 = .ok (.iload 4, 2) := by decide +kernel
theorem dL_law_1138 : decode cL_law 1138 = .ok (.iconst 1, 1) := by decide +kernel
theorem dL_law_1139 : decode cL_law 1139 = .ok (.iadd, 1) := by decide +kernel
theorem dL_law_1140 : decode cL_law 1140 = .ok (.iaload, 1) := by decide +kernel
theorem dL_law_1141 : decode cL_law 1141 = .ok (.aload_n 0, 1) := by decide +kernel
theorem dL_law_1142 : decode cL_law 1142 = .ok (.iload 4, 2) := by decide +kernel
theorem dL_law_1144 : decode cL_law 1144 = .ok (.iconst 2, 1) := by decide +kernel
theorem dL_law_1145 : decode cL_law 1145 = .ok (.iadd, 1) := by decide +kernel
theorem dL_law_1146 : decode cL_law 1146 = .ok (.iaload, 1) := by decide +kernel
theorem dL_law_1147 : decode cL_law 1147 = .ok (.invokevirtual 129, 3) := by decide +kernel
theorem dL_law_1150 : decode cL_law 1150 = .ok (.istore 6, 2) := by decide +kernel
theorem dL_law_1152 : decode cL_law 1152 = .ok (.aload_n 2, 1) := by decide +kernel
theorem dL_law_1153 : decode cL_law 1153 = .ok (.invokevirtual 80, 3) := by decide +kernel
theorem dL_law_1156 : decode cL_law 1156 = .ok (.iload 5, 2) := by decide +kernel
theorem dL_law_1158 : decode cL_law 1158 = .ok (.if_icmp .eq 5, 3) := by decide +kernel
theorem dL_law_1161 : decode cL_law 1161 = .ok (.iconst 0, 1) := by decide +kernel
theorem dL_law_1162 : decode cL_law 1162 = .ok (.ireturn, 1) := by decide +kernel
theorem dL_law_1163 : decode cL_law 1163 = .ok (.iload 5, 2) := by decide +kernel
theorem dL_law_1165 : decode cL_law 1165 = .ok (.ifCond .ne 15, 3) := by decide +kernel
theorem dL_law_1168 : decode cL_law 1168 = .ok (.aload_n 3, 1) := by decide +kernel
theorem dL_law_1169 : decode cL_law 1169 = .ok (.iconst 0, 1) := by decide +kernel
theorem dL_law_1170 : decode cL_law 1170 = .ok (.laload, 1) := by decide +kernel
theorem dL_law_1171 : decode cL_law 1171 = .ok (.iload 6, 2) := by decide +kernel
theorem dL_law_1173 : decode cL_law 1173 = .ok (.i2l, 1) := by decide +kernel
theorem dL_law_1174 : decode cL_law 1174 = .ok (.lcmp, 1) := by decide +kernel
theorem dL_law_1175 : decode cL_law 1175 = .ok (.ifCond .eq 5, 3) := by decide +kernel
theorem dL_law_1178 : decode cL_law 1178 = .ok (.iconst 0, 1) := by decide +kernel
theorem dL_law_1179 : decode cL_law 1179 = .ok (.ireturn, 1) := by decide +kernel
theorem dL_law_1180 : decode cL_law 1180 = .ok (.goto 59, 3) := by decide +kernel
theorem dL_law_1183 : decode cL_law 1183 = .ok (.aload_n 1, 1) := by decide +kernel
theorem dL_law_1184 : decode cL_law 1184 = .ok (.aload_n 0, 1) := by decide +kernel
theorem dL_law_1185 : decode cL_law 1185 = .ok (.iload 4, 2) := by decide +kernel
theorem dL_law_1187 : decode cL_law 1187 = .ok (.iconst 1, 1) := by decide +kernel
theorem dL_law_1188 : decode cL_law 1188 = .ok (.iadd, 1) := by decide +kernel
theorem dL_law_1189 : decode cL_law 1189 = .ok (.iaload, 1) := by decide +kernel
theorem dL_law_1190 : decode cL_law 1190 = .ok (.aload_n 3, 1) := by decide +kernel
theorem dL_law_1191 : decode cL_law 1191 = .ok (.invokestatic 130, 3) := by decide +kernel
theorem dL_law_1194 : decode cL_law 1194 = .ok (.istore 5, 2) := by decide +kernel
theorem dL_law_1196 : decode cL_law 1196 = .ok (.aload_n 2, 1) := by decide +kernel
theorem dL_law_1197 : decode cL_law 1197 = .ok (.aload_n 0, 1) := by decide +kernel
theorem dL_law_1198 : decode cL_law 1198 = .ok (.iload 4, 2) := by decide +kernel
theorem dL_law_1200 : decode cL_law 1200 = .ok (.iconst 1, 1) := by decide +kernel
theorem dL_law_1201 : decode cL_law 1201 = .ok (.iadd, 1) := by decide +kernel
theorem dL_law_1202 : decode cL_law 1202 = .ok (.iaload, 1) := by decide +kernel
theorem dL_law_1203 : decode cL_law 1203 = .ok (.invokevirtual 132, 3) := by decide +kernel
theorem dL_law_1206 : decode cL_law 1206 = .ok (.istore 6, 2) := by decide +kernel
theorem dL_law_1208 : decode cL_law 1208 = .ok (.aload_n 2, 1) := by decide +kernel
theorem dL_law_1209 : decode cL_law 1209 = .ok (.invokevirtual 80, 3) := by decide +kernel
theorem dL_law_1212 : decode cL_law 1212 = .ok (.iload 5, 2) := by decide +kernel
theorem dL_law_1214 : decode cL_law 1214 = .ok (.if_icmp .eq 5, 3) := by decide +kernel
theorem dL_law_1217 : decode cL_law 1217 = .ok (.iconst 0, 1) := by decide +kernel
theorem dL_law_1218 : decode cL_law 1218 = .ok (.ireturn, 1) := by decide +kernel
theorem dL_law_1219 : decode cL_law 1219 = .ok (.iload 5, 2) := by decide +kernel
theorem dL_law_1221 : decode cL_law 1221 = .ok (.ifCond .ne 15, 3) := by decide +kernel
theorem dL_law_1224 : decode cL_law 1224 = .ok (.aload_n 3, 1) := by decide +kernel
theorem dL_law_1225 : decode cL_law 1225 = .ok (.iconst 0, 1) := by decide +kernel
theorem dL_law_1226 : decode cL_law 1226 = .ok (.laload, 1) := by decide +kernel
theorem dL_law_1227 : decode cL_law 1227 = .ok (.iload 6, 2) := by decide +kernel
theorem dL_law_1229 : decode cL_law 1229 = .ok (.i2l, 1) := by decide +kernel
theorem dL_law_1230 : decode cL_law 1230 = .ok (.lcmp, 1) := by decide +kernel
theorem dL_law_1231 : decode cL_law 1231 = .ok (.ifCond .eq 5, 3) := by decide +kernel
theorem dL_law_1234 : decode cL_law 1234 = .ok (.iconst 0, 1) := by decide +kernel
theorem dL_law_1235 : decode cL_law 1235 = .ok (.ireturn, 1) := by decide +kernel
theorem dL_law_1236 : decode cL_law 1236 = .ok (.goto 3, 3) := by decide +kernel
theorem dL_law_1239 : decode cL_law 1239 = .ok (.iinc 4 5, 3) := by decide +kernel
theorem dL_law_1242 : decode cL_law 1242 = .ok (.goto (-1219), 3) := by decide +kernel
theorem dL_law_1245 : decode cL_law 1245 = .ok (.iconst 1, 1) := by decide +kernel
theorem dL_law_1246 : decode cL_law 1246 = .ok (.ireturn, 1) := by decide +kernel
abbrev vwCl : List vw_C := [(RX0, TX0, 8), (RX1, TX1, 10), (RX2, TX2, 20)]
end
section
/-! THE MEMORY: 37 cells, each a row of Int32; the objects' references never change -/
abbrev Mem : Type := Nat → Nat → Int32
def m_up (σ : Mem) (j i : Nat) (v : Int32) : Mem := fun a => if a = j then upd (σ a) i v else σ a
theorem m_up_row (σ : Mem) (j i : Nat) (v : Int32) : m_up σ j i v j = upd (σ j) i v := by simp [m_up]
theorem m_up_ne (σ : Mem) {j a : Nat} (i : Nat) (v : Int32) (h : a ≠ j) : m_up σ j i v a = σ a := by simp [m_up, h]
theorem m_up_get (σ : Mem) (j i : Nat) (v : Int32) (a b : Nat) : m_up σ j i v a b = if a = j ∧ b = i then v else σ a b := by
  by_cases h : a = j
  · subst h
    by_cases h2 : b = i <;> simp [m_up, upd, h2]
  · simp [m_up, h]
/-- what is fixed over a run: the classes' slots, the bound below which nothing changes, the cells' addresses, the array classes, the texts' addresses -/
abbrev Ev : Type := va_G × Nat × (Nat → Nat) × (Nat → ClassId) × (Nat → Nat)
abbrev e_D (E : Ev) : va_G := E.1
abbrev e_B (E : Ev) : Nat := E.2.1
abbrev e_a (E : Ev) : Nat → Nat := E.2.2.1
abbrev e_c (E : Ev) : Nat → ClassId := E.2.2.2.1
abbrev e_s (E : Ev) : Nat → Nat := E.2.2.2.2
abbrev e_t (E : Ev) : List (ClassId × FieldType) := [(e_c E 0, .int), (e_c E 1, .boolean), (e_c E 2, .long), (e_c E 3, .object "ParcelChutes$Chute")]
def w_cell (E : Ev) (r : Nat → Int32) (o : Nat → Int64) (j : Nat) : va_E :=
  if j = 0 then .inr (1, [.ref (e_a E 1), .int (r 1), .int (r 2), .int (r 3), .int (r 4), .int (r 5), .int (r 6), .int (r 7), .int (r 8), .int (r 9)])
  else if j = 1 then .inl (e_c E 3, 8, .inr (.inr (.inr (.inr (fun k => some (e_a E (k + 2)))))))
  else if j < 10 then .inr (0, [.ref (e_a E (j + 8)), .ref (e_a E (j + 16)), .int (r 2), .int (r 3), .int (r 4), .int (r 5), .int (r 6), .int (r 7)])
  else if j < 26 then .inl (e_c E 0, 12, .inl r)
  else if j = 26 then .inr (2, [.int (r 0), .ref (e_a E 27), .ref (e_a E 28), .ref (e_a E 29), .ref (e_a E 30), .int (r 5), .ref (e_a E 31), .ref (e_a E 32), .ref (e_a E 33), .ref (e_a E 34), .ref (e_a E 35), .int (r 11), .int (r 12), .int (r 13), .int (r 14), .int (r 15), .int (r 16), .int (r 17), .int (r 18), .int (r 19)])
  else if j < 31 then .inl (e_c E 0, 96, .inl r)
  else if j < 35 then .inl (e_c E 0, 8, .inl r)
  else if j = 35 then .inl (e_c E 1, 8, .inl r)
  else .inl (e_c E 2, 1, .inr (.inl o))
def wd (E : Ev) (σ : Mem) (o : Nat → Int64) : va_W := (List.range 37).map (fun j => (e_a E j, w_cell E (σ j) o j))
theorem wd_at {E : Ev} {σ : Mem} {o : Nat → Int64} {j : Nat} (hj : j < 37) : (wd E σ o)[j]? = some (e_a E j, w_cell E (σ j) o j) := by simp [wd, hj]
theorem wd_ofat {E : Ev} {σ : Mem} {o : Nat → Int64} {j : Nat} {q : Nat × va_E} (h : (wd E σ o)[j]? = some q) : j < 37 ∧ q = (e_a E j, w_cell E (σ j) o j) := by
  have hj : j < 37 := by
    have := (List.getElem?_eq_some_iff.mp h).1
    simpa [wd] using this
  exact ⟨hj, (Option.some.inj ((wd_at hj).symm.trans h)).symm⟩
theorem wd_set {E : Ev} {σ σ' : Mem} {o o' : Nat → Int64} {j : Nat} {e : va_E} (hj : j < 37) (h : e = w_cell E (σ' j) o' j) (hn : ∀ i, i ≠ j → i < 37 → w_cell E (σ' i) o' i = w_cell E (σ i) o i) : (wd E σ o).set j (e_a E j, e) = wd E σ' o' := by
  apply List.ext_getElem?
  intro i
  rw [List.getElem?_set]
  by_cases hi : j = i
  · subst hi
    have hl : j < (wd E σ o).length := by simp [wd, hj]
    rw [if_pos rfl, if_pos hl, wd_at hj, h]
  · rw [if_neg hi]
    by_cases hi2 : i < 37
    · rw [wd_at hi2, wd_at hi2, hn i (fun z => hi z.symm) hi2]
    · rw [List.getElem?_eq_none (by simp [wd]; omega), List.getElem?_eq_none (by simp [wd]; omega)]
theorem wd_put {E : Ev} {σ : Mem} {o : Nat → Int64} {j i : Nat} {v : Int32} {e : va_E} (hj : j < 37) (h : e = w_cell E (upd (σ j) i v) o j) : (wd E σ o).set j (e_a E j, e) = wd E (m_up σ j i v) o :=
  wd_set hj (by rw [m_up_row]; exact h) (fun a ha _ => by rw [m_up_ne σ i v ha])
theorem at_0 {E : Ev} {σ : Mem} {o : Nat → Int64} : (wd E σ o)[0]? = some (e_a E 0, .inr (1, [.ref (e_a E 1), .int (σ 0 1), .int (σ 0 2), .int (σ 0 3), .int (σ 0 4), .int (σ 0 5), .int (σ 0 6), .int (σ 0 7), .int (σ 0 8), .int (σ 0 9)])) := wd_at (by decide)
theorem at_1 {E : Ev} {σ : Mem} {o : Nat → Int64} : (wd E σ o)[1]? = some (e_a E 1, .inl (e_c E 3, 8, .inr (.inr (.inr (.inr (fun k => some (e_a E (k + 2)))))))) := wd_at (by decide)
theorem at_ch {E : Ev} {σ : Mem} {o : Nat → Int64} {k : Nat} (hk : k < 8) : (wd E σ o)[k + 2]? = some (e_a E (k + 2), .inr (0, [.ref (e_a E (k + 10)), .ref (e_a E (k + 18)), .int (σ (k + 2) 2), .int (σ (k + 2) 3), .int (σ (k + 2) 4), .int (σ (k + 2) 5), .int (σ (k + 2) 6), .int (σ (k + 2) 7)])) := by
  rw [wd_at (by omega)]
  have h3 : k + 2 < 10 := by omega
  simp [w_cell, h3]
theorem at_wt {E : Ev} {σ : Mem} {o : Nat → Int64} {k : Nat} (hk : k < 8) : (wd E σ o)[k + 10]? = some (e_a E (k + 10), .inl (e_c E 0, 12, .inl (σ (k + 10)))) := by
  rw [wd_at (by omega)]
  have h3 : ¬ k + 10 < 10 := by omega
  have h4 : k + 10 < 26 := by omega
  simp [w_cell, h4]
theorem at_gi {E : Ev} {σ : Mem} {o : Nat → Int64} {k : Nat} (hk : k < 8) : (wd E σ o)[k + 18]? = some (e_a E (k + 18), .inl (e_c E 0, 12, .inl (σ (k + 18)))) := by
  rw [wd_at (by omega)]
  have h3 : ¬ k + 18 < 10 := by omega
  have h4 : k + 18 < 26 := by omega
  simp [w_cell, h3, h4]
theorem at_26 {E : Ev} {σ : Mem} {o : Nat → Int64} : (wd E σ o)[26]? = some (e_a E 26, .inr (2, [.int (σ 26 0), .ref (e_a E 27), .ref (e_a E 28), .ref (e_a E 29), .ref (e_a E 30), .int (σ 26 5), .ref (e_a E 31), .ref (e_a E 32), .ref (e_a E 33), .ref (e_a E 34), .ref (e_a E 35), .int (σ 26 11), .int (σ 26 12), .int (σ 26 13), .int (σ 26 14), .int (σ 26 15), .int (σ 26 16), .int (σ 26 17), .int (σ 26 18), .int (σ 26 19)])) := wd_at (by decide)
theorem at_27 {E : Ev} {σ : Mem} {o : Nat → Int64} : (wd E σ o)[27]? = some (e_a E 27, .inl (e_c E 0, 96, .inl (σ 27))) := wd_at (by decide)
theorem at_28 {E : Ev} {σ : Mem} {o : Nat → Int64} : (wd E σ o)[28]? = some (e_a E 28, .inl (e_c E 0, 96, .inl (σ 28))) := wd_at (by decide)
theorem at_29 {E : Ev} {σ : Mem} {o : Nat → Int64} : (wd E σ o)[29]? = some (e_a E 29, .inl (e_c E 0, 96, .inl (σ 29))) := wd_at (by decide)
theorem at_30 {E : Ev} {σ : Mem} {o : Nat → Int64} : (wd E σ o)[30]? = some (e_a E 30, .inl (e_c E 0, 96, .inl (σ 30))) := wd_at (by decide)
theorem at_31 {E : Ev} {σ : Mem} {o : Nat → Int64} : (wd E σ o)[31]? = some (e_a E 31, .inl (e_c E 0, 8, .inl (σ 31))) := wd_at (by decide)
theorem at_32 {E : Ev} {σ : Mem} {o : Nat → Int64} : (wd E σ o)[32]? = some (e_a E 32, .inl (e_c E 0, 8, .inl (σ 32))) := wd_at (by decide)
theorem at_33 {E : Ev} {σ : Mem} {o : Nat → Int64} : (wd E σ o)[33]? = some (e_a E 33, .inl (e_c E 0, 8, .inl (σ 33))) := wd_at (by decide)
theorem at_34 {E : Ev} {σ : Mem} {o : Nat → Int64} : (wd E σ o)[34]? = some (e_a E 34, .inl (e_c E 0, 8, .inl (σ 34))) := wd_at (by decide)
theorem at_35 {E : Ev} {σ : Mem} {o : Nat → Int64} : (wd E σ o)[35]? = some (e_a E 35, .inl (e_c E 1, 8, .inl (σ 35))) := wd_at (by decide)
theorem at_36 {E : Ev} {σ : Mem} {o : Nat → Int64} : (wd E σ o)[36]? = some (e_a E 36, .inl (e_c E 2, 1, .inr (.inl o))) := wd_at (by decide)
/-- from B on everything may change -/
def LB (B : Nat) : Nat → Prop := fun q => B ≤ q
def e_ok (E : Ev) : Prop := (∀ i j, i < 37 → j < 37 → e_a E i = e_a E j → i = j) ∧ ∀ j, j < 37 → e_B E ≤ e_a E j
theorem wd_D {E : Ev} (h : e_ok E) (σ : Mem) (o : Nat → Int64) : va_D (LB (e_B E)) (wd E σ o) := by
  refine ⟨fun i j p q hi hj hpq => ?_, fun k q hk => ?_⟩
  · obtain ⟨h1, rfl⟩ := wd_ofat hi
    obtain ⟨h2, rfl⟩ := wd_ofat hj
    exact h.1 i j h1 h2 hpq
  · obtain ⟨h1, rfl⟩ := wd_ofat hk
    exact h.2 k h1
abbrev xIO : String := "java/lang/IndexOutOfBoundsException"
abbrev xIA : String := "java/lang/IllegalArgumentException"
abbrev xIS : String := "java/lang/IllegalStateException"
abbrev xNS : String := "java/util/NoSuchElementException"
abbrev xAll : List String := [xIO, xIA, xIS, xNS]
abbrev xUp : List String := ["java/lang/RuntimeException", "java/lang/Exception", "java/lang/Throwable"]
/-- what is known of the tables and of the two statics, as long as a run lasts -/
def KN (E : Ev) (U : State) : Prop := va_K (e_D E) vwCl (e_t E) U ∧ (va_Nw (.methodLinkNest RX1 15 yX0_init RX1) U ∧ va_Nw (.methodLinkNest RX0 25 yX1_holds RX1) U ∧ va_Nw (.methodLinkNest RX0 46 yX1_oneIf RX1) U) ∧ (vk_R RX1 148 "no such chute" (e_s E 0) U ∧ vk_R RX1 22 "no such sort" (e_s E 1) U ∧ vk_R RX1 33 "the chute holds parcels" (e_s E 2) U ∧ vk_R RX1 155 "no such weight" (e_s E 3) U ∧ vk_R RX1 157 "no such girth" (e_s E 4) U ∧ vk_R RX1 50 "HIGH is less than LOW" (e_s E 5) U ∧ vk_R RX1 87 "no such what" (e_s E 6) U ∧ vk_R RX1 161 "no such parcel" (e_s E 7) U ∧ vk_R RX1 111 "both are one chute" (e_s E 8) U) ∧ ((∀ X ∈ xAll, va_Nw (.castable X X) U) ∧ (∀ X ∈ xUp, va_Nw (.declares (Bundle.initS X)) U) ∧ ∀ X ∈ xAll, ∀ Y ∈ xAll, X ≠ Y → va_Nc X Y U) ∧ vx_Zq Bundle.tN "UNASSIGNED_STACK" Bundle.steD (LB (e_B E)) U U.heap ∧ vx_Zq Bundle.tN "SUPPRESSED_SENTINEL" Bundle.listD (LB (e_B E)) U U.heap
theorem KN.mv {E : Ev} {s U : State} (hW : s.WarmedH U.vm) (hh : ∀ a : Nat, a < s.heap.size → ¬ LB (e_B E) a → U.heap[a]? = s.heap[a]?) (h : KN E s) : KN E U := by
  obtain ⟨h1, ⟨n0, n1, n2⟩, ⟨s0, s1, s2, s3, s4, s5, s6, s7, s8⟩, ⟨c1, d1, c2⟩, z1, z2⟩ := h
  exact ⟨h1.moved hW.alike, ⟨va_Nw.warmM hW n0, va_Nw.warmM hW n1, va_Nw.warmM hW n2⟩, ⟨s0.warm hW, s1.warm hW, s2.warm hW, s3.warm hW, s4.warm hW, s5.warm hW, s6.warm hW, s7.warm hW, s8.warm hW⟩, ⟨fun X hX => va_Nw.warmC hW (c1 X hX), fun X hX => va_Nw.warmD hW (d1 X hX), fun X hX Y hY hn => (c2 X hX Y hY hn).moved hW.alike⟩, (z1.moved hW.alike).kept hh, (z2.moved hW.alike).kept hh⟩
theorem KN.K {E : Ev} {s : State} (h : KN E s) : va_K (e_D E) vwCl (e_t E) s := h.1
theorem KN.nX1_15 {E : Ev} {s : State} (h : KN E s) : va_Nw (.methodLinkNest RX1 15 yX0_init RX1) s := h.2.1.1
theorem KN.nX0_25 {E : Ev} {s : State} (h : KN E s) : va_Nw (.methodLinkNest RX0 25 yX1_holds RX1) s := h.2.1.2.1
theorem KN.nX0_46 {E : Ev} {s : State} (h : KN E s) : va_Nw (.methodLinkNest RX0 46 yX1_oneIf RX1) s := h.2.1.2.2
theorem KN.s148 {E : Ev} {s : State} (h : KN E s) : vk_R RX1 148 "no such chute" (e_s E 0) s := h.2.2.1.1
theorem KN.s22 {E : Ev} {s : State} (h : KN E s) : vk_R RX1 22 "no such sort" (e_s E 1) s := h.2.2.1.2.1
theorem KN.s33 {E : Ev} {s : State} (h : KN E s) : vk_R RX1 33 "the chute holds parcels" (e_s E 2) s := h.2.2.1.2.2.1
theorem KN.s155 {E : Ev} {s : State} (h : KN E s) : vk_R RX1 155 "no such weight" (e_s E 3) s := h.2.2.1.2.2.2.1
theorem KN.s157 {E : Ev} {s : State} (h : KN E s) : vk_R RX1 157 "no such girth" (e_s E 4) s := h.2.2.1.2.2.2.2.1
theorem KN.s50 {E : Ev} {s : State} (h : KN E s) : vk_R RX1 50 "HIGH is less than LOW" (e_s E 5) s := h.2.2.1.2.2.2.2.2.1
theorem KN.s87 {E : Ev} {s : State} (h : KN E s) : vk_R RX1 87 "no such what" (e_s E 6) s := h.2.2.1.2.2.2.2.2.2.1
theorem KN.s161 {E : Ev} {s : State} (h : KN E s) : vk_R RX1 161 "no such parcel" (e_s E 7) s := h.2.2.1.2.2.2.2.2.2.2.1
theorem KN.s111 {E : Ev} {s : State} (h : KN E s) : vk_R RX1 111 "both are one chute" (e_s E 8) s := h.2.2.1.2.2.2.2.2.2.2.2
theorem KN.c {E : Ev} {s : State} {args : Array Value} (h : KN E s) {X : String} (hX : X ∈ xAll) : (Cond.castable X X).before args s = true := va_Nw.use rfl (h.2.2.2.1.1 X hX)
theorem KN.d {E : Ev} {s : State} {args : Array Value} (h : KN E s) {X : String} (hX : X ∈ xUp) : (Cond.declares (Bundle.initS X)).before args s = true := va_Nw.use rfl (h.2.2.2.1.2.1 X hX)
theorem KN.nc {E : Ev} {s : State} (h : KN E s) {X Y : String} (hX : X ∈ xAll) (hY : Y ∈ xAll) (hn : X ≠ Y) : va_Nc X Y s := h.2.2.2.1.2.2 X hX Y hY hn
theorem KN.zU {E : Ev} {s : State} (h : KN E s) : vx_Zq Bundle.tN "UNASSIGNED_STACK" Bundle.steD (LB (e_B E)) s s.heap := h.2.2.2.2.1
theorem KN.zN {E : Ev} {s : State} (h : KN E s) : vx_Zq Bundle.tN "SUPPRESSED_SENTINEL" Bundle.listD (LB (e_B E)) s s.heap := h.2.2.2.2.2
end
section
def PW (E : Ev) (σ : Mem) (o : Nat → Int64) (av : List Value) : Array Value → State → Prop := va_Pc av (fun U => va_P (e_D E) vwCl (wd E σ o) U.heap ∧ KN E U)
def BW (E : Ev) (o : Nat → Int64) : Mem → State → Prop := fun σ t => va_P (e_D E) vwCl (wd E σ o) t.heap
/-- thrown: a class that px allows, nothing changed -/
def XW (E : Ev) (σ : Mem) (o : Nat → Int64) (px : String → Prop) : String → State → State → Prop := vx_X px (fun X u t => X = u ∧ va_P (e_D E) vwCl (wd E σ o) t.heap) (LB (e_B E))
theorem PW_blind {E : Ev} {σ : Mem} {o : Nat → Int64} {av : List Value} : FrameBlind (PW E σ o av) := fun a U g mk q => by
  obtain ⟨h1, h2, h3⟩ := q
  exact ⟨h1, h2, KN.mv (s := U) (U := U.calling g mk a) (State.WarmedH.refl U) (fun _ _ _ => rfl) h3⟩
theorem PW_pre {E : Ev} {σ : Mem} {o : Nat → Int64} {av : List Value} {s : State} {H : Heap} {locs : List Loc} (hP : va_P (e_D E) vwCl (wd E σ o) H) (hK : KN E s) (hS : va_S (LB (e_B E)) s.heap H locs) : ∀ U : State, U.heap = H → s.WarmedH U.vm → PW E σ o av av.toArray U := fun U hU hW =>
  ⟨rfl, by rw [hU]; exact hP, KN.mv hW (by rw [hU]; exact hS.2.1) hK⟩
theorem PT_blind {av : List Value} : FrameBlind (va_Pc av (fun _ => True)) := fun _ _ _ _ q => q
section RW3
variable {p : Program} {l : Launch} {e : Env} {R : Room} {s : State} {m : MethodId} {args : Array Value} {below : List Frame} {meth : Method} {c : Code} {H : Heap} {locs : List Loc} {cells slots : Nat} {Q : State → Prop} {cc : ByteArray} {pc : Nat} {ls : Array Slot} {rest st0 As : List Value}
variable {y : MethodName} {bytes : ByteArray} {maxL nL mc ms n index : Nat} {ret : Option FieldType} {ws Ts : List Cond} {rm : Room} {own C : String} {b : Addr} {E : Ev} {σ : Mem} {o : Nat → Int64} {off : Int} {tgt : Nat}
-- branches over numbers that are naturals
theorem nb_eq (hexec : p.tables.exec = Jvm.exec) (hb : c.code = cc) {x y : Int32} {i j : Nat} (hx : x = nI i) (hy : y = nI j) (hi : i < 2 ^ 31) (hj : j < 2 ^ 31) (hdg : decode cc pc = .ok (.if_icmp .eq off, 3)) (ht : (pc : Int) + off = (tgt : Int)) (kt : i = j → W p l e R s m args below meth c H locs cells slots Q (F0 m tgt ls rest)) (kf : i ≠ j → W p l e R s m args below meth c H locs cells slots Q (F0 m (pc + 3) ls rest)) : W p l e R s m args below meth c H locs cells slots Q (F0 m pc ls (.int y :: .int x :: rest)) := by
  subst hx; subst hy
  exact lv_icmp_eq hexec hb hdg ht (fun h => kt ((nI_eq hi hj).mp h)) (fun h => kf (fun z => h ((nI_eq hi hj).mpr z)))
theorem nb_ne (hexec : p.tables.exec = Jvm.exec) (hb : c.code = cc) {x y : Int32} {i j : Nat} (hx : x = nI i) (hy : y = nI j) (hi : i < 2 ^ 31) (hj : j < 2 ^ 31) (hdg : decode cc pc = .ok (.if_icmp .ne off, 3)) (ht : (pc : Int) + off = (tgt : Int)) (kt : i ≠ j → W p l e R s m args below meth c H locs cells slots Q (F0 m tgt ls rest)) (kf : i = j → W p l e R s m args below meth c H locs cells slots Q (F0 m (pc + 3) ls rest)) : W p l e R s m args below meth c H locs cells slots Q (F0 m pc ls (.int y :: .int x :: rest)) := by
  subst hx; subst hy
  exact lv_icmp_ne hexec hb hdg ht (fun h => kt (fun z => h ((nI_eq hi hj).mpr z))) (fun h => kf ((nI_eq hi hj).mp h))
theorem nb_ge (hexec : p.tables.exec = Jvm.exec) (hb : c.code = cc) {x y : Int32} {i j : Nat} (hx : x = nI i) (hy : y = nI j) (hi : i < 2 ^ 31) (hj : j < 2 ^ 31) (hdg : decode cc pc = .ok (.if_icmp .ge off, 3)) (ht : (pc : Int) + off = (tgt : Int)) (kt : j ≤ i → W p l e R s m args below meth c H locs cells slots Q (F0 m tgt ls rest)) (kf : i < j → W p l e R s m args below meth c H locs cells slots Q (F0 m (pc + 3) ls rest)) : W p l e R s m args below meth c H locs cells slots Q (F0 m pc ls (.int y :: .int x :: rest)) := by
  subst hx; subst hy
  exact lv_icmp_ge hexec hb hdg ht (fun h => kt ((nI_leI hj hi).mp h)) (fun h => kf (Nat.not_le.mp (fun z => h ((nI_leI hj hi).mpr z))))
theorem nb_lt (hexec : p.tables.exec = Jvm.exec) (hb : c.code = cc) {x y : Int32} {i j : Nat} (hx : x = nI i) (hy : y = nI j) (hi : i < 2 ^ 31) (hj : j < 2 ^ 31) (hdg : decode cc pc = .ok (.if_icmp .lt off, 3)) (ht : (pc : Int) + off = (tgt : Int)) (kt : i < j → W p l e R s m args below meth c H locs cells slots Q (F0 m tgt ls rest)) (kf : j ≤ i → W p l e R s m args below meth c H locs cells slots Q (F0 m (pc + 3) ls rest)) : W p l e R s m args below meth c H locs cells slots Q (F0 m pc ls (.int y :: .int x :: rest)) := by
  subst hx; subst hy
  exact lv_icmp_lt hexec hb hdg ht (fun h => kt ((nI_ltI hi hj).mp h)) (fun h => kf (Nat.not_lt.mp (fun z => h ((nI_ltI hi hj).mpr z))))
theorem nb_gt (hexec : p.tables.exec = Jvm.exec) (hb : c.code = cc) {x y : Int32} {i j : Nat} (hx : x = nI i) (hy : y = nI j) (hi : i < 2 ^ 31) (hj : j < 2 ^ 31) (hdg : decode cc pc = .ok (.if_icmp .gt off, 3)) (ht : (pc : Int) + off = (tgt : Int)) (kt : j < i → W p l e R s m args below meth c H locs cells slots Q (F0 m tgt ls rest)) (kf : i ≤ j → W p l e R s m args below meth c H locs cells slots Q (F0 m (pc + 3) ls rest)) : W p l e R s m args below meth c H locs cells slots Q (F0 m pc ls (.int y :: .int x :: rest)) := by
  subst hx; subst hy
  exact lv_icmp_gt hexec hb hdg ht (fun h => kt ((nI_ltI hj hi).mp h)) (fun h => kf (Nat.not_lt.mp (fun z => h ((nI_ltI hj hi).mpr z))))
theorem nb_le (hexec : p.tables.exec = Jvm.exec) (hb : c.code = cc) {x y : Int32} {i j : Nat} (hx : x = nI i) (hy : y = nI j) (hi : i < 2 ^ 31) (hj : j < 2 ^ 31) (hdg : decode cc pc = .ok (.if_icmp .le off, 3)) (ht : (pc : Int) + off = (tgt : Int)) (kt : i ≤ j → W p l e R s m args below meth c H locs cells slots Q (F0 m tgt ls rest)) (kf : j < i → W p l e R s m args below meth c H locs cells slots Q (F0 m (pc + 3) ls rest)) : W p l e R s m args below meth c H locs cells slots Q (F0 m pc ls (.int y :: .int x :: rest)) := by
  subst hx; subst hy
  exact lv_icmp_le hexec hb hdg ht (fun h => kt ((nI_leI hi hj).mp h)) (fun h => kf (Nat.not_le.mp (fun z => h ((nI_leI hi hj).mpr z))))
-- arrays
theorem q_ld (hexec : p.tables.exec = Jvm.exec) (hb : c.code = cc) (hK : KN E s) (hP : va_P (e_D E) vwCl (wd E σ o) H) {j N : Nat} (ha : (wd E σ o)[j]? = some (e_a E j, .inl (e_c E 0, N, .inl (σ j)))) {x : Int32} {i : Nat} (hx : x = nI i) (hi : i < N) (hN : N < 2 ^ 31) (hdg : decode cc pc = .ok (.iaload, 1)) (kk : W p l e R s m args below meth c H locs cells slots Q (F0 m (pc + 1) ls (.int (σ j i) :: rest))) : W p l e R s m args below meth c H locs cells slots Q (F0 m pc ls (.int x :: .ref (e_a E j) :: rest)) := by
  subst hx
  refine va_iald hexec hb hK.K hP j 0 ha rfl (vp_in_nI hi hN) hdg ?_
  rw [nI_clamp (by omega)]
  exact kk
theorem q_zld (hexec : p.tables.exec = Jvm.exec) (hb : c.code = cc) (hK : KN E s) (hP : va_P (e_D E) vwCl (wd E σ o) H) {x : Int32} {i : Nat} (hx : x = nI i) (hi : i < 8) (hdg : decode cc pc = .ok (.baload, 1)) (kk : W p l e R s m args below meth c H locs cells slots Q (F0 m (pc + 1) ls (.int (σ 35 i) :: rest))) : W p l e R s m args below meth c H locs cells slots Q (F0 m pc ls (.int x :: .ref (e_a E 35) :: rest)) := by
  subst hx
  refine va_zald hexec hb hK.K hP 35 1 at_35 rfl (vp_in_nI hi (by decide)) hdg ?_
  rw [nI_clamp (by omega)]
  exact kk
theorem q_chld (hexec : p.tables.exec = Jvm.exec) (hb : c.code = cc) (hK : KN E s) (hP : va_P (e_D E) vwCl (wd E σ o) H) {x : Int32} {i : Nat} (hx : x = nI i) (hi : i < 8) (hdg : decode cc pc = .ok (.aaload, 1)) (kk : W p l e R s m args below meth c H locs cells slots Q (F0 m (pc + 1) ls (.ref (e_a E (i + 2)) :: rest))) : W p l e R s m args below meth c H locs cells slots Q (F0 m pc ls (.int x :: .ref (e_a E 1) :: rest)) := by
  subst hx
  refine va_aldq (C := "ParcelChutes$Chute") hexec hb hK.K hP 1 3 at_1 rfl (vp_in_nI hi (by decide)) hdg ?_
  rw [nI_clamp (by omega)]
  exact kk
theorem q_st (hexec : p.tables.exec = Jvm.exec) (hb : c.code = cc) (hok : e_ok E) (hK : KN E s) (hP : va_P (e_D E) vwCl (wd E σ o) H) (hS : va_S (LB (e_B E)) s.heap H locs) {j N : Nat} (ha : (wd E σ o)[j]? = some (e_a E j, .inl (e_c E 0, N, .inl (σ j)))) (hc : ∀ r : Nat → Int32, (.inl (e_c E 0, N, .inl r) : va_E) = w_cell E r o j) (hj : j < 37) {x v : Int32} {i : Nat} (hx : x = nI i) (hi : i < N) (hN : N < 2 ^ 31) (hdg : decode cc pc = .ok (.iastore, 1)) (kk : ∀ (H1 : Heap) (locs1 : List Loc), va_P (e_D E) vwCl (wd E (m_up σ j i v) o) H1 → va_S (LB (e_B E)) s.heap H1 locs1 → W p l e R s m args below meth c H1 locs1 cells slots Q (F0 m (pc + 1) ls rest)) : W p l e R s m args below meth c H locs cells slots Q (F0 m pc ls (.int v :: .int x :: .ref (e_a E j) :: rest)) := by
  subst hx
  refine va_iast hexec hb hK.K hP (wd_D hok σ o) hS j 0 ha rfl (vp_in_nI hi hN) hdg (fun H1 locs1 hP1 _ hS1 => ?_)
  rw [nI_clamp (by omega), wd_put (E := E) (σ := σ) (o := o) (i := i) (v := v) hj (hc _)] at hP1
  exact kk H1 locs1 hP1 hS1
theorem q_zst (hexec : p.tables.exec = Jvm.exec) (hb : c.code = cc) (hok : e_ok E) (hK : KN E s) (hP : va_P (e_D E) vwCl (wd E σ o) H) (hS : va_S (LB (e_B E)) s.heap H locs) {x v : Int32} {i : Nat} (hx : x = nI i) (hi : i < 8) (hv : vp_nar .boolean v = v) (hdg : decode cc pc = .ok (.bastore, 1)) (kk : ∀ (H1 : Heap) (locs1 : List Loc), va_P (e_D E) vwCl (wd E (m_up σ 35 i v) o) H1 → va_S (LB (e_B E)) s.heap H1 locs1 → W p l e R s m args below meth c H1 locs1 cells slots Q (F0 m (pc + 1) ls rest)) : W p l e R s m args below meth c H locs cells slots Q (F0 m pc ls (.int v :: .int x :: .ref (e_a E 35) :: rest)) := by
  subst hx
  refine va_zast hexec hb hK.K hP (wd_D hok σ o) hS 35 1 at_35 rfl (vp_in_nI hi (by decide)) hdg (fun H1 locs1 hP1 _ hS1 => ?_)
  rw [nI_clamp (by omega), hv, wd_put (E := E) (σ := σ) (o := o) (j := 35) (i := i) (v := v) (e := .inl (e_c E 1, 8, .inl (upd (σ 35) i v))) (by decide) rfl] at hP1
  exact kk H1 locs1 hP1 hS1
-- fields
theorem q_get {T : u_T} {N ci : Nat} (hexec : p.tables.exec = Jvm.exec) (hb : c.code = cc) (hts : ∀ w ∈ Ts, w.before args s = true) (hin : ∀ w ∈ u_ws C T N, w ∈ Ts) (hown : s.vm.findClass own = some m.cls) (hK : KN E s) (hP : va_P (e_D E) vwCl (wd E σ o) H) {j : Nat} {fs : List Value} (he : (wd E σ o)[j]? = some (e_a E j, .inr (ci, fs))) (hc : vwCl[ci]? = some (C, T, N)) (k : Nat) (hk : k < N) (hlink : (Cond.fieldLink own index (T k).1 (T k).2.1 (T k).2.2.1).before args s = true) {v : Value} (hv : fs[k]? = some v) (hdg : decode cc pc = .ok (.getfield index, 3)) (kk : W p l e R s m args below meth c H locs cells slots Q (F0 m (pc + 3) ls (v :: rest))) : W p l e R s m args below meth c H locs cells slots Q (F0 m pc ls (.ref (e_a E j) :: rest)) :=
  va_get hexec hb hts hin hown hK.K hP j he hc k hk hlink (fun _ h9 => h9) hv hdg kk
theorem q_put {T : u_T} {N ci : Nat} (hexec : p.tables.exec = Jvm.exec) (hb : c.code = cc) (hts : ∀ w ∈ Ts, w.before args s = true) (hin : ∀ w ∈ u_ws C T N, w ∈ Ts) (ty0 : Nat → FieldType) (hty : ∀ k, k < N → parseFieldDescriptor (T k).2.2.1 = some (ty0 k)) (hnm : ∀ a, a < N → ∀ b, b < N → a ≠ b → (T a).2.1 ≠ (T b).2.1) (hown : s.vm.findClass own = some m.cls) (hok : e_ok E) (hK : KN E s) (hP : va_P (e_D E) vwCl (wd E σ o) H) (hS : va_S (LB (e_B E)) s.heap H locs) {j : Nat} {fs : List Value} (he : (wd E σ o)[j]? = some (e_a E j, .inr (ci, fs))) (hj : j < 37) (hc : vwCl[ci]? = some (C, T, N)) (k : Nat) (hk : k < N) (hlink : (Cond.fieldLink own index (T k).1 (T k).2.1 (T k).2.2.1).before args s = true) (hfin : (T k).2.2.2 = false) {ty : FieldType} {v : Int32} (hd : parseFieldDescriptor (T k).2.2.1 = some ty) (hn : narrow ty (.int v) = .int v) (hfit : fits ty (.int v) = true) (hl : k < fs.length) (hset : (.inr (ci, fs.set k (.int v)) : va_E) = w_cell E (upd (σ j) k v) o j) (hdg : decode cc pc = .ok (.putfield index, 3)) (kk : ∀ (H1 : Heap) (locs1 : List Loc), va_P (e_D E) vwCl (wd E (m_up σ j k v) o) H1 → va_S (LB (e_B E)) s.heap H1 locs1 → W p l e R s m args below meth c H1 locs1 cells slots Q (F0 m (pc + 3) ls rest)) : W p l e R s m args below meth c H locs cells slots Q (F0 m pc ls (.int v :: .ref (e_a E j) :: rest)) :=
  va_put hexec hb hts hin ty0 hty hnm hown hK.K hP (wd_D hok σ o) hS j he hc k hk hlink (fun _ h9 => h9) hfin hd hn hfit hl hdg (fun H1 locs1 hP1 _ hS1 => kk H1 locs1 (by rw [wd_put (E := E) (σ := σ) (o := o) (i := k) (v := v) hj hset] at hP1; exact hP1) hS1)
-- calls that neither write nor throw, over numbers alone
theorem k_Si {post : Int32 → Prop} (S : CallFix p m c cc nL s args Ts own) (hM : Met l y ws rm (va_Pc As (fun _ => True)) (vp_Si post) 0 0 (fun _ => False)) (cw : CallB R s args own index y bytes maxL ret ws rm 0 0 n ∧ (Cond.static y).before args s = true) (hn : As.length = n) (hsize : ls.size = nL) (hst : st0 = As.reverse ++ rest) (hW : (rest.map fun v => v.category).sum ≤ 8) (hdg : decode cc pc = .ok (.invokestatic index, 3)) (hf : cells ≤ R.cells ∧ slots ≤ R.slots) (kk : ∀ r : Int32, post r → W p l e R s m args below meth c H locs cells slots Q (F0 m (pc + 3) ls (.int r :: rest))) : W p l e R s m args below meth c H locs cells slots Q (F0 m pc ls st0) :=
  vp_callSi (W.runS S hM cw ⟨PT_blind, fun _ _ _ => ⟨rfl, trivial⟩⟩ rfl hn hsize hst (lv_room hW) hdg hf) kk
theorem k_run {mc ms : Nat} {g : JFrame} {Qa : State → Outcome → State → Prop} {free : Addr → Prop} (h : va_Run p l e R s m args below meth c H locs cells slots mc ms g rest Qa free) : CallRun p l e R s m args below meth c H locs cells slots mc ms g rest Qa free := fun T hT X => by
  obtain ⟨v, st₀, t, T', L, h0, X', hL, e1, e2, hq, st⟩ := h T hT X
  exact ⟨v, st₀, t, T', L, h0, X', hL, e1, hq, st⟩
theorem k_SiN {post : Int32 → Prop} {host : String} (S : CallFix p m c cc nL s args Ts own) (hM : Met l y ws rm (va_Pc As (fun _ => True)) (vp_Si post) 0 0 (fun _ => False)) (cw : va_CN R s args own index y host bytes maxL ret ws rm 0 0 n ∧ (Cond.static y).before args s = true ∧ True) (hn : As.length = n) (hsize : ls.size = nL) (hst : st0 = As.reverse ++ rest) (hW : (rest.map fun v => v.category).sum ≤ 8) (hdg : decode cc pc = .ok (.invokestatic index, 3)) (hf : cells ≤ R.cells ∧ slots ≤ R.slots) (kk : ∀ r : Int32, post r → W p l e R s m args below meth c H locs cells slots Q (F0 m (pc + 3) ls (.int r :: rest))) : W p l e R s m args below meth c H locs cells slots Q (F0 m pc ls st0) :=
  vp_callSi (k_run (va_runSN S hM cw ⟨PT_blind, fun _ _ _ => ⟨rfl, trivial⟩⟩ rfl hn hsize hst (lv_room hW) hdg hf)) kk
-- calls over the memory, that don't throw
theorem k_Vi {post : Int32 → Mem → Prop} (S : CallFix p m c cc nL s args Ts own) (hM : Met l y ws rm (PW E σ o (.ref b :: As)) (va_Qi post (BW E o) (LB (e_B E))) 0 0 (LB (e_B E))) (cw : CallW R s args own C index y bytes maxL ret ws rm 0 0 n) (hrec : ∃ cellB : Cell, H[b]? = some cellB ∧ cellB.vm.isStatics = false ∧ s.vm.findClass C = some cellB.cls) (hK : KN E s) (hP : va_P (e_D E) vwCl (wd E σ o) H) (hS : va_S (LB (e_B E)) s.heap H locs) (hn : As.length = n) (hsize : ls.size = nL) (hst : st0 = As.reverse ++ .ref b :: rest) (hW : (rest.map fun v => v.category).sum ≤ 8) (hdg : decode cc pc = .ok (.invokevirtual index, 3)) (hf : cells ≤ R.cells ∧ slots ≤ R.slots) (kk : ∀ (r : Int32) (σ' : Mem) (H1 : Heap) (locs1 : List Loc), post r σ' → va_P (e_D E) vwCl (wd E σ' o) H1 → va_S (LB (e_B E)) s.heap H1 locs1 → W p l e R s m args below meth c H1 locs1 cells slots Q (F0 m (pc + 3) ls (.int r :: rest))) : W p l e R s m args below meth c H locs cells slots Q (F0 m pc ls st0) :=
  va_calli (va_runV S hM cw ⟨PW_blind, hrec, PW_pre hP hK hS⟩ rfl hn hsize hst (lv_room hW) hdg hf) hS (fun _ _ h => h) (fun _ h => h) (fun r u t H1 locs1 ht _ hw hB _ _ hS1 => kk r u H1 locs1 hw (by rw [← ht]; exact hB) hS1)
theorem k_Vv {post : Mem → Prop} (S : CallFix p m c cc nL s args Ts own) (hM : Met l y ws rm (PW E σ o (.ref b :: As)) (va_Qv post (BW E o) (LB (e_B E))) 0 0 (LB (e_B E))) (cw : CallW R s args own C index y bytes maxL ret ws rm 0 0 n) (hrec : ∃ cellB : Cell, H[b]? = some cellB ∧ cellB.vm.isStatics = false ∧ s.vm.findClass C = some cellB.cls) (hK : KN E s) (hP : va_P (e_D E) vwCl (wd E σ o) H) (hS : va_S (LB (e_B E)) s.heap H locs) (hn : As.length = n) (hsize : ls.size = nL) (hst : st0 = As.reverse ++ .ref b :: rest) (hW : (rest.map fun v => v.category).sum ≤ 8) (hdg : decode cc pc = .ok (.invokevirtual index, 3)) (hf : cells ≤ R.cells ∧ slots ≤ R.slots) (kk : ∀ (σ' : Mem) (H1 : Heap) (locs1 : List Loc), post σ' → va_P (e_D E) vwCl (wd E σ' o) H1 → va_S (LB (e_B E)) s.heap H1 locs1 → W p l e R s m args below meth c H1 locs1 cells slots Q (F0 m (pc + 3) ls rest)) : W p l e R s m args below meth c H locs cells slots Q (F0 m pc ls st0) :=
  va_callv (va_runV S hM cw ⟨PW_blind, hrec, PW_pre hP hK hS⟩ rfl hn hsize hst (lv_room hW) hdg hf) hS (fun _ _ h => h) (fun _ h => h) (fun u t H1 locs1 ht _ hw hB _ _ hS1 => kk u H1 locs1 hw (by rw [← ht]; exact hB) hS1)
-- ends
theorem r_i {post : Int32 → Mem → Prop} {v : Int32} (hexec : p.tables.exec = Jvm.exec) (hb : c.code = cc) (hr : meth.sig.returnType = some .int) (hlocks : meth.locks = false) (hP : va_P (e_D E) vwCl (wd E σ o) H) (hS : va_S (LB (e_B E)) s.heap H locs) (hd : decode cc pc = .ok (.ireturn, 1)) (hpost : post v σ) : W p l e R s m args below meth c H locs cells slots (MQ below (va_Qi post (BW E o) (LB (e_B E))) args s cells slots (LB (e_B E))) (F0 m pc ls [.int v]) :=
  W.iret hexec hb hr (fun t ht _ => ⟨⟨v, σ, rfl, hpost, by show va_P _ _ _ t.heap; rw [ht]; exact hP⟩, hS.F ht⟩) hS.2.2 hd hlocks
theorem r_z {post : Int32 → Mem → Prop} {v : Int32} (hexec : p.tables.exec = Jvm.exec) (hb : c.code = cc) (hr : meth.sig.returnType = some .boolean) (hlocks : meth.locks = false) (hn : narrow .boolean (.int v) = .int v) (hP : va_P (e_D E) vwCl (wd E σ o) H) (hS : va_S (LB (e_B E)) s.heap H locs) (hd : decode cc pc = .ok (.ireturn, 1)) (hpost : post v σ) : W p l e R s m args below meth c H locs cells slots (MQ below (va_Qi post (BW E o) (LB (e_B E))) args s cells slots (LB (e_B E))) (F0 m pc ls [.int v]) :=
  W.zret hexec hb hr hn (fun t ht _ => ⟨⟨v, σ, rfl, hpost, by show va_P _ _ _ t.heap; rw [ht]; exact hP⟩, hS.F ht⟩) hS.2.2 hd hlocks
theorem r_v {post : Mem → Prop} (hexec : p.tables.exec = Jvm.exec) (hb : c.code = cc) (hr : meth.sig.returnType = none) (hlocks : meth.locks = false) (hP : va_P (e_D E) vwCl (wd E σ o) H) (hS : va_S (LB (e_B E)) s.heap H locs) (hd : decode cc pc = .ok (.return_, 1)) (hpost : post σ) : W p l e R s m args below meth c H locs cells slots (MQ below (va_Qv post (BW E o) (LB (e_B E))) args s cells slots (LB (e_B E))) (F0 m pc ls []) :=
  W.vret hexec hb hr (fun t ht _ => ⟨⟨σ, rfl, hpost, by show va_P _ _ _ t.heap; rw [ht]; exact hP⟩, hS.F ht⟩) hS.2.2 hd hlocks
/-- an end over numbers alone -/
theorem s_i {post : Int32 → Prop} {v : Int32} (hexec : p.tables.exec = Jvm.exec) (hb : c.code = cc) (hr : meth.sig.returnType = some .int) (hlocks : meth.locks = false) (hd : decode cc pc = .ok (.ireturn, 1)) (hpost : post v) : W p l e R s m args below meth c s.heap [] cells slots (MQ below (vp_Si post) args s cells slots (fun _ => False)) (F0 m pc ls [.int v]) :=
  W.iret hexec hb hr (fun t ht _ => ⟨v, rfl, hpost, ht⟩) (fun q h => nomatch h) hd hlocks
theorem s_z {post : Int32 → Prop} {v : Int32} (hexec : p.tables.exec = Jvm.exec) (hb : c.code = cc) (hr : meth.sig.returnType = some .boolean) (hlocks : meth.locks = false) (hn : narrow .boolean (.int v) = .int v) (hd : decode cc pc = .ok (.ireturn, 1)) (hpost : post v) : W p l e R s m args below meth c s.heap [] cells slots (MQ below (vp_Si post) args s cells slots (fun _ => False)) (F0 m pc ls [.int v]) :=
  W.zret hexec hb hr hn (fun t ht _ => ⟨v, rfl, hpost, ht⟩) (fun q h => nomatch h) hd hlocks
-- what may throw
variable {Qc : Array Value → State → Outcome → State → Prop} {px px0 : String → Prop} {MC MS : Nat}
theorem x_run {S : Type} {q9 : Addr} {ce : Cell} {X : String} (hno : ∀ x ∈ c.exceptionTable.toList, False) (hlocks : meth.locks = false) {u : String} {t : State} (ht : t.heap = H) (hu : px0 u) (hB : X = u ∧ va_P (e_D E) vwCl (wd E σ o) t.heap) (hS : va_S (LB (e_B E)) s.heap H locs) (hcell : H[q9]? = some ce) (hv : ce.vm = .none) (hcl : s.vm.findClass X = some ce.cls) (hc : cells ≤ MC) (hs : slots ≤ MS) : vx_W p l e R s m args below meth c H locs cells slots (vx_MQ below Qc (XW E σ o px0) args s MC MS (LB (e_B E))) (F0 m pc ls rest) q9 :=
  vx_out (fun x hx => (hno x hx).elim) hlocks hcell hv hcl (fun t' ht' _ => ⟨u, hu, ⟨hB.1, by rw [ht', ← ht]; exact hB.2⟩, hS.F ht'⟩) hS.2.2 hc hs
theorem x_Sv {post : Mem → Prop} (S : CallFix p m c cc nL s args Ts own) (hM : vx_Met l y ws rm (PW E σ o As) (va_Qv post (BW E o) (LB (e_B E))) (XW E σ o px) mc ms (LB (e_B E))) (cw : CallB R s args own index y bytes maxL ret ws rm mc ms n ∧ (Cond.static y).before args s = true) (hno : ∀ x ∈ c.exceptionTable.toList, False) (hlocks : meth.locks = false) (hK : KN E s) (hP : va_P (e_D E) vwCl (wd E σ o) H) (hS : va_S (LB (e_B E)) s.heap H locs) (hn : As.length = n) (hsize : ls.size = nL) (hst : st0 = As.reverse ++ rest) (hW : (rest.map fun v => v.category).sum ≤ 8) (hdg : decode cc pc = .ok (.invokestatic index, 3)) (hf : cells + mc ≤ R.cells ∧ slots + ms ≤ R.slots) (hpx : ∀ u, px u → px0 u) (hc : cells + mc ≤ MC ∧ slots + ms ≤ MS) (kk : ∀ (σ' : Mem) (H1 : Heap) (locs1 : List Loc), post σ' → va_P (e_D E) vwCl (wd E σ' o) H1 → va_S (LB (e_B E)) s.heap H1 locs1 → W p l e R s m args below meth c H1 locs1 (cells + mc) (slots + ms) (vx_MQ below Qc (XW E σ o px0) args s MC MS (LB (e_B E))) (F0 m (pc + 3) ls rest)) : W p l e R s m args below meth c H locs cells slots (vx_MQ below Qc (XW E σ o px0) args s MC MS (LB (e_B E))) (F0 m pc ls st0) :=
  vx_callv (vx_runS S hM cw ⟨PW_blind, PW_pre hP hK hS⟩ rfl hn hsize hst (lv_room hW) hdg hf) hS (fun _ _ h => h) (fun _ h => h) (fun _ _ h => h)
    (fun X ce q9 u t H1 locs1 ht _ hu hB _ _ hS1 hcell hv hcl => x_run (S := Nat) hno hlocks ht (hpx u hu) hB hS1 hcell hv hcl hc.1 hc.2)
    (fun u t H1 locs1 ht _ hw hB _ _ hS1 => kk u H1 locs1 hw (by rw [← ht]; exact hB) hS1)
/-- a call that answers a reference, or throws -/
theorem vx_callr {S SX : Type} {free A0 A1 : Nat → Prop} {H0 : Heap} {a : Array Value} {post : S → Prop} {px : SX → Prop} {B : S → Nat → State → Prop} {BX : String → SX → State → Prop} {AX : Nat → Prop} (hr : vx_Run p l e R s m args below meth c H locs cells slots mc ms (F0 m pc ls st0) rest (va_Qr post B A1 a) (vx_X px BX AX) free) (hS : va_S A0 H0 H locs) (hA : ∀ q, q < H.size → A1 q → A0 q) (hf : ∀ q, free q → A0 q) (hAX : ∀ q, q < H.size → AX q → A0 q)
    (kx : ∀ (E : String) (ce : Cell) (q9 : Addr) (u : SX) (t : State) (H1 : Heap) (locs1 : List Loc), t.heap = H1 → s.vm.Alike t.vm → px u → BX E u t → H.size ≤ H1.size → (∀ q : Nat, q < H.size → ¬ AX q → H1[q]? = H[q]?) → va_S A0 H0 H1 locs1 → H1[q9]? = some ce → ce.vm = .none → s.vm.findClass E = some ce.cls → vx_W p l e R s m args below meth c H1 locs1 (cells + mc) (slots + ms) Q (F0 m pc ls rest) q9)
    (kk : ∀ (u : S) (ra : Nat) (t : State) (H1 : Heap) (locs1 : List Loc), t.heap = H1 → s.vm.Alike t.vm → post u → B u ra t → H.size ≤ H1.size → (∀ q : Nat, q < H.size → ¬ A1 q → H1[q]? = H[q]?) → va_S A0 H0 H1 locs1 → W p l e R s m args below meth c H1 locs1 (cells + mc) (slots + ms) Q (F0 m (pc + 3) ls (.ref ra :: rest))) : W p l e R s m args below meth c H locs cells slots Q (F0 m pc ls st0) := by
  intro T hT X
  rcases hr T hT X with ⟨v, st₀, t, T', L, h0, X', hL, e1, e2, ⟨⟨u, ra, hv, hp, hb⟩, hF⟩, st⟩ | ⟨q, st₀, t, T', L, E, ce, h0, X', hL, e1, e2, ⟨u, hp, hb, hF⟩, hce, hcv, hcl, st⟩
  · cases hv
    obtain ⟨k1, k2, k3⟩ := vx_keep h0 e1 hS hA hf hL hF
    obtain ⟨t2, a1, b1⟩ := kk u ra t T'.heap (locs ++ L) e1.symm (by rw [← e2]; exact X'.warmed.alike) hp hb k1 k2 k3 T' rfl X'
    exact ⟨t2, st t2 a1, b1⟩
  · obtain ⟨k1, k2, k3⟩ := vx_keep h0 e1 hS hAX hf hL hF
    obtain ⟨t2, a1, b1⟩ := kx E ce q u t T'.heap (locs ++ L) e1.symm (by rw [← e2]; exact X'.warmed.alike) hp hb k1 k2 k3 (by rw [e1]; exact hce) hcv hcl T' rfl X'
    exact ⟨t2, st.trans a1, b1⟩
/-- the chute's place among the cells -/
def BC (E : Ev) (σ : Mem) (o : Nat → Int64) : Nat → Nat → State → Prop := fun k a t => a = e_a E (k + 2) ∧ va_P (e_D E) vwCl (wd E σ o) t.heap
theorem x_Vc {post : Nat → Prop} (S : CallFix p m c cc nL s args Ts own) (hM : vx_Met l y ws rm (PW E σ o (.ref b :: As)) (va_Qr post (BC E σ o) (LB (e_B E))) (XW E σ o px) mc ms (LB (e_B E))) (cw : CallW R s args own C index y bytes maxL ret ws rm mc ms n) (hrec : ∃ cellB : Cell, H[b]? = some cellB ∧ cellB.vm.isStatics = false ∧ s.vm.findClass C = some cellB.cls) (hno : ∀ x ∈ c.exceptionTable.toList, False) (hlocks : meth.locks = false) (hK : KN E s) (hP : va_P (e_D E) vwCl (wd E σ o) H) (hS : va_S (LB (e_B E)) s.heap H locs) (hn : As.length = n) (hsize : ls.size = nL) (hst : st0 = As.reverse ++ .ref b :: rest) (hW : (rest.map fun v => v.category).sum ≤ 8) (hdg : decode cc pc = .ok (.invokevirtual index, 3)) (hf : cells + mc ≤ R.cells ∧ slots + ms ≤ R.slots) (hpx : ∀ u, px u → px0 u) (hc : cells + mc ≤ MC ∧ slots + ms ≤ MS) (kk : ∀ (k : Nat) (H1 : Heap) (locs1 : List Loc), post k → va_P (e_D E) vwCl (wd E σ o) H1 → va_S (LB (e_B E)) s.heap H1 locs1 → W p l e R s m args below meth c H1 locs1 (cells + mc) (slots + ms) (vx_MQ below Qc (XW E σ o px0) args s MC MS (LB (e_B E))) (F0 m (pc + 3) ls (.ref (e_a E (k + 2)) :: rest))) : W p l e R s m args below meth c H locs cells slots (vx_MQ below Qc (XW E σ o px0) args s MC MS (LB (e_B E))) (F0 m pc ls st0) :=
  vx_callr (vx_runV S hM cw ⟨PW_blind, hrec, PW_pre hP hK hS⟩ rfl hn hsize hst (lv_room hW) hdg hf) hS (fun _ _ h => h) (fun _ h => h) (fun _ _ h => h)
    (fun X ce q9 u t H1 locs1 ht _ hu hB _ _ hS1 hcell hv hcl => x_run (S := Nat) hno hlocks ht (hpx u hu) hB hS1 hcell hv hcl hc.1 hc.2)
    (fun u ra t H1 locs1 ht _ hw hB _ _ hS1 => by obtain ⟨rfl, hB2⟩ := hB; exact kk u H1 locs1 hw (by rw [← ht]; exact hB2) hS1)
/-- throw new E("text") -/
theorem x_throw (hexec : p.tables.exec = Jvm.exec) (hb : c.code = cc) (hl : l.stackTraces = false) {cls text : String} {ik is ic sa : Nat} (hown : s.vm.findClass RX1 = some m.cls) (hcls : Bundle.fit cls = true) (hk : (Cond.classLink RX1 ik cls).before args s = true) (hini : (Cond.initialized cls).before args s = true) (hstr : vk_R RX1 is text sa s) (hat : ∀ w ∈ vx_atS RX1 ic cls ["java/lang/RuntimeException", "java/lang/Exception"], w.before args s = true) (hgood : ∀ w ∈ Cond.classLink RX1 ik cls :: Cond.initialized cls :: vx_atS RX1 ic cls ["java/lang/RuntimeException", "java/lang/Exception"], vx_ot w = true) (hK : KN E s) (hP : va_P (e_D E) vwCl (wd E σ o) H) (hS : va_S (LB (e_B E)) s.heap H locs) (hsize : ls.size = nL) (hml : c.maxLocals = nL) (d0 : decode cc pc = .ok (.new ik, 3)) (d3 : decode cc (pc + 3) = .ok (.dup, 1)) (d4 : decode cc (pc + 4) = .ok (.ldc is, 2)) (d6 : decode cc (pc + 6) = .ok (.invokespecial ic, 3)) (d9 : decode cc (pc + 9) = .ok (.athrow, 1)) (hno : ∀ x ∈ c.exceptionTable.toList, False) (hRf : 5 < R.frames) (hRl : (rest.map fun v => v.category).sum + 82 ≤ R.locals) (hRc : cells + 1 ≤ R.cells) (hRs : slots + 6 ≤ R.slots) (hlocks : meth.locks = false) (hpx : px0 cls) (hc : cells + 1 ≤ MC) (hs : slots + 6 ≤ MS) : W p l e R s m args below meth c H locs cells slots (vx_MQ below Qc (XW E σ o px0) args s MC MS (LB (e_B E))) (F0 m pc ls rest) :=
  vx_throwS hexec hb hl hown hcls (by decide +kernel) hk hini hstr hat hgood hK.zU hK.zN hS (by rw [hml]; exact hsize) d0 d3 d4 d6 d9 (fun x hx => (hno x hx).elim) hRf hRl hRc hRs hlocks
    (fun t _ hz hq => ⟨cls, hpx, ⟨rfl, fun k q h => (hP k q h).kept (hq _ (hP k q h).lt)⟩, Nat.le_trans hS.1 hz, fun q h1 h2 => by rw [hq q (Nat.lt_of_lt_of_le h1 hS.1)]; exact hS.2.1 q h1 h2⟩) hS.2.2 hc hs
end RW3
section RW4
variable {p : Program} {l : Launch} {e : Env} {R : Room} {s : State} {m : MethodId} {args : Array Value} {below : List Frame} {meth : Method} {c : Code} {H : Heap} {locs : List Loc} {cells slots : Nat} {Q : State → Prop} {cc : ByteArray} {pc : Nat} {ls : Array Slot} {rest : List Value} {nL : Nat} {E : Ev} {σ : Mem} {o : Nat → Int64} {g : JFrame}
/-- a place where roads meet, with a number on the stack -/
theorem cut_i {P : Int32 → Prop} {pcj : Nat} (k : ∀ v : Int32, P v → W p l e R s m args below meth c H locs cells slots Q (F0 m pcj ls (.int v :: rest))) (h : (∀ v : Int32, P v → W p l e R s m args below meth c H locs cells slots Q (F0 m pcj ls (.int v :: rest))) → W p l e R s m args below meth c H locs cells slots Q g) : W p l e R s m args below meth c H locs cells slots Q g := h k
/-- a place where roads meet, with a memory -/
theorem cut_m {P : Mem → Prop} {pcj : Nat} (k : ∀ (σ' : Mem) (H' : Heap) (locs' : List Loc), P σ' → va_P (e_D E) vwCl (wd E σ' o) H' → va_S (LB (e_B E)) s.heap H' locs' → W p l e R s m args below meth c H' locs' cells slots Q (F0 m pcj ls rest)) (h : (∀ (σ' : Mem) (H' : Heap) (locs' : List Loc), P σ' → va_P (e_D E) vwCl (wd E σ' o) H' → va_S (LB (e_B E)) s.heap H' locs' → W p l e R s m args below meth c H' locs' cells slots Q (F0 m pcj ls rest)) → W p l e R s m args below meth c H locs cells slots Q g) : W p l e R s m args below meth c H locs cells slots Q g := h k
theorem w_loop {ι : Type} (μ : ι → Nat) (I : ι → Prop) (mem : ι → Mem) (lv : ι → List (Nat × Value)) {pch : Nat}
    (body : ∀ i, I i → (∀ i', I i' → μ i' < μ i → ∀ (H' : Heap) (locs' : List Loc) (ls' : Array Slot), va_P (e_D E) vwCl (wd E (mem i') o) H' → va_S (LB (e_B E)) s.heap H' locs' → lv_has ls' nL (lv i') → W p l e R s m args below meth c H' locs' cells slots Q (F0 m pch ls' [])) → ∀ (H' : Heap) (locs' : List Loc) (ls' : Array Slot), va_P (e_D E) vwCl (wd E (mem i) o) H' → va_S (LB (e_B E)) s.heap H' locs' → lv_has ls' nL (lv i) → W p l e R s m args below meth c H' locs' cells slots Q (F0 m pch ls' []))
    (i0 : ι) (h0 : I i0) (hP : va_P (e_D E) vwCl (wd E (mem i0) o) H) (hS : va_S (LB (e_B E)) s.heap H locs) (hl : lv_has ls nL (lv i0)) : W p l e R s m args below meth c H locs cells slots Q (F0 m pch ls []) := by
  have key : ∀ n i, μ i < n → I i → ∀ (H' : Heap) (locs' : List Loc) (ls' : Array Slot), va_P (e_D E) vwCl (wd E (mem i) o) H' → va_S (LB (e_B E)) s.heap H' locs' → lv_has ls' nL (lv i) → W p l e R s m args below meth c H' locs' cells slots Q (F0 m pch ls' []) := by
    intro n
    induction n with
    | zero => intro i h; exact absurd h (Nat.not_lt_zero _)
    | succ n ih => intro i hi hI; exact body i hI (fun i' hI' hlt => ih i' (by omega) hI')
  exact key (μ i0 + 1) i0 (Nat.lt_succ_self _) h0 H locs ls hP hS hl
theorem r_c {post : Nat → Prop} {k : Nat} {X : String} (hexec : p.tables.exec = Jvm.exec) (hb : c.code = cc) (hr : meth.sig.returnType = some (.object X)) (hlocks : meth.locks = false) (hk : post k) (hP : va_P (e_D E) vwCl (wd E σ o) H) (hS : va_S (LB (e_B E)) s.heap H locs) (hd : decode cc pc = .ok (.areturn, 1)) : W p l e R s m args below meth c H locs cells slots (MQ below (va_Qr post (BC E σ o) (LB (e_B E))) args s cells slots (LB (e_B E))) (F0 m pc ls [.ref (e_a E (k + 2))]) :=
  W.aret hexec hb hr (Or.inl ⟨X, rfl⟩) (Or.inr ⟨_, rfl⟩) (fun t ht _ => ⟨⟨k, _, rfl, hk, rfl, by rw [ht]; exact hP⟩, hS.F ht⟩) hS.2.2 hd hlocks
end RW4
theorem wc_ch {E : Ev} {o : Nat → Int64} {k : Nat} (hk : k < 8) {r : Nat → Int32} : w_cell E r o (k + 2) = .inr (0, [.ref (e_a E (k + 10)), .ref (e_a E (k + 18)), .int (r 2), .int (r 3), .int (r 4), .int (r 5), .int (r 6), .int (r 7)]) := by
  have h3 : k + 2 < 10 := by omega
  simp [w_cell, h3]
theorem wc_wt {E : Ev} {o : Nat → Int64} {k : Nat} (hk : k < 8) {r : Nat → Int32} : w_cell E r o (k + 10) = .inl (e_c E 0, 12, .inl r) := by
  have h4 : k + 10 < 26 := by omega
  simp [w_cell, h4]
theorem wc_gi {E : Ev} {o : Nat → Int64} {k : Nat} (hk : k < 8) {r : Nat → Int32} : w_cell E r o (k + 18) = .inl (e_c E 0, 12, .inl r) := by
  have h3 : ¬ k + 18 < 10 := by omega
  have h4 : k + 18 < 26 := by omega
  simp [w_cell, h3, h4]
theorem tb_key {x : Int32} {n : Nat} (hn : n < 2 ^ 31) (h : x.toInt = (n : Int)) : x = nI n := Int32.toInt_inj.mp (by rw [h, nI_toInt hn])
theorem tb_out2 (x : Int32) (h0 : ¬ x = 0) (h1 : ¬ x = 1) (h2 : ¬ x = 2) : x.toInt < 0 ∨ 2 < x.toInt := by
  rcases Int.lt_or_le x.toInt 0 with a | a
  · exact Or.inl a
  · rcases Int.lt_or_le 2 x.toInt with b | b
    · exact Or.inr b
    · exfalso
      have hc : x.toInt = 0 ∨ x.toInt = 1 ∨ x.toInt = 2 := by omega
      rcases hc with q | q | q
      · exact h0 (tb_key (n := 0) (by decide) q)
      · exact h1 (tb_key (n := 1) (by decide) q)
      · exact h2 (tb_key (n := 2) (by decide) q)
theorem tb_out3 (x : Int32) (h0 : ¬ x = 0) (h1 : ¬ x = 1) (h2 : ¬ x = 2) (h3 : ¬ x = 3) : x.toInt < 0 ∨ 3 < x.toInt := by
  rcases tb_out2 x h0 h1 h2 with q | q
  · exact Or.inl q
  · rcases Int.lt_or_le 3 x.toInt with b | b
    · exact Or.inr b
    · exact absurd (tb_key (n := 3) (by decide) (by omega)) h3
theorem tb_out5 (x : Int32) (h0 : ¬ x = 0) (h1 : ¬ x = 1) (h2 : ¬ x = 2) (h3 : ¬ x = 3) (h4 : ¬ x = 4) (h5 : ¬ x = 5) : x.toInt < 0 ∨ 5 < x.toInt := by
  rcases tb_out3 x h0 h1 h2 h3 with q | q
  · exact Or.inl q
  · rcases Int.lt_or_le 5 x.toInt with b | b
    · exact Or.inr b
    · rcases (show x.toInt = 4 ∨ x.toInt = 5 by omega) with q | q
      · exact absurd (tb_key (n := 4) (by decide) q) h4
      · exact absurd (tb_key (n := 5) (by decide) q) h5
theorem tb_out7 (x : Int32) (h0 : ¬ x = 0) (h1 : ¬ x = 1) (h2 : ¬ x = 2) (h3 : ¬ x = 3) (h4 : ¬ x = 4) (h5 : ¬ x = 5) (h6 : ¬ x = 6) (h7 : ¬ x = 7) : x.toInt < 0 ∨ 7 < x.toInt := by
  rcases tb_out5 x h0 h1 h2 h3 h4 h5 with q | q
  · exact Or.inl q
  · rcases Int.lt_or_le 7 x.toInt with b | b
    · exact Or.inr b
    · rcases (show x.toInt = 6 ∨ x.toInt = 7 by omega) with q | q
      · exact absurd (tb_key (n := 6) (by decide) q) h6
      · exact absurd (tb_key (n := 7) (by decide) q) h7
end
section
section NSE
variable {p : Program} {l : Launch} {e : Env} {R : Room} {s : State} {m₀ : MethodId} {args : Array Value} {below : List Frame} {meth : Method} {c : Code} {Z9 : State} {locs : List Loc} {cells slots : Nat}
/-! the throw of a class whose constructor calls its super by a pool entry of its own: follows the library's BundleOwnThrow.ctorThrowS (a launch without stack traces) over F29a's chain -/
set_option maxHeartbeats 2000000 in
theorem ns_ctor (X : Stand p l e R s m₀ args below meth c Z9 locs cells slots) (hexec : p.tables.exec = Jvm.exec) (htr : e.platform.stackTraces = false) {own cls : String} {names : List String} {ic ix : Nat} {rx : ByteArray} (x0 : decode rx 0 = .ok (.aload_n 0, 1)) (x1 : decode rx 1 = .ok (.aload_n 1, 1)) (x2 : decode rx 2 = .ok (.invokespecial ix, 3)) (x5 : decode rx 5 = .ok (.return_, 1))
    (hown : s.vm.findClass own = some m₀.cls) (hcls : Bundle.fit cls = true) (hnames : ∀ n ∈ names, Bundle.fit n = true)
    (h : ∀ a ∈ Bundle.ownAtomsX own ic cls ix rx names, a.before args s = true)
    (hlocs : ∀ x ∈ locs, ∀ cell, s.heap[x.base]? = some cell → cell.vm.isStatics = false)
    {a : Addr} {cX : ClassId} {kX : Class} (hfoundX : s.vm.findClass cls = some cX) (hkX : s.vm.classes[cX]? = some kX) (hcell : Z9.heap[a]? = some (freshCell cX kX)) (hnew : s.heap.size ≤ a)
    {msg : Value} (hmsg : msg.isRef = true)
    {g : JFrame} (hg : g.method = m₀) (hsize : g.locals.size = c.maxLocals) (hlocked : g.locked = none) (hentered : g.entered = []) {rest : List Value} (hstack : g.stack = msg :: .ref a :: .ref a :: rest)
    (hd6 : decode c.code g.pc = .ok (.invokespecial ic, 3)) (hd9 : decode c.code (g.pc + 3) = .ok (.athrow, 1)) (hout : ∀ x ∈ c.exceptionTable.toList, covers x (g.pc + 3) = false)
    (hRframes : names.length + 3 < R.frames) (hRlocals : 2 * g.monitorRoom + ((Value.ref a :: rest).map fun v => v.category).sum + (13 * (names.length + 1) + 42) ≤ R.locals) (hlocks : meth.locks = false) :
    ∃ U : State, Steps p.tables e below (Z9.setTop g) U ∧ U.status = .running ∧ Ended U below (.threw a) ∧ s.WarmedH U.vm ∧ s.sameButNew ({ U with vm := s.vm } : State) locs cells slots ∧
      ∃ ce, U.heap[a]? = some ce ∧ ce.cls = cX ∧ ce.vm = .none := by
  have howns : e.platform.frameOwnsMonitors = true := by rw [X.admits.platform]
  have hfin : e.platform.finalization = false := by rw [X.admits.platform]
  have hpl : e.platform.magicAccessors = ({} : Platform).magicAccessors := by rw [X.admits.platform]
  have a' : ∀ x, x ∈ Bundle.ownAtomsX own ic cls ix rx names → x.holds args s none s [] = true := fun x hx => h x hx
  obtain ⟨T, Z0, L, -, Y⟩ := ThrowableC.of_atoms (args := args) howns hfin hpl (fun x hx => h x (by simp [Bundle.ownAtomsX, hx]))
  obtain ⟨Z, M, LZ, LM, hnZ⟩ := Init0T.ofS_atoms (args := args) hpl L Y (fun x hx => h x (by simp [Bundle.ownAtomsX, hx]))
  obtain ⟨P1, Ps, hlen, L1, hL, hP1m, hlink1, hlink⟩ := Bundle.chainSX (args := args) hpl hnZ x0 x1 x2 x5 names cls hcls hnames (fun x hx => h x (by simp [Bundle.ownAtomsX, hx]))
  have hfound : s.vm.findClass cls = some P1.m.cls := findClass_of_methodNamed hP1m
  cases Option.some.inj (hfoundX.symm.trans hfound)
  obtain ⟨c1, kX', hc1, hk, hord, -, -, hn6⟩ := Cond.instantiable_spec (a' (.instantiable cls 6) (by simp [Bundle.ownAtomsX]))
  cases Option.some.inj (hc1.symm.trans hfound)
  cases Option.some.inj (hkX.symm.trans hk)
  have hsel0 : selectMethod e.platform s.vm P1.m.cls T.fill0 = .method T.fill0 := by
    obtain ⟨c2, r2, m2, q1, q2, q3, q4, -⟩ := Cond.selects_spec (a' (.selects cls Bundle.tFill0 Bundle.tFill0) (by simp [Bundle.ownAtomsX]))
    cases Option.some.inj (q1.symm.trans hfound)
    cases Option.some.inj (q2.symm.trans (State.methodFound?_of_named Y.fill0 (by decide)))
    cases Option.some.inj (q3.symm.trans Y.fill0)
    rw [Launch.admits_selectMethod X.admits]; exact q4
  have hselF : selectMethod e.platform s.vm P1.m.cls T.fill = .method T.fill := by
    obtain ⟨c2, r2, m2, q1, q2, q3, q4, -⟩ := Cond.selects_spec (a' (.selects cls Bundle.tFill Bundle.tFill) (by simp [Bundle.ownAtomsX]))
    cases Option.some.inj (q1.symm.trans hfound)
    cases Option.some.inj (q2.symm.trans (State.methodFound?_of_named Y.fill (by decide)))
    cases Option.some.inj (q3.symm.trans Y.fill)
    rw [Launch.admits_selectMethod X.admits]; exact q4
  obtain ⟨cellS0, hcS0, hiss⟩ := Y.statics
  obtain ⟨u0, hu0⟩ := Cond.staticRefV Y.unassigned L.unassignedStatic L.statics hcS0 hiss (a' (.isRef (.static Bundle.tN "UNASSIGNED_STACK" Bundle.steD)) (by simp [Bundle.ownAtomsX]))
  obtain ⟨sen, hsen⟩ := Cond.staticRefV Y.sentinel L.sentinelStatic L.statics hcS0 hiss (a' (.isRef (.static Bundle.tN "SUPPRESSED_SENTINEL" Bundle.listD)) (by simp [Bundle.ownAtomsX]))
  obtain ⟨ci198, i198, fB, hk198, hg198, ha198, hsB, -, hnB, htB, hffB⟩ := Cond.ownField (t := .object "java/lang/Object") Y.found L.cls (by decide +kernel) (a' (.fieldLink Bundle.tN 198 Bundle.tN "backtrace" "Ljava/lang/Object;") (by simp [Bundle.ownAtomsX])) (a' (.lays Bundle.tN Bundle.tN "backtrace" "Ljava/lang/Object;") (by simp [Bundle.ownAtomsX])) e.platform hpl
  obtain ⟨cellS, hcS', heS, -, hkeep⟩ := X.same.2.2.2.2.2 T.aS cellS0 hcS0
  have hcellS : Z9.heap[T.aS]? = some cellS := hcS'
  have hout' : ∀ i, (⟨T.aS, i⟩ : Loc) ∉ locs := fun i hmem => by
    have := hlocs _ hmem cellS0 hcS0
    rw [hiss] at this; cases this
  have hknownS : cellS.vm ≠ .unknown := by
    rw [heS]; intro hu
    rw [show cellS0.vm = .unknown from hu] at hiss
    cases hiss
  have hneS : T.aS ≠ a := Nat.ne_of_lt (Nat.lt_of_lt_of_le (Array.getElem?_eq_some_iff.mp hcS0).1 hnew)
  obtain ⟨iM, hffM⟩ := Y.msg
  obtain ⟨tyC, dC, hdC, hdnC⟩ := Cond.laysAt hfound hk Y.cause (a' (.lays cls Bundle.tN "cause" "Ljava/lang/Throwable;") (by simp [Bundle.ownAtomsX]))
  obtain ⟨tyS, dS, hdS, hdnS⟩ := Cond.laysAt hfound hk Y.stack (a' (.lays cls Bundle.tN "stackTrace" Bundle.steD) (by simp [Bundle.ownAtomsX]))
  obtain ⟨tyP, dP, hdP, hdnP⟩ := Cond.laysAt hfound hk Y.supp (a' (.lays cls Bundle.tN "suppressedExceptions" Bundle.listD) (by simp [Bundle.ownAtomsX]))
  obtain ⟨tyM, dM, hdM, hdnM⟩ := Cond.laysAt hfound hk hffM (a' (.lays cls Bundle.tN "detailMessage" "Ljava/lang/String;") (by simp [Bundle.ownAtomsX]))
  obtain ⟨tyB, dB, hdB, hdnB⟩ := Cond.laysAt hfound hk hffB (a' (.lays cls Bundle.tN "backtrace" "Ljava/lang/Object;") (by simp [Bundle.ownAtomsX]))
  have bC := Cond.laysApart hdB hdC hdnB hdnC (by rw [hnB, Y.causeName]; decide)
  have bS := Cond.laysApart hdB hdS hdnB hdnS (by rw [hnB, Y.stackName]; decide)
  have bP := Cond.laysApart hdB hdP hdnB hdnP (by rw [hnB, Y.suppName]; decide)
  have hskip : SkipFacts T e.platform s (fun u => u) u0 ((preparedCellV T.toThrowableT (freshCell P1.m.cls kX) a u0 sen).withEntry Z9.cur) :=
    ⟨{ ci198 := ci198, i198 := i198, fBack := fB }, ⟨hk198, hg198, ha198, hsB⟩, by
      have := fresh_default (c := P1.m.cls) tyB
      rw [htB] at this
      simpa [preparedCellV, Cell.setSlot, Cell.withEntry, Array.getElem?_setIfInBounds, bC, bS, bP, bC.symm, bS.symm, bP.symm, defaultValue] using this, fun _ _ => rfl⟩
  obtain ⟨tm, methC, cdC, kC, vm₁, hnC, -, -, -, -, -, -, -, hW₁, st1⟩ := Steps.initColdS (tb := p.tables) (e := e) (below := below) (s := s) (U := Z9) X.here hexec X.warmed hpl hown (t := Bundle.initS cls) rfl rfl (Bundle.fit_spec hcls).2
    (a' (.methodLink own ic (Bundle.initS cls)) (by simp [Bundle.ownAtomsX])) (h (.instanceMethod (Bundle.initS cls)) (by cases names <;> simp [Bundle.ownAtomsX, Bundle.chainSAtomsX, Bundle.passSAtoms])) (bytes := rx) (maxL := 2) (h (.code (Bundle.initS cls) rx 2 none) (by cases names <;> simp [Bundle.ownAtomsX, Bundle.chainSAtomsX, Bundle.passSAtoms]))
    (f := g) hg (a := a) (msg := msg) (rest := .ref a :: rest) hstack hd6
  cases Option.some.inj (hnC.symm.trans hP1m)
  have X₁ := X.noted hW₁
  obtain ⟨vm₂, X₂, st2⟩ := X₁.ctorMessageOffV hexec (g := { g with stack := .ref a :: rest }) hg hsize T L Z LZ M LM (P1 :: Ps)
    (fun P hP => by rcases List.mem_cons.mp hP with rfl | hP; exact L1; exact hL P hP) ⟨hlink1, hlink⟩ (u0 := u0) (sen := sen) (self := a) hmsg (cell := freshCell P1.m.cls kX) (cellS := cellS)
    hcell (fun _ => by simp) (by simp) rfl rfl hsel0 hselF hcellS hneS hknownS (by rw [hkeep _ (hout' _)]; exact hu0) (by rw [hkeep _ (hout' _)]; exact hsen)
    (Takes.of_laid hk hord tyC (by rw [Y.causeType]; rfl)) (Takes.of_laid hk hord tyS (by rw [Y.stackType]; exact fits_refV_array _ u0)) (Takes.of_laid hk hord tyP (by rw [Y.suppType]; exact fits_refV_object _ sen))
    (Takes.of_laid hk hord tyM (by rw [Y.msgType]; exact fits_refV_object _ ⟨msg, hmsg⟩)) Y.objLocals hskip htr [] hd6
    (by simp only [List.length_cons, hlen]; omega) (by simp only [List.length_cons, hlen]; exact hRlocals)
  obtain ⟨hwalk, hrun, hended, hWU, hsame⟩ := X₂.athrowLeaves hexec (g := { g with stack := .ref a :: rest, pc := g.pc + 3 }) hg hlocked hentered hout (a := a) (rest := rest) rfl hd9
  obtain ⟨c3, c4, hc3, hc4, hasg⟩ := Cond.castable_spec (a' (.castable cls cls) (by simp [Bundle.ownAtomsX]))
  cases Option.some.inj (hc3.symm.trans hfound)
  cases Option.some.inj (hc4.symm.trans hfound)
  have hlt : a < ((Z9.setVm vm₁).setVm vm₂).heap.size := (Array.getElem?_eq_some_iff.mp hcell).1
  have hU := heapAt_setCell_self (s := (Z9.setVm vm₁).setVm vm₂) (plainBareV T.toThrowableT (freshCell P1.m.cls kX) a u0 sen msg) hlt
  refine ⟨_, st1 _ (fun acts => ?_), hrun, hended, hWU, hsame.weaken (fun y hy hlt' => ?_) (Nat.le_refl _) (Nat.le_refl _), _, hU, rfl, rfl⟩
  · rw [doInvoke_state]
    exact st2 _ hwalk
  · rcases List.mem_append.mp hy with h1 | h1
    · exact h1
    · exfalso
      have hb : y.base = a := by
        simp only [List.mem_cons, List.not_mem_nil, or_false] at h1
        rcases h1 with rfl | rfl | rfl | rfl | rfl <;> rfl
      rw [hb] at hlt'
      exact Nat.not_lt.mpr hnew hlt'
end NSE
section NSE2
variable {p : Program} {l : Launch} {e : Env} {R : Room} {s : State} {m : MethodId} {args : Array Value} {below : List Frame} {meth : Method} {c : Code} {H : Heap} {locs : List Loc} {cells slots : Nat} {Q : State → Prop}
variable {mc ms : Nat} {free : Addr → Prop} {A0 A1 : Nat → Prop} {H0 : Heap} {a : Array Value} {ls : Array Slot} {st0 rest : List Value}
variable {Qc : Array Value → State → Outcome → State → Prop} {XC : String → State → State → Prop}
/-- 'throw new E("text")': new; dup; ldc; invokespecial; athrow -/
theorem vy_throwS {cc : ByteArray} {pc : Nat} (hexec : p.tables.exec = Jvm.exec) (hb : c.code = cc) (hl : l.stackTraces = false) {own cls text : String} {names : List String} {ik is ic mc ms sa : Nat} {A : Nat → Prop}
    (hown : s.vm.findClass own = some m.cls) (x0 : decode prog_13_method_4_code 0 = .ok (.aload_n 0, 1)) (x1 : decode prog_13_method_4_code 1 = .ok (.aload_n 1, 1)) (x2 : decode prog_13_method_4_code 2 = .ok (.invokespecial 13, 3)) (x5 : decode prog_13_method_4_code 5 = .ok (.return_, 1)) (hcls : Bundle.fit cls = true) (hnames : ∀ n ∈ names, Bundle.fit n = true)
    (hk : (Cond.classLink own ik cls).before args s = true) (hini : (Cond.initialized cls).before args s = true) (hstr : vk_R own is text sa s) (hat : ∀ w ∈ vy_atS own ic cls names, w.before args s = true)
    (hgood : ∀ w ∈ Cond.classLink own ik cls :: Cond.initialized cls :: vy_atS own ic cls names, vx_ot w = true)
    (hU : vx_Zq Bundle.tN "UNASSIGNED_STACK" Bundle.steD A s s.heap) (hN : vx_Zq Bundle.tN "SUPPRESSED_SENTINEL" Bundle.listD A s s.heap) (hS : va_S A s.heap H locs) (hsize : ls.size = c.maxLocals)
    (d0 : decode cc pc = .ok (.new ik, 3)) (d3 : decode cc (pc + 3) = .ok (.dup, 1)) (d4 : decode cc (pc + 4) = .ok (.ldc is, 2)) (d6 : decode cc (pc + 6) = .ok (.invokespecial ic, 3)) (d9 : decode cc (pc + 9) = .ok (.athrow, 1))
    (hout : ∀ x ∈ c.exceptionTable.toList, covers x (pc + 9) = false)
    (hRframes : names.length + 3 < R.frames) (hRlocals : (rest.map fun v => v.category).sum + (13 * (names.length + 1) + 43) ≤ R.locals) (hRcells : cells + 1 ≤ R.cells) (hRslots : slots + 6 ≤ R.slots) (hlocks : meth.locks = false)
    (hx : ∀ t : State, s.vm.Alike t.vm → H.size ≤ t.heap.size → (∀ q : Nat, q < H.size → t.heap[q]? = H[q]?) → XC cls s t)
    (hf : ∀ z ∈ locs, free z.base) (hc : cells + 1 ≤ mc) (hs : slots + 6 ≤ ms) :
    W p l e R s m args below meth c H locs cells slots (vx_MQ below Qc XC args s mc ms free) (F0 m pc ls rest) := by
  intro T hT X
  have htr : e.platform.stackTraces = false := (show e.platform.stackTraces = l.stackTraces by rw [X.admits.platform]).trans hl
  have Y := vx_rebase X (R' := { frames := R.frames, locals := R.locals, cells := 1, slots := 6 }) (Nat.le_refl _) (Nat.le_refl _) hRcells hRslots
  obtain ⟨s', hA⟩ : ∃ z, z = (T.setVm s.vm).setFrames (.invoking m args :: below) := ⟨_, rfl⟩
  rw [← hA] at Y
  have hvm : s'.vm = s.vm := by rw [hA]; rfl
  have hhp : s'.heap = H := by rw [hA]; exact hT
  have hW0 : s.WarmedH s'.vm := by rw [hvm]; exact State.WarmedH.refl s
  have hat' : ∀ w ∈ vy_atS own ic cls names, w.before args s' = true := fun w hw => vx_ot_at hW0 hvm.symm (hgood w (List.mem_cons_of_mem _ (List.mem_cons_of_mem _ hw))) (hat w hw)
  have hk' : (Cond.classLink own ik cls).before args s' = true := vx_ot_at hW0 hvm.symm (hgood _ List.mem_cons_self) hk
  have hini' : (Cond.initialized cls).before args s' = true := vx_ot_at hW0 hvm.symm (hgood _ (List.mem_cons_of_mem _ List.mem_cons_self)) hini
  have hU' : vx_Zq Bundle.tN "UNASSIGNED_STACK" Bundle.steD A s' s'.heap := by rw [hhp]; exact vx_Zq.moved hW0.alike (hU.kept hS.2.1)
  have hN' : vx_Zq Bundle.tN "SUPPRESSED_SENTINEL" Bundle.listD A s' s'.heap := by rw [hhp]; exact vx_Zq.moved hW0.alike (hN.kept hS.2.1)
  have h : ∀ w ∈ Bundle.ownAtomsX own ic cls 13 prog_13_method_4_code names, w.before args s' = true := vx_own hat' (vx_isRefq hU'.1) (vx_isRefq hN'.1) hU'.2.word hN'.2.word
  have hown' : s'.vm.findClass own = some m.cls := by rw [hvm]; exact hown
  have hins : (Cond.instantiable cls 6).before args s' = true := h _ (by simp [Bundle.ownAtomsX])
  obtain ⟨vm₁, cX, kX, hfX, hkX, -, -, X₁, st1⟩ := Y.newCold hexec (own := own) (C := cls) (index := ik) (n := 6) hown' hk' hins hini'
    (g := F0 m pc ls rest) rfl (by rw [hb]; exact d0) (Nat.le_refl _) (Nat.le_refl _)
  generalize hT1 : (T.setVm vm₁).pushCell { cls := cX, slots := kX.instanceTypes.map defaultValue, vm := .none } = T1 at X₁ st1
  have hcat : (Value.ref T.heap.size).category = 1 := rfl
  have hcellA : T1.heap[T.heap.size]? = some (freshCell cX kX) := by rw [← hT1]; exact State.heap_pushCell_size _ _
  have d3' : decode c.code (pc + 3) = .ok (.dup, 1) := by rw [hb]; exact d3
  have d4' : decode c.code (pc + 4) = .ok (.ldc is, 2) := by rw [hb]; exact d4
  have hstr' : vk_R own is text sa s' := vk_R.warm hW0 hstr
  obtain ⟨U, hsteps, hrun, hend, hW, hsame, ce, hce, hO1, hO2⟩ := ns_ctor X₁ hexec htr x0 x1 x2 x5 (own := own) (cls := cls) (names := names) (ic := ic) hown' hcls hnames h (fun x hx => nomatch hx) hfX hkX hcellA (by rw [hhp, hT]; exact Nat.le_refl _) (msg := .ref sa) rfl
    (g := { method := m, pc := pc + 6, locals := ls, stack := .ref sa :: .ref T.heap.size :: .ref T.heap.size :: rest, locked := none }) rfl hsize rfl rfl (rest := rest) rfl
    (by rw [hb]; exact d6) (by rw [hb]; exact d9) hout hRframes (by simp only [List.map_cons, List.sum_cons, hcat]; omega) hlocks
  obtain ⟨f1, f2⟩ := vx_frame hsame
  rw [hhp] at f1 f2
  have hWs : s.WarmedH U.vm := State.WarmedH.trans hW0 hW
  have hcl : s.vm.findClass cls = some ce.cls := by
    rw [hO1, ← hvm]
    exact hfX
  have hall : s.sameButNew ({ U with vm := s.vm } : State) locs mc ms := by
    subst hA
    obtain ⟨e1, e2⟩ := hsame
    rw [State.setFrames_setFrames] at e1
    have h2 : (T.setVm s.vm).sameButNew ({ U with vm := s.vm } : State) [] (0 + 1) (0 + 6) := ⟨e1, e2⟩
    have h3 := X.same.trans h2
    rw [List.append_nil] at h3
    exact h3.mono hc hs
  refine ⟨U, ?_, .threw T.heap.size, hrun, hend, Or.inr ⟨T.heap.size, rfl, cls, ce, locs, hx U hWs.alike f1 (fun q hq => f2 q hq (fun z hz => nomatch hz)), hce, hO2, hcl, hWs, hall, hf⟩⟩
  refine st1 _ ?_
  show Steps p.tables e below (T1.setTop { method := m, pc := pc + 3, locals := ls, stack := .ref T.heap.size :: rest, locked := none }) _
  jvm_step X₁.here [X₁.here.top, hexec, d3', Value.category]
  exact X₁.ldcString hexec (own := own) (text := text) (index := is) (a := sa) hown' hstr'.1 hstr'.2
    (g := { method := m, pc := pc + 4, locals := ls, stack := .ref T.heap.size :: .ref T.heap.size :: rest, locked := none }) rfl d4' _ hsteps
end NSE2
section NSE3
variable {p : Program} {l : Launch} {e : Env} {R : Room} {s : State} {m : MethodId} {args : Array Value} {below : List Frame} {meth : Method} {c : Code} {H : Heap} {locs : List Loc} {cells slots : Nat} {Q : State → Prop} {cc : ByteArray} {pc : Nat} {ls : Array Slot} {rest st0 As : List Value}
variable {y : MethodName} {bytes : ByteArray} {maxL nL mc ms n index : Nat} {ret : Option FieldType} {ws Ts : List Cond} {rm : Room} {own C : String} {b : Addr} {E : Ev} {σ : Mem} {o : Nat → Int64} {off : Int} {tgt : Nat}
variable {Qc : Array Value → State → Outcome → State → Prop} {px px0 : String → Prop} {MC MS : Nat}
/-- throw new E("text") -/
theorem x_throwN (hexec : p.tables.exec = Jvm.exec) (hb : c.code = cc) (hl : l.stackTraces = false) {cls text : String} {ik is ic sa : Nat} (hown : s.vm.findClass RX1 = some m.cls) (hcls : Bundle.fit cls = true) (hk : (Cond.classLink RX1 ik cls).before args s = true) (hini : (Cond.initialized cls).before args s = true) (hstr : vk_R RX1 is text sa s) (hat : ∀ w ∈ vy_atS RX1 ic cls ["java/lang/RuntimeException", "java/lang/Exception"], w.before args s = true) (hgood : ∀ w ∈ Cond.classLink RX1 ik cls :: Cond.initialized cls :: vy_atS RX1 ic cls ["java/lang/RuntimeException", "java/lang/Exception"], vx_ot w = true) (hK : KN E s) (hP : va_P (e_D E) vwCl (wd E σ o) H) (hS : va_S (LB (e_B E)) s.heap H locs) (hsize : ls.size = nL) (hml : c.maxLocals = nL) (d0 : decode cc pc = .ok (.new ik, 3)) (d3 : decode cc (pc + 3) = .ok (.dup, 1)) (d4 : decode cc (pc + 4) = .ok (.ldc is, 2)) (d6 : decode cc (pc + 6) = .ok (.invokespecial ic, 3)) (d9 : decode cc (pc + 9) = .ok (.athrow, 1)) (hno : ∀ x ∈ c.exceptionTable.toList, False) (hRf : 5 < R.frames) (hRl : (rest.map fun v => v.category).sum + 82 ≤ R.locals) (hRc : cells + 1 ≤ R.cells) (hRs : slots + 6 ≤ R.slots) (hlocks : meth.locks = false) (hpx : px0 cls) (hc : cells + 1 ≤ MC) (hs : slots + 6 ≤ MS) : W p l e R s m args below meth c H locs cells slots (vx_MQ below Qc (XW E σ o px0) args s MC MS (LB (e_B E))) (F0 m pc ls rest) :=
  vy_throwS hexec hb hl hown (by decide +kernel) (by decide +kernel) (by decide +kernel) (by decide +kernel) hcls (by decide +kernel) hk hini hstr hat hgood hK.zU hK.zN hS (by rw [hml]; exact hsize) d0 d3 d4 d6 d9 (fun x hx => (hno x hx).elim) hRf hRl hRc hRs hlocks
    (fun t _ hz hq => ⟨cls, hpx, ⟨rfl, fun k q h => (hP k q h).kept (hq _ (hP k q h).lt)⟩, Nat.le_trans hS.1 hz, fun q h1 h2 => by rw [hq q (Nat.lt_of_lt_of_le h1 hS.1)]; exact hS.2.1 q h1 h2⟩) hS.2.2 hc hs
end NSE3
end
section
/-! what the methods answer, over numbers -/
def sg (a b : Int32) : Int32 := if a = 0 then 32 else if b = 0 then 32 else if b ≤ a then (if a ≤ b then 26 else 44) else 35
def sgM (a b : Int32) : Int32 := if a = 0 then 32 else if b = 0 then 32 else if a = b then 26 else if b ≤ a then 44 else 35
theorem i32_le_antisymm {a b : Int32} (h1 : a ≤ b) (h2 : b ≤ a) : a = b := by
  rw [Int32.le_iff_toInt_le] at h1 h2
  exact Int32.toInt_inj.mp (by omega)
theorem i32_le_refl (a : Int32) : a ≤ a := by
  rw [Int32.le_iff_toInt_le]
  omega
theorem sgM_eq (a b : Int32) : sgM a b = sg a b := by
  unfold sgM sg
  by_cases h1 : a = 0
  · rw [if_pos h1, if_pos h1]
  · rw [if_neg h1, if_neg h1]
    by_cases h2 : b = 0
    · rw [if_pos h2, if_pos h2]
    · rw [if_neg h2, if_neg h2]
      by_cases h3 : a = b
      · subst h3
        rw [if_pos rfl, if_pos (i32_le_refl a), if_pos (i32_le_refl a)]
      · rw [if_neg h3]
        by_cases h4 : b ≤ a
        · rw [if_pos h4, if_pos h4, if_neg (fun h5 => h3 (i32_le_antisymm h5 h4))]
        · rw [if_neg h4, if_neg h4]
def hd (a b z : Int32) : Int32 := if sg a b &&& z = 0 then 0 else 1
def b1 (z : Int32) : Int32 := if z = 0 then 0 else 1
def iw (v b : Int32) : Int32 := if v < 0 then 0 else if b < v then 0 else 1
def ip (v b : Int32) : Int32 := if iw v 800000 = 0 then 0 else if iw b 16000 = 0 then 0 else 1
theorem iw_nar (v b : Int32) : narrow .boolean (.int (iw v b)) = .int (iw v b) := by
  unfold iw
  by_cases h1 : v < 0
  · rw [if_pos h1]; rfl
  · rw [if_neg h1]
    by_cases h2 : b < v
    · rw [if_pos h2]; rfl
    · rw [if_neg h2]; rfl
theorem ix8 {v : Int32} (h1 : ¬ v < 0) (h2 : v < 8) : ∃ k : Nat, k < 8 ∧ v = nI k := by
  obtain ⟨j, hj, rfl⟩ := nI_of h1
  exact ⟨j, (nI_ltI hj (by decide)).mp (show nI j < nI 8 from h2), rfl⟩
theorem ix8n1 {v : Int32} {k : Nat} (hk : k < 8) (e : v = nI k) (h : v < 0) : False := nI_pos (n := k) (by omega) (e ▸ h)
theorem ix8n2 {v : Int32} {k : Nat} (hk : k < 8) (e : v = nI k) (h : ¬ v < 8) : False := h (by rw [e]; exact (show nI k < nI 8 from nI_lt hk (by decide)))
def fitC (kd lo hi wi w g : Int32) : Int32 :=
  if kd = 0 then (if hd lo w 2 = 0 then 0 else if hd w hi 1 = 0 then 0 else if hd g wi 2 = 0 then 0 else 1)
  else if kd = 1 then (if hd w lo 1 = 0 then (if hd w hi 8 = 0 then (if hd g wi 4 = 0 then 1 else 0) else 0) else 0)
  else if kd = 2 then (if hd w lo 16 = 0 then (if hd g wi 16 = 0 then 0 else 1) else 1)
  else if kd = 3 then (if hd w lo 32 = 0 then 0 else if hd w hi 32 = 0 then 0 else if hd g wi 32 = 0 then 0 else 1)
  else (if hd w hi 4 = 0 then (if hd w lo 1 = 0 then (if hd g wi 8 = 0 then 0 else 1) else 1) else 1)
/-- how many of the first n are 0 -/
def cz (r : Nat → Int32) : Nat → Nat
  | 0 => 0
  | n + 1 => cz r n + if r n = 0 then 1 else 0
theorem cz_le (r : Nat → Int32) (n : Nat) : cz r n ≤ n := by
  induction n with
  | zero => exact Nat.le_refl 0
  | succ n ih =>
    show cz r n + (if r n = 0 then 1 else 0) ≤ n + 1
    split <;> omega
theorem cz_s1 {r : Nat → Int32} {i : Nat} {x : Int32} (hx : x = nI (cz r i)) (h : r i = 0) : x + b1 1 = nI (cz r (i + 1)) := by
  rw [hx, show b1 1 = nI 1 from rfl, nI_add]
  simp [cz, h]
theorem cz_s0 {r : Nat → Int32} {i : Nat} {x : Int32} (hx : x = nI (cz r i)) (h : ¬ r i = 0) : x + b1 0 = nI (cz r (i + 1)) := by
  rw [hx, show b1 0 = nI 0 from rfl, nI_add]
  simp [cz, h]
def hvC (r : Nat → Int32) (n : Nat) : Int32 := if cz r n < n then r (n - cz r n - 1) else 0
theorem hv_sub {n u : Nat} {x : Int32} (hx : x = nI n) (h : u < n) : x - nI u - 1 = nI (n - u - 1) := by
  rw [hx, pk_sub (by omega)]
  exact pk_sub (a := n - u) (b := 1) (by omega)
theorem hv_neg {n u : Nat} {x : Int32} (hx : x = nI n) (h : n ≤ u) (hu : u ≤ 12) : ¬ 0 ≤ x - nI u - 1 := by
  rw [hx]
  intro h2
  have h3 : (nI n - nI u - 1 : Int32).toInt < 0 := by
    have : ∀ a b : Nat, a ≤ b → b ≤ 12 → (nI a - nI b - 1 : Int32).toInt < 0 := by
      have key : ∀ b, b < 13 → ∀ a, a < b + 1 → (nI a - nI b - 1 : Int32).toInt < 0 := by decide +kernel
      exact fun a b h1 h2 => key b (by omega) a (by omega)
    exact this n u h hu
  rw [Int32.le_iff_toInt_le] at h2
  have h4 : (0 : Int32).toInt = 0 := rfl
  omega
/-- a row with its places from q to i - 1 moved up -/
def shf (r : Nat → Int32) (q i : Nat) : Nat → Int32 := fun a => if q ≤ a ∧ a < i then r (a + 1) else r a
def m_sh (σ : Mem) (k q i : Nat) (cv : Int32) : Mem := fun j => if j = k + 2 then upd (σ j) 2 cv else if j = k + 10 then shf (σ j) q i else if j = k + 18 then shf (σ j) q i else σ j
theorem m_sh_0 (σ : Mem) (k q : Nat) (cv : Int32) : m_up σ (k + 2) 2 cv = m_sh σ k q q cv := by
  funext j a
  have hz : ∀ r : Nat → Int32, shf r q q = r := fun r => by funext b; simp only [shf]; rw [if_neg (by omega)]
  simp only [m_up, m_sh, hz]
  split <;> (try split) <;> (try split) <;> rfl
theorem m_sh_step (σ : Mem) {k q i : Nat} (cv : Int32) (hq : q ≤ i) : m_up (m_up (m_sh σ k q i cv) (k + 10) i (m_sh σ k q i cv (k + 10) (i + 1))) (k + 18) i (m_up (m_sh σ k q i cv) (k + 10) i (m_sh σ k q i cv (k + 10) (i + 1)) (k + 18) (i + 1)) = m_sh σ k q (i + 1) cv := by
  funext j a
  have e1 : ∀ r : Nat → Int32, shf r q i (i + 1) = r (i + 1) := fun r => by simp only [shf]; rw [if_neg (by omega)]
  have e2 : ∀ (r : Nat → Int32) (b : Nat), shf r q (i + 1) b = if b = i then r (i + 1) else shf r q i b := fun r b => by
    simp only [shf]
    by_cases hb : b = i
    · subst hb
      rw [if_pos (by omega), if_pos rfl]
    · rw [if_neg hb]
      by_cases h2 : q ≤ b ∧ b < i
      · rw [if_pos h2, if_pos (by omega)]
      · rw [if_neg h2, if_neg (by omega)]
  by_cases j2 : j = k + 2
  · subst j2
    simp [m_up, m_sh]
  · by_cases j10 : j = k + 10
    · subst j10
      simp only [m_up_get, m_sh]
      simp [e1, e2]
    · by_cases j18 : j = k + 18
      · subst j18
        simp only [m_up_get, m_sh]
        simp [e1, e2]
      · simp [m_up, m_sh, j2, j10, j18]
/-- a chute without its parcel at q -/
def m_rem (σ : Mem) (k q n : Nat) : Mem := m_sh σ k q (n - 1) (nI (n - 1))
/-- a row with its places from p + 1 to n moved down -/
def sdf (r : Nat → Int32) (p n : Nat) : Nat → Int32 := fun a => if p < a ∧ a ≤ n then r (a - 1) else r a
def m_sd (σ : Mem) (k p n : Nat) : Mem := fun j => if j = k + 10 then sdf (σ j) p n else if j = k + 18 then sdf (σ j) p n else σ j
theorem m_sd_0 (σ : Mem) (k n : Nat) : m_sd σ k n n = σ := by
  funext j a
  have hz : ∀ r : Nat → Int32, sdf r n n = r := fun r => by funext b; simp only [sdf]; rw [if_neg (by omega)]
  simp only [m_sd, hz]
  split <;> (try split) <;> rfl
theorem m_sd_step (σ : Mem) {k p n : Nat} (hp : 0 < p) (hn : p ≤ n) : m_up (m_up (m_sd σ k p n) (k + 10) p (m_sd σ k p n (k + 10) (p - 1))) (k + 18) p (m_up (m_sd σ k p n) (k + 10) p (m_sd σ k p n (k + 10) (p - 1)) (k + 18) (p - 1)) = m_sd σ k (p - 1) n := by
  funext j a
  have e1 : ∀ r : Nat → Int32, sdf r p n (p - 1) = r (p - 1) := fun r => by simp only [sdf]; rw [if_neg (by omega)]
  have e2 : ∀ (r : Nat → Int32) (b : Nat), sdf r (p - 1) n b = if b = p then r (p - 1) else sdf r p n b := fun r b => by
    simp only [sdf]
    by_cases hb : b = p
    · subst hb
      rw [if_pos (by omega), if_pos rfl]
    · rw [if_neg hb]
      by_cases h2 : p < b ∧ b ≤ n
      · rw [if_pos h2, if_pos (by omega)]
      · rw [if_neg h2, if_neg (by omega)]
  by_cases j10 : j = k + 10
  · subst j10
    simp only [m_up_get, m_sd]
    simp [e1, e2]
  · by_cases j18 : j = k + 18
    · subst j18
      simp only [m_up_get, m_sd]
      simp [e1, e2]
    · simp [m_up, m_sd, j10, j18]
def insf (r : Nat → Int32) (q n : Nat) (x : Int32) : Nat → Int32 := fun a => if a = q then x else if q < a ∧ a ≤ n then r (a - 1) else r a
/-- a chute with a parcel more at q -/
def m_ins (σ : Mem) (k q n : Nat) (w g : Int32) : Mem := fun j => if j = k + 2 then upd (σ j) 2 (nI (n + 1)) else if j = k + 10 then insf (σ j) q n w else if j = k + 18 then insf (σ j) q n g else σ j
theorem m_ins_of (σ : Mem) {k q n : Nat} (w g : Int32) : m_up (m_up (m_up (m_sd σ k q n) (k + 10) q w) (k + 18) q g) (k + 2) 2 (nI (n + 1)) = m_ins σ k q n w g := by
  funext j a
  by_cases j2 : j = k + 2
  · subst j2
    simp [m_up, m_sd, m_ins]
  · by_cases j10 : j = k + 10
    · subst j10
      simp [m_up, m_sd, m_ins, insf, sdf, upd]
    · by_cases j18 : j = k + 18
      · subst j18
        simp [m_up, m_sd, m_ins, insf, sdf, upd]
      · simp [m_up, m_sd, m_ins, j2, j10, j18]
end
section
set_option maxHeartbeats 4000000 in
set_option maxRecDepth 100000 in
/-- signsBetween -/
theorem mtX1_signsBetween (l : Launch) (a b : Int32) : Met l yX1_signsBetween wsX1_signsBetween ({ frames := 0, cells := 0, slots := 0, locals := 0 } : Room) (va_Pc [.int (a), .int (b)] (fun _ => True)) (vp_Si (fun r => r = sg a b)) 0 0 (fun _ => False) := by
  refine Met.ofW (cc := cX1_signsBetween) (maxL := 2) (ret := (some .int)) (by decide) rfl ?_
  intro p e s m args below meth c s₁ B hml hv
  obtain ⟨rfl, -⟩ := hv
  have hx := B.exec
  have hb := B.bytes
  have hr := B.returns
  have hts := atoms_spec (ws := wsX1_signsBetween) B.pre
  have hown : s.vm.findClass RX1 = some m.cls := findClass_of_methodNamed B.named
  have hlocks := B.notSynchronized
  have hl := lv_entry ([.int (a), .int (b)]) (n := 2) (Nat.le_of_ble_eq_true rfl)
  rw [lg_entry_eq]
  generalize (lg_sl ([.int (a), .int (b)]) ++ List.replicate (2 - (lg_sl ([.int (a), .int (b)])).length) Slot.unset).toArray = ls at hl ⊢
  have hl : lv_has ls 2 [(0, .int (a)), (1, .int (b))] := hl
  refine lv_iload_n hx hb dX1_signsBetween_0 rfl (lv_at hl 0 rfl) ?_
  refine lv_if_eq (tgt := 8) hx hb dX1_signsBetween_1 (by decide) (fun c1 => ?_) (fun c1 => ?_)
  · skip
    refine lv_bipush (v := 32) hx hb dX1_signsBetween_8 (by decide) ?_
    exact s_i hx hb hr hlocks dX1_signsBetween_10 (by simp [sg, c1])
  · skip
    refine lv_iload_n hx hb dX1_signsBetween_4 rfl (lv_at hl 1 rfl) ?_
    refine lv_if_ne (tgt := 11) hx hb dX1_signsBetween_5 (by decide) (fun c5 => ?_) (fun c5 => ?_)
    · skip
      refine lv_iload_n hx hb dX1_signsBetween_11 rfl (lv_at hl 0 rfl) ?_
      refine lv_iload_n hx hb dX1_signsBetween_12 rfl (lv_at hl 1 rfl) ?_
      refine lv_icmp_ge (tgt := 19) hx hb dX1_signsBetween_13 (by decide) (fun c13 => ?_) (fun c13 => ?_)
      · skip
        refine lv_iload_n hx hb dX1_signsBetween_19 rfl (lv_at hl 0 rfl) ?_
        refine lv_iload_n hx hb dX1_signsBetween_20 rfl (lv_at hl 1 rfl) ?_
        refine lv_icmp_le (tgt := 27) hx hb dX1_signsBetween_21 (by decide) (fun c21 => ?_) (fun c21 => ?_)
        · skip
          refine lv_bipush (v := 26) hx hb dX1_signsBetween_27 (by decide) ?_
          exact s_i hx hb hr hlocks dX1_signsBetween_29 (by simp [sg, c1, c5, c13, c21])
        · skip
          refine lv_bipush (v := 44) hx hb dX1_signsBetween_24 (by decide) ?_
          exact s_i hx hb hr hlocks dX1_signsBetween_26 (by simp [sg, c1, c5, c13, c21])
      · skip
        refine lv_bipush (v := 35) hx hb dX1_signsBetween_16 (by decide) ?_
        exact s_i hx hb hr hlocks dX1_signsBetween_18 (by simp [sg, c1, c5, c13])
    · skip
      refine lv_bipush (v := 32) hx hb dX1_signsBetween_8 (by decide) ?_
      exact s_i hx hb hr hlocks dX1_signsBetween_10 (by simp [sg, c1, c5])
set_option maxHeartbeats 4000000 in
set_option maxRecDepth 100000 in
/-- holds -/
theorem mtX1_holds (l : Launch) (a z b : Int32) : Met l yX1_holds wsX1_holds ({ frames := 1, cells := 0, slots := 0, locals := 21 } : Room) (va_Pc [.int (a), .int (z), .int (b)] (fun _ => True)) (vp_Si (fun r => r = hd a b z)) 0 0 (fun _ => False) := by
  refine Met.ofW (cc := cX1_holds) (maxL := 3) (ret := (some .boolean)) (by decide) rfl ?_
  intro p e s m args below meth c s₁ B hml hv
  obtain ⟨rfl, -⟩ := hv
  have hx := B.exec
  have hb := B.bytes
  have hr := B.returns
  have hts := atoms_spec (ws := wsX1_holds) B.pre
  have hown : s.vm.findClass RX1 = some m.cls := findClass_of_methodNamed B.named
  have hlocks := B.notSynchronized
  have hl := lv_entry ([.int (a), .int (z), .int (b)]) (n := 3) (Nat.le_of_ble_eq_true rfl)
  rw [lg_entry_eq]
  generalize (lg_sl ([.int (a), .int (z), .int (b)]) ++ List.replicate (3 - (lg_sl ([.int (a), .int (z), .int (b)])).length) Slot.unset).toArray = ls at hl ⊢
  have hl : lv_has ls 3 [(0, .int (a)), (1, .int (z)), (2, .int (b))] := hl
  refine lv_iload_n hx hb dX1_holds_0 rfl (lv_at hl 0 rfl) ?_
  refine lv_iload_n hx hb dX1_holds_1 rfl (lv_at hl 2 rfl) ?_
  refine k_Si (As := [.int (a), .int (b)]) (rest := []) ⟨hx, hb, hml, hown, hts⟩ (mtX1_signsBetween l a b) (va_cwS 2 hts gX1_holds_X1_signsBetween rfl rfl rfl (by decide +kernel) ⟨Nat.le_of_ble_eq_true rfl, Nat.le_of_ble_eq_true rfl⟩) rfl hl.1 rfl (Nat.le_of_ble_eq_true rfl) dX1_holds_2 ⟨Nat.le_of_ble_eq_true rfl, Nat.le_of_ble_eq_true rfl⟩ (fun r1 er1 => ?_)
  subst er1
  refine lv_iload_n hx hb dX1_holds_5 rfl (lv_at hl 1 rfl) ?_
  refine lv_iand hx hb dX1_holds_6 ?_
  refine lv_if_eq (tgt := 14) hx hb dX1_holds_7 (by decide) (fun c7 => ?_) (fun c7 => ?_)
  · skip
    refine lv_iconst (v := 0) hx hb dX1_holds_14 (by decide) ?_
    exact s_z hx hb hr hlocks rfl dX1_holds_15 (by simp [hd, c7])
  · skip
    refine lv_iconst (v := 1) hx hb dX1_holds_10 (by decide) ?_
    refine lv_goto (tgt := 15) hx hb dX1_holds_11 (by decide) ?_
    exact s_z hx hb hr hlocks rfl dX1_holds_15 (by simp [hd, c7])
set_option maxHeartbeats 4000000 in
set_option maxRecDepth 100000 in
/-- oneIf -/
theorem mtX1_oneIf (l : Launch) (z : Int32) : Met l yX1_oneIf wsX1_oneIf ({ frames := 0, cells := 0, slots := 0, locals := 0 } : Room) (va_Pc [.int (z)] (fun _ => True)) (vp_Si (fun r => r = b1 z)) 0 0 (fun _ => False) := by
  refine Met.ofW (cc := cX1_oneIf) (maxL := 1) (ret := (some .int)) (by decide) rfl ?_
  intro p e s m args below meth c s₁ B hml hv
  obtain ⟨rfl, -⟩ := hv
  have hx := B.exec
  have hb := B.bytes
  have hr := B.returns
  have hts := atoms_spec (ws := wsX1_oneIf) B.pre
  have hown : s.vm.findClass RX1 = some m.cls := findClass_of_methodNamed B.named
  have hlocks := B.notSynchronized
  have hl := lv_entry ([.int (z)]) (n := 1) (Nat.le_of_ble_eq_true rfl)
  rw [lg_entry_eq]
  generalize (lg_sl ([.int (z)]) ++ List.replicate (1 - (lg_sl ([.int (z)])).length) Slot.unset).toArray = ls at hl ⊢
  have hl : lv_has ls 1 [(0, .int (z))] := hl
  refine lv_iload_n hx hb dX1_oneIf_0 rfl (lv_at hl 0 rfl) ?_
  refine lv_if_eq (tgt := 8) hx hb dX1_oneIf_1 (by decide) (fun c1 => ?_) (fun c1 => ?_)
  · skip
    refine lv_iconst (v := 0) hx hb dX1_oneIf_8 (by decide) ?_
    exact s_i hx hb hr hlocks dX1_oneIf_9 (by simp [b1, c1])
  · skip
    refine lv_iconst (v := 1) hx hb dX1_oneIf_4 (by decide) ?_
    refine lv_goto (tgt := 9) hx hb dX1_oneIf_5 (by decide) ?_
    exact s_i hx hb hr hlocks dX1_oneIf_9 (by simp [b1, c1])
set_option maxHeartbeats 4000000 in
set_option maxRecDepth 100000 in
/-- isWithin -/
theorem mtX2_isWithin (l : Launch) (v b : Int32) : Met l yX2_isWithin wsX2_isWithin ({ frames := 0, cells := 0, slots := 0, locals := 0 } : Room) (va_Pc [.int (v), .int (b)] (fun _ => True)) (vp_Si (fun r => r = iw v b)) 0 0 (fun _ => False) := by
  refine Met.ofW (cc := cX2_isWithin) (maxL := 2) (ret := (some .boolean)) (by decide) rfl ?_
  intro p e s m args below meth c s₁ B hml hv
  obtain ⟨rfl, -⟩ := hv
  have hx := B.exec
  have hb := B.bytes
  have hr := B.returns
  have hts := atoms_spec (ws := wsX2_isWithin) B.pre
  have hown : s.vm.findClass RX2 = some m.cls := findClass_of_methodNamed B.named
  have hlocks := B.notSynchronized
  have hl := lv_entry ([.int (v), .int (b)]) (n := 2) (Nat.le_of_ble_eq_true rfl)
  rw [lg_entry_eq]
  generalize (lg_sl ([.int (v), .int (b)]) ++ List.replicate (2 - (lg_sl ([.int (v), .int (b)])).length) Slot.unset).toArray = ls at hl ⊢
  have hl : lv_has ls 2 [(0, .int (v)), (1, .int (b))] := hl
  refine lv_iload_n hx hb dX2_isWithin_0 rfl (lv_at hl 0 rfl) ?_
  refine lv_if_lt (tgt := 13) hx hb dX2_isWithin_1 (by decide) (fun c1 => ?_) (fun c1 => ?_)
  · skip
    refine lv_iconst (v := 0) hx hb dX2_isWithin_13 (by decide) ?_
    exact s_z hx hb hr hlocks rfl dX2_isWithin_14 (by simp [iw, c1])
  · skip
    refine lv_iload_n hx hb dX2_isWithin_4 rfl (lv_at hl 0 rfl) ?_
    refine lv_iload_n hx hb dX2_isWithin_5 rfl (lv_at hl 1 rfl) ?_
    refine lv_icmp_gt (tgt := 13) hx hb dX2_isWithin_6 (by decide) (fun c6 => ?_) (fun c6 => ?_)
    · skip
      refine lv_iconst (v := 0) hx hb dX2_isWithin_13 (by decide) ?_
      exact s_z hx hb hr hlocks rfl dX2_isWithin_14 (by simp [iw, c1, c6])
    · skip
      refine lv_iconst (v := 1) hx hb dX2_isWithin_9 (by decide) ?_
      refine lv_goto (tgt := 14) hx hb dX2_isWithin_10 (by decide) ?_
      exact s_z hx hb hr hlocks rfl dX2_isWithin_14 (by simp [iw, c1, c6])
set_option maxHeartbeats 4000000 in
set_option maxRecDepth 100000 in
/-- isChute -/
theorem mtX2_isChute (l : Launch) (v : Int32) : Met l yX2_isChute wsX2_isChute ({ frames := 1, cells := 0, slots := 0, locals := 21 } : Room) (va_Pc [.int (v)] (fun _ => True)) (vp_Si (fun r => r = iw v 7)) 0 0 (fun _ => False) := by
  refine Met.ofW (cc := cX2_isChute) (maxL := 1) (ret := (some .boolean)) (by decide) rfl ?_
  intro p e s m args below meth c s₁ B hml hv
  obtain ⟨rfl, -⟩ := hv
  have hx := B.exec
  have hb := B.bytes
  have hr := B.returns
  have hts := atoms_spec (ws := wsX2_isChute) B.pre
  have hown : s.vm.findClass RX2 = some m.cls := findClass_of_methodNamed B.named
  have hlocks := B.notSynchronized
  have hl := lv_entry ([.int (v)]) (n := 1) (Nat.le_of_ble_eq_true rfl)
  rw [lg_entry_eq]
  generalize (lg_sl ([.int (v)]) ++ List.replicate (1 - (lg_sl ([.int (v)])).length) Slot.unset).toArray = ls at hl ⊢
  have hl : lv_has ls 1 [(0, .int (v))] := hl
  refine lv_iload_n hx hb dX2_isChute_0 rfl (lv_at hl 0 rfl) ?_
  refine lv_bipush (v := 7) hx hb dX2_isChute_1 (by decide) ?_
  refine k_Si (As := [.int (v), .int (7)]) (rest := []) ⟨hx, hb, hml, hown, hts⟩ (mtX2_isWithin l v 7) (va_cwS 2 hts gX2_isChute_X2_isWithin rfl rfl rfl (by decide +kernel) ⟨Nat.le_of_ble_eq_true rfl, Nat.le_of_ble_eq_true rfl⟩) rfl hl.1 rfl (Nat.le_of_ble_eq_true rfl) dX2_isChute_3 ⟨Nat.le_of_ble_eq_true rfl, Nat.le_of_ble_eq_true rfl⟩ (fun r1 er1 => ?_)
  subst er1
  exact s_z hx hb hr hlocks (by first | rfl | (exact iw_nar _ _)) dX2_isChute_6 rfl
set_option maxHeartbeats 4000000 in
set_option maxRecDepth 100000 in
/-- isParcel -/
theorem mtX2_isParcel (l : Launch) (v b : Int32) : Met l yX2_isParcel wsX2_isParcel ({ frames := 1, cells := 0, slots := 0, locals := 21 } : Room) (va_Pc [.int (v), .int (b)] (fun _ => True)) (vp_Si (fun r => r = ip v b)) 0 0 (fun _ => False) := by
  refine Met.ofW (cc := cX2_isParcel) (maxL := 2) (ret := (some .boolean)) (by decide) rfl ?_
  intro p e s m args below meth c s₁ B hml hv
  obtain ⟨rfl, -⟩ := hv
  have hx := B.exec
  have hb := B.bytes
  have hr := B.returns
  have hts := atoms_spec (ws := wsX2_isParcel) B.pre
  have hown : s.vm.findClass RX2 = some m.cls := findClass_of_methodNamed B.named
  have hlocks := B.notSynchronized
  have hl := lv_entry ([.int (v), .int (b)]) (n := 2) (Nat.le_of_ble_eq_true rfl)
  rw [lg_entry_eq]
  generalize (lg_sl ([.int (v), .int (b)]) ++ List.replicate (2 - (lg_sl ([.int (v), .int (b)])).length) Slot.unset).toArray = ls at hl ⊢
  have hl : lv_has ls 2 [(0, .int (v)), (1, .int (b))] := hl
  refine lv_iload_n hx hb dX2_isParcel_0 rfl (lv_at hl 0 rfl) ?_
  refine lv_ldc (v := 800000) hx hb hown (hts (.constant RX2 46 (800000)) (by decide +kernel)) dX2_isParcel_1 ?_
  refine k_Si (As := [.int (v), .int (800000)]) (rest := []) ⟨hx, hb, hml, hown, hts⟩ (mtX2_isWithin l v 800000) (va_cwS 2 hts gX2_isParcel_X2_isWithin rfl rfl rfl (by decide +kernel) ⟨Nat.le_of_ble_eq_true rfl, Nat.le_of_ble_eq_true rfl⟩) rfl hl.1 rfl (Nat.le_of_ble_eq_true rfl) dX2_isParcel_3 ⟨Nat.le_of_ble_eq_true rfl, Nat.le_of_ble_eq_true rfl⟩ (fun r1 er1 => ?_)
  subst er1
  refine lv_if_eq (tgt := 23) hx hb dX2_isParcel_6 (by decide) (fun c6 => ?_) (fun c6 => ?_)
  · skip
    refine lv_iconst (v := 0) hx hb dX2_isParcel_23 (by decide) ?_
    exact s_z hx hb hr hlocks rfl dX2_isParcel_24 (by simp [ip, c6])
  · skip
    refine lv_iload_n hx hb dX2_isParcel_9 rfl (lv_at hl 1 rfl) ?_
    refine lv_sipush (v := 16000) hx hb dX2_isParcel_10 (by decide) ?_
    refine k_Si (As := [.int (b), .int (16000)]) (rest := []) ⟨hx, hb, hml, hown, hts⟩ (mtX2_isWithin l b 16000) (va_cwS 2 hts gX2_isParcel_X2_isWithin rfl rfl rfl (by decide +kernel) ⟨Nat.le_of_ble_eq_true rfl, Nat.le_of_ble_eq_true rfl⟩) rfl hl.1 rfl (Nat.le_of_ble_eq_true rfl) dX2_isParcel_13 ⟨Nat.le_of_ble_eq_true rfl, Nat.le_of_ble_eq_true rfl⟩ (fun r2 er2 => ?_)
    subst er2
    refine lv_if_eq (tgt := 23) hx hb dX2_isParcel_16 (by decide) (fun c16 => ?_) (fun c16 => ?_)
    · skip
      refine lv_iconst (v := 0) hx hb dX2_isParcel_23 (by decide) ?_
      exact s_z hx hb hr hlocks rfl dX2_isParcel_24 (by simp [ip, c6, c16])
    · skip
      refine lv_iconst (v := 1) hx hb dX2_isParcel_19 (by decide) ?_
      refine lv_goto (tgt := 24) hx hb dX2_isParcel_20 (by decide) ?_
      exact s_z hx hb hr hlocks rfl dX2_isParcel_24 (by simp [ip, c6, c16])
set_option maxHeartbeats 4000000 in
set_option maxRecDepth 100000 in
/-- signsOf -/
theorem mtX2_signsOf (l : Launch) (a b : Int32) : Met l yX2_signsOf wsX2_signsOf ({ frames := 0, cells := 0, slots := 0, locals := 0 } : Room) (va_Pc [.int (a), .int (b)] (fun _ => True)) (vp_Si (fun r => r = sg a b)) 0 0 (fun _ => False) := by
  refine Met.ofW (cc := cX2_signsOf) (maxL := 2) (ret := (some .int)) (by decide) rfl ?_
  intro p e s m args below meth c s₁ B hml hv
  obtain ⟨rfl, -⟩ := hv
  have hx := B.exec
  have hb := B.bytes
  have hr := B.returns
  have hts := atoms_spec (ws := wsX2_signsOf) B.pre
  have hown : s.vm.findClass RX2 = some m.cls := findClass_of_methodNamed B.named
  have hlocks := B.notSynchronized
  have hl := lv_entry ([.int (a), .int (b)]) (n := 2) (Nat.le_of_ble_eq_true rfl)
  rw [lg_entry_eq]
  generalize (lg_sl ([.int (a), .int (b)]) ++ List.replicate (2 - (lg_sl ([.int (a), .int (b)])).length) Slot.unset).toArray = ls at hl ⊢
  have hl : lv_has ls 2 [(0, .int (a)), (1, .int (b))] := hl
  refine lv_iload_n hx hb dX2_signsOf_0 rfl (lv_at hl 0 rfl) ?_
  refine lv_if_eq (tgt := 8) hx hb dX2_signsOf_1 (by decide) (fun c1 => ?_) (fun c1 => ?_)
  · skip
    refine lv_bipush (v := 32) hx hb dX2_signsOf_8 (by decide) ?_
    exact s_i hx hb hr hlocks dX2_signsOf_10 (by rw [← sgM_eq]; simp [sgM, c1])
  · skip
    refine lv_iload_n hx hb dX2_signsOf_4 rfl (lv_at hl 1 rfl) ?_
    refine lv_if_ne (tgt := 11) hx hb dX2_signsOf_5 (by decide) (fun c5 => ?_) (fun c5 => ?_)
    · skip
      refine lv_iload_n hx hb dX2_signsOf_11 rfl (lv_at hl 0 rfl) ?_
      refine lv_iload_n hx hb dX2_signsOf_12 rfl (lv_at hl 1 rfl) ?_
      refine lv_icmp_ne (tgt := 19) hx hb dX2_signsOf_13 (by decide) (fun c13 => ?_) (fun c13 => ?_)
      · skip
        refine lv_iload_n hx hb dX2_signsOf_19 rfl (lv_at hl 0 rfl) ?_
        refine lv_iload_n hx hb dX2_signsOf_20 rfl (lv_at hl 1 rfl) ?_
        refine lv_icmp_ge (tgt := 29) hx hb dX2_signsOf_21 (by decide) (fun c21 => ?_) (fun c21 => ?_)
        · skip
          refine lv_bipush (v := 44) hx hb dX2_signsOf_29 (by decide) ?_
          exact s_i hx hb hr hlocks dX2_signsOf_31 (by rw [← sgM_eq]; simp [sgM, c1, c5, c13, c21])
        · skip
          refine lv_bipush (v := 35) hx hb dX2_signsOf_24 (by decide) ?_
          refine lv_goto (tgt := 31) hx hb dX2_signsOf_26 (by decide) ?_
          exact s_i hx hb hr hlocks dX2_signsOf_31 (by rw [← sgM_eq]; simp [sgM, c1, c5, c13, c21])
      · skip
        refine lv_bipush (v := 26) hx hb dX2_signsOf_16 (by decide) ?_
        exact s_i hx hb hr hlocks dX2_signsOf_18 (by rw [← sgM_eq]; simp [sgM, c1, c5, c13])
    · skip
      refine lv_bipush (v := 32) hx hb dX2_signsOf_8 (by decide) ?_
      exact s_i hx hb hr hlocks dX2_signsOf_10 (by rw [← sgM_eq]; simp [sgM, c1, c5])
set_option maxHeartbeats 4000000 in
set_option maxRecDepth 100000 in
/-- holds -/
theorem mtX2_holds (l : Launch) (a b z : Int32) : Met l yX2_holds wsX2_holds ({ frames := 1, cells := 0, slots := 0, locals := 21 } : Room) (va_Pc [.int (a), .int (b), .int (z)] (fun _ => True)) (vp_Si (fun r => r = hd a b z)) 0 0 (fun _ => False) := by
  refine Met.ofW (cc := cX2_holds) (maxL := 3) (ret := (some .boolean)) (by decide) rfl ?_
  intro p e s m args below meth c s₁ B hml hv
  obtain ⟨rfl, -⟩ := hv
  have hx := B.exec
  have hb := B.bytes
  have hr := B.returns
  have hts := atoms_spec (ws := wsX2_holds) B.pre
  have hown : s.vm.findClass RX2 = some m.cls := findClass_of_methodNamed B.named
  have hlocks := B.notSynchronized
  have hl := lv_entry ([.int (a), .int (b), .int (z)]) (n := 3) (Nat.le_of_ble_eq_true rfl)
  rw [lg_entry_eq]
  generalize (lg_sl ([.int (a), .int (b), .int (z)]) ++ List.replicate (3 - (lg_sl ([.int (a), .int (b), .int (z)])).length) Slot.unset).toArray = ls at hl ⊢
  have hl : lv_has ls 3 [(0, .int (a)), (1, .int (b)), (2, .int (z))] := hl
  refine lv_iload_n hx hb dX2_holds_0 rfl (lv_at hl 0 rfl) ?_
  refine lv_iload_n hx hb dX2_holds_1 rfl (lv_at hl 1 rfl) ?_
  refine k_Si (As := [.int (a), .int (b)]) (rest := []) ⟨hx, hb, hml, hown, hts⟩ (mtX2_signsOf l a b) (va_cwS 2 hts gX2_holds_X2_signsOf rfl rfl rfl (by decide +kernel) ⟨Nat.le_of_ble_eq_true rfl, Nat.le_of_ble_eq_true rfl⟩) rfl hl.1 rfl (Nat.le_of_ble_eq_true rfl) dX2_holds_2 ⟨Nat.le_of_ble_eq_true rfl, Nat.le_of_ble_eq_true rfl⟩ (fun r1 er1 => ?_)
  subst er1
  refine lv_iload_n hx hb dX2_holds_5 rfl (lv_at hl 2 rfl) ?_
  refine lv_iand hx hb dX2_holds_6 ?_
  refine lv_if_eq (tgt := 14) hx hb dX2_holds_7 (by decide) (fun c7 => ?_) (fun c7 => ?_)
  · skip
    refine lv_iconst (v := 0) hx hb dX2_holds_14 (by decide) ?_
    exact s_z hx hb hr hlocks rfl dX2_holds_15 (by simp [hd, c7])
  · skip
    refine lv_iconst (v := 1) hx hb dX2_holds_10 (by decide) ?_
    refine lv_goto (tgt := 15) hx hb dX2_holds_11 (by decide) ?_
    exact s_z hx hb hr hlocks rfl dX2_holds_15 (by simp [hd, c7])
theorem wxX1_requireWeight_24 : ∀ w ∈ (vx_atS RX1 24 "java/lang/IllegalArgumentException" ["java/lang/RuntimeException", "java/lang/Exception"]).filter goodWord, w ∈ wsX1_requireWeight := fun w h => by
  simp only [wsX1_requireWeight, List.mem_cons, List.mem_append, h, or_true, true_or]
set_option maxHeartbeats 4000000 in
set_option maxRecDepth 100000 in
/-- requireWeight -/
theorem mtX1_requireWeight (l : Launch) (hl0 : l.stackTraces = false) (E : Ev) (hok : e_ok E) (σ : Mem) (o : Nat → Int64) (v : Int32) : vx_Met l yX1_requireWeight wsX1_requireWeight ({ frames := 6, cells := 1, slots := 6, locals := 90 } : Room) (PW E σ o [.int (v)]) (va_Qv (fun (σ' : Mem) => (¬ v < 0 ∧ v ≤ 800000) ∧ σ' = σ) (BW E o) (LB (e_B E))) (XW E σ o (fun u => u = xIA ∧ ¬ (¬ v < 0 ∧ v ≤ 800000))) 1 6 (LB (e_B E)) := by
  refine vx_ofW (cc := cX1_requireWeight) (maxL := 1) (ret := none) (by decide) rfl ?_
  intro p e s m args below meth c s₁ B hml hno hv
  obtain ⟨rfl, hP, hK⟩ := hv
  have hx := B.exec
  have hb := B.bytes
  have hr := B.returns
  have hts := atoms_spec (ws := wsX1_requireWeight) B.pre
  have hown : s.vm.findClass RX1 = some m.cls := findClass_of_methodNamed B.named
  have hlocks := B.notSynchronized
  have hS : va_S (LB (e_B E)) s.heap s.heap [] := va_S.rf
  have hl := lv_entry ([.int (v)]) (n := 1) (Nat.le_of_ble_eq_true rfl)
  rw [lg_entry_eq]
  generalize (lg_sl ([.int (v)]) ++ List.replicate (1 - (lg_sl ([.int (v)])).length) Slot.unset).toArray = ls at hl ⊢
  have hl : lv_has ls 1 [(0, .int (v))] := hl
  refine lv_iload_n hx hb dX1_requireWeight_0 rfl (lv_at hl 0 rfl) ?_
  refine lv_if_lt (tgt := 10) hx hb dX1_requireWeight_1 (by decide) (fun c1 => ?_) (fun c1 => ?_)
  · skip
    exact x_throw hx hb hl0 (ik := 20) (is := 155) (ic := 24) hown (by decide +kernel) (hts (.classLink RX1 20 "java/lang/IllegalArgumentException") (by decide +kernel)) (hts (.initialized "java/lang/IllegalArgumentException") (by decide +kernel)) hK.s155 (vx_hat (B := [.castable "java/lang/IllegalArgumentException" "java/lang/IllegalArgumentException", .declares (Bundle.initS "java/lang/RuntimeException"), .declares (Bundle.initS "java/lang/Exception"), .declares (Bundle.initS "java/lang/Throwable")]) (fun w h => hts w (wxX1_requireWeight_24 w h)) (by decide +kernel) (vx_c (hK.c (by decide)) (vx_c (hK.d (by decide)) (vx_c (hK.d (by decide)) (vx_c (hK.d (by decide)) vx_n))))) (by decide +kernel) hK hP hS hl.1 hml dX1_requireWeight_10 dX1_requireWeight_13 dX1_requireWeight_14 dX1_requireWeight_16 dX1_requireWeight_19 hno (Nat.le_of_ble_eq_true rfl) (Nat.le_of_ble_eq_true rfl) (Nat.le_of_ble_eq_true rfl) (Nat.le_of_ble_eq_true rfl) hlocks ⟨rfl, fun z => z.1 c1⟩ (Nat.le_of_ble_eq_true rfl) (Nat.le_of_ble_eq_true rfl)
  · skip
    refine lv_iload_n hx hb dX1_requireWeight_4 rfl (lv_at hl 0 rfl) ?_
    refine lv_ldc (v := 800000) hx hb hown (hts (.constant RX1 154 (800000)) (by decide +kernel)) dX1_requireWeight_5 ?_
    refine lv_icmp_le (tgt := 20) hx hb dX1_requireWeight_7 (by decide) (fun c7 => ?_) (fun c7 => ?_)
    · skip
      refine W.widen (k := 1) (n := 6) (Nat.le_of_ble_eq_true rfl) (Nat.le_of_ble_eq_true rfl) ?_
      exact vx_ret (r_v hx hb hr hlocks hP hS dX1_requireWeight_20 ⟨⟨c1, c7⟩, rfl⟩)
    · skip
      exact x_throw hx hb hl0 (ik := 20) (is := 155) (ic := 24) hown (by decide +kernel) (hts (.classLink RX1 20 "java/lang/IllegalArgumentException") (by decide +kernel)) (hts (.initialized "java/lang/IllegalArgumentException") (by decide +kernel)) hK.s155 (vx_hat (B := [.castable "java/lang/IllegalArgumentException" "java/lang/IllegalArgumentException", .declares (Bundle.initS "java/lang/RuntimeException"), .declares (Bundle.initS "java/lang/Exception"), .declares (Bundle.initS "java/lang/Throwable")]) (fun w h => hts w (wxX1_requireWeight_24 w h)) (by decide +kernel) (vx_c (hK.c (by decide)) (vx_c (hK.d (by decide)) (vx_c (hK.d (by decide)) (vx_c (hK.d (by decide)) vx_n))))) (by decide +kernel) hK hP hS hl.1 hml dX1_requireWeight_10 dX1_requireWeight_13 dX1_requireWeight_14 dX1_requireWeight_16 dX1_requireWeight_19 hno (Nat.le_of_ble_eq_true rfl) (Nat.le_of_ble_eq_true rfl) (Nat.le_of_ble_eq_true rfl) (Nat.le_of_ble_eq_true rfl) hlocks ⟨rfl, fun z => c7 z.2⟩ (Nat.le_of_ble_eq_true rfl) (Nat.le_of_ble_eq_true rfl)
theorem wxX1_requireGirth_24 : ∀ w ∈ (vx_atS RX1 24 "java/lang/IllegalArgumentException" ["java/lang/RuntimeException", "java/lang/Exception"]).filter goodWord, w ∈ wsX1_requireGirth := fun w h => by
  simp only [wsX1_requireGirth, List.mem_cons, List.mem_append, h, or_true, true_or]
set_option maxHeartbeats 4000000 in
set_option maxRecDepth 100000 in
/-- requireGirth -/
theorem mtX1_requireGirth (l : Launch) (hl0 : l.stackTraces = false) (E : Ev) (hok : e_ok E) (σ : Mem) (o : Nat → Int64) (v : Int32) : vx_Met l yX1_requireGirth wsX1_requireGirth ({ frames := 6, cells := 1, slots := 6, locals := 90 } : Room) (PW E σ o [.int (v)]) (va_Qv (fun (σ' : Mem) => (¬ v < 0 ∧ v ≤ 16000) ∧ σ' = σ) (BW E o) (LB (e_B E))) (XW E σ o (fun u => u = xIA ∧ ¬ (¬ v < 0 ∧ v ≤ 16000))) 1 6 (LB (e_B E)) := by
  refine vx_ofW (cc := cX1_requireGirth) (maxL := 1) (ret := none) (by decide) rfl ?_
  intro p e s m args below meth c s₁ B hml hno hv
  obtain ⟨rfl, hP, hK⟩ := hv
  have hx := B.exec
  have hb := B.bytes
  have hr := B.returns
  have hts := atoms_spec (ws := wsX1_requireGirth) B.pre
  have hown : s.vm.findClass RX1 = some m.cls := findClass_of_methodNamed B.named
  have hlocks := B.notSynchronized
  have hS : va_S (LB (e_B E)) s.heap s.heap [] := va_S.rf
  have hl := lv_entry ([.int (v)]) (n := 1) (Nat.le_of_ble_eq_true rfl)
  rw [lg_entry_eq]
  generalize (lg_sl ([.int (v)]) ++ List.replicate (1 - (lg_sl ([.int (v)])).length) Slot.unset).toArray = ls at hl ⊢
  have hl : lv_has ls 1 [(0, .int (v))] := hl
  refine lv_iload_n hx hb dX1_requireGirth_0 rfl (lv_at hl 0 rfl) ?_
  refine lv_if_lt (tgt := 11) hx hb dX1_requireGirth_1 (by decide) (fun c1 => ?_) (fun c1 => ?_)
  · skip
    exact x_throw hx hb hl0 (ik := 20) (is := 157) (ic := 24) hown (by decide +kernel) (hts (.classLink RX1 20 "java/lang/IllegalArgumentException") (by decide +kernel)) (hts (.initialized "java/lang/IllegalArgumentException") (by decide +kernel)) hK.s157 (vx_hat (B := [.castable "java/lang/IllegalArgumentException" "java/lang/IllegalArgumentException", .declares (Bundle.initS "java/lang/RuntimeException"), .declares (Bundle.initS "java/lang/Exception"), .declares (Bundle.initS "java/lang/Throwable")]) (fun w h => hts w (wxX1_requireGirth_24 w h)) (by decide +kernel) (vx_c (hK.c (by decide)) (vx_c (hK.d (by decide)) (vx_c (hK.d (by decide)) (vx_c (hK.d (by decide)) vx_n))))) (by decide +kernel) hK hP hS hl.1 hml dX1_requireGirth_11 dX1_requireGirth_14 dX1_requireGirth_15 dX1_requireGirth_17 dX1_requireGirth_20 hno (Nat.le_of_ble_eq_true rfl) (Nat.le_of_ble_eq_true rfl) (Nat.le_of_ble_eq_true rfl) (Nat.le_of_ble_eq_true rfl) hlocks ⟨rfl, fun z => z.1 c1⟩ (Nat.le_of_ble_eq_true rfl) (Nat.le_of_ble_eq_true rfl)
  · skip
    refine lv_iload_n hx hb dX1_requireGirth_4 rfl (lv_at hl 0 rfl) ?_
    refine lv_sipush (v := 16000) hx hb dX1_requireGirth_5 (by decide) ?_
    refine lv_icmp_le (tgt := 21) hx hb dX1_requireGirth_8 (by decide) (fun c8 => ?_) (fun c8 => ?_)
    · skip
      refine W.widen (k := 1) (n := 6) (Nat.le_of_ble_eq_true rfl) (Nat.le_of_ble_eq_true rfl) ?_
      exact vx_ret (r_v hx hb hr hlocks hP hS dX1_requireGirth_21 ⟨⟨c1, c8⟩, rfl⟩)
    · skip
      exact x_throw hx hb hl0 (ik := 20) (is := 157) (ic := 24) hown (by decide +kernel) (hts (.classLink RX1 20 "java/lang/IllegalArgumentException") (by decide +kernel)) (hts (.initialized "java/lang/IllegalArgumentException") (by decide +kernel)) hK.s157 (vx_hat (B := [.castable "java/lang/IllegalArgumentException" "java/lang/IllegalArgumentException", .declares (Bundle.initS "java/lang/RuntimeException"), .declares (Bundle.initS "java/lang/Exception"), .declares (Bundle.initS "java/lang/Throwable")]) (fun w h => hts w (wxX1_requireGirth_24 w h)) (by decide +kernel) (vx_c (hK.c (by decide)) (vx_c (hK.d (by decide)) (vx_c (hK.d (by decide)) (vx_c (hK.d (by decide)) vx_n))))) (by decide +kernel) hK hP hS hl.1 hml dX1_requireGirth_11 dX1_requireGirth_14 dX1_requireGirth_15 dX1_requireGirth_17 dX1_requireGirth_20 hno (Nat.le_of_ble_eq_true rfl) (Nat.le_of_ble_eq_true rfl) (Nat.le_of_ble_eq_true rfl) (Nat.le_of_ble_eq_true rfl) hlocks ⟨rfl, fun z => c8 z.2⟩ (Nat.le_of_ble_eq_true rfl) (Nat.le_of_ble_eq_true rfl)
theorem wxX1_requirePlace_163 : ∀ w ∈ (vy_atS RX1 163 "java/util/NoSuchElementException" ["java/lang/RuntimeException", "java/lang/Exception"]).filter goodWord, w ∈ wsX1_requirePlace := fun w h => by
  simp only [wsX1_requirePlace, List.mem_cons, List.mem_append, h, or_true, true_or]
set_option maxHeartbeats 4000000 in
set_option maxRecDepth 100000 in
/-- requirePlace -/
theorem mtX1_requirePlace (l : Launch) (hl0 : l.stackTraces = false) (E : Ev) (hok : e_ok E) (σ : Mem) (o : Nat → Int64) (k : Nat) (hk : k < 8) (v : Int32) : vx_Met l yX1_requirePlace wsX1_requirePlace ({ frames := 6, cells := 1, slots := 6, locals := 90 } : Room) (PW E σ o [.ref (e_a E (k + 2)), .int (v)]) (va_Qv (fun (σ' : Mem) => (¬ v < 0 ∧ v < σ (k + 2) 2) ∧ σ' = σ) (BW E o) (LB (e_B E))) (XW E σ o (fun u => u = xNS ∧ ¬ (¬ v < 0 ∧ v < σ (k + 2) 2))) 1 6 (LB (e_B E)) := by
  refine vx_ofW (cc := cX1_requirePlace) (maxL := 2) (ret := none) (by decide) rfl ?_
  intro p e s m args below meth c s₁ B hml hno hv
  obtain ⟨rfl, hP, hK⟩ := hv
  have hx := B.exec
  have hb := B.bytes
  have hr := B.returns
  have hts := atoms_spec (ws := wsX1_requirePlace) B.pre
  have hown : s.vm.findClass RX1 = some m.cls := findClass_of_methodNamed B.named
  have hlocks := B.notSynchronized
  have hS : va_S (LB (e_B E)) s.heap s.heap [] := va_S.rf
  have hinX0 : ∀ w ∈ wsX00, w ∈ wsX1_requirePlace := fun w h => by simp only [wsX1_requirePlace, List.mem_cons, List.mem_append, h, or_true, true_or]
  have hf27 := hts (.fieldLink RX1 27 "ParcelChutes$Chute" "count" "I") (by decide +kernel)
  have hl := lv_entry ([.ref (e_a E (k + 2)), .int (v)]) (n := 2) (Nat.le_of_ble_eq_true rfl)
  rw [lg_entry_eq]
  generalize (lg_sl ([.ref (e_a E (k + 2)), .int (v)]) ++ List.replicate (2 - (lg_sl ([.ref (e_a E (k + 2)), .int (v)])).length) Slot.unset).toArray = ls at hl ⊢
  have hl : lv_has ls 2 [(0, .ref (e_a E (k + 2))), (1, .int (v))] := hl
  refine lv_iload_n hx hb dX1_requirePlace_0 rfl (lv_at hl 1 rfl) ?_
  refine lv_if_lt (tgt := 12) hx hb dX1_requirePlace_1 (by decide) (fun c1 => ?_) (fun c1 => ?_)
  · skip
    exact x_throwN hx hb hl0 (ik := 159) (is := 161) (ic := 163) hown (by decide +kernel) (hts (.classLink RX1 159 "java/util/NoSuchElementException") (by decide +kernel)) (hts (.initialized "java/util/NoSuchElementException") (by decide +kernel)) hK.s161 (vx_hat (B := [.castable "java/util/NoSuchElementException" "java/util/NoSuchElementException", .declares (Bundle.initS "java/lang/RuntimeException"), .declares (Bundle.initS "java/lang/Exception"), .declares (Bundle.initS "java/lang/Throwable")]) (fun w h => hts w (wxX1_requirePlace_163 w h)) (by decide +kernel) (vx_c (hK.c (by decide)) (vx_c (hK.d (by decide)) (vx_c (hK.d (by decide)) (vx_c (hK.d (by decide)) vx_n))))) (by decide +kernel) hK hP hS hl.1 hml dX1_requirePlace_12 dX1_requirePlace_15 dX1_requirePlace_16 dX1_requirePlace_18 dX1_requirePlace_21 hno (Nat.le_of_ble_eq_true rfl) (Nat.le_of_ble_eq_true rfl) (Nat.le_of_ble_eq_true rfl) (Nat.le_of_ble_eq_true rfl) hlocks ⟨rfl, fun z => z.1 c1⟩ (Nat.le_of_ble_eq_true rfl) (Nat.le_of_ble_eq_true rfl)
  · skip
    refine lv_iload_n hx hb dX1_requirePlace_4 rfl (lv_at hl 1 rfl) ?_
    refine lv_aload_n hx hb dX1_requirePlace_5 rfl (lv_at hl 0 rfl) ?_
    refine q_get (C := RX0) (T := TX0) (N := 8) (ci := 0) (v := .int (σ (k + 2) 2)) hx hb hts hinX0 hown hK hP (at_ch hk) rfl 2 (by decide) hf27 rfl dX1_requirePlace_6 ?_
    refine lv_icmp_lt (tgt := 22) hx hb dX1_requirePlace_9 (by decide) (fun c9 => ?_) (fun c9 => ?_)
    · skip
      refine W.widen (k := 1) (n := 6) (Nat.le_of_ble_eq_true rfl) (Nat.le_of_ble_eq_true rfl) ?_
      exact vx_ret (r_v hx hb hr hlocks hP hS dX1_requirePlace_22 ⟨⟨c1, c9⟩, rfl⟩)
    · skip
      exact x_throwN hx hb hl0 (ik := 159) (is := 161) (ic := 163) hown (by decide +kernel) (hts (.classLink RX1 159 "java/util/NoSuchElementException") (by decide +kernel)) (hts (.initialized "java/util/NoSuchElementException") (by decide +kernel)) hK.s161 (vx_hat (B := [.castable "java/util/NoSuchElementException" "java/util/NoSuchElementException", .declares (Bundle.initS "java/lang/RuntimeException"), .declares (Bundle.initS "java/lang/Exception"), .declares (Bundle.initS "java/lang/Throwable")]) (fun w h => hts w (wxX1_requirePlace_163 w h)) (by decide +kernel) (vx_c (hK.c (by decide)) (vx_c (hK.d (by decide)) (vx_c (hK.d (by decide)) (vx_c (hK.d (by decide)) vx_n))))) (by decide +kernel) hK hP hS hl.1 hml dX1_requirePlace_12 dX1_requirePlace_15 dX1_requirePlace_16 dX1_requirePlace_18 dX1_requirePlace_21 hno (Nat.le_of_ble_eq_true rfl) (Nat.le_of_ble_eq_true rfl) (Nat.le_of_ble_eq_true rfl) (Nat.le_of_ble_eq_true rfl) hlocks ⟨rfl, fun z => c9 z.2⟩ (Nat.le_of_ble_eq_true rfl) (Nat.le_of_ble_eq_true rfl)
theorem wxX1_chuteAt_150 : ∀ w ∈ (vx_atS RX1 150 "java/lang/IndexOutOfBoundsException" ["java/lang/RuntimeException", "java/lang/Exception"]).filter goodWord, w ∈ wsX1_chuteAt := fun w h => by
  simp only [wsX1_chuteAt, List.mem_cons, List.mem_append, h, or_true, true_or]
set_option maxHeartbeats 4000000 in
set_option maxRecDepth 100000 in
/-- chuteAt -/
theorem mtX1_chuteAt (l : Launch) (hl0 : l.stackTraces = false) (E : Ev) (hok : e_ok E) (σ : Mem) (o : Nat → Int64) (v : Int32) : vx_Met l yX1_chuteAt wsX1_chuteAt ({ frames := 6, cells := 1, slots := 6, locals := 90 } : Room) (PW E σ o [.ref (e_a E (0)), .int (v)]) (va_Qr (fun k : Nat => k < 8 ∧ v = nI k) (BC E σ o) (LB (e_B E))) (XW E σ o (fun u => u = xIO ∧ ¬ ∃ k : Nat, k < 8 ∧ v = nI k)) 1 6 (LB (e_B E)) := by
  refine vx_ofW (cc := cX1_chuteAt) (maxL := 2) (ret := (some (.object "ParcelChutes$Chute"))) (by decide) rfl ?_
  intro p e s m args below meth c s₁ B hml hno hv
  obtain ⟨rfl, hP, hK⟩ := hv
  have hx := B.exec
  have hb := B.bytes
  have hr := B.returns
  have hts := atoms_spec (ws := wsX1_chuteAt) B.pre
  have hown : s.vm.findClass RX1 = some m.cls := findClass_of_methodNamed B.named
  have hlocks := B.notSynchronized
  have hS : va_S (LB (e_B E)) s.heap s.heap [] := va_S.rf
  have hinX1 : ∀ w ∈ wsX10, w ∈ wsX1_chuteAt := fun w h => by simp only [wsX1_chuteAt, List.mem_cons, List.mem_append, h, or_true, true_or]
  have hf11 := hts (.fieldLink RX1 11 "ParcelChutes" "chutes" "[LParcelChutes$Chute;") (by decide +kernel)
  have hl := lv_entry ([.ref (e_a E (0)), .int (v)]) (n := 2) (Nat.le_of_ble_eq_true rfl)
  rw [lg_entry_eq]
  generalize (lg_sl ([.ref (e_a E (0)), .int (v)]) ++ List.replicate (2 - (lg_sl ([.ref (e_a E (0)), .int (v)])).length) Slot.unset).toArray = ls at hl ⊢
  have hl : lv_has ls 2 [(0, .ref (e_a E (0))), (1, .int (v))] := hl
  refine lv_iload_n hx hb dX1_chuteAt_0 rfl (lv_at hl 1 rfl) ?_
  refine lv_if_lt (tgt := 10) hx hb dX1_chuteAt_1 (by decide) (fun c1 => ?_) (fun c1 => ?_)
  · skip
    exact x_throw hx hb hl0 (ik := 146) (is := 148) (ic := 150) hown (by decide +kernel) (hts (.classLink RX1 146 "java/lang/IndexOutOfBoundsException") (by decide +kernel)) (hts (.initialized "java/lang/IndexOutOfBoundsException") (by decide +kernel)) hK.s148 (vx_hat (B := [.castable "java/lang/IndexOutOfBoundsException" "java/lang/IndexOutOfBoundsException", .declares (Bundle.initS "java/lang/RuntimeException"), .declares (Bundle.initS "java/lang/Exception"), .declares (Bundle.initS "java/lang/Throwable")]) (fun w h => hts w (wxX1_chuteAt_150 w h)) (by decide +kernel) (vx_c (hK.c (by decide)) (vx_c (hK.d (by decide)) (vx_c (hK.d (by decide)) (vx_c (hK.d (by decide)) vx_n))))) (by decide +kernel) hK hP hS hl.1 hml dX1_chuteAt_10 dX1_chuteAt_13 dX1_chuteAt_14 dX1_chuteAt_16 dX1_chuteAt_19 hno (Nat.le_of_ble_eq_true rfl) (Nat.le_of_ble_eq_true rfl) (Nat.le_of_ble_eq_true rfl) (Nat.le_of_ble_eq_true rfl) hlocks ⟨rfl, fun ⟨k, hk, ek⟩ => ix8n1 hk ek c1⟩ (Nat.le_of_ble_eq_true rfl) (Nat.le_of_ble_eq_true rfl)
  · skip
    refine lv_iload_n hx hb dX1_chuteAt_4 rfl (lv_at hl 1 rfl) ?_
    refine lv_bipush (v := 8) hx hb dX1_chuteAt_5 (by decide) ?_
    refine lv_icmp_lt (tgt := 20) hx hb dX1_chuteAt_7 (by decide) (fun c7 => ?_) (fun c7 => ?_)
    · skip
      obtain ⟨k, hk, ek⟩ : ∃ k : Nat, k < 8 ∧ v = nI k := ix8 c1 c7
      refine lv_aload_n hx hb dX1_chuteAt_20 rfl (lv_at hl 0 rfl) ?_
      refine q_get (C := RX1) (T := TX1) (N := 10) (ci := 1) (v := .ref (e_a E (1))) hx hb hts hinX1 hown hK hP at_0 rfl 0 (by decide) hf11 rfl dX1_chuteAt_21 ?_
      refine lv_iload_n hx hb dX1_chuteAt_24 rfl (lv_at hl 1 rfl) ?_
      refine q_chld hx hb hK hP (i := k) ek (by omega) dX1_chuteAt_25 ?_
      refine W.widen (k := 1) (n := 6) (Nat.le_of_ble_eq_true rfl) (Nat.le_of_ble_eq_true rfl) ?_
      exact vx_ret (r_c hx hb hr hlocks ⟨hk, ek⟩ hP hS dX1_chuteAt_26 )
    · skip
      exact x_throw hx hb hl0 (ik := 146) (is := 148) (ic := 150) hown (by decide +kernel) (hts (.classLink RX1 146 "java/lang/IndexOutOfBoundsException") (by decide +kernel)) (hts (.initialized "java/lang/IndexOutOfBoundsException") (by decide +kernel)) hK.s148 (vx_hat (B := [.castable "java/lang/IndexOutOfBoundsException" "java/lang/IndexOutOfBoundsException", .declares (Bundle.initS "java/lang/RuntimeException"), .declares (Bundle.initS "java/lang/Exception"), .declares (Bundle.initS "java/lang/Throwable")]) (fun w h => hts w (wxX1_chuteAt_150 w h)) (by decide +kernel) (vx_c (hK.c (by decide)) (vx_c (hK.d (by decide)) (vx_c (hK.d (by decide)) (vx_c (hK.d (by decide)) vx_n))))) (by decide +kernel) hK hP hS hl.1 hml dX1_chuteAt_10 dX1_chuteAt_13 dX1_chuteAt_14 dX1_chuteAt_16 dX1_chuteAt_19 hno (Nat.le_of_ble_eq_true rfl) (Nat.le_of_ble_eq_true rfl) (Nat.le_of_ble_eq_true rfl) (Nat.le_of_ble_eq_true rfl) hlocks ⟨rfl, fun ⟨k, hk, ek⟩ => ix8n2 hk ek c7⟩ (Nat.le_of_ble_eq_true rfl) (Nat.le_of_ble_eq_true rfl)
set_option maxHeartbeats 4000000 in
set_option maxRecDepth 100000 in
/-- suits -/
theorem mtX0_suits (l : Launch) (E : Ev) (hok : e_ok E) (σ : Mem) (o : Nat → Int64) (k : Nat) (hk : k < 8) (w g : Int32) : Met l yX0_suits wsX0_suits ({ frames := 2, cells := 0, slots := 0, locals := 43 } : Room) (PW E σ o [.ref (e_a E (k + 2)), .int (w), .int (g)]) (va_Qi (fun (r : Int32) (σ' : Mem) => r = fitC (σ (k + 2) 3) (σ (k + 2) 4) (σ (k + 2) 5) (σ (k + 2) 6) w g ∧ σ' = σ) (BW E o) (LB (e_B E))) 0 0 (LB (e_B E)) := by
  refine Met.ofW (cc := cX0_suits) (maxL := 3) (ret := (some .boolean)) (by decide) rfl ?_
  intro p e s m args below meth c s₁ B hml hv
  obtain ⟨rfl, hP, hK⟩ := hv
  have hx := B.exec
  have hb := B.bytes
  have hr := B.returns
  have hts := atoms_spec (ws := wsX0_suits) B.pre
  have hown : s.vm.findClass RX0 = some m.cls := findClass_of_methodNamed B.named
  have hlocks := B.notSynchronized
  have hS : va_S (LB (e_B E)) s.heap s.heap [] := va_S.rf
  have hinX0 : ∀ w ∈ wsX00, w ∈ wsX0_suits := fun w h => by simp only [wsX0_suits, List.mem_cons, List.mem_append, h, or_true, true_or]
  have hf18 := hts (.fieldLink RX0 18 "ParcelChutes$Chute" "kind" "I") (by decide +kernel)
  have hf22 := hts (.fieldLink RX0 22 "ParcelChutes$Chute" "low" "I") (by decide +kernel)
  have hf29 := hts (.fieldLink RX0 29 "ParcelChutes$Chute" "high" "I") (by decide +kernel)
  have hf32 := hts (.fieldLink RX0 32 "ParcelChutes$Chute" "wide" "I") (by decide +kernel)
  have hl := lv_entry ([.ref (e_a E (k + 2)), .int (w), .int (g)]) (n := 3) (Nat.le_of_ble_eq_true rfl)
  rw [lg_entry_eq]
  generalize (lg_sl ([.ref (e_a E (k + 2)), .int (w), .int (g)]) ++ List.replicate (3 - (lg_sl ([.ref (e_a E (k + 2)), .int (w), .int (g)])).length) Slot.unset).toArray = ls at hl ⊢
  have hl : lv_has ls 3 [(0, .ref (e_a E (k + 2))), (1, .int (w)), (2, .int (g))] := hl
  refine lv_aload_n hx hb dX0_suits_0 rfl (lv_at hl 0 rfl) ?_
  refine q_get (C := RX0) (T := TX0) (N := 8) (ci := 0) (v := .int (σ (k + 2) 3)) hx hb hts hinX0 hown hK hP (at_ch hk) rfl 3 (by decide) hf18 rfl dX0_suits_1 ?_
  by_cases k4_0 : σ (k + 2) 3 = 0
  · skip
    refine lv_tableIn (off := 32) (tgt := 36) hx hb dX0_suits_4 (by rw [k4_0]; decide) (by rw [k4_0]; decide) (by rw [k4_0]; rfl) (by decide) ?_
    refine lv_aload_n hx hb dX0_suits_36 rfl (lv_at hl 0 rfl) ?_
    refine q_get (C := RX0) (T := TX0) (N := 8) (ci := 0) (v := .int (σ (k + 2) 4)) hx hb hts hinX0 hown hK hP (at_ch hk) rfl 4 (by decide) hf22 rfl dX0_suits_37 ?_
    refine lv_iconst (v := 2) hx hb dX0_suits_40 (by decide) ?_
    refine lv_iload_n hx hb dX0_suits_41 rfl (lv_at hl 1 rfl) ?_
    refine k_SiN (As := [.int (σ (k + 2) 4), .int (2), .int (w)]) (rest := []) ⟨hx, hb, hml, hown, hts⟩ (mtX1_holds l (σ (k + 2) 4) 2 w) ⟨va_cnB 3 hts gX0_suits_X1_holds_n25 rfl rfl rfl hK.nX0_25 (hts (.initialized RX1) (by decide +kernel)) (by decide +kernel) ⟨Nat.le_of_ble_eq_true rfl, Nat.le_of_ble_eq_true rfl⟩, hts (.static yX1_holds) (by decide +kernel), trivial⟩ rfl hl.1 rfl (Nat.le_of_ble_eq_true rfl) dX0_suits_42 ⟨Nat.le_of_ble_eq_true rfl, Nat.le_of_ble_eq_true rfl⟩ (fun r1 er1 => ?_)
    subst er1
    refine lv_if_eq (tgt := 76) hx hb dX0_suits_45 (by decide) (fun c45 => ?_) (fun c45 => ?_)
    · skip
      refine lv_iconst (v := 0) hx hb dX0_suits_76 (by decide) ?_
      exact r_z hx hb hr hlocks rfl hP hS dX0_suits_77 ⟨by simp [fitC, k4_0, c45], rfl⟩
    · skip
      refine lv_iload_n hx hb dX0_suits_48 rfl (lv_at hl 1 rfl) ?_
      refine lv_iconst (v := 1) hx hb dX0_suits_49 (by decide) ?_
      refine lv_aload_n hx hb dX0_suits_50 rfl (lv_at hl 0 rfl) ?_
      refine q_get (C := RX0) (T := TX0) (N := 8) (ci := 0) (v := .int (σ (k + 2) 5)) hx hb hts hinX0 hown hK hP (at_ch hk) rfl 5 (by decide) hf29 rfl dX0_suits_51 ?_
      refine k_SiN (As := [.int (w), .int (1), .int (σ (k + 2) 5)]) (rest := []) ⟨hx, hb, hml, hown, hts⟩ (mtX1_holds l w 1 (σ (k + 2) 5)) ⟨va_cnB 3 hts gX0_suits_X1_holds_n25 rfl rfl rfl hK.nX0_25 (hts (.initialized RX1) (by decide +kernel)) (by decide +kernel) ⟨Nat.le_of_ble_eq_true rfl, Nat.le_of_ble_eq_true rfl⟩, hts (.static yX1_holds) (by decide +kernel), trivial⟩ rfl hl.1 rfl (Nat.le_of_ble_eq_true rfl) dX0_suits_54 ⟨Nat.le_of_ble_eq_true rfl, Nat.le_of_ble_eq_true rfl⟩ (fun r2 er2 => ?_)
      subst er2
      refine lv_if_eq (tgt := 76) hx hb dX0_suits_57 (by decide) (fun c57 => ?_) (fun c57 => ?_)
      · skip
        refine lv_iconst (v := 0) hx hb dX0_suits_76 (by decide) ?_
        exact r_z hx hb hr hlocks rfl hP hS dX0_suits_77 ⟨by simp [fitC, k4_0, c45, c57], rfl⟩
      · skip
        refine lv_iload_n hx hb dX0_suits_60 rfl (lv_at hl 2 rfl) ?_
        refine lv_iconst (v := 2) hx hb dX0_suits_61 (by decide) ?_
        refine lv_aload_n hx hb dX0_suits_62 rfl (lv_at hl 0 rfl) ?_
        refine q_get (C := RX0) (T := TX0) (N := 8) (ci := 0) (v := .int (σ (k + 2) 6)) hx hb hts hinX0 hown hK hP (at_ch hk) rfl 6 (by decide) hf32 rfl dX0_suits_63 ?_
        refine k_SiN (As := [.int (g), .int (2), .int (σ (k + 2) 6)]) (rest := []) ⟨hx, hb, hml, hown, hts⟩ (mtX1_holds l g 2 (σ (k + 2) 6)) ⟨va_cnB 3 hts gX0_suits_X1_holds_n25 rfl rfl rfl hK.nX0_25 (hts (.initialized RX1) (by decide +kernel)) (by decide +kernel) ⟨Nat.le_of_ble_eq_true rfl, Nat.le_of_ble_eq_true rfl⟩, hts (.static yX1_holds) (by decide +kernel), trivial⟩ rfl hl.1 rfl (Nat.le_of_ble_eq_true rfl) dX0_suits_66 ⟨Nat.le_of_ble_eq_true rfl, Nat.le_of_ble_eq_true rfl⟩ (fun r3 er3 => ?_)
        subst er3
        refine lv_if_eq (tgt := 76) hx hb dX0_suits_69 (by decide) (fun c69 => ?_) (fun c69 => ?_)
        · skip
          refine lv_iconst (v := 0) hx hb dX0_suits_76 (by decide) ?_
          exact r_z hx hb hr hlocks rfl hP hS dX0_suits_77 ⟨by simp [fitC, k4_0, c45, c57, c69], rfl⟩
        · skip
          refine lv_iconst (v := 1) hx hb dX0_suits_72 (by decide) ?_
          refine lv_goto (tgt := 77) hx hb dX0_suits_73 (by decide) ?_
          exact r_z hx hb hr hlocks rfl hP hS dX0_suits_77 ⟨by simp [fitC, k4_0, c45, c57, c69], rfl⟩
  by_cases k4_1 : σ (k + 2) 3 = 1
  · skip
    refine lv_tableIn (off := 74) (tgt := 78) hx hb dX0_suits_4 (by rw [k4_1]; decide) (by rw [k4_1]; decide) (by rw [k4_1]; rfl) (by decide) ?_
    refine lv_iload_n hx hb dX0_suits_78 rfl (lv_at hl 1 rfl) ?_
    refine lv_iconst (v := 1) hx hb dX0_suits_79 (by decide) ?_
    refine lv_aload_n hx hb dX0_suits_80 rfl (lv_at hl 0 rfl) ?_
    refine q_get (C := RX0) (T := TX0) (N := 8) (ci := 0) (v := .int (σ (k + 2) 4)) hx hb hts hinX0 hown hK hP (at_ch hk) rfl 4 (by decide) hf22 rfl dX0_suits_81 ?_
    refine k_SiN (As := [.int (w), .int (1), .int (σ (k + 2) 4)]) (rest := []) ⟨hx, hb, hml, hown, hts⟩ (mtX1_holds l w 1 (σ (k + 2) 4)) ⟨va_cnB 3 hts gX0_suits_X1_holds_n25 rfl rfl rfl hK.nX0_25 (hts (.initialized RX1) (by decide +kernel)) (by decide +kernel) ⟨Nat.le_of_ble_eq_true rfl, Nat.le_of_ble_eq_true rfl⟩, hts (.static yX1_holds) (by decide +kernel), trivial⟩ rfl hl.1 rfl (Nat.le_of_ble_eq_true rfl) dX0_suits_84 ⟨Nat.le_of_ble_eq_true rfl, Nat.le_of_ble_eq_true rfl⟩ (fun r4 er4 => ?_)
    subst er4
    refine lv_if_ne (tgt := 119) hx hb dX0_suits_87 (by decide) (fun c87 => ?_) (fun c87 => ?_)
    · skip
      refine lv_iconst (v := 0) hx hb dX0_suits_119 (by decide) ?_
      exact r_z hx hb hr hlocks rfl hP hS dX0_suits_120 ⟨by simp [fitC, k4_0, k4_1, c87], rfl⟩
    · skip
      refine lv_iload_n hx hb dX0_suits_90 rfl (lv_at hl 1 rfl) ?_
      refine lv_bipush (v := 8) hx hb dX0_suits_91 (by decide) ?_
      refine lv_aload_n hx hb dX0_suits_93 rfl (lv_at hl 0 rfl) ?_
      refine q_get (C := RX0) (T := TX0) (N := 8) (ci := 0) (v := .int (σ (k + 2) 5)) hx hb hts hinX0 hown hK hP (at_ch hk) rfl 5 (by decide) hf29 rfl dX0_suits_94 ?_
      refine k_SiN (As := [.int (w), .int (8), .int (σ (k + 2) 5)]) (rest := []) ⟨hx, hb, hml, hown, hts⟩ (mtX1_holds l w 8 (σ (k + 2) 5)) ⟨va_cnB 3 hts gX0_suits_X1_holds_n25 rfl rfl rfl hK.nX0_25 (hts (.initialized RX1) (by decide +kernel)) (by decide +kernel) ⟨Nat.le_of_ble_eq_true rfl, Nat.le_of_ble_eq_true rfl⟩, hts (.static yX1_holds) (by decide +kernel), trivial⟩ rfl hl.1 rfl (Nat.le_of_ble_eq_true rfl) dX0_suits_97 ⟨Nat.le_of_ble_eq_true rfl, Nat.le_of_ble_eq_true rfl⟩ (fun r5 er5 => ?_)
      subst er5
      refine lv_if_ne (tgt := 119) hx hb dX0_suits_100 (by decide) (fun c100 => ?_) (fun c100 => ?_)
      · skip
        refine lv_iconst (v := 0) hx hb dX0_suits_119 (by decide) ?_
        exact r_z hx hb hr hlocks rfl hP hS dX0_suits_120 ⟨by simp [fitC, k4_0, k4_1, c87, c100], rfl⟩
      · skip
        refine lv_iload_n hx hb dX0_suits_103 rfl (lv_at hl 2 rfl) ?_
        refine lv_iconst (v := 4) hx hb dX0_suits_104 (by decide) ?_
        refine lv_aload_n hx hb dX0_suits_105 rfl (lv_at hl 0 rfl) ?_
        refine q_get (C := RX0) (T := TX0) (N := 8) (ci := 0) (v := .int (σ (k + 2) 6)) hx hb hts hinX0 hown hK hP (at_ch hk) rfl 6 (by decide) hf32 rfl dX0_suits_106 ?_
        refine k_SiN (As := [.int (g), .int (4), .int (σ (k + 2) 6)]) (rest := []) ⟨hx, hb, hml, hown, hts⟩ (mtX1_holds l g 4 (σ (k + 2) 6)) ⟨va_cnB 3 hts gX0_suits_X1_holds_n25 rfl rfl rfl hK.nX0_25 (hts (.initialized RX1) (by decide +kernel)) (by decide +kernel) ⟨Nat.le_of_ble_eq_true rfl, Nat.le_of_ble_eq_true rfl⟩, hts (.static yX1_holds) (by decide +kernel), trivial⟩ rfl hl.1 rfl (Nat.le_of_ble_eq_true rfl) dX0_suits_109 ⟨Nat.le_of_ble_eq_true rfl, Nat.le_of_ble_eq_true rfl⟩ (fun r6 er6 => ?_)
        subst er6
        refine lv_if_ne (tgt := 119) hx hb dX0_suits_112 (by decide) (fun c112 => ?_) (fun c112 => ?_)
        · skip
          refine lv_iconst (v := 0) hx hb dX0_suits_119 (by decide) ?_
          exact r_z hx hb hr hlocks rfl hP hS dX0_suits_120 ⟨by simp [fitC, k4_0, k4_1, c87, c100, c112], rfl⟩
        · skip
          refine lv_iconst (v := 1) hx hb dX0_suits_115 (by decide) ?_
          refine lv_goto (tgt := 120) hx hb dX0_suits_116 (by decide) ?_
          exact r_z hx hb hr hlocks rfl hP hS dX0_suits_120 ⟨by simp [fitC, k4_0, k4_1, c87, c100, c112], rfl⟩
  by_cases k4_2 : σ (k + 2) 3 = 2
  · skip
    refine lv_tableIn (off := 117) (tgt := 121) hx hb dX0_suits_4 (by rw [k4_2]; decide) (by rw [k4_2]; decide) (by rw [k4_2]; rfl) (by decide) ?_
    refine lv_iload_n hx hb dX0_suits_121 rfl (lv_at hl 1 rfl) ?_
    refine lv_bipush (v := 16) hx hb dX0_suits_122 (by decide) ?_
    refine lv_aload_n hx hb dX0_suits_124 rfl (lv_at hl 0 rfl) ?_
    refine q_get (C := RX0) (T := TX0) (N := 8) (ci := 0) (v := .int (σ (k + 2) 4)) hx hb hts hinX0 hown hK hP (at_ch hk) rfl 4 (by decide) hf22 rfl dX0_suits_125 ?_
    refine k_SiN (As := [.int (w), .int (16), .int (σ (k + 2) 4)]) (rest := []) ⟨hx, hb, hml, hown, hts⟩ (mtX1_holds l w 16 (σ (k + 2) 4)) ⟨va_cnB 3 hts gX0_suits_X1_holds_n25 rfl rfl rfl hK.nX0_25 (hts (.initialized RX1) (by decide +kernel)) (by decide +kernel) ⟨Nat.le_of_ble_eq_true rfl, Nat.le_of_ble_eq_true rfl⟩, hts (.static yX1_holds) (by decide +kernel), trivial⟩ rfl hl.1 rfl (Nat.le_of_ble_eq_true rfl) dX0_suits_128 ⟨Nat.le_of_ble_eq_true rfl, Nat.le_of_ble_eq_true rfl⟩ (fun r7 er7 => ?_)
    subst er7
    refine lv_if_ne (tgt := 147) hx hb dX0_suits_131 (by decide) (fun c131 => ?_) (fun c131 => ?_)
    · skip
      refine lv_iconst (v := 1) hx hb dX0_suits_147 (by decide) ?_
      refine lv_goto (tgt := 152) hx hb dX0_suits_148 (by decide) ?_
      exact r_z hx hb hr hlocks rfl hP hS dX0_suits_152 ⟨by simp [fitC, k4_0, k4_1, k4_2, c131], rfl⟩
    · skip
      refine lv_iload_n hx hb dX0_suits_134 rfl (lv_at hl 2 rfl) ?_
      refine lv_bipush (v := 16) hx hb dX0_suits_135 (by decide) ?_
      refine lv_aload_n hx hb dX0_suits_137 rfl (lv_at hl 0 rfl) ?_
      refine q_get (C := RX0) (T := TX0) (N := 8) (ci := 0) (v := .int (σ (k + 2) 6)) hx hb hts hinX0 hown hK hP (at_ch hk) rfl 6 (by decide) hf32 rfl dX0_suits_138 ?_
      refine k_SiN (As := [.int (g), .int (16), .int (σ (k + 2) 6)]) (rest := []) ⟨hx, hb, hml, hown, hts⟩ (mtX1_holds l g 16 (σ (k + 2) 6)) ⟨va_cnB 3 hts gX0_suits_X1_holds_n25 rfl rfl rfl hK.nX0_25 (hts (.initialized RX1) (by decide +kernel)) (by decide +kernel) ⟨Nat.le_of_ble_eq_true rfl, Nat.le_of_ble_eq_true rfl⟩, hts (.static yX1_holds) (by decide +kernel), trivial⟩ rfl hl.1 rfl (Nat.le_of_ble_eq_true rfl) dX0_suits_141 ⟨Nat.le_of_ble_eq_true rfl, Nat.le_of_ble_eq_true rfl⟩ (fun r8 er8 => ?_)
      subst er8
      refine lv_if_eq (tgt := 151) hx hb dX0_suits_144 (by decide) (fun c144 => ?_) (fun c144 => ?_)
      · skip
        refine lv_iconst (v := 0) hx hb dX0_suits_151 (by decide) ?_
        exact r_z hx hb hr hlocks rfl hP hS dX0_suits_152 ⟨by simp [fitC, k4_0, k4_1, k4_2, c131, c144], rfl⟩
      · skip
        refine lv_iconst (v := 1) hx hb dX0_suits_147 (by decide) ?_
        refine lv_goto (tgt := 152) hx hb dX0_suits_148 (by decide) ?_
        exact r_z hx hb hr hlocks rfl hP hS dX0_suits_152 ⟨by simp [fitC, k4_0, k4_1, k4_2, c131, c144], rfl⟩
  by_cases k4_3 : σ (k + 2) 3 = 3
  · skip
    refine lv_tableIn (off := 149) (tgt := 153) hx hb dX0_suits_4 (by rw [k4_3]; decide) (by rw [k4_3]; decide) (by rw [k4_3]; rfl) (by decide) ?_
    refine lv_iload_n hx hb dX0_suits_153 rfl (lv_at hl 1 rfl) ?_
    refine lv_bipush (v := 32) hx hb dX0_suits_154 (by decide) ?_
    refine lv_aload_n hx hb dX0_suits_156 rfl (lv_at hl 0 rfl) ?_
    refine q_get (C := RX0) (T := TX0) (N := 8) (ci := 0) (v := .int (σ (k + 2) 4)) hx hb hts hinX0 hown hK hP (at_ch hk) rfl 4 (by decide) hf22 rfl dX0_suits_157 ?_
    refine k_SiN (As := [.int (w), .int (32), .int (σ (k + 2) 4)]) (rest := []) ⟨hx, hb, hml, hown, hts⟩ (mtX1_holds l w 32 (σ (k + 2) 4)) ⟨va_cnB 3 hts gX0_suits_X1_holds_n25 rfl rfl rfl hK.nX0_25 (hts (.initialized RX1) (by decide +kernel)) (by decide +kernel) ⟨Nat.le_of_ble_eq_true rfl, Nat.le_of_ble_eq_true rfl⟩, hts (.static yX1_holds) (by decide +kernel), trivial⟩ rfl hl.1 rfl (Nat.le_of_ble_eq_true rfl) dX0_suits_160 ⟨Nat.le_of_ble_eq_true rfl, Nat.le_of_ble_eq_true rfl⟩ (fun r9 er9 => ?_)
    subst er9
    refine lv_if_eq (tgt := 196) hx hb dX0_suits_163 (by decide) (fun c163 => ?_) (fun c163 => ?_)
    · skip
      refine lv_iconst (v := 0) hx hb dX0_suits_196 (by decide) ?_
      exact r_z hx hb hr hlocks rfl hP hS dX0_suits_197 ⟨by simp [fitC, k4_0, k4_1, k4_2, k4_3, c163], rfl⟩
    · skip
      refine lv_iload_n hx hb dX0_suits_166 rfl (lv_at hl 1 rfl) ?_
      refine lv_bipush (v := 32) hx hb dX0_suits_167 (by decide) ?_
      refine lv_aload_n hx hb dX0_suits_169 rfl (lv_at hl 0 rfl) ?_
      refine q_get (C := RX0) (T := TX0) (N := 8) (ci := 0) (v := .int (σ (k + 2) 5)) hx hb hts hinX0 hown hK hP (at_ch hk) rfl 5 (by decide) hf29 rfl dX0_suits_170 ?_
      refine k_SiN (As := [.int (w), .int (32), .int (σ (k + 2) 5)]) (rest := []) ⟨hx, hb, hml, hown, hts⟩ (mtX1_holds l w 32 (σ (k + 2) 5)) ⟨va_cnB 3 hts gX0_suits_X1_holds_n25 rfl rfl rfl hK.nX0_25 (hts (.initialized RX1) (by decide +kernel)) (by decide +kernel) ⟨Nat.le_of_ble_eq_true rfl, Nat.le_of_ble_eq_true rfl⟩, hts (.static yX1_holds) (by decide +kernel), trivial⟩ rfl hl.1 rfl (Nat.le_of_ble_eq_true rfl) dX0_suits_173 ⟨Nat.le_of_ble_eq_true rfl, Nat.le_of_ble_eq_true rfl⟩ (fun r10 er10 => ?_)
      subst er10
      refine lv_if_eq (tgt := 196) hx hb dX0_suits_176 (by decide) (fun c176 => ?_) (fun c176 => ?_)
      · skip
        refine lv_iconst (v := 0) hx hb dX0_suits_196 (by decide) ?_
        exact r_z hx hb hr hlocks rfl hP hS dX0_suits_197 ⟨by simp [fitC, k4_0, k4_1, k4_2, k4_3, c163, c176], rfl⟩
      · skip
        refine lv_iload_n hx hb dX0_suits_179 rfl (lv_at hl 2 rfl) ?_
        refine lv_bipush (v := 32) hx hb dX0_suits_180 (by decide) ?_
        refine lv_aload_n hx hb dX0_suits_182 rfl (lv_at hl 0 rfl) ?_
        refine q_get (C := RX0) (T := TX0) (N := 8) (ci := 0) (v := .int (σ (k + 2) 6)) hx hb hts hinX0 hown hK hP (at_ch hk) rfl 6 (by decide) hf32 rfl dX0_suits_183 ?_
        refine k_SiN (As := [.int (g), .int (32), .int (σ (k + 2) 6)]) (rest := []) ⟨hx, hb, hml, hown, hts⟩ (mtX1_holds l g 32 (σ (k + 2) 6)) ⟨va_cnB 3 hts gX0_suits_X1_holds_n25 rfl rfl rfl hK.nX0_25 (hts (.initialized RX1) (by decide +kernel)) (by decide +kernel) ⟨Nat.le_of_ble_eq_true rfl, Nat.le_of_ble_eq_true rfl⟩, hts (.static yX1_holds) (by decide +kernel), trivial⟩ rfl hl.1 rfl (Nat.le_of_ble_eq_true rfl) dX0_suits_186 ⟨Nat.le_of_ble_eq_true rfl, Nat.le_of_ble_eq_true rfl⟩ (fun r11 er11 => ?_)
        subst er11
        refine lv_if_eq (tgt := 196) hx hb dX0_suits_189 (by decide) (fun c189 => ?_) (fun c189 => ?_)
        · skip
          refine lv_iconst (v := 0) hx hb dX0_suits_196 (by decide) ?_
          exact r_z hx hb hr hlocks rfl hP hS dX0_suits_197 ⟨by simp [fitC, k4_0, k4_1, k4_2, k4_3, c163, c176, c189], rfl⟩
        · skip
          refine lv_iconst (v := 1) hx hb dX0_suits_192 (by decide) ?_
          refine lv_goto (tgt := 197) hx hb dX0_suits_193 (by decide) ?_
          exact r_z hx hb hr hlocks rfl hP hS dX0_suits_197 ⟨by simp [fitC, k4_0, k4_1, k4_2, k4_3, c163, c176, c189], rfl⟩
  refine lv_tableOut (tgt := 198) hx hb dX0_suits_4 (tb_out3 _ k4_0 k4_1 k4_2 k4_3) (by decide) ?_
  refine lv_iload_n hx hb dX0_suits_198 rfl (lv_at hl 1 rfl) ?_
  refine lv_iconst (v := 4) hx hb dX0_suits_199 (by decide) ?_
  refine lv_aload_n hx hb dX0_suits_200 rfl (lv_at hl 0 rfl) ?_
  refine q_get (C := RX0) (T := TX0) (N := 8) (ci := 0) (v := .int (σ (k + 2) 5)) hx hb hts hinX0 hown hK hP (at_ch hk) rfl 5 (by decide) hf29 rfl dX0_suits_201 ?_
  refine k_SiN (As := [.int (w), .int (4), .int (σ (k + 2) 5)]) (rest := []) ⟨hx, hb, hml, hown, hts⟩ (mtX1_holds l w 4 (σ (k + 2) 5)) ⟨va_cnB 3 hts gX0_suits_X1_holds_n25 rfl rfl rfl hK.nX0_25 (hts (.initialized RX1) (by decide +kernel)) (by decide +kernel) ⟨Nat.le_of_ble_eq_true rfl, Nat.le_of_ble_eq_true rfl⟩, hts (.static yX1_holds) (by decide +kernel), trivial⟩ rfl hl.1 rfl (Nat.le_of_ble_eq_true rfl) dX0_suits_204 ⟨Nat.le_of_ble_eq_true rfl, Nat.le_of_ble_eq_true rfl⟩ (fun r12 er12 => ?_)
  subst er12
  refine lv_if_ne (tgt := 235) hx hb dX0_suits_207 (by decide) (fun c207 => ?_) (fun c207 => ?_)
  · skip
    refine lv_iconst (v := 1) hx hb dX0_suits_235 (by decide) ?_
    refine lv_goto (tgt := 240) hx hb dX0_suits_236 (by decide) ?_
    exact r_z hx hb hr hlocks rfl hP hS dX0_suits_240 ⟨by simp [fitC, k4_0, k4_1, k4_2, k4_3, c207], rfl⟩
  · skip
    refine lv_iload_n hx hb dX0_suits_210 rfl (lv_at hl 1 rfl) ?_
    refine lv_iconst (v := 1) hx hb dX0_suits_211 (by decide) ?_
    refine lv_aload_n hx hb dX0_suits_212 rfl (lv_at hl 0 rfl) ?_
    refine q_get (C := RX0) (T := TX0) (N := 8) (ci := 0) (v := .int (σ (k + 2) 4)) hx hb hts hinX0 hown hK hP (at_ch hk) rfl 4 (by decide) hf22 rfl dX0_suits_213 ?_
    refine k_SiN (As := [.int (w), .int (1), .int (σ (k + 2) 4)]) (rest := []) ⟨hx, hb, hml, hown, hts⟩ (mtX1_holds l w 1 (σ (k + 2) 4)) ⟨va_cnB 3 hts gX0_suits_X1_holds_n25 rfl rfl rfl hK.nX0_25 (hts (.initialized RX1) (by decide +kernel)) (by decide +kernel) ⟨Nat.le_of_ble_eq_true rfl, Nat.le_of_ble_eq_true rfl⟩, hts (.static yX1_holds) (by decide +kernel), trivial⟩ rfl hl.1 rfl (Nat.le_of_ble_eq_true rfl) dX0_suits_216 ⟨Nat.le_of_ble_eq_true rfl, Nat.le_of_ble_eq_true rfl⟩ (fun r13 er13 => ?_)
    subst er13
    refine lv_if_ne (tgt := 235) hx hb dX0_suits_219 (by decide) (fun c219 => ?_) (fun c219 => ?_)
    · skip
      refine lv_iconst (v := 1) hx hb dX0_suits_235 (by decide) ?_
      refine lv_goto (tgt := 240) hx hb dX0_suits_236 (by decide) ?_
      exact r_z hx hb hr hlocks rfl hP hS dX0_suits_240 ⟨by simp [fitC, k4_0, k4_1, k4_2, k4_3, c207, c219], rfl⟩
    · skip
      refine lv_iload_n hx hb dX0_suits_222 rfl (lv_at hl 2 rfl) ?_
      refine lv_bipush (v := 8) hx hb dX0_suits_223 (by decide) ?_
      refine lv_aload_n hx hb dX0_suits_225 rfl (lv_at hl 0 rfl) ?_
      refine q_get (C := RX0) (T := TX0) (N := 8) (ci := 0) (v := .int (σ (k + 2) 6)) hx hb hts hinX0 hown hK hP (at_ch hk) rfl 6 (by decide) hf32 rfl dX0_suits_226 ?_
      refine k_SiN (As := [.int (g), .int (8), .int (σ (k + 2) 6)]) (rest := []) ⟨hx, hb, hml, hown, hts⟩ (mtX1_holds l g 8 (σ (k + 2) 6)) ⟨va_cnB 3 hts gX0_suits_X1_holds_n25 rfl rfl rfl hK.nX0_25 (hts (.initialized RX1) (by decide +kernel)) (by decide +kernel) ⟨Nat.le_of_ble_eq_true rfl, Nat.le_of_ble_eq_true rfl⟩, hts (.static yX1_holds) (by decide +kernel), trivial⟩ rfl hl.1 rfl (Nat.le_of_ble_eq_true rfl) dX0_suits_229 ⟨Nat.le_of_ble_eq_true rfl, Nat.le_of_ble_eq_true rfl⟩ (fun r14 er14 => ?_)
      subst er14
      refine lv_if_eq (tgt := 239) hx hb dX0_suits_232 (by decide) (fun c232 => ?_) (fun c232 => ?_)
      · skip
        refine lv_iconst (v := 0) hx hb dX0_suits_239 (by decide) ?_
        exact r_z hx hb hr hlocks rfl hP hS dX0_suits_240 ⟨by simp [fitC, k4_0, k4_1, k4_2, k4_3, c207, c219, c232], rfl⟩
      · skip
        refine lv_iconst (v := 1) hx hb dX0_suits_235 (by decide) ?_
        refine lv_goto (tgt := 240) hx hb dX0_suits_236 (by decide) ?_
        exact r_z hx hb hr hlocks rfl hP hS dX0_suits_240 ⟨by simp [fitC, k4_0, k4_1, k4_2, k4_3, c207, c219, c232], rfl⟩
set_option maxHeartbeats 4000000 in
set_option maxRecDepth 100000 in
/-- placeFor -/
theorem mtX0_placeFor (l : Launch) (E : Ev) (hok : e_ok E) (σ : Mem) (o : Nat → Int64) (k : Nat) (hk : k < 8) (n : Nat) (hn : σ (k + 2) 2 = nI n) (h12 : n ≤ 12) (w : Int32) : Met l yX0_placeFor wsX0_placeFor ({ frames := 2, cells := 0, slots := 0, locals := 43 } : Room) (PW E σ o [.ref (e_a E (k + 2)), .int (w)]) (va_Qi (fun (r : Int32) (σ' : Mem) => (∃ q : Nat, r = nI q ∧ q ≤ n ∧ ((w = 0 ∧ q = n) ∨ (w ≠ 0 ∧ (∀ a, a < q → hd (σ (k + 10) a) w 2 ≠ 0) ∧ (q < n → hd (σ (k + 10) q) w 2 = 0)))) ∧ σ' = σ) (BW E o) (LB (e_B E))) 0 0 (LB (e_B E)) := by
  refine Met.ofW (cc := cX0_placeFor) (maxL := 3) (ret := (some .int)) (by decide) rfl ?_
  intro p e s m args below meth c s₁ B hml hv
  obtain ⟨rfl, hP, hK⟩ := hv
  have hx := B.exec
  have hb := B.bytes
  have hr := B.returns
  have hts := atoms_spec (ws := wsX0_placeFor) B.pre
  have hown : s.vm.findClass RX0 = some m.cls := findClass_of_methodNamed B.named
  have hlocks := B.notSynchronized
  have hS : va_S (LB (e_B E)) s.heap s.heap [] := va_S.rf
  have hinX0 : ∀ w ∈ wsX00, w ∈ wsX0_placeFor := fun w h => by simp only [wsX0_placeFor, List.mem_cons, List.mem_append, h, or_true, true_or]
  have hf9 := hts (.fieldLink RX0 9 "ParcelChutes$Chute" "weights" "[I") (by decide +kernel)
  have hf35 := hts (.fieldLink RX0 35 "ParcelChutes$Chute" "count" "I") (by decide +kernel)
  have hl := lv_entry ([.ref (e_a E (k + 2)), .int (w)]) (n := 3) (Nat.le_of_ble_eq_true rfl)
  rw [lg_entry_eq]
  generalize (lg_sl ([.ref (e_a E (k + 2)), .int (w)]) ++ List.replicate (3 - (lg_sl ([.ref (e_a E (k + 2)), .int (w)])).length) Slot.unset).toArray = ls at hl ⊢
  have hl : lv_has ls 3 [(0, .ref (e_a E (k + 2))), (1, .int (w))] := hl
  refine lv_iload_n hx hb dX0_placeFor_0 rfl (lv_at hl 1 rfl) ?_
  refine lv_if_ne (tgt := 9) hx hb dX0_placeFor_1 (by decide) (fun c1 => ?_) (fun c1 => ?_)
  · skip
    refine lv_iconst (v := 0) hx hb dX0_placeFor_9 (by decide) ?_
    refine lv_istore_n (lv' := [(2, .int (0)), (0, .ref (e_a E (k + 2))), (1, .int (w))]) hx hb dX0_placeFor_10 rfl hl (by decide) rfl (fun ls hl => ?_)
    refine w_loop (E := E) (o := o) (ι := Nat) (μ := fun i => 12 - i) (I := fun i => i ≤ n ∧ ∀ a, a < i → hd (σ (k + 10) a) w 2 ≠ 0) (mem := fun _ => σ) (lv := fun i => [(2, .int (nI (i))), (0, .ref (e_a E (k + 2))), (1, .int (w))]) (nL := 3) (pch := 11) ?_ (0) (show (0) ≤ n ∧ ∀ a, a < (0) → hd (σ (k + 10) a) w 2 ≠ 0 from ⟨Nat.zero_le _, fun a h => absurd h (Nat.not_lt_zero a)⟩) hP hS (lv_sub hl [0, 1, 2] rfl)
    rintro i hI IH H locs ls hP hS hl
    have hP : va_P (e_D E) vwCl (wd E σ o) H := hP
    have hl : lv_has ls 3 [(2, .int (nI (i))), (0, .ref (e_a E (k + 2))), (1, .int (w))] := hl
    have hI : i ≤ n ∧ ∀ a, a < i → hd (σ (k + 10) a) w 2 ≠ 0 := hI
    refine lv_iload_n hx hb dX0_placeFor_11 rfl (lv_at hl 0 rfl) ?_
    refine lv_aload_n hx hb dX0_placeFor_12 rfl (lv_at hl 1 rfl) ?_
    refine q_get (C := RX0) (T := TX0) (N := 8) (ci := 0) (v := .int (σ (k + 2) 2)) hx hb hts hinX0 hown hK hP (at_ch hk) rfl 2 (by decide) hf35 rfl dX0_placeFor_13 ?_
    refine nb_ge (i := i) (j := n) hx hb rfl hn (by omega) (by omega) dX0_placeFor_16 (tgt := 39) (by decide) (fun c16 => ?_) (fun c16 => ?_)
    · skip
      refine lv_iload_n hx hb dX0_placeFor_39 rfl (lv_at hl 0 rfl) ?_
      exact r_i hx hb hr hlocks hP hS dX0_placeFor_40 ⟨⟨i, rfl, by omega, Or.inr ⟨c1, hI.2, fun h => absurd h (by omega)⟩⟩, rfl⟩
    · skip
      refine lv_aload_n hx hb dX0_placeFor_19 rfl (lv_at hl 1 rfl) ?_
      refine q_get (C := RX0) (T := TX0) (N := 8) (ci := 0) (v := .ref (e_a E (k + 10))) hx hb hts hinX0 hown hK hP (at_ch hk) rfl 0 (by decide) hf9 rfl dX0_placeFor_20 ?_
      refine lv_iload_n hx hb dX0_placeFor_23 rfl (lv_at hl 0 rfl) ?_
      refine q_ld hx hb hK hP (at_wt hk) (i := i) rfl (by omega) (by decide) dX0_placeFor_24 ?_
      refine lv_iconst (v := 2) hx hb dX0_placeFor_25 (by decide) ?_
      refine lv_iload_n hx hb dX0_placeFor_26 rfl (lv_at hl 2 rfl) ?_
      refine k_SiN (As := [.int (σ (k + 10) (i)), .int (2), .int (w)]) (rest := []) ⟨hx, hb, hml, hown, hts⟩ (mtX1_holds l (σ (k + 10) (i)) 2 w) ⟨va_cnB 3 hts gX0_placeFor_X1_holds_n25 rfl rfl rfl hK.nX0_25 (hts (.initialized RX1) (by decide +kernel)) (by decide +kernel) ⟨Nat.le_of_ble_eq_true rfl, Nat.le_of_ble_eq_true rfl⟩, hts (.static yX1_holds) (by decide +kernel), trivial⟩ rfl hl.1 rfl (Nat.le_of_ble_eq_true rfl) dX0_placeFor_27 ⟨Nat.le_of_ble_eq_true rfl, Nat.le_of_ble_eq_true rfl⟩ (fun r1 er1 => ?_)
      subst er1
      refine lv_if_eq (tgt := 39) hx hb dX0_placeFor_30 (by decide) (fun c30 => ?_) (fun c30 => ?_)
      · skip
        refine lv_iload_n hx hb dX0_placeFor_39 rfl (lv_at hl 0 rfl) ?_
        exact r_i hx hb hr hlocks hP hS dX0_placeFor_40 ⟨⟨i, rfl, by omega, Or.inr ⟨c1, hI.2, fun _ => c30⟩⟩, rfl⟩
      · skip
        refine lv_iinc (v := nI (i + 1)) (lv' := [(2, .int (nI (i + 1))), (0, .ref (e_a E (k + 2))), (1, .int (w))]) hx hb dX0_placeFor_33 hl (k := 0) rfl (by exact nI_add (i) 1) (by decide) rfl (fun ls hl => ?_)
        refine lv_goto (tgt := 11) hx hb dX0_placeFor_36 (by decide) ?_
        exact IH (i + 1) (show (i + 1) ≤ n ∧ ∀ a, a < (i + 1) → hd (σ (k + 10) a) w 2 ≠ 0 from ⟨by omega, lt_s hI.2 c30⟩) (by (try dsimp only); omega) _ _ _ hP hS (lv_sub hl [0, 1, 2] rfl)
  · skip
    refine lv_aload_n hx hb dX0_placeFor_4 rfl (lv_at hl 0 rfl) ?_
    refine q_get (C := RX0) (T := TX0) (N := 8) (ci := 0) (v := .int (σ (k + 2) 2)) hx hb hts hinX0 hown hK hP (at_ch hk) rfl 2 (by decide) hf35 rfl dX0_placeFor_5 ?_
    exact r_i hx hb hr hlocks hP hS dX0_placeFor_8 ⟨⟨n, hn, Nat.le_refl _, Or.inl ⟨c1, rfl⟩⟩, rfl⟩
set_option maxHeartbeats 4000000 in
set_option maxRecDepth 100000 in
/-- firstOf -/
theorem mtX0_firstOf (l : Launch) (E : Ev) (hok : e_ok E) (σ : Mem) (o : Nat → Int64) (k : Nat) (hk : k < 8) (n : Nat) (hn : σ (k + 2) 2 = nI n) (h12 : n ≤ 12) (w : Int32) : Met l yX0_firstOf wsX0_firstOf ({ frames := 0, cells := 0, slots := 0, locals := 0 } : Room) (PW E σ o [.ref (e_a E (k + 2)), .int (w)]) (va_Qi (fun (r : Int32) (σ' : Mem) => ((∃ q : Nat, q < n ∧ r = nI q ∧ σ (k + 10) q = w ∧ ∀ a, a < q → σ (k + 10) a ≠ w) ∨ (r = -1 ∧ ∀ a, a < n → σ (k + 10) a ≠ w)) ∧ σ' = σ) (BW E o) (LB (e_B E))) 0 0 (LB (e_B E)) := by
  refine Met.ofW (cc := cX0_firstOf) (maxL := 3) (ret := (some .int)) (by decide) rfl ?_
  intro p e s m args below meth c s₁ B hml hv
  obtain ⟨rfl, hP, hK⟩ := hv
  have hx := B.exec
  have hb := B.bytes
  have hr := B.returns
  have hts := atoms_spec (ws := wsX0_firstOf) B.pre
  have hown : s.vm.findClass RX0 = some m.cls := findClass_of_methodNamed B.named
  have hlocks := B.notSynchronized
  have hS : va_S (LB (e_B E)) s.heap s.heap [] := va_S.rf
  have hinX0 : ∀ w ∈ wsX00, w ∈ wsX0_firstOf := fun w h => by simp only [wsX0_firstOf, List.mem_cons, List.mem_append, h, or_true, true_or]
  have hf9 := hts (.fieldLink RX0 9 "ParcelChutes$Chute" "weights" "[I") (by decide +kernel)
  have hf35 := hts (.fieldLink RX0 35 "ParcelChutes$Chute" "count" "I") (by decide +kernel)
  have hl := lv_entry ([.ref (e_a E (k + 2)), .int (w)]) (n := 3) (Nat.le_of_ble_eq_true rfl)
  rw [lg_entry_eq]
  generalize (lg_sl ([.ref (e_a E (k + 2)), .int (w)]) ++ List.replicate (3 - (lg_sl ([.ref (e_a E (k + 2)), .int (w)])).length) Slot.unset).toArray = ls at hl ⊢
  have hl : lv_has ls 3 [(0, .ref (e_a E (k + 2))), (1, .int (w))] := hl
  refine lv_iconst (v := 0) hx hb dX0_firstOf_0 (by decide) ?_
  refine lv_istore_n (lv' := [(2, .int (0)), (0, .ref (e_a E (k + 2))), (1, .int (w))]) hx hb dX0_firstOf_1 rfl hl (by decide) rfl (fun ls hl => ?_)
  refine w_loop (E := E) (o := o) (ι := Nat) (μ := fun i => 12 - i) (I := fun i => i ≤ n ∧ ∀ a, a < i → σ (k + 10) a ≠ w) (mem := fun _ => σ) (lv := fun i => [(2, .int (nI (i))), (0, .ref (e_a E (k + 2))), (1, .int (w))]) (nL := 3) (pch := 2) ?_ (0) (show (0) ≤ n ∧ ∀ a, a < (0) → σ (k + 10) a ≠ w from ⟨Nat.zero_le _, fun a h => absurd h (Nat.not_lt_zero a)⟩) hP hS (lv_sub hl [0, 1, 2] rfl)
  rintro i hI IH H locs ls hP hS hl
  have hP : va_P (e_D E) vwCl (wd E σ o) H := hP
  have hl : lv_has ls 3 [(2, .int (nI (i))), (0, .ref (e_a E (k + 2))), (1, .int (w))] := hl
  have hI : i ≤ n ∧ ∀ a, a < i → σ (k + 10) a ≠ w := hI
  refine lv_iload_n hx hb dX0_firstOf_2 rfl (lv_at hl 0 rfl) ?_
  refine lv_aload_n hx hb dX0_firstOf_3 rfl (lv_at hl 1 rfl) ?_
  refine q_get (C := RX0) (T := TX0) (N := 8) (ci := 0) (v := .int (σ (k + 2) 2)) hx hb hts hinX0 hown hK hP (at_ch hk) rfl 2 (by decide) hf35 rfl dX0_firstOf_4 ?_
  refine nb_ge (i := i) (j := n) hx hb rfl hn (by omega) (by omega) dX0_firstOf_7 (tgt := 28) (by decide) (fun c7 => ?_) (fun c7 => ?_)
  · skip
    refine lv_iconst (v := (-1)) hx hb dX0_firstOf_28 (by decide) ?_
    exact r_i hx hb hr hlocks hP hS dX0_firstOf_29 ⟨Or.inr ⟨rfl, fun a h => hI.2 a (by omega)⟩, rfl⟩
  · skip
    refine lv_aload_n hx hb dX0_firstOf_10 rfl (lv_at hl 1 rfl) ?_
    refine q_get (C := RX0) (T := TX0) (N := 8) (ci := 0) (v := .ref (e_a E (k + 10))) hx hb hts hinX0 hown hK hP (at_ch hk) rfl 0 (by decide) hf9 rfl dX0_firstOf_11 ?_
    refine lv_iload_n hx hb dX0_firstOf_14 rfl (lv_at hl 0 rfl) ?_
    refine q_ld hx hb hK hP (at_wt hk) (i := i) rfl (by omega) (by decide) dX0_firstOf_15 ?_
    refine lv_iload_n hx hb dX0_firstOf_16 rfl (lv_at hl 2 rfl) ?_
    refine lv_icmp_ne (tgt := 22) hx hb dX0_firstOf_17 (by decide) (fun c17 => ?_) (fun c17 => ?_)
    · skip
      refine lv_iinc (v := nI (i + 1)) (lv' := [(2, .int (nI (i + 1))), (0, .ref (e_a E (k + 2))), (1, .int (w))]) hx hb dX0_firstOf_22 hl (k := 0) rfl (by exact nI_add (i) 1) (by decide) rfl (fun ls hl => ?_)
      refine lv_goto (tgt := 2) hx hb dX0_firstOf_25 (by decide) ?_
      exact IH (i + 1) (show (i + 1) ≤ n ∧ ∀ a, a < (i + 1) → σ (k + 10) a ≠ w from ⟨by omega, lt_s hI.2 c17⟩) (by (try dsimp only); omega) _ _ _ hP hS (lv_sub hl [0, 1, 2] rfl)
    · skip
      refine lv_iload_n hx hb dX0_firstOf_20 rfl (lv_at hl 0 rfl) ?_
      exact r_i hx hb hr hlocks hP hS dX0_firstOf_21 ⟨Or.inl ⟨i, by omega, rfl, c17, hI.2⟩, rfl⟩
set_option maxHeartbeats 4000000 in
set_option maxRecDepth 100000 in
/-- removeAt -/
theorem mtX0_removeAt (l : Launch) (E : Ev) (hok : e_ok E) (σ : Mem) (o : Nat → Int64) (k : Nat) (hk : k < 8) (n q : Nat) (hn : σ (k + 2) 2 = nI n) (h12 : n ≤ 12) (hqn : q < n) : Met l yX0_removeAt wsX0_removeAt ({ frames := 0, cells := 0, slots := 0, locals := 0 } : Room) (PW E σ o [.ref (e_a E (k + 2)), .int (nI (q))]) (va_Qv (fun (σ' : Mem) => σ' = m_rem σ k q n) (BW E o) (LB (e_B E))) 0 0 (LB (e_B E)) := by
  refine Met.ofW (cc := cX0_removeAt) (maxL := 3) (ret := none) (by decide) rfl ?_
  intro p e s m args below meth c s₁ B hml hv
  obtain ⟨rfl, hP, hK⟩ := hv
  have hx := B.exec
  have hb := B.bytes
  have hr := B.returns
  have hts := atoms_spec (ws := wsX0_removeAt) B.pre
  have hown : s.vm.findClass RX0 = some m.cls := findClass_of_methodNamed B.named
  have hlocks := B.notSynchronized
  have hS : va_S (LB (e_B E)) s.heap s.heap [] := va_S.rf
  have hinX0 : ∀ w ∈ wsX00, w ∈ wsX0_removeAt := fun w h => by simp only [wsX0_removeAt, List.mem_cons, List.mem_append, h, or_true, true_or]
  have hf9 := hts (.fieldLink RX0 9 "ParcelChutes$Chute" "weights" "[I") (by decide +kernel)
  have hf15 := hts (.fieldLink RX0 15 "ParcelChutes$Chute" "girths" "[I") (by decide +kernel)
  have hf35 := hts (.fieldLink RX0 35 "ParcelChutes$Chute" "count" "I") (by decide +kernel)
  have hl := lv_entry ([.ref (e_a E (k + 2)), .int (nI (q))]) (n := 3) (Nat.le_of_ble_eq_true rfl)
  rw [lg_entry_eq]
  generalize (lg_sl ([.ref (e_a E (k + 2)), .int (nI (q))]) ++ List.replicate (3 - (lg_sl ([.ref (e_a E (k + 2)), .int (nI (q))])).length) Slot.unset).toArray = ls at hl ⊢
  have hl : lv_has ls 3 [(0, .ref (e_a E (k + 2))), (1, .int (nI (q)))] := hl
  refine lv_aload_n hx hb dX0_removeAt_0 rfl (lv_at hl 0 rfl) ?_
  refine lv_dup hx hb dX0_removeAt_1 rfl ?_
  refine q_get (C := RX0) (T := TX0) (N := 8) (ci := 0) (v := .int (σ (k + 2) 2)) hx hb hts hinX0 hown hK hP (at_ch hk) rfl 2 (by decide) hf35 rfl dX0_removeAt_2 ?_
  refine lv_iconst (v := 1) hx hb dX0_removeAt_5 (by decide) ?_
  refine lv_isub hx hb dX0_removeAt_6 ?_
  refine q_put (C := RX0) (T := TX0) (N := 8) (ci := 0) (ty := .int) (v := (σ (k + 2) 2) - 1) hx hb hts hinX0 tyX0 tyX0_ok nmX0 hown hok hK hP hS (at_ch hk) (by omega) rfl 2 (by decide) hf35 rfl (tyX0_ok 2 (by decide)) rfl rfl (Nat.le_of_ble_eq_true rfl) (by rw [wc_ch hk]; rfl) dX0_removeAt_7 (fun H locs hP hS => ?_)
  have eM : (m_up σ (k + 2) 2 ((σ (k + 2) 2) - 1) : Mem) = m_sh σ k q q (nI (n - 1)) := by rw [show σ (k + 2) 2 - 1 = nI (n - 1) by rw [hn]; exact pk_sub (a := n) (b := 1) (by omega)]; exact m_sh_0 σ k q _
  rw [eM] at hP
  have hcn : ∀ i : Nat, m_sh σ k q i (nI (n - 1)) (k + 2) 2 = nI (n - 1) := fun i => by simp [m_sh, upd]
  refine lv_iload_n hx hb dX0_removeAt_10 rfl (lv_at hl 1 rfl) ?_
  refine lv_istore_n (lv' := [(2, .int (nI (q))), (0, .ref (e_a E (k + 2))), (1, .int (nI (q)))]) hx hb dX0_removeAt_11 rfl hl (by decide) rfl (fun ls hl => ?_)
  refine w_loop (E := E) (o := o) (ι := Nat) (μ := fun i => 12 - i) (I := fun i => q ≤ i ∧ i ≤ n - 1) (mem := fun i => m_sh σ k q i (nI (n - 1))) (lv := fun i => [(2, .int (nI (i))), (0, .ref (e_a E (k + 2)))]) (nL := 3) (pch := 12) ?_ (q) (show q ≤ (q) ∧ (q) ≤ n - 1 from ⟨Nat.le_refl _, by omega⟩) hP hS (lv_sub hl [0, 1] rfl)
  rintro i hI IH H locs ls hP hS hl
  have hP : va_P (e_D E) vwCl (wd E (m_sh σ k q i (nI (n - 1))) o) H := hP
  have hl : lv_has ls 3 [(2, .int (nI (i))), (0, .ref (e_a E (k + 2)))] := hl
  have hI : q ≤ i ∧ i ≤ n - 1 := hI
  refine lv_iload_n hx hb dX0_removeAt_12 rfl (lv_at hl 0 rfl) ?_
  refine lv_aload_n hx hb dX0_removeAt_13 rfl (lv_at hl 1 rfl) ?_
  refine q_get (C := RX0) (T := TX0) (N := 8) (ci := 0) (v := .int ((m_sh σ k q i (nI (n - 1))) (k + 2) 2)) hx hb hts hinX0 hown hK hP (at_ch hk) rfl 2 (by decide) hf35 rfl dX0_removeAt_14 ?_
  refine nb_ge (i := i) (j := n - 1) hx hb rfl (hcn _) (by omega) (by omega) dX0_removeAt_17 (tgt := 54) (by decide) (fun c17 => ?_) (fun c17 => ?_)
  · skip
    exact r_v hx hb hr hlocks hP hS dX0_removeAt_54 (by rw [show i = n - 1 by omega]; rfl)
  · skip
    refine lv_aload_n hx hb dX0_removeAt_20 rfl (lv_at hl 1 rfl) ?_
    refine q_get (C := RX0) (T := TX0) (N := 8) (ci := 0) (v := .ref (e_a E (k + 10))) hx hb hts hinX0 hown hK hP (at_ch hk) rfl 0 (by decide) hf9 rfl dX0_removeAt_21 ?_
    refine lv_iload_n hx hb dX0_removeAt_24 rfl (lv_at hl 0 rfl) ?_
    refine lv_aload_n hx hb dX0_removeAt_25 rfl (lv_at hl 1 rfl) ?_
    refine q_get (C := RX0) (T := TX0) (N := 8) (ci := 0) (v := .ref (e_a E (k + 10))) hx hb hts hinX0 hown hK hP (at_ch hk) rfl 0 (by decide) hf9 rfl dX0_removeAt_26 ?_
    refine lv_iload_n hx hb dX0_removeAt_29 rfl (lv_at hl 0 rfl) ?_
    refine lv_iconst (v := 1) hx hb dX0_removeAt_30 (by decide) ?_
    refine lv_iadd hx hb dX0_removeAt_31 ?_
    refine q_ld hx hb hK hP (at_wt hk) (i := i + 1) (by first | exact nI_add (i) (1) | (simp only [nI]; exact nI_add _ _)) (by omega) (by decide) dX0_removeAt_32 ?_
    refine q_st hx hb hok hK hP hS (at_wt hk) (fun r => (wc_wt (k := k) hk).symm) (by omega) (i := i) rfl (by omega) (by decide) dX0_removeAt_33 (fun H locs hP hS => ?_)
    refine lv_aload_n hx hb dX0_removeAt_34 rfl (lv_at hl 1 rfl) ?_
    refine q_get (C := RX0) (T := TX0) (N := 8) (ci := 0) (v := .ref (e_a E (k + 18))) hx hb hts hinX0 hown hK hP (at_ch hk) rfl 1 (by decide) hf15 rfl dX0_removeAt_35 ?_
    refine lv_iload_n hx hb dX0_removeAt_38 rfl (lv_at hl 0 rfl) ?_
    refine lv_aload_n hx hb dX0_removeAt_39 rfl (lv_at hl 1 rfl) ?_
    refine q_get (C := RX0) (T := TX0) (N := 8) (ci := 0) (v := .ref (e_a E (k + 18))) hx hb hts hinX0 hown hK hP (at_ch hk) rfl 1 (by decide) hf15 rfl dX0_removeAt_40 ?_
    refine lv_iload_n hx hb dX0_removeAt_43 rfl (lv_at hl 0 rfl) ?_
    refine lv_iconst (v := 1) hx hb dX0_removeAt_44 (by decide) ?_
    refine lv_iadd hx hb dX0_removeAt_45 ?_
    refine q_ld hx hb hK hP (at_gi hk) (i := i + 1) (by first | exact nI_add (i) (1) | (simp only [nI]; exact nI_add _ _)) (by omega) (by decide) dX0_removeAt_46 ?_
    refine q_st hx hb hok hK hP hS (at_gi hk) (fun r => (wc_gi (k := k) hk).symm) (by omega) (i := i) rfl (by omega) (by decide) dX0_removeAt_47 (fun H locs hP hS => ?_)
    refine lv_iinc (v := nI (i + 1)) (lv' := [(2, .int (nI (i + 1))), (0, .ref (e_a E (k + 2)))]) hx hb dX0_removeAt_48 hl (k := 0) rfl (by exact nI_add (i) 1) (by decide) rfl (fun ls hl => ?_)
    refine lv_goto (tgt := 12) hx hb dX0_removeAt_51 (by decide) ?_
    rw [m_sh_step σ (nI (n - 1)) hI.1] at hP
    exact IH (i + 1) (show q ≤ (i + 1) ∧ (i + 1) ≤ n - 1 from ⟨by omega, by omega⟩) (by (try dsimp only); omega) _ _ _ hP hS (lv_sub hl [0, 1] rfl)
set_option maxHeartbeats 4000000 in
set_option maxRecDepth 100000 in
/-- unknownIn -/
theorem mtX0_unknownIn_w (l : Launch) (E : Ev) (hok : e_ok E) (σ : Mem) (o : Nat → Int64) (k : Nat) (hk : k < 8) (n : Nat) (hn : σ (k + 2) 2 = nI n) (h12 : n ≤ 12) : Met l yX0_unknownIn wsX0_unknownIn ({ frames := 1, cells := 0, slots := 0, locals := 20 } : Room) (PW E σ o [.ref (e_a E (k + 2)), .ref (e_a E (k + 10))]) (va_Qi (fun (r : Int32) (σ' : Mem) => r = nI (cz (σ (k + 10)) n) ∧ σ' = σ) (BW E o) (LB (e_B E))) 0 0 (LB (e_B E)) := by
  refine Met.ofW (cc := cX0_unknownIn) (maxL := 4) (ret := (some .int)) (by decide) rfl ?_
  intro p e s m args below meth c s₁ B hml hv
  obtain ⟨rfl, hP, hK⟩ := hv
  have hx := B.exec
  have hb := B.bytes
  have hr := B.returns
  have hts := atoms_spec (ws := wsX0_unknownIn) B.pre
  have hown : s.vm.findClass RX0 = some m.cls := findClass_of_methodNamed B.named
  have hlocks := B.notSynchronized
  have hS : va_S (LB (e_B E)) s.heap s.heap [] := va_S.rf
  have hinX0 : ∀ w ∈ wsX00, w ∈ wsX0_unknownIn := fun w h => by simp only [wsX0_unknownIn, List.mem_cons, List.mem_append, h, or_true, true_or]
  have hf35 := hts (.fieldLink RX0 35 "ParcelChutes$Chute" "count" "I") (by decide +kernel)
  have hl := lv_entry ([.ref (e_a E (k + 2)), .ref (e_a E (k + 10))]) (n := 4) (Nat.le_of_ble_eq_true rfl)
  rw [lg_entry_eq]
  generalize (lg_sl ([.ref (e_a E (k + 2)), .ref (e_a E (k + 10))]) ++ List.replicate (4 - (lg_sl ([.ref (e_a E (k + 2)), .ref (e_a E (k + 10))])).length) Slot.unset).toArray = ls at hl ⊢
  have hl : lv_has ls 4 [(0, .ref (e_a E (k + 2))), (1, .ref (e_a E (k + 10)))] := hl
  refine lv_iconst (v := 0) hx hb dX0_unknownIn_0 (by decide) ?_
  refine lv_istore_n (lv' := [(2, .int (0)), (0, .ref (e_a E (k + 2))), (1, .ref (e_a E (k + 10)))]) hx hb dX0_unknownIn_1 rfl hl (by decide) rfl (fun ls hl => ?_)
  refine lv_iconst (v := 0) hx hb dX0_unknownIn_2 (by decide) ?_
  refine lv_istore_n (lv' := [(3, .int (0)), (2, .int (0)), (0, .ref (e_a E (k + 2))), (1, .ref (e_a E (k + 10)))]) hx hb dX0_unknownIn_3 rfl hl (by decide) rfl (fun ls hl => ?_)
  refine w_loop (E := E) (o := o) (ι := Nat × Int32) (μ := fun (i, x) => 12 - i) (I := fun (i, x) => i ≤ n ∧ x = nI (cz (σ (k + 10)) i)) (mem := fun _ => σ) (lv := fun (i, x) => [(3, .int (nI (i))), (2, .int (x)), (0, .ref (e_a E (k + 2))), (1, .ref (e_a E (k + 10)))]) (nL := 4) (pch := 4) ?_ ((0), (0)) (show (0) ≤ n ∧ (0) = nI (cz (σ (k + 10)) (0)) from ⟨Nat.zero_le _, rfl⟩) hP hS (lv_sub hl [0, 1, 2, 3] rfl)
  rintro ⟨i, x⟩ hI IH H locs ls hP hS hl
  have hP : va_P (e_D E) vwCl (wd E σ o) H := hP
  have hl : lv_has ls 4 [(3, .int (nI (i))), (2, .int (x)), (0, .ref (e_a E (k + 2))), (1, .ref (e_a E (k + 10)))] := hl
  have hI : i ≤ n ∧ x = nI (cz (σ (k + 10)) i) := hI
  refine lv_iload_n hx hb dX0_unknownIn_4 rfl (lv_at hl 0 rfl) ?_
  refine lv_aload_n hx hb dX0_unknownIn_5 rfl (lv_at hl 2 rfl) ?_
  refine q_get (C := RX0) (T := TX0) (N := 8) (ci := 0) (v := .int (σ (k + 2) 2)) hx hb hts hinX0 hown hK hP (at_ch hk) rfl 2 (by decide) hf35 rfl dX0_unknownIn_6 ?_
  refine nb_ge (i := i) (j := n) hx hb rfl hn (by omega) (by omega) dX0_unknownIn_9 (tgt := 35) (by decide) (fun c9 => ?_) (fun c9 => ?_)
  · skip
    refine lv_iload_n hx hb dX0_unknownIn_35 rfl (lv_at hl 1 rfl) ?_
    exact r_i hx hb hr hlocks hP hS dX0_unknownIn_36 ⟨by rw [hI.2, show i = n by omega], rfl⟩
  · skip
    refine lv_iload_n hx hb dX0_unknownIn_12 rfl (lv_at hl 1 rfl) ?_
    refine lv_aload_n hx hb dX0_unknownIn_13 rfl (lv_at hl 3 rfl) ?_
    refine lv_iload_n hx hb dX0_unknownIn_14 rfl (lv_at hl 0 rfl) ?_
    refine q_ld hx hb hK hP (at_wt hk) (i := i) rfl (by omega) (by decide) dX0_unknownIn_15 ?_
    refine lv_if_ne (tgt := 23) hx hb dX0_unknownIn_16 (by decide) (fun c16 => ?_) (fun c16 => ?_)
    · skip
      refine lv_iconst (v := 0) hx hb dX0_unknownIn_23 (by decide) ?_
      refine k_SiN (As := [.int (0)]) (rest := [.int (x)]) ⟨hx, hb, hml, hown, hts⟩ (mtX1_oneIf l 0) ⟨va_cnB 1 hts gX0_unknownIn_X1_oneIf_n46 rfl rfl rfl hK.nX0_46 (hts (.initialized RX1) (by decide +kernel)) (by decide +kernel) ⟨Nat.le_of_ble_eq_true rfl, Nat.le_of_ble_eq_true rfl⟩, hts (.static yX1_oneIf) (by decide +kernel), trivial⟩ rfl hl.1 rfl (Nat.le_of_ble_eq_true rfl) dX0_unknownIn_24 ⟨Nat.le_of_ble_eq_true rfl, Nat.le_of_ble_eq_true rfl⟩ (fun r1 er1 => ?_)
      subst er1
      refine lv_iadd hx hb dX0_unknownIn_27 ?_
      refine lv_istore_n (lv' := [(2, .int (x + (b1 0))), (3, .int (nI (i))), (0, .ref (e_a E (k + 2))), (1, .ref (e_a E (k + 10)))]) hx hb dX0_unknownIn_28 rfl hl (by decide) rfl (fun ls hl => ?_)
      refine lv_iinc (v := nI (i + 1)) (lv' := [(3, .int (nI (i + 1))), (2, .int (x + (b1 0))), (0, .ref (e_a E (k + 2))), (1, .ref (e_a E (k + 10)))]) hx hb dX0_unknownIn_29 hl (k := 1) rfl (by exact nI_add (i) 1) (by decide) rfl (fun ls hl => ?_)
      refine lv_goto (tgt := 4) hx hb dX0_unknownIn_32 (by decide) ?_
      exact IH ((i + 1), (x + (b1 0))) (show (i + 1) ≤ n ∧ (x + (b1 0)) = nI (cz (σ (k + 10)) (i + 1)) from ⟨by omega, cz_s0 hI.2 c16⟩) (by (try dsimp only); omega) _ _ _ hP hS (lv_sub hl [0, 1, 2, 3] rfl)
    · skip
      refine lv_iconst (v := 1) hx hb dX0_unknownIn_19 (by decide) ?_
      refine lv_goto (tgt := 24) hx hb dX0_unknownIn_20 (by decide) ?_
      refine k_SiN (As := [.int (1)]) (rest := [.int (x)]) ⟨hx, hb, hml, hown, hts⟩ (mtX1_oneIf l 1) ⟨va_cnB 1 hts gX0_unknownIn_X1_oneIf_n46 rfl rfl rfl hK.nX0_46 (hts (.initialized RX1) (by decide +kernel)) (by decide +kernel) ⟨Nat.le_of_ble_eq_true rfl, Nat.le_of_ble_eq_true rfl⟩, hts (.static yX1_oneIf) (by decide +kernel), trivial⟩ rfl hl.1 rfl (Nat.le_of_ble_eq_true rfl) dX0_unknownIn_24 ⟨Nat.le_of_ble_eq_true rfl, Nat.le_of_ble_eq_true rfl⟩ (fun r2 er2 => ?_)
      subst er2
      refine lv_iadd hx hb dX0_unknownIn_27 ?_
      refine lv_istore_n (lv' := [(2, .int (x + (b1 1))), (3, .int (nI (i))), (0, .ref (e_a E (k + 2))), (1, .ref (e_a E (k + 10)))]) hx hb dX0_unknownIn_28 rfl hl (by decide) rfl (fun ls hl => ?_)
      refine lv_iinc (v := nI (i + 1)) (lv' := [(3, .int (nI (i + 1))), (2, .int (x + (b1 1))), (0, .ref (e_a E (k + 2))), (1, .ref (e_a E (k + 10)))]) hx hb dX0_unknownIn_29 hl (k := 1) rfl (by exact nI_add (i) 1) (by decide) rfl (fun ls hl => ?_)
      refine lv_goto (tgt := 4) hx hb dX0_unknownIn_32 (by decide) ?_
      exact IH ((i + 1), (x + (b1 1))) (show (i + 1) ≤ n ∧ (x + (b1 1)) = nI (cz (σ (k + 10)) (i + 1)) from ⟨by omega, cz_s1 hI.2 c16⟩) (by (try dsimp only); omega) _ _ _ hP hS (lv_sub hl [0, 1, 2, 3] rfl)
set_option maxHeartbeats 4000000 in
set_option maxRecDepth 100000 in
/-- unknownIn -/
theorem mtX0_unknownIn_g (l : Launch) (E : Ev) (hok : e_ok E) (σ : Mem) (o : Nat → Int64) (k : Nat) (hk : k < 8) (n : Nat) (hn : σ (k + 2) 2 = nI n) (h12 : n ≤ 12) : Met l yX0_unknownIn wsX0_unknownIn ({ frames := 1, cells := 0, slots := 0, locals := 20 } : Room) (PW E σ o [.ref (e_a E (k + 2)), .ref (e_a E (k + 18))]) (va_Qi (fun (r : Int32) (σ' : Mem) => r = nI (cz (σ (k + 18)) n) ∧ σ' = σ) (BW E o) (LB (e_B E))) 0 0 (LB (e_B E)) := by
  refine Met.ofW (cc := cX0_unknownIn) (maxL := 4) (ret := (some .int)) (by decide) rfl ?_
  intro p e s m args below meth c s₁ B hml hv
  obtain ⟨rfl, hP, hK⟩ := hv
  have hx := B.exec
  have hb := B.bytes
  have hr := B.returns
  have hts := atoms_spec (ws := wsX0_unknownIn) B.pre
  have hown : s.vm.findClass RX0 = some m.cls := findClass_of_methodNamed B.named
  have hlocks := B.notSynchronized
  have hS : va_S (LB (e_B E)) s.heap s.heap [] := va_S.rf
  have hinX0 : ∀ w ∈ wsX00, w ∈ wsX0_unknownIn := fun w h => by simp only [wsX0_unknownIn, List.mem_cons, List.mem_append, h, or_true, true_or]
  have hf35 := hts (.fieldLink RX0 35 "ParcelChutes$Chute" "count" "I") (by decide +kernel)
  have hl := lv_entry ([.ref (e_a E (k + 2)), .ref (e_a E (k + 18))]) (n := 4) (Nat.le_of_ble_eq_true rfl)
  rw [lg_entry_eq]
  generalize (lg_sl ([.ref (e_a E (k + 2)), .ref (e_a E (k + 18))]) ++ List.replicate (4 - (lg_sl ([.ref (e_a E (k + 2)), .ref (e_a E (k + 18))])).length) Slot.unset).toArray = ls at hl ⊢
  have hl : lv_has ls 4 [(0, .ref (e_a E (k + 2))), (1, .ref (e_a E (k + 18)))] := hl
  refine lv_iconst (v := 0) hx hb dX0_unknownIn_0 (by decide) ?_
  refine lv_istore_n (lv' := [(2, .int (0)), (0, .ref (e_a E (k + 2))), (1, .ref (e_a E (k + 18)))]) hx hb dX0_unknownIn_1 rfl hl (by decide) rfl (fun ls hl => ?_)
  refine lv_iconst (v := 0) hx hb dX0_unknownIn_2 (by decide) ?_
  refine lv_istore_n (lv' := [(3, .int (0)), (2, .int (0)), (0, .ref (e_a E (k + 2))), (1, .ref (e_a E (k + 18)))]) hx hb dX0_unknownIn_3 rfl hl (by decide) rfl (fun ls hl => ?_)
  refine w_loop (E := E) (o := o) (ι := Nat × Int32) (μ := fun (i, x) => 12 - i) (I := fun (i, x) => i ≤ n ∧ x = nI (cz (σ (k + 18)) i)) (mem := fun _ => σ) (lv := fun (i, x) => [(3, .int (nI (i))), (2, .int (x)), (0, .ref (e_a E (k + 2))), (1, .ref (e_a E (k + 18)))]) (nL := 4) (pch := 4) ?_ ((0), (0)) (show (0) ≤ n ∧ (0) = nI (cz (σ (k + 18)) (0)) from ⟨Nat.zero_le _, rfl⟩) hP hS (lv_sub hl [0, 1, 2, 3] rfl)
  rintro ⟨i, x⟩ hI IH H locs ls hP hS hl
  have hP : va_P (e_D E) vwCl (wd E σ o) H := hP
  have hl : lv_has ls 4 [(3, .int (nI (i))), (2, .int (x)), (0, .ref (e_a E (k + 2))), (1, .ref (e_a E (k + 18)))] := hl
  have hI : i ≤ n ∧ x = nI (cz (σ (k + 18)) i) := hI
  refine lv_iload_n hx hb dX0_unknownIn_4 rfl (lv_at hl 0 rfl) ?_
  refine lv_aload_n hx hb dX0_unknownIn_5 rfl (lv_at hl 2 rfl) ?_
  refine q_get (C := RX0) (T := TX0) (N := 8) (ci := 0) (v := .int (σ (k + 2) 2)) hx hb hts hinX0 hown hK hP (at_ch hk) rfl 2 (by decide) hf35 rfl dX0_unknownIn_6 ?_
  refine nb_ge (i := i) (j := n) hx hb rfl hn (by omega) (by omega) dX0_unknownIn_9 (tgt := 35) (by decide) (fun c9 => ?_) (fun c9 => ?_)
  · skip
    refine lv_iload_n hx hb dX0_unknownIn_35 rfl (lv_at hl 1 rfl) ?_
    exact r_i hx hb hr hlocks hP hS dX0_unknownIn_36 ⟨by rw [hI.2, show i = n by omega], rfl⟩
  · skip
    refine lv_iload_n hx hb dX0_unknownIn_12 rfl (lv_at hl 1 rfl) ?_
    refine lv_aload_n hx hb dX0_unknownIn_13 rfl (lv_at hl 3 rfl) ?_
    refine lv_iload_n hx hb dX0_unknownIn_14 rfl (lv_at hl 0 rfl) ?_
    refine q_ld hx hb hK hP (at_gi hk) (i := i) rfl (by omega) (by decide) dX0_unknownIn_15 ?_
    refine lv_if_ne (tgt := 23) hx hb dX0_unknownIn_16 (by decide) (fun c16 => ?_) (fun c16 => ?_)
    · skip
      refine lv_iconst (v := 0) hx hb dX0_unknownIn_23 (by decide) ?_
      refine k_SiN (As := [.int (0)]) (rest := [.int (x)]) ⟨hx, hb, hml, hown, hts⟩ (mtX1_oneIf l 0) ⟨va_cnB 1 hts gX0_unknownIn_X1_oneIf_n46 rfl rfl rfl hK.nX0_46 (hts (.initialized RX1) (by decide +kernel)) (by decide +kernel) ⟨Nat.le_of_ble_eq_true rfl, Nat.le_of_ble_eq_true rfl⟩, hts (.static yX1_oneIf) (by decide +kernel), trivial⟩ rfl hl.1 rfl (Nat.le_of_ble_eq_true rfl) dX0_unknownIn_24 ⟨Nat.le_of_ble_eq_true rfl, Nat.le_of_ble_eq_true rfl⟩ (fun r1 er1 => ?_)
      subst er1
      refine lv_iadd hx hb dX0_unknownIn_27 ?_
      refine lv_istore_n (lv' := [(2, .int (x + (b1 0))), (3, .int (nI (i))), (0, .ref (e_a E (k + 2))), (1, .ref (e_a E (k + 18)))]) hx hb dX0_unknownIn_28 rfl hl (by decide) rfl (fun ls hl => ?_)
      refine lv_iinc (v := nI (i + 1)) (lv' := [(3, .int (nI (i + 1))), (2, .int (x + (b1 0))), (0, .ref (e_a E (k + 2))), (1, .ref (e_a E (k + 18)))]) hx hb dX0_unknownIn_29 hl (k := 1) rfl (by exact nI_add (i) 1) (by decide) rfl (fun ls hl => ?_)
      refine lv_goto (tgt := 4) hx hb dX0_unknownIn_32 (by decide) ?_
      exact IH ((i + 1), (x + (b1 0))) (show (i + 1) ≤ n ∧ (x + (b1 0)) = nI (cz (σ (k + 18)) (i + 1)) from ⟨by omega, cz_s0 hI.2 c16⟩) (by (try dsimp only); omega) _ _ _ hP hS (lv_sub hl [0, 1, 2, 3] rfl)
    · skip
      refine lv_iconst (v := 1) hx hb dX0_unknownIn_19 (by decide) ?_
      refine lv_goto (tgt := 24) hx hb dX0_unknownIn_20 (by decide) ?_
      refine k_SiN (As := [.int (1)]) (rest := [.int (x)]) ⟨hx, hb, hml, hown, hts⟩ (mtX1_oneIf l 1) ⟨va_cnB 1 hts gX0_unknownIn_X1_oneIf_n46 rfl rfl rfl hK.nX0_46 (hts (.initialized RX1) (by decide +kernel)) (by decide +kernel) ⟨Nat.le_of_ble_eq_true rfl, Nat.le_of_ble_eq_true rfl⟩, hts (.static yX1_oneIf) (by decide +kernel), trivial⟩ rfl hl.1 rfl (Nat.le_of_ble_eq_true rfl) dX0_unknownIn_24 ⟨Nat.le_of_ble_eq_true rfl, Nat.le_of_ble_eq_true rfl⟩ (fun r2 er2 => ?_)
      subst er2
      refine lv_iadd hx hb dX0_unknownIn_27 ?_
      refine lv_istore_n (lv' := [(2, .int (x + (b1 1))), (3, .int (nI (i))), (0, .ref (e_a E (k + 2))), (1, .ref (e_a E (k + 18)))]) hx hb dX0_unknownIn_28 rfl hl (by decide) rfl (fun ls hl => ?_)
      refine lv_iinc (v := nI (i + 1)) (lv' := [(3, .int (nI (i + 1))), (2, .int (x + (b1 1))), (0, .ref (e_a E (k + 2))), (1, .ref (e_a E (k + 18)))]) hx hb dX0_unknownIn_29 hl (k := 1) rfl (by exact nI_add (i) 1) (by decide) rfl (fun ls hl => ?_)
      refine lv_goto (tgt := 4) hx hb dX0_unknownIn_32 (by decide) ?_
      exact IH ((i + 1), (x + (b1 1))) (show (i + 1) ≤ n ∧ (x + (b1 1)) = nI (cz (σ (k + 18)) (i + 1)) from ⟨by omega, cz_s1 hI.2 c16⟩) (by (try dsimp only); omega) _ _ _ hP hS (lv_sub hl [0, 1, 2, 3] rfl)
set_option maxHeartbeats 4000000 in
set_option maxRecDepth 100000 in
/-- heaviestKnown -/
theorem mtX0_heaviestKnown (l : Launch) (E : Ev) (hok : e_ok E) (σ : Mem) (o : Nat → Int64) (k : Nat) (hk : k < 8) (n : Nat) (hn : σ (k + 2) 2 = nI n) (h12 : n ≤ 12) : Met l yX0_heaviestKnown wsX0_heaviestKnown ({ frames := 2, cells := 0, slots := 0, locals := 43 } : Room) (PW E σ o [.ref (e_a E (k + 2))]) (va_Qi (fun (r : Int32) (σ' : Mem) => r = hvC (σ (k + 10)) n ∧ σ' = σ) (BW E o) (LB (e_B E))) 0 0 (LB (e_B E)) := by
  refine Met.ofW (cc := cX0_heaviestKnown) (maxL := 2) (ret := (some .int)) (by decide) rfl ?_
  intro p e s m args below meth c s₁ B hml hv
  obtain ⟨rfl, hP, hK⟩ := hv
  have hx := B.exec
  have hb := B.bytes
  have hr := B.returns
  have hts := atoms_spec (ws := wsX0_heaviestKnown) B.pre
  have hown : s.vm.findClass RX0 = some m.cls := findClass_of_methodNamed B.named
  have hlocks := B.notSynchronized
  have hS : va_S (LB (e_B E)) s.heap s.heap [] := va_S.rf
  have hinX0 : ∀ w ∈ wsX00, w ∈ wsX0_heaviestKnown := fun w h => by simp only [wsX0_heaviestKnown, List.mem_cons, List.mem_append, h, or_true, true_or]
  have hf9 := hts (.fieldLink RX0 9 "ParcelChutes$Chute" "weights" "[I") (by decide +kernel)
  have hf35 := hts (.fieldLink RX0 35 "ParcelChutes$Chute" "count" "I") (by decide +kernel)
  have hl := lv_entry ([.ref (e_a E (k + 2))]) (n := 2) (Nat.le_of_ble_eq_true rfl)
  rw [lg_entry_eq]
  generalize (lg_sl ([.ref (e_a E (k + 2))]) ++ List.replicate (2 - (lg_sl ([.ref (e_a E (k + 2))])).length) Slot.unset).toArray = ls at hl ⊢
  have hl : lv_has ls 2 [(0, .ref (e_a E (k + 2)))] := hl
  refine lv_aload_n hx hb dX0_heaviestKnown_0 rfl (lv_at hl 0 rfl) ?_
  refine q_get (C := RX0) (T := TX0) (N := 8) (ci := 0) (v := .int (σ (k + 2) 2)) hx hb hts hinX0 hown hK hP (at_ch hk) rfl 2 (by decide) hf35 rfl dX0_heaviestKnown_1 ?_
  refine lv_aload_n hx hb dX0_heaviestKnown_4 rfl (lv_at hl 0 rfl) ?_
  refine lv_aload_n hx hb dX0_heaviestKnown_5 rfl (lv_at hl 0 rfl) ?_
  refine q_get (C := RX0) (T := TX0) (N := 8) (ci := 0) (v := .ref (e_a E (k + 10))) hx hb hts hinX0 hown hK hP (at_ch hk) rfl 0 (by decide) hf9 rfl dX0_heaviestKnown_6 ?_
  refine k_Vi (As := [.ref (e_a E (k + 10))]) (rest := [.int (σ (k + 2) 2)]) ⟨hx, hb, hml, hown, hts⟩ (mtX0_unknownIn_w l E hok σ o k hk n hn h12) (cwV 1 hts gX0_heaviestKnown_X0_unknownIn rfl rfl rfl (by decide +kernel) ⟨Nat.le_of_ble_eq_true rfl, Nat.le_of_ble_eq_true rfl⟩) (va_recv hK.K hP (ci := 0) (q0 := k + 2) rfl (at_ch hk)) hK hP hS rfl hl.1 rfl (Nat.le_of_ble_eq_true rfl) dX0_heaviestKnown_9 ⟨Nat.le_of_ble_eq_true rfl, Nat.le_of_ble_eq_true rfl⟩ (fun r1 σ_2 H locs hr1 hP hS => ?_)
  obtain ⟨rfl, ehr1⟩ := hr1
  rw [ehr1] at hP
  refine lv_isub hx hb dX0_heaviestKnown_12 ?_
  refine lv_iconst (v := 1) hx hb dX0_heaviestKnown_13 (by decide) ?_
  refine lv_isub hx hb dX0_heaviestKnown_14 ?_
  refine lv_istore_n (lv' := [(1, .int (((σ (k + 2) 2) - (nI (cz (σ (k + 10)) n))) - 1)), (0, .ref (e_a E (k + 2)))]) hx hb dX0_heaviestKnown_15 rfl hl (by decide) rfl (fun ls hl => ?_)
  have hcz := cz_le (σ (k + 10)) n
  rcases Nat.lt_or_ge (cz (σ (k + 10)) n) n with hu | hu
  · skip
    have ep : ((σ (k + 2) 2) - (nI (cz (σ (k + 10)) n))) - 1 = nI (n - cz (σ (k + 10)) n - 1) := hv_sub hn hu
    refine lv_iload_n hx hb dX0_heaviestKnown_16 rfl (lv_at hl 0 rfl) ?_
    refine lv_if_ge (tgt := 24) hx hb dX0_heaviestKnown_17 (by decide) (fun c17 => ?_) (fun c17 => ?_)
    rotate_left
    · exact absurd c17 (fun z => z (by rw [ep]; exact nI_pos' (by omega)))
    refine lv_aload_n hx hb dX0_heaviestKnown_24 rfl (lv_at hl 1 rfl) ?_
    refine q_get (C := RX0) (T := TX0) (N := 8) (ci := 0) (v := .ref (e_a E (k + 10))) hx hb hts hinX0 hown hK hP (at_ch hk) rfl 0 (by decide) hf9 rfl dX0_heaviestKnown_25 ?_
    refine lv_iload_n hx hb dX0_heaviestKnown_28 rfl (lv_at hl 0 rfl) ?_
    refine q_ld hx hb hK hP (at_wt hk) (i := n - cz (σ (k + 10)) n - 1) ep (by omega) (by decide) dX0_heaviestKnown_29 ?_
    exact r_i hx hb hr hlocks hP hS dX0_heaviestKnown_30 ⟨by simp [hvC, hu], rfl⟩
  · skip
    have ep : ¬ 0 ≤ ((σ (k + 2) 2) - (nI (cz (σ (k + 10)) n))) - 1 := hv_neg hn hu (by omega)
    refine lv_iload_n hx hb dX0_heaviestKnown_16 rfl (lv_at hl 0 rfl) ?_
    refine lv_if_ge (tgt := 24) hx hb dX0_heaviestKnown_17 (by decide) (fun c17 => ?_) (fun c17 => ?_)
    · exact absurd c17 ep
    refine lv_iconst (v := 0) hx hb dX0_heaviestKnown_20 (by decide) ?_
    refine lv_goto (tgt := 30) hx hb dX0_heaviestKnown_21 (by decide) ?_
    exact r_i hx hb hr hlocks hP hS dX0_heaviestKnown_30 ⟨by simp [hvC, Nat.not_lt.mpr hu], rfl⟩
set_option maxHeartbeats 4000000 in
set_option maxRecDepth 100000 in
/-- admit -/
theorem mtX0_admit (l : Launch) (E : Ev) (hok : e_ok E) (σ : Mem) (o : Nat → Int64) (k : Nat) (hk : k < 8) (n : Nat) (hn : σ (k + 2) 2 = nI n) (h12 : n ≤ 12) (w g : Int32) : Met l yX0_admit wsX0_admit ({ frames := 3, cells := 0, slots := 0, locals := 65 } : Room) (PW E σ o [.ref (e_a E (k + 2)), .int (w), .int (g)]) (va_Qi (fun (r : Int32) (σ' : Mem) => (r = 0 ∧ σ' = σ ∧ (12 ≤ n ∨ fitC (σ (k + 2) 3) (σ (k + 2) 4) (σ (k + 2) 5) (σ (k + 2) 6) w g = 0)) ∨ (r = 1 ∧ n < 12 ∧ fitC (σ (k + 2) 3) (σ (k + 2) 4) (σ (k + 2) 5) (σ (k + 2) 6) w g ≠ 0 ∧ ∃ q : Nat, (q ≤ n ∧ ((w = 0 ∧ q = n) ∨ (w ≠ 0 ∧ (∀ a, a < q → hd (σ (k + 10) a) w 2 ≠ 0) ∧ (q < n → hd (σ (k + 10) q) w 2 = 0)))) ∧ σ' = m_ins σ k q n w g)) (BW E o) (LB (e_B E))) 0 0 (LB (e_B E)) := by
  refine Met.ofW (cc := cX0_admit) (maxL := 5) (ret := (some .boolean)) (by decide) rfl ?_
  intro p e s m args below meth c s₁ B hml hv
  obtain ⟨rfl, hP, hK⟩ := hv
  have hx := B.exec
  have hb := B.bytes
  have hr := B.returns
  have hts := atoms_spec (ws := wsX0_admit) B.pre
  have hown : s.vm.findClass RX0 = some m.cls := findClass_of_methodNamed B.named
  have hlocks := B.notSynchronized
  have hS : va_S (LB (e_B E)) s.heap s.heap [] := va_S.rf
  have hinX0 : ∀ w ∈ wsX00, w ∈ wsX0_admit := fun w h => by simp only [wsX0_admit, List.mem_cons, List.mem_append, h, or_true, true_or]
  have hf9 := hts (.fieldLink RX0 9 "ParcelChutes$Chute" "weights" "[I") (by decide +kernel)
  have hf15 := hts (.fieldLink RX0 15 "ParcelChutes$Chute" "girths" "[I") (by decide +kernel)
  have hf35 := hts (.fieldLink RX0 35 "ParcelChutes$Chute" "count" "I") (by decide +kernel)
  have hl := lv_entry ([.ref (e_a E (k + 2)), .int (w), .int (g)]) (n := 5) (Nat.le_of_ble_eq_true rfl)
  rw [lg_entry_eq]
  generalize (lg_sl ([.ref (e_a E (k + 2)), .int (w), .int (g)]) ++ List.replicate (5 - (lg_sl ([.ref (e_a E (k + 2)), .int (w), .int (g)])).length) Slot.unset).toArray = ls at hl ⊢
  have hl : lv_has ls 5 [(0, .ref (e_a E (k + 2))), (1, .int (w)), (2, .int (g))] := hl
  refine lv_aload_n hx hb dX0_admit_0 rfl (lv_at hl 0 rfl) ?_
  refine q_get (C := RX0) (T := TX0) (N := 8) (ci := 0) (v := .int (σ (k + 2) 2)) hx hb hts hinX0 hown hK hP (at_ch hk) rfl 2 (by decide) hf35 rfl dX0_admit_1 ?_
  refine lv_bipush (v := 12) hx hb dX0_admit_4 (by decide) ?_
  refine nb_ge (i := n) (j := 12) hx hb hn rfl (by omega) (by omega) dX0_admit_6 (tgt := 18) (by decide) (fun c6 => ?_) (fun c6 => ?_)
  · skip
    refine lv_iconst (v := 0) hx hb dX0_admit_18 (by decide) ?_
    exact r_z hx hb hr hlocks rfl hP hS dX0_admit_19 (Or.inl ⟨rfl, rfl, Or.inl c6⟩)
  · skip
    refine lv_aload_n hx hb dX0_admit_9 rfl (lv_at hl 0 rfl) ?_
    refine lv_iload_n hx hb dX0_admit_10 rfl (lv_at hl 1 rfl) ?_
    refine lv_iload_n hx hb dX0_admit_11 rfl (lv_at hl 2 rfl) ?_
    refine k_Vi (As := [.int (w), .int (g)]) (rest := []) ⟨hx, hb, hml, hown, hts⟩ (mtX0_suits l E hok σ o k hk w g) (cwV 2 hts gX0_admit_X0_suits rfl rfl rfl (by decide +kernel) ⟨Nat.le_of_ble_eq_true rfl, Nat.le_of_ble_eq_true rfl⟩) (va_recv hK.K hP (ci := 0) (q0 := k + 2) rfl (at_ch hk)) hK hP hS rfl hl.1 rfl (Nat.le_of_ble_eq_true rfl) dX0_admit_12 ⟨Nat.le_of_ble_eq_true rfl, Nat.le_of_ble_eq_true rfl⟩ (fun r1 σ_2 H locs hr1 hP hS => ?_)
    obtain ⟨rfl, ehr1⟩ := hr1
    rw [ehr1] at hP
    refine lv_if_ne (tgt := 20) hx hb dX0_admit_15 (by decide) (fun c15 => ?_) (fun c15 => ?_)
    · skip
      refine lv_aload_n hx hb dX0_admit_20 rfl (lv_at hl 0 rfl) ?_
      refine lv_iload_n hx hb dX0_admit_21 rfl (lv_at hl 1 rfl) ?_
      refine k_Vi (As := [.int (w)]) (rest := []) ⟨hx, hb, hml, hown, hts⟩ (mtX0_placeFor l E hok σ o k hk n hn h12 w) (cwV 1 hts gX0_admit_X0_placeFor rfl rfl rfl (by decide +kernel) ⟨Nat.le_of_ble_eq_true rfl, Nat.le_of_ble_eq_true rfl⟩) (va_recv hK.K hP (ci := 0) (q0 := k + 2) rfl (at_ch hk)) hK hP hS rfl hl.1 rfl (Nat.le_of_ble_eq_true rfl) dX0_admit_22 ⟨Nat.le_of_ble_eq_true rfl, Nat.le_of_ble_eq_true rfl⟩ (fun r3 σ_4 H locs hr3 hP hS => ?_)
      obtain ⟨⟨q, rfl, hq, hqq⟩, ehr3⟩ := hr3
      rw [ehr3] at hP
      refine lv_istore_n (lv' := [(3, .int (nI (q))), (0, .ref (e_a E (k + 2))), (1, .int (w)), (2, .int (g))]) hx hb dX0_admit_25 rfl hl (by decide) rfl (fun ls hl => ?_)
      refine lv_aload_n hx hb dX0_admit_26 rfl (lv_at hl 1 rfl) ?_
      refine q_get (C := RX0) (T := TX0) (N := 8) (ci := 0) (v := .int (σ (k + 2) 2)) hx hb hts hinX0 hown hK hP (at_ch hk) rfl 2 (by decide) hf35 rfl dX0_admit_27 ?_
      rw [hn]
      refine lv_istore (lv' := [(4, .int (nI (n))), (3, .int (nI (q))), (0, .ref (e_a E (k + 2))), (1, .int (w)), (2, .int (g))]) hx hb dX0_admit_30 hl (by decide) rfl (fun ls hl => ?_)
      have hP : va_P (e_D E) vwCl (wd E (m_sd σ k n n) o) H := by rw [m_sd_0]; exact hP
      refine w_loop (E := E) (o := o) (ι := Nat) (μ := fun p1 => p1) (I := fun p1 => q ≤ p1 ∧ p1 ≤ n) (mem := fun p1 => m_sd σ k p1 n) (lv := fun p1 => [(4, .int (nI (p1))), (3, .int (nI (q))), (0, .ref (e_a E (k + 2))), (1, .int (w)), (2, .int (g))]) (nL := 5) (pch := 32) ?_ (n) (show q ≤ (n) ∧ (n) ≤ n from ⟨hq, Nat.le_refl _⟩) hP hS (lv_sub hl [0, 1, 2, 3, 4] rfl)
      rintro p1 hI IH H locs ls hP hS hl
      have hP : va_P (e_D E) vwCl (wd E (m_sd σ k p1 n) o) H := hP
      have hl : lv_has ls 5 [(4, .int (nI (p1))), (3, .int (nI (q))), (0, .ref (e_a E (k + 2))), (1, .int (w)), (2, .int (g))] := hl
      have hI : q ≤ p1 ∧ p1 ≤ n := hI
      refine lv_iload hx hb dX0_admit_32 (lv_at hl 0 rfl) ?_
      refine lv_iload_n hx hb dX0_admit_34 rfl (lv_at hl 1 rfl) ?_
      refine nb_le (i := p1) (j := q) hx hb rfl rfl (by omega) (by omega) dX0_admit_35 (tgt := 76) (by decide) (fun c35 => ?_) (fun c35 => ?_)
      · skip
        refine lv_aload_n hx hb dX0_admit_76 rfl (lv_at hl 2 rfl) ?_
        refine q_get (C := RX0) (T := TX0) (N := 8) (ci := 0) (v := .ref (e_a E (k + 10))) hx hb hts hinX0 hown hK hP (at_ch hk) rfl 0 (by decide) hf9 rfl dX0_admit_77 ?_
        refine lv_iload_n hx hb dX0_admit_80 rfl (lv_at hl 1 rfl) ?_
        refine lv_iload_n hx hb dX0_admit_81 rfl (lv_at hl 3 rfl) ?_
        refine q_st hx hb hok hK hP hS (at_wt hk) (fun r => (wc_wt (k := k) hk).symm) (by omega) (i := q) rfl (by omega) (by decide) dX0_admit_82 (fun H locs hP hS => ?_)
        refine lv_aload_n hx hb dX0_admit_83 rfl (lv_at hl 2 rfl) ?_
        refine q_get (C := RX0) (T := TX0) (N := 8) (ci := 0) (v := .ref (e_a E (k + 18))) hx hb hts hinX0 hown hK hP (at_ch hk) rfl 1 (by decide) hf15 rfl dX0_admit_84 ?_
        refine lv_iload_n hx hb dX0_admit_87 rfl (lv_at hl 1 rfl) ?_
        refine lv_iload_n hx hb dX0_admit_88 rfl (lv_at hl 4 rfl) ?_
        refine q_st hx hb hok hK hP hS (at_gi hk) (fun r => (wc_gi (k := k) hk).symm) (by omega) (i := q) rfl (by omega) (by decide) dX0_admit_89 (fun H locs hP hS => ?_)
        refine lv_aload_n hx hb dX0_admit_90 rfl (lv_at hl 2 rfl) ?_
        refine lv_dup hx hb dX0_admit_91 rfl ?_
        refine q_get (C := RX0) (T := TX0) (N := 8) (ci := 0) (v := .int ((m_up (m_up (m_sd σ k p1 n) (k + 10) (q) w) (k + 18) (q) g) (k + 2) 2)) hx hb hts hinX0 hown hK hP (at_ch hk) rfl 2 (by decide) hf35 rfl dX0_admit_92 ?_
        refine lv_iconst (v := 1) hx hb dX0_admit_95 (by decide) ?_
        refine lv_iadd hx hb dX0_admit_96 ?_
        refine q_put (C := RX0) (T := TX0) (N := 8) (ci := 0) (ty := .int) (v := ((m_up (m_up (m_sd σ k p1 n) (k + 10) (q) w) (k + 18) (q) g) (k + 2) 2) + 1) hx hb hts hinX0 tyX0 tyX0_ok nmX0 hown hok hK hP hS (at_ch hk) (by omega) rfl 2 (by decide) hf35 rfl (tyX0_ok 2 (by decide)) rfl rfl (Nat.le_of_ble_eq_true rfl) (by rw [wc_ch hk]; rfl) dX0_admit_97 (fun H locs hP hS => ?_)
        refine lv_iconst (v := 1) hx hb dX0_admit_100 (by decide) ?_
        exact r_z hx hb hr hlocks rfl hP hS dX0_admit_101 (Or.inr ⟨rfl, c6, c15, q, ⟨hq, hqq⟩, by
      have hpq : p1 = q := by omega
      subst hpq
      rw [← m_ins_of]
      congr 1
      simp [m_up, m_sd, hn]
      exact nI_1 n⟩)
      · skip
        refine lv_aload_n hx hb dX0_admit_38 rfl (lv_at hl 2 rfl) ?_
        refine q_get (C := RX0) (T := TX0) (N := 8) (ci := 0) (v := .ref (e_a E (k + 10))) hx hb hts hinX0 hown hK hP (at_ch hk) rfl 0 (by decide) hf9 rfl dX0_admit_39 ?_
        refine lv_iload hx hb dX0_admit_42 (lv_at hl 0 rfl) ?_
        refine lv_aload_n hx hb dX0_admit_44 rfl (lv_at hl 2 rfl) ?_
        refine q_get (C := RX0) (T := TX0) (N := 8) (ci := 0) (v := .ref (e_a E (k + 10))) hx hb hts hinX0 hown hK hP (at_ch hk) rfl 0 (by decide) hf9 rfl dX0_admit_45 ?_
        refine lv_iload hx hb dX0_admit_48 (lv_at hl 0 rfl) ?_
        refine lv_iconst (v := 1) hx hb dX0_admit_50 (by decide) ?_
        refine lv_isub hx hb dX0_admit_51 ?_
        refine q_ld hx hb hK hP (at_wt hk) (i := p1 - 1) (by first | exact pk_sub (a := p1) (b := 1) (by omega)) (by omega) (by decide) dX0_admit_52 ?_
        refine q_st hx hb hok hK hP hS (at_wt hk) (fun r => (wc_wt (k := k) hk).symm) (by omega) (i := p1) rfl (by omega) (by decide) dX0_admit_53 (fun H locs hP hS => ?_)
        refine lv_aload_n hx hb dX0_admit_54 rfl (lv_at hl 2 rfl) ?_
        refine q_get (C := RX0) (T := TX0) (N := 8) (ci := 0) (v := .ref (e_a E (k + 18))) hx hb hts hinX0 hown hK hP (at_ch hk) rfl 1 (by decide) hf15 rfl dX0_admit_55 ?_
        refine lv_iload hx hb dX0_admit_58 (lv_at hl 0 rfl) ?_
        refine lv_aload_n hx hb dX0_admit_60 rfl (lv_at hl 2 rfl) ?_
        refine q_get (C := RX0) (T := TX0) (N := 8) (ci := 0) (v := .ref (e_a E (k + 18))) hx hb hts hinX0 hown hK hP (at_ch hk) rfl 1 (by decide) hf15 rfl dX0_admit_61 ?_
        refine lv_iload hx hb dX0_admit_64 (lv_at hl 0 rfl) ?_
        refine lv_iconst (v := 1) hx hb dX0_admit_66 (by decide) ?_
        refine lv_isub hx hb dX0_admit_67 ?_
        refine q_ld hx hb hK hP (at_gi hk) (i := p1 - 1) (by first | exact pk_sub (a := p1) (b := 1) (by omega)) (by omega) (by decide) dX0_admit_68 ?_
        refine q_st hx hb hok hK hP hS (at_gi hk) (fun r => (wc_gi (k := k) hk).symm) (by omega) (i := p1) rfl (by omega) (by decide) dX0_admit_69 (fun H locs hP hS => ?_)
        refine lv_iinc (v := nI (p1 - 1)) (lv' := [(4, .int (nI (p1 - 1))), (3, .int (nI (q))), (0, .ref (e_a E (k + 2))), (1, .int (w)), (2, .int (g))]) hx hb dX0_admit_70 hl (k := 0) rfl (by rw [← sb_m1 (by omega)]; rfl) (by decide) rfl (fun ls hl => ?_)
        refine lv_goto (tgt := 32) hx hb dX0_admit_73 (by decide) ?_
        rw [m_sd_step σ (by omega) hI.2] at hP
        exact IH (p1 - 1) (show q ≤ (p1 - 1) ∧ (p1 - 1) ≤ n from ⟨by omega, by omega⟩) (by (try dsimp only); omega) _ _ _ hP hS (lv_sub hl [0, 1, 2, 3, 4] rfl)
    · skip
      refine lv_iconst (v := 0) hx hb dX0_admit_18 (by decide) ?_
      exact r_z hx hb hr hlocks rfl hP hS dX0_admit_19 (Or.inl ⟨rfl, rfl, Or.inr c15⟩)
end
section
/-- how many parcels each chute holds -/
def okN (σ : Mem) (N : Nat → Nat) : Prop := ∀ k, k < 8 → σ (k + 2) 2 = nI (N k) ∧ N k ≤ 12
def asC (σ : Mem) (w g : Int32) : Mem := m_up (m_up (m_up σ 0 7 (σ 0 7 + 1)) 0 8 w) 0 9 g
def gl (w x : Int32) : Int32 := if x = 0 then w else if hd w x 1 = 0 then x else w
def gh (w x : Int32) : Int32 := if x = 0 then w else if hd w x 4 = 0 then x else w
def stk (w b z : Int32) : Int32 := if hd w b 1 = 0 then z + 1 else 1
def rgC (σ : Mem) (w g : Int32) : Mem := m_up (m_up (m_up (m_up (m_up (m_up σ 0 1 (gl w (σ 0 1))) 0 2 (gh w (σ 0 2))) 0 3 (gh g (σ 0 3))) 0 4 (stk w (σ 0 6) (σ 0 4))) 0 6 w) 0 5 (σ 0 5 + 1)
theorem m_up_self (σ : Mem) (j i : Nat) : m_up σ j i (σ j i) = σ := by
  funext a b
  rw [m_up_get]
  by_cases h : a = j ∧ b = i
  · rw [if_pos h, h.1, h.2]
  · rw [if_neg h]
def isCh (x : Int32) : Prop := ∃ k : Nat, k < 8 ∧ x = nI k
def okW (v : Int32) : Prop := ¬ v < 0 ∧ v ≤ 800000
def okG (v : Int32) : Prop := ¬ v < 0 ∧ v ≤ 16000
def m_lim (σ : Mem) (k : Nat) (a b c : Int32) : Mem := m_up (m_up (m_up σ (k + 2) 4 a) (k + 2) 5 b) (k + 2) 6 c
def n3 (a b c : Int32) : Int32 := b1 (b1 a) + b1 (b1 b) + b1 (b1 c)
theorem ch_inj {a b : Nat} (ha : a < 8) (hb : b < 8) (h : nI a = nI b) : a = b := (nI_eq (by omega) (by omega)).mp h
/-- a chute takes a parcel -/
def takes (σ : Mem) (N : Nat → Nat) (w g : Int32) (k : Nat) : Prop := σ (k + 2) 7 = 0 ∧ N k < 12 ∧ fitC (σ (k + 2) 3) (σ (k + 2) 4) (σ (k + 2) 5) (σ (k + 2) 6) w g ≠ 0
/-- the place for a weight in chute k of n parcels -/
def plq (σ : Mem) (k n : Nat) (w : Int32) (q : Nat) : Prop := q ≤ n ∧ ((w = 0 ∧ q = n) ∨ (w ≠ 0 ∧ (∀ a, a < q → hd (σ (k + 10) a) w 2 ≠ 0) ∧ (q < n → hd (σ (k + 10) q) w 2 = 0)))
theorem okN_rgC {σ : Mem} {N : Nat → Nat} (h : okN σ N) (w g : Int32) : okN (rgC σ w g) N := fun k hk => by
  simp only [rgC, m_up_get]
  simp
  exact h k hk
def ftb (σ : Mem) (w g : Int32) : Nat → Int32
  | 0 => 0
  | k + 1 => if fitC (σ (k + 2) 3) (σ (k + 2) 4) (σ (k + 2) 5) (σ (k + 2) 6) w g = 0 then ftb σ w g k else ftb σ w g k ||| ((1 : Int32) <<< (nI k &&& 31))
def blw (r : Nat → Int32) (w : Int32) : Nat → Int32
  | 0 => 0
  | n + 1 => blw r w n + b1 (hd (r n) w 1)
def okV (v : Int32) : Prop := ¬ v < 0 ∧ v ≤ 7
theorem okV_j {v : Int32} {j : Nat} (hj : j < 8) (h : v = nI j) : okV v := by
  subst h
  exact ⟨nI_pos (by omega), (show nI j ≤ nI 7 from nI_le (by omega) (by decide))⟩
theorem okV_of {v : Int32} (h : okV v) : ∃ j : Nat, j < 8 ∧ v = nI j := by
  obtain ⟨j, hj, rfl⟩ := nI_of2 (n := 7) (M := 7) rfl h.1 h.2
  exact ⟨j, by omega, rfl⟩
theorem okV_no {v : Int32} (h0 : ¬ v = 0) (h1 : ¬ v = 1) (h2 : ¬ v = 2) (h3 : ¬ v = 3) (h4 : ¬ v = 4) (h5 : ¬ v = 5) (h6 : ¬ v = 6) (h7 : ¬ v = 7) : ¬ okV v := fun h => by
  obtain ⟨j, hj, rfl⟩ := okV_of h
  match j, hj with
  | 0, _ => exact h0 rfl
  | 1, _ => exact h1 rfl
  | 2, _ => exact h2 rfl
  | 3, _ => exact h3 rfl
  | 4, _ => exact h4 rfl
  | 5, _ => exact h5 rfl
  | 6, _ => exact h6 rfl
  | 7, _ => exact h7 rfl
def chC (σ : Mem) (N : Nat → Nat) (k : Nat) (v : Int32) : Int32 := if v = 0 then σ (k + 2) 3 else if v = 1 then σ (k + 2) 4 else if v = 2 then σ (k + 2) 5 else if v = 3 then σ (k + 2) 6 else if v = 4 then b1 (σ (k + 2) 7) else if v = 5 then σ (k + 2) 2 else if v = 6 then nI (cz (σ (k + 10)) (N k)) else nI (cz (σ (k + 18)) (N k))
def gC (σ : Mem) (v : Int32) : Int32 := if v = 0 then σ 0 1 else if v = 1 then σ 0 2 else if v = 2 then σ 0 3 else if v = 3 then σ 0 4 else if v = 4 then σ 0 5 else if v = 5 then σ 0 7 else if v = 6 then σ 0 8 else σ 0 9
theorem pl_of {v y : Int32} {n : Nat} (hy : y = nI n) (hn : n ≤ 12) (h : ¬ v < 0 ∧ v < y) : ∃ q : Nat, q < n ∧ v = nI q := by
  obtain ⟨j, hj, rfl⟩ := nI_of h.1
  exact ⟨j, (nI_ltI hj (by omega)).mp (hy ▸ h.2), rfl⟩
theorem pl_to {v y : Int32} {n q : Nat} (hy : y = nI n) (hn : n ≤ 12) (hq : q < n) (hv : v = nI q) : ¬ v < 0 ∧ v < y := by
  subst hv; subst hy
  exact ⟨nI_pos (by omega), nI_lt hq (by omega)⟩
theorem min_I {a b : Nat} {x y : Int32} (hx : x = nI a) (hy : y = nI b) (ha : a ≤ 12) (hb : b ≤ 12) : (if y < x then y else x) = nI (min a b) := by
  subst hx; subst hy
  by_cases h : b < a
  · rw [if_pos (nI_lt h (by omega)), Nat.min_eq_right (by omega)]
  · rw [if_neg (nI_nlt (by omega) (by omega)), Nat.min_eq_left (by omega)]
def cmC (a b : Int32) : Int32 := if hd a b 4 = 0 then (if hd a b 1 = 0 then (if hd a b 16 = 0 then 2 else 0) else -1) else 1
def addN (N : Nat → Nat) (k : Nat) : Nat → Nat := fun j => if j = k then N k + 1 else N j
def subN (N : Nat → Nat) (k : Nat) : Nat → Nat := fun j => if j = k then N k - 1 else N j
theorem okN_ins {σ : Mem} {N : Nat → Nat} (h : okN σ N) {k q : Nat} {w g : Int32} (hk : k < 8) (hlt : N k < 12) : okN (m_ins σ k q (N k) w g) (addN N k) := fun j hj => by
  by_cases e : j = k
  · subst e
    simp [m_ins, addN, upd]
    omega
  · have e2 : ¬ j + 2 = k + 2 := by omega
    have e3 : ¬ j + 2 = k + 10 := by omega
    have e4 : ¬ j + 2 = k + 18 := by omega
    simp only [m_ins, addN, if_neg e, if_neg e2, if_neg e3, if_neg e4]
    exact h j hj
theorem okN_rem {σ : Mem} {N : Nat → Nat} (h : okN σ N) {k q : Nat} (hk : k < 8) : okN (m_rem σ k q (N k)) (subN N k) := fun j hj => by
  by_cases e : j = k
  · subst e
    have := (h j hj).2
    simp [m_rem, m_sh, subN, upd]
    omega
  · have e2 : ¬ j + 2 = k + 2 := by omega
    have e3 : ¬ j + 2 = k + 10 := by omega
    have e4 : ¬ j + 2 = k + 18 := by omega
    simp only [m_rem, m_sh, subN, if_neg e, if_neg e2, if_neg e3, if_neg e4]
    exact h j hj
theorem okN_asC {σ : Mem} {N : Nat → Nat} (h : okN σ N) (w g : Int32) : okN (asC σ w g) N := fun k hk => by
  simp only [asC, m_up_get]
  simp
  exact h k hk
/-- one parcel of chute a is offered to chute b -/
def pstep (a b : Nat) (σ : Mem) (N : Nat → Nat) (p : Nat) (σ' : Mem) (N' : Nat → Nat) (p' : Nat) : Prop :=
  ((12 ≤ N b ∨ fitC (σ (b + 2) 3) (σ (b + 2) 4) (σ (b + 2) 5) (σ (b + 2) 6) (σ (a + 10) p) (σ (a + 18) p) = 0) ∧ σ' = σ ∧ N' = N ∧ p' = p + 1) ∨
  (N b < 12 ∧ fitC (σ (b + 2) 3) (σ (b + 2) 4) (σ (b + 2) 5) (σ (b + 2) 6) (σ (a + 10) p) (σ (a + 18) p) ≠ 0 ∧ ∃ q : Nat, plq σ b (N b) (σ (a + 10) p) q ∧ σ' = m_rem (m_ins σ b q (N b) (σ (a + 10) p) (σ (a + 18) p)) a p (N a) ∧ N' = subN (addN N b) a ∧ p' = p)
def psteps (a b : Nat) : Nat → Mem → (Nat → Nat) → Nat → Mem → (Nat → Nat) → Nat → Prop
  | 0, σ, N, p, σ', N', p' => σ' = σ ∧ N' = N ∧ p' = p
  | t + 1, σ, N, p, σ', N', p' => ∃ (σ1 : Mem) (N1 : Nat → Nat) (p1 : Nat), psteps a b t σ N p σ1 N1 p1 ∧ pstep a b σ1 N1 p1 σ' N' p'
/-- one parcel of chute a is looked at by its own chute -/
def sstep (a : Nat) (σ : Mem) (N : Nat → Nat) (p : Nat) (σ' : Mem) (N' : Nat → Nat) (p' : Nat) : Prop :=
  (fitC (σ (a + 2) 3) (σ (a + 2) 4) (σ (a + 2) 5) (σ (a + 2) 6) (σ (a + 10) p) (σ (a + 18) p) ≠ 0 ∧ σ' = σ ∧ N' = N ∧ p' = p + 1) ∨
  (fitC (σ (a + 2) 3) (σ (a + 2) 4) (σ (a + 2) 5) (σ (a + 2) 6) (σ (a + 10) p) (σ (a + 18) p) = 0 ∧ σ' = m_rem (asC σ (σ (a + 10) p) (σ (a + 18) p)) a p (N a) ∧ N' = subN N a ∧ p' = p)
def ssteps (a : Nat) : Nat → Mem → (Nat → Nat) → Nat → Mem → (Nat → Nat) → Nat → Prop
  | 0, σ, N, p, σ', N', p' => σ' = σ ∧ N' = N ∧ p' = p
  | t + 1, σ, N, p, σ', N', p' => ∃ (σ1 : Mem) (N1 : Nat → Nat) (p1 : Nat), ssteps a t σ N p σ1 N1 p1 ∧ sstep a σ1 N1 p1 σ' N' p'
theorem gl_0 {w x : Int32} (h : x = 0) : gl w x = w := by unfold gl; rw [if_pos h]
theorem gl_k {w x : Int32} (h : ¬ x = 0) (h2 : hd w x 1 = 0) : gl w x = x := by unfold gl; rw [if_neg h, if_pos h2]
theorem gl_w {w x : Int32} (h : ¬ x = 0) (h2 : ¬ hd w x 1 = 0) : gl w x = w := by unfold gl; rw [if_neg h, if_neg h2]
theorem gh_0 {w x : Int32} (h : x = 0) : gh w x = w := by unfold gh; rw [if_pos h]
theorem gh_k {w x : Int32} (h : ¬ x = 0) (h2 : hd w x 4 = 0) : gh w x = x := by unfold gh; rw [if_neg h, if_pos h2]
theorem gh_w {w x : Int32} (h : ¬ x = 0) (h2 : ¬ hd w x 4 = 0) : gh w x = w := by unfold gh; rw [if_neg h, if_neg h2]
end
section
set_option maxHeartbeats 4000000 in
set_option maxRecDepth 100000 in
/-- putAside -/
theorem mtX1_putAside (l : Launch) (E : Ev) (hok : e_ok E) (σ : Mem) (o : Nat → Int64) (w g : Int32) : Met l yX1_putAside wsX1_putAside ({ frames := 0, cells := 0, slots := 0, locals := 0 } : Room) (PW E σ o [.ref (e_a E (0)), .int (w), .int (g)]) (va_Qv (fun (σ' : Mem) => σ' = asC σ w g) (BW E o) (LB (e_B E))) 0 0 (LB (e_B E)) := by
  refine Met.ofW (cc := cX1_putAside) (maxL := 3) (ret := none) (by decide) rfl ?_
  intro p e s m args below meth c s₁ B hml hv
  obtain ⟨rfl, hP, hK⟩ := hv
  have hx := B.exec
  have hb := B.bytes
  have hr := B.returns
  have hts := atoms_spec (ws := wsX1_putAside) B.pre
  have hown : s.vm.findClass RX1 = some m.cls := findClass_of_methodNamed B.named
  have hlocks := B.notSynchronized
  have hS : va_S (LB (e_B E)) s.heap s.heap [] := va_S.rf
  have hinX1 : ∀ w ∈ wsX10, w ∈ wsX1_putAside := fun w h => by simp only [wsX1_putAside, List.mem_cons, List.mem_append, h, or_true, true_or]
  have hf137 := hts (.fieldLink RX1 137 "ParcelChutes" "asideCount" "I") (by decide +kernel)
  have hf140 := hts (.fieldLink RX1 140 "ParcelChutes" "asideWeight" "I") (by decide +kernel)
  have hf143 := hts (.fieldLink RX1 143 "ParcelChutes" "asideGirth" "I") (by decide +kernel)
  have hl := lv_entry ([.ref (e_a E (0)), .int (w), .int (g)]) (n := 3) (Nat.le_of_ble_eq_true rfl)
  rw [lg_entry_eq]
  generalize (lg_sl ([.ref (e_a E (0)), .int (w), .int (g)]) ++ List.replicate (3 - (lg_sl ([.ref (e_a E (0)), .int (w), .int (g)])).length) Slot.unset).toArray = ls at hl ⊢
  have hl : lv_has ls 3 [(0, .ref (e_a E (0))), (1, .int (w)), (2, .int (g))] := hl
  refine lv_aload_n hx hb dX1_putAside_0 rfl (lv_at hl 0 rfl) ?_
  refine lv_dup hx hb dX1_putAside_1 rfl ?_
  refine q_get (C := RX1) (T := TX1) (N := 10) (ci := 1) (v := .int (σ (0) 7)) hx hb hts hinX1 hown hK hP at_0 rfl 7 (by decide) hf137 rfl dX1_putAside_2 ?_
  refine lv_iconst (v := 1) hx hb dX1_putAside_5 (by decide) ?_
  refine lv_iadd hx hb dX1_putAside_6 ?_
  refine q_put (C := RX1) (T := TX1) (N := 10) (ci := 1) (ty := .int) (v := (σ (0) 7) + 1) hx hb hts hinX1 tyX1 tyX1_ok nmX1 hown hok hK hP hS at_0 (by decide) rfl 7 (by decide) hf137 rfl (tyX1_ok 7 (by decide)) rfl rfl (Nat.le_of_ble_eq_true rfl) rfl dX1_putAside_7 (fun H locs hP hS => ?_)
  refine lv_aload_n hx hb dX1_putAside_10 rfl (lv_at hl 0 rfl) ?_
  refine lv_iload_n hx hb dX1_putAside_11 rfl (lv_at hl 1 rfl) ?_
  refine q_put (C := RX1) (T := TX1) (N := 10) (ci := 1) (ty := .int) (v := w) hx hb hts hinX1 tyX1 tyX1_ok nmX1 hown hok hK hP hS at_0 (by decide) rfl 8 (by decide) hf140 rfl (tyX1_ok 8 (by decide)) rfl rfl (Nat.le_of_ble_eq_true rfl) rfl dX1_putAside_12 (fun H locs hP hS => ?_)
  refine lv_aload_n hx hb dX1_putAside_15 rfl (lv_at hl 0 rfl) ?_
  refine lv_iload_n hx hb dX1_putAside_16 rfl (lv_at hl 2 rfl) ?_
  refine q_put (C := RX1) (T := TX1) (N := 10) (ci := 1) (ty := .int) (v := g) hx hb hts hinX1 tyX1 tyX1_ok nmX1 hown hok hK hP hS at_0 (by decide) rfl 9 (by decide) hf143 rfl (tyX1_ok 9 (by decide)) rfl rfl (Nat.le_of_ble_eq_true rfl) rfl dX1_putAside_17 (fun H locs hP hS => ?_)
  exact r_v hx hb hr hlocks hP hS dX1_putAside_20 rfl
set_option maxHeartbeats 4000000 in
set_option maxRecDepth 100000 in
/-- readGauges -/
theorem mtX1_readGauges (l : Launch) (E : Ev) (hok : e_ok E) (σ : Mem) (o : Nat → Int64) (w g : Int32) : Met l yX1_readGauges wsX1_readGauges ({ frames := 2, cells := 0, slots := 0, locals := 43 } : Room) (PW E σ o [.ref (e_a E (0)), .int (w), .int (g)]) (va_Qv (fun (σ' : Mem) => σ' = rgC σ w g) (BW E o) (LB (e_B E))) 0 0 (LB (e_B E)) := by
  refine Met.ofW (cc := cX1_readGauges) (maxL := 3) (ret := none) (by decide) rfl ?_
  intro p e s m args below meth c s₁ B hml hv
  obtain ⟨rfl, hP, hK⟩ := hv
  have hx := B.exec
  have hb := B.bytes
  have hr := B.returns
  have hts := atoms_spec (ws := wsX1_readGauges) B.pre
  have hown : s.vm.findClass RX1 = some m.cls := findClass_of_methodNamed B.named
  have hlocks := B.notSynchronized
  have hS : va_S (LB (e_B E)) s.heap s.heap [] := va_S.rf
  have hinX1 : ∀ w ∈ wsX10, w ∈ wsX1_readGauges := fun w h => by simp only [wsX1_readGauges, List.mem_cons, List.mem_append, h, or_true, true_or]
  have hf122 := hts (.fieldLink RX1 122 "ParcelChutes" "lightest" "I") (by decide +kernel)
  have hf125 := hts (.fieldLink RX1 125 "ParcelChutes" "heaviest" "I") (by decide +kernel)
  have hf128 := hts (.fieldLink RX1 128 "ParcelChutes" "widest" "I") (by decide +kernel)
  have hf131 := hts (.fieldLink RX1 131 "ParcelChutes" "streak" "I") (by decide +kernel)
  have hf134 := hts (.fieldLink RX1 134 "ParcelChutes" "came" "I") (by decide +kernel)
  have hf151 := hts (.fieldLink RX1 151 "ParcelChutes" "latestWeight" "I") (by decide +kernel)
  have hl := lv_entry ([.ref (e_a E (0)), .int (w), .int (g)]) (n := 3) (Nat.le_of_ble_eq_true rfl)
  rw [lg_entry_eq]
  generalize (lg_sl ([.ref (e_a E (0)), .int (w), .int (g)]) ++ List.replicate (3 - (lg_sl ([.ref (e_a E (0)), .int (w), .int (g)])).length) Slot.unset).toArray = ls at hl ⊢
  have hl : lv_has ls 3 [(0, .ref (e_a E (0))), (1, .int (w)), (2, .int (g))] := hl
  refine cut_m (ls := ls) (E := E) (o := o) (pcj := 24) (rest := []) (P := fun z : Mem => z = m_up σ 0 1 (gl w (σ 0 1))) ?_ (fun J24 => ?_)
  · intro σ_1 H locs eσ_1 hP hS
    subst eσ_1
    refine cut_m (ls := ls) (E := E) (o := o) (pcj := 48) (rest := []) (P := fun z : Mem => z = m_up (m_up σ 0 1 (gl w (σ 0 1))) 0 2 (gh w ((m_up σ 0 1 (gl w (σ 0 1))) 0 2))) ?_ (fun J48 => ?_)
    · intro σ_2 H locs eσ_2 hP hS
      subst eσ_2
      refine cut_m (ls := ls) (E := E) (o := o) (pcj := 72) (rest := []) (P := fun z : Mem => z = m_up (m_up (m_up σ 0 1 (gl w (σ 0 1))) 0 2 (gh w ((m_up σ 0 1 (gl w (σ 0 1))) 0 2))) 0 3 (gh g ((m_up (m_up σ 0 1 (gl w (σ 0 1))) 0 2 (gh w ((m_up σ 0 1 (gl w (σ 0 1))) 0 2))) 0 3))) ?_ (fun J72 => ?_)
      · intro σ_3 H locs eσ_3 hP hS
        subst eσ_3
        refine lv_aload_n hx hb dX1_readGauges_72 rfl (lv_at hl 0 rfl) ?_
        refine lv_iload_n hx hb dX1_readGauges_73 rfl (lv_at hl 1 rfl) ?_
        refine lv_iconst (v := 1) hx hb dX1_readGauges_74 (by decide) ?_
        refine lv_aload_n hx hb dX1_readGauges_75 rfl (lv_at hl 0 rfl) ?_
        refine q_get (C := RX1) (T := TX1) (N := 10) (ci := 1) (v := .int ((m_up (m_up (m_up σ 0 1 (gl w (σ 0 1))) 0 2 (gh w ((m_up σ 0 1 (gl w (σ 0 1))) 0 2))) 0 3 (gh g ((m_up (m_up σ 0 1 (gl w (σ 0 1))) 0 2 (gh w ((m_up σ 0 1 (gl w (σ 0 1))) 0 2))) 0 3))) (0) 6)) hx hb hts hinX1 hown hK hP at_0 rfl 6 (by decide) hf151 rfl dX1_readGauges_76 ?_
        refine k_Si (As := [.int (w), .int (1), .int ((m_up (m_up (m_up σ 0 1 (gl w (σ 0 1))) 0 2 (gh w ((m_up σ 0 1 (gl w (σ 0 1))) 0 2))) 0 3 (gh g ((m_up (m_up σ 0 1 (gl w (σ 0 1))) 0 2 (gh w ((m_up σ 0 1 (gl w (σ 0 1))) 0 2))) 0 3))) (0) 6)]) (rest := [.ref (e_a E (0))]) ⟨hx, hb, hml, hown, hts⟩ (mtX1_holds l w 1 ((m_up (m_up (m_up σ 0 1 (gl w (σ 0 1))) 0 2 (gh w ((m_up σ 0 1 (gl w (σ 0 1))) 0 2))) 0 3 (gh g ((m_up (m_up σ 0 1 (gl w (σ 0 1))) 0 2 (gh w ((m_up σ 0 1 (gl w (σ 0 1))) 0 2))) 0 3))) (0) 6)) (va_cwS 3 hts gX1_readGauges_X1_holds rfl rfl rfl (by decide +kernel) ⟨Nat.le_of_ble_eq_true rfl, Nat.le_of_ble_eq_true rfl⟩) rfl hl.1 rfl (Nat.le_of_ble_eq_true rfl) dX1_readGauges_79 ⟨Nat.le_of_ble_eq_true rfl, Nat.le_of_ble_eq_true rfl⟩ (fun r4 er4 => ?_)
        subst er4
        refine cut_i (ls := ls) (pcj := 95) (rest := [.ref (e_a E (0))]) (P := fun v : Int32 => v = stk w ((m_up (m_up (m_up σ 0 1 (gl w (σ 0 1))) 0 2 (gh w ((m_up σ 0 1 (gl w (σ 0 1))) 0 2))) 0 3 (gh g ((m_up (m_up σ 0 1 (gl w (σ 0 1))) 0 2 (gh w ((m_up σ 0 1 (gl w (σ 0 1))) 0 2))) 0 3))) 0 6) ((m_up (m_up (m_up σ 0 1 (gl w (σ 0 1))) 0 2 (gh w ((m_up σ 0 1 (gl w (σ 0 1))) 0 2))) 0 3 (gh g ((m_up (m_up σ 0 1 (gl w (σ 0 1))) 0 2 (gh w ((m_up σ 0 1 (gl w (σ 0 1))) 0 2))) 0 3))) 0 4)) ?_ (fun J95 => ?_)
        · intro v5 ev5
          subst ev5
          refine q_put (C := RX1) (T := TX1) (N := 10) (ci := 1) (ty := .int) (v := stk w ((m_up (m_up (m_up σ 0 1 (gl w (σ 0 1))) 0 2 (gh w ((m_up σ 0 1 (gl w (σ 0 1))) 0 2))) 0 3 (gh g ((m_up (m_up σ 0 1 (gl w (σ 0 1))) 0 2 (gh w ((m_up σ 0 1 (gl w (σ 0 1))) 0 2))) 0 3))) 0 6) ((m_up (m_up (m_up σ 0 1 (gl w (σ 0 1))) 0 2 (gh w ((m_up σ 0 1 (gl w (σ 0 1))) 0 2))) 0 3 (gh g ((m_up (m_up σ 0 1 (gl w (σ 0 1))) 0 2 (gh w ((m_up σ 0 1 (gl w (σ 0 1))) 0 2))) 0 3))) 0 4)) hx hb hts hinX1 tyX1 tyX1_ok nmX1 hown hok hK hP hS at_0 (by decide) rfl 4 (by decide) hf131 rfl (tyX1_ok 4 (by decide)) rfl rfl (Nat.le_of_ble_eq_true rfl) rfl dX1_readGauges_95 (fun H locs hP hS => ?_)
          refine lv_aload_n hx hb dX1_readGauges_98 rfl (lv_at hl 0 rfl) ?_
          refine lv_iload_n hx hb dX1_readGauges_99 rfl (lv_at hl 1 rfl) ?_
          refine q_put (C := RX1) (T := TX1) (N := 10) (ci := 1) (ty := .int) (v := w) hx hb hts hinX1 tyX1 tyX1_ok nmX1 hown hok hK hP hS at_0 (by decide) rfl 6 (by decide) hf151 rfl (tyX1_ok 6 (by decide)) rfl rfl (Nat.le_of_ble_eq_true rfl) rfl dX1_readGauges_100 (fun H locs hP hS => ?_)
          refine lv_aload_n hx hb dX1_readGauges_103 rfl (lv_at hl 0 rfl) ?_
          refine lv_dup hx hb dX1_readGauges_104 rfl ?_
          refine q_get (C := RX1) (T := TX1) (N := 10) (ci := 1) (v := .int ((m_up (m_up (m_up (m_up (m_up σ 0 1 (gl w (σ 0 1))) 0 2 (gh w ((m_up σ 0 1 (gl w (σ 0 1))) 0 2))) 0 3 (gh g ((m_up (m_up σ 0 1 (gl w (σ 0 1))) 0 2 (gh w ((m_up σ 0 1 (gl w (σ 0 1))) 0 2))) 0 3))) (0) 4 (stk w ((m_up (m_up (m_up σ 0 1 (gl w (σ 0 1))) 0 2 (gh w ((m_up σ 0 1 (gl w (σ 0 1))) 0 2))) 0 3 (gh g ((m_up (m_up σ 0 1 (gl w (σ 0 1))) 0 2 (gh w ((m_up σ 0 1 (gl w (σ 0 1))) 0 2))) 0 3))) 0 6) ((m_up (m_up (m_up σ 0 1 (gl w (σ 0 1))) 0 2 (gh w ((m_up σ 0 1 (gl w (σ 0 1))) 0 2))) 0 3 (gh g ((m_up (m_up σ 0 1 (gl w (σ 0 1))) 0 2 (gh w ((m_up σ 0 1 (gl w (σ 0 1))) 0 2))) 0 3))) 0 4))) (0) 6 w) (0) 5)) hx hb hts hinX1 hown hK hP at_0 rfl 5 (by decide) hf134 rfl dX1_readGauges_105 ?_
          refine lv_iconst (v := 1) hx hb dX1_readGauges_108 (by decide) ?_
          refine lv_iadd hx hb dX1_readGauges_109 ?_
          refine q_put (C := RX1) (T := TX1) (N := 10) (ci := 1) (ty := .int) (v := ((m_up (m_up (m_up (m_up (m_up σ 0 1 (gl w (σ 0 1))) 0 2 (gh w ((m_up σ 0 1 (gl w (σ 0 1))) 0 2))) 0 3 (gh g ((m_up (m_up σ 0 1 (gl w (σ 0 1))) 0 2 (gh w ((m_up σ 0 1 (gl w (σ 0 1))) 0 2))) 0 3))) (0) 4 (stk w ((m_up (m_up (m_up σ 0 1 (gl w (σ 0 1))) 0 2 (gh w ((m_up σ 0 1 (gl w (σ 0 1))) 0 2))) 0 3 (gh g ((m_up (m_up σ 0 1 (gl w (σ 0 1))) 0 2 (gh w ((m_up σ 0 1 (gl w (σ 0 1))) 0 2))) 0 3))) 0 6) ((m_up (m_up (m_up σ 0 1 (gl w (σ 0 1))) 0 2 (gh w ((m_up σ 0 1 (gl w (σ 0 1))) 0 2))) 0 3 (gh g ((m_up (m_up σ 0 1 (gl w (σ 0 1))) 0 2 (gh w ((m_up σ 0 1 (gl w (σ 0 1))) 0 2))) 0 3))) 0 4))) (0) 6 w) (0) 5) + 1) hx hb hts hinX1 tyX1 tyX1_ok nmX1 hown hok hK hP hS at_0 (by decide) rfl 5 (by decide) hf134 rfl (tyX1_ok 5 (by decide)) rfl rfl (Nat.le_of_ble_eq_true rfl) rfl dX1_readGauges_110 (fun H locs hP hS => ?_)
          exact r_v hx hb hr hlocks hP hS dX1_readGauges_113 (by simp [rgC, m_up_get])
        refine lv_if_eq (tgt := 89) hx hb dX1_readGauges_82 (by decide) (fun c82 => ?_) (fun c82 => ?_)
        · skip
          refine lv_aload_n hx hb dX1_readGauges_89 rfl (lv_at hl 0 rfl) ?_
          refine q_get (C := RX1) (T := TX1) (N := 10) (ci := 1) (v := .int ((m_up (m_up (m_up σ 0 1 (gl w (σ 0 1))) 0 2 (gh w ((m_up σ 0 1 (gl w (σ 0 1))) 0 2))) 0 3 (gh g ((m_up (m_up σ 0 1 (gl w (σ 0 1))) 0 2 (gh w ((m_up σ 0 1 (gl w (σ 0 1))) 0 2))) 0 3))) (0) 4)) hx hb hts hinX1 hown hK hP at_0 rfl 4 (by decide) hf131 rfl dX1_readGauges_90 ?_
          refine lv_iconst (v := 1) hx hb dX1_readGauges_93 (by decide) ?_
          refine lv_iadd hx hb dX1_readGauges_94 ?_
          exact J95 _ (by simp [stk, c82])
        · skip
          refine lv_iconst (v := 1) hx hb dX1_readGauges_85 (by decide) ?_
          refine lv_goto (tgt := 95) hx hb dX1_readGauges_86 (by decide) ?_
          exact J95 _ (by simp [stk, c82])
      refine lv_aload_n hx hb dX1_readGauges_48 rfl (lv_at hl 0 rfl) ?_
      refine q_get (C := RX1) (T := TX1) (N := 10) (ci := 1) (v := .int ((m_up (m_up σ 0 1 (gl w (σ 0 1))) 0 2 (gh w ((m_up σ 0 1 (gl w (σ 0 1))) 0 2))) (0) 3)) hx hb hts hinX1 hown hK hP at_0 rfl 3 (by decide) hf128 rfl dX1_readGauges_49 ?_
      refine lv_if_eq (tgt := 67) hx hb dX1_readGauges_52 (by decide) (fun c52 => ?_) (fun c52 => ?_)
      · skip
        refine lv_aload_n hx hb dX1_readGauges_67 rfl (lv_at hl 0 rfl) ?_
        refine lv_iload_n hx hb dX1_readGauges_68 rfl (lv_at hl 2 rfl) ?_
        refine q_put (C := RX1) (T := TX1) (N := 10) (ci := 1) (ty := .int) (v := g) hx hb hts hinX1 tyX1 tyX1_ok nmX1 hown hok hK hP hS at_0 (by decide) rfl 3 (by decide) hf128 rfl (tyX1_ok 3 (by decide)) rfl rfl (Nat.le_of_ble_eq_true rfl) rfl dX1_readGauges_69 (fun H locs hP hS => ?_)
        exact J72 _ _ _ (by rw [gh_0 c52]) hP hS
      · skip
        refine lv_iload_n hx hb dX1_readGauges_55 rfl (lv_at hl 2 rfl) ?_
        refine lv_iconst (v := 4) hx hb dX1_readGauges_56 (by decide) ?_
        refine lv_aload_n hx hb dX1_readGauges_57 rfl (lv_at hl 0 rfl) ?_
        refine q_get (C := RX1) (T := TX1) (N := 10) (ci := 1) (v := .int ((m_up (m_up σ 0 1 (gl w (σ 0 1))) 0 2 (gh w ((m_up σ 0 1 (gl w (σ 0 1))) 0 2))) (0) 3)) hx hb hts hinX1 hown hK hP at_0 rfl 3 (by decide) hf128 rfl dX1_readGauges_58 ?_
        refine k_Si (As := [.int (g), .int (4), .int ((m_up (m_up σ 0 1 (gl w (σ 0 1))) 0 2 (gh w ((m_up σ 0 1 (gl w (σ 0 1))) 0 2))) (0) 3)]) (rest := []) ⟨hx, hb, hml, hown, hts⟩ (mtX1_holds l g 4 ((m_up (m_up σ 0 1 (gl w (σ 0 1))) 0 2 (gh w ((m_up σ 0 1 (gl w (σ 0 1))) 0 2))) (0) 3)) (va_cwS 3 hts gX1_readGauges_X1_holds rfl rfl rfl (by decide +kernel) ⟨Nat.le_of_ble_eq_true rfl, Nat.le_of_ble_eq_true rfl⟩) rfl hl.1 rfl (Nat.le_of_ble_eq_true rfl) dX1_readGauges_61 ⟨Nat.le_of_ble_eq_true rfl, Nat.le_of_ble_eq_true rfl⟩ (fun r6 er6 => ?_)
        subst er6
        refine lv_if_eq (tgt := 72) hx hb dX1_readGauges_64 (by decide) (fun c64 => ?_) (fun c64 => ?_)
        · skip
          exact J72 _ _ _ (by rw [gh_k c52 c64, m_up_self]) hP hS
        · skip
          refine lv_aload_n hx hb dX1_readGauges_67 rfl (lv_at hl 0 rfl) ?_
          refine lv_iload_n hx hb dX1_readGauges_68 rfl (lv_at hl 2 rfl) ?_
          refine q_put (C := RX1) (T := TX1) (N := 10) (ci := 1) (ty := .int) (v := g) hx hb hts hinX1 tyX1 tyX1_ok nmX1 hown hok hK hP hS at_0 (by decide) rfl 3 (by decide) hf128 rfl (tyX1_ok 3 (by decide)) rfl rfl (Nat.le_of_ble_eq_true rfl) rfl dX1_readGauges_69 (fun H locs hP hS => ?_)
          exact J72 _ _ _ (by rw [gh_w c52 c64]) hP hS
    refine lv_aload_n hx hb dX1_readGauges_24 rfl (lv_at hl 0 rfl) ?_
    refine q_get (C := RX1) (T := TX1) (N := 10) (ci := 1) (v := .int ((m_up σ 0 1 (gl w (σ 0 1))) (0) 2)) hx hb hts hinX1 hown hK hP at_0 rfl 2 (by decide) hf125 rfl dX1_readGauges_25 ?_
    refine lv_if_eq (tgt := 43) hx hb dX1_readGauges_28 (by decide) (fun c28 => ?_) (fun c28 => ?_)
    · skip
      refine lv_aload_n hx hb dX1_readGauges_43 rfl (lv_at hl 0 rfl) ?_
      refine lv_iload_n hx hb dX1_readGauges_44 rfl (lv_at hl 1 rfl) ?_
      refine q_put (C := RX1) (T := TX1) (N := 10) (ci := 1) (ty := .int) (v := w) hx hb hts hinX1 tyX1 tyX1_ok nmX1 hown hok hK hP hS at_0 (by decide) rfl 2 (by decide) hf125 rfl (tyX1_ok 2 (by decide)) rfl rfl (Nat.le_of_ble_eq_true rfl) rfl dX1_readGauges_45 (fun H locs hP hS => ?_)
      exact J48 _ _ _ (by rw [gh_0 c28]) hP hS
    · skip
      refine lv_iload_n hx hb dX1_readGauges_31 rfl (lv_at hl 1 rfl) ?_
      refine lv_iconst (v := 4) hx hb dX1_readGauges_32 (by decide) ?_
      refine lv_aload_n hx hb dX1_readGauges_33 rfl (lv_at hl 0 rfl) ?_
      refine q_get (C := RX1) (T := TX1) (N := 10) (ci := 1) (v := .int ((m_up σ 0 1 (gl w (σ 0 1))) (0) 2)) hx hb hts hinX1 hown hK hP at_0 rfl 2 (by decide) hf125 rfl dX1_readGauges_34 ?_
      refine k_Si (As := [.int (w), .int (4), .int ((m_up σ 0 1 (gl w (σ 0 1))) (0) 2)]) (rest := []) ⟨hx, hb, hml, hown, hts⟩ (mtX1_holds l w 4 ((m_up σ 0 1 (gl w (σ 0 1))) (0) 2)) (va_cwS 3 hts gX1_readGauges_X1_holds rfl rfl rfl (by decide +kernel) ⟨Nat.le_of_ble_eq_true rfl, Nat.le_of_ble_eq_true rfl⟩) rfl hl.1 rfl (Nat.le_of_ble_eq_true rfl) dX1_readGauges_37 ⟨Nat.le_of_ble_eq_true rfl, Nat.le_of_ble_eq_true rfl⟩ (fun r7 er7 => ?_)
      subst er7
      refine lv_if_eq (tgt := 48) hx hb dX1_readGauges_40 (by decide) (fun c40 => ?_) (fun c40 => ?_)
      · skip
        exact J48 _ _ _ (by rw [gh_k c28 c40, m_up_self]) hP hS
      · skip
        refine lv_aload_n hx hb dX1_readGauges_43 rfl (lv_at hl 0 rfl) ?_
        refine lv_iload_n hx hb dX1_readGauges_44 rfl (lv_at hl 1 rfl) ?_
        refine q_put (C := RX1) (T := TX1) (N := 10) (ci := 1) (ty := .int) (v := w) hx hb hts hinX1 tyX1 tyX1_ok nmX1 hown hok hK hP hS at_0 (by decide) rfl 2 (by decide) hf125 rfl (tyX1_ok 2 (by decide)) rfl rfl (Nat.le_of_ble_eq_true rfl) rfl dX1_readGauges_45 (fun H locs hP hS => ?_)
        exact J48 _ _ _ (by rw [gh_w c28 c40]) hP hS
  refine lv_aload_n hx hb dX1_readGauges_0 rfl (lv_at hl 0 rfl) ?_
  refine q_get (C := RX1) (T := TX1) (N := 10) (ci := 1) (v := .int (σ (0) 1)) hx hb hts hinX1 hown hK hP at_0 rfl 1 (by decide) hf122 rfl dX1_readGauges_1 ?_
  refine lv_if_eq (tgt := 19) hx hb dX1_readGauges_4 (by decide) (fun c4 => ?_) (fun c4 => ?_)
  · skip
    refine lv_aload_n hx hb dX1_readGauges_19 rfl (lv_at hl 0 rfl) ?_
    refine lv_iload_n hx hb dX1_readGauges_20 rfl (lv_at hl 1 rfl) ?_
    refine q_put (C := RX1) (T := TX1) (N := 10) (ci := 1) (ty := .int) (v := w) hx hb hts hinX1 tyX1 tyX1_ok nmX1 hown hok hK hP hS at_0 (by decide) rfl 1 (by decide) hf122 rfl (tyX1_ok 1 (by decide)) rfl rfl (Nat.le_of_ble_eq_true rfl) rfl dX1_readGauges_21 (fun H locs hP hS => ?_)
    exact J24 _ _ _ (by rw [gl_0 c4]) hP hS
  · skip
    refine lv_iload_n hx hb dX1_readGauges_7 rfl (lv_at hl 1 rfl) ?_
    refine lv_iconst (v := 1) hx hb dX1_readGauges_8 (by decide) ?_
    refine lv_aload_n hx hb dX1_readGauges_9 rfl (lv_at hl 0 rfl) ?_
    refine q_get (C := RX1) (T := TX1) (N := 10) (ci := 1) (v := .int (σ (0) 1)) hx hb hts hinX1 hown hK hP at_0 rfl 1 (by decide) hf122 rfl dX1_readGauges_10 ?_
    refine k_Si (As := [.int (w), .int (1), .int (σ (0) 1)]) (rest := []) ⟨hx, hb, hml, hown, hts⟩ (mtX1_holds l w 1 (σ (0) 1)) (va_cwS 3 hts gX1_readGauges_X1_holds rfl rfl rfl (by decide +kernel) ⟨Nat.le_of_ble_eq_true rfl, Nat.le_of_ble_eq_true rfl⟩) rfl hl.1 rfl (Nat.le_of_ble_eq_true rfl) dX1_readGauges_13 ⟨Nat.le_of_ble_eq_true rfl, Nat.le_of_ble_eq_true rfl⟩ (fun r8 er8 => ?_)
    subst er8
    refine lv_if_eq (tgt := 24) hx hb dX1_readGauges_16 (by decide) (fun c16 => ?_) (fun c16 => ?_)
    · skip
      exact J24 _ _ _ (by rw [gl_k c4 c16, m_up_self]) hP hS
    · skip
      refine lv_aload_n hx hb dX1_readGauges_19 rfl (lv_at hl 0 rfl) ?_
      refine lv_iload_n hx hb dX1_readGauges_20 rfl (lv_at hl 1 rfl) ?_
      refine q_put (C := RX1) (T := TX1) (N := 10) (ci := 1) (ty := .int) (v := w) hx hb hts hinX1 tyX1 tyX1_ok nmX1 hown hok hK hP hS at_0 (by decide) rfl 1 (by decide) hf122 rfl (tyX1_ok 1 (by decide)) rfl rfl (Nat.le_of_ble_eq_true rfl) rfl dX1_readGauges_21 (fun H locs hP hS => ?_)
      exact J24 _ _ _ (by rw [gl_w c4 c16]) hP hS
theorem wxX1_sort_24 : ∀ w ∈ (vx_atS RX1 24 "java/lang/IllegalArgumentException" ["java/lang/RuntimeException", "java/lang/Exception"]).filter goodWord, w ∈ wsX1_sort := fun w h => by
  simp only [wsX1_sort, List.mem_cons, List.mem_append, h, or_true, true_or]
theorem wxX1_sort_35 : ∀ w ∈ (vx_atS RX1 35 "java/lang/IllegalStateException" ["java/lang/RuntimeException", "java/lang/Exception"]).filter goodWord, w ∈ wsX1_sort := fun w h => by
  simp only [wsX1_sort, List.mem_cons, List.mem_append, h, or_true, true_or]
set_option maxHeartbeats 4000000 in
set_option maxRecDepth 100000 in
/-- sort -/
theorem mtX1_sort (l : Launch) (hl0 : l.stackTraces = false) (E : Ev) (hok : e_ok E) (σ : Mem) (o : Nat → Int64) (x v : Int32) : vx_Met l yX1_sort wsX1_sort ({ frames := 7, cells := 3, slots := 18, locals := 111 } : Room) (PW E σ o [.ref (e_a E (0)), .int (x), .int (v)]) (va_Qi (fun (r : Int32) (σ' : Mem) => ∃ k : Nat, k < 8 ∧ x = nI k ∧ (¬ v < 0 ∧ v ≤ 4) ∧ σ (k + 2) 2 ≤ 0 ∧ r = σ (k + 2) 3 ∧ σ' = m_up σ (k + 2) 3 v) (BW E o) (LB (e_B E))) (XW E σ o (fun u => (u = xIO ∧ ¬ isCh x) ∨ (u = xIA ∧ isCh x ∧ ¬ (¬ v < 0 ∧ v ≤ 4)) ∨ (u = xIS ∧ (¬ v < 0 ∧ v ≤ 4) ∧ ∃ k : Nat, k < 8 ∧ x = nI k ∧ ¬ σ (k + 2) 2 ≤ 0))) 3 18 (LB (e_B E)) := by
  refine vx_ofW (cc := cX1_sort) (maxL := 5) (ret := (some .int)) (by decide) rfl ?_
  intro p e s m args below meth c s₁ B hml hno hv
  obtain ⟨rfl, hP, hK⟩ := hv
  have hx := B.exec
  have hb := B.bytes
  have hr := B.returns
  have hts := atoms_spec (ws := wsX1_sort) B.pre
  have hown : s.vm.findClass RX1 = some m.cls := findClass_of_methodNamed B.named
  have hlocks := B.notSynchronized
  have hS : va_S (LB (e_B E)) s.heap s.heap [] := va_S.rf
  have hinX0 : ∀ w ∈ wsX00, w ∈ wsX1_sort := fun w h => by simp only [wsX1_sort, List.mem_cons, List.mem_append, h, or_true, true_or]
  have hf27 := hts (.fieldLink RX1 27 "ParcelChutes$Chute" "count" "I") (by decide +kernel)
  have hf36 := hts (.fieldLink RX1 36 "ParcelChutes$Chute" "kind" "I") (by decide +kernel)
  have hl := lv_entry ([.ref (e_a E (0)), .int (x), .int (v)]) (n := 5) (Nat.le_of_ble_eq_true rfl)
  rw [lg_entry_eq]
  generalize (lg_sl ([.ref (e_a E (0)), .int (x), .int (v)]) ++ List.replicate (5 - (lg_sl ([.ref (e_a E (0)), .int (x), .int (v)])).length) Slot.unset).toArray = ls at hl ⊢
  have hl : lv_has ls 5 [(0, .ref (e_a E (0))), (1, .int (x)), (2, .int (v))] := hl
  refine lv_aload_n hx hb dX1_sort_0 rfl (lv_at hl 0 rfl) ?_
  refine lv_iload_n hx hb dX1_sort_1 rfl (lv_at hl 1 rfl) ?_
  refine x_Vc (As := [.int (x)]) (rest := []) ⟨hx, hb, hml, hown, hts⟩ (mtX1_chuteAt l hl0 E hok σ o x) (cwV 1 hts gX1_sort_X1_chuteAt rfl rfl rfl (by decide +kernel) ⟨Nat.le_of_ble_eq_true rfl, Nat.le_of_ble_eq_true rfl⟩) (va_recv hK.K hP (ci := 1) (q0 := 0) rfl at_0) hno hlocks hK hP hS rfl hl.1 rfl (Nat.le_of_ble_eq_true rfl) dX1_sort_2 ⟨Nat.le_of_ble_eq_true rfl, Nat.le_of_ble_eq_true rfl⟩ (fun u h => Or.inl h) ⟨Nat.le_of_ble_eq_true rfl, Nat.le_of_ble_eq_true rfl⟩ (fun k1 H locs hk1 hP hS => ?_)
  obtain ⟨hk1k, hk1e⟩ := hk1
  refine lv_astore_n (lv' := [(3, .ref (e_a E (k1 + 2))), (0, .ref (e_a E (0))), (1, .int (x)), (2, .int (v))]) hx hb dX1_sort_5 rfl hl (by decide) rfl (fun ls hl => ?_)
  refine lv_iload_n hx hb dX1_sort_6 rfl (lv_at hl 3 rfl) ?_
  refine lv_if_lt (tgt := 15) hx hb dX1_sort_7 (by decide) (fun c7 => ?_) (fun c7 => ?_)
  · skip
    exact x_throw hx hb hl0 (ik := 20) (is := 22) (ic := 24) hown (by decide +kernel) (hts (.classLink RX1 20 "java/lang/IllegalArgumentException") (by decide +kernel)) (hts (.initialized "java/lang/IllegalArgumentException") (by decide +kernel)) hK.s22 (vx_hat (B := [.castable "java/lang/IllegalArgumentException" "java/lang/IllegalArgumentException", .declares (Bundle.initS "java/lang/RuntimeException"), .declares (Bundle.initS "java/lang/Exception"), .declares (Bundle.initS "java/lang/Throwable")]) (fun w h => hts w (wxX1_sort_24 w h)) (by decide +kernel) (vx_c (hK.c (by decide)) (vx_c (hK.d (by decide)) (vx_c (hK.d (by decide)) (vx_c (hK.d (by decide)) vx_n))))) (by decide +kernel) hK hP hS hl.1 hml dX1_sort_15 dX1_sort_18 dX1_sort_19 dX1_sort_21 dX1_sort_24 hno (Nat.le_of_ble_eq_true rfl) (Nat.le_of_ble_eq_true rfl) (Nat.le_of_ble_eq_true rfl) (Nat.le_of_ble_eq_true rfl) hlocks (Or.inr (Or.inl ⟨rfl, ⟨k1, hk1k, hk1e⟩, fun z => z.1 c7⟩)) (Nat.le_of_ble_eq_true rfl) (Nat.le_of_ble_eq_true rfl)
  · skip
    refine lv_iload_n hx hb dX1_sort_10 rfl (lv_at hl 3 rfl) ?_
    refine lv_iconst (v := 4) hx hb dX1_sort_11 (by decide) ?_
    refine lv_icmp_le (tgt := 25) hx hb dX1_sort_12 (by decide) (fun c12 => ?_) (fun c12 => ?_)
    · skip
      refine lv_aload_n hx hb dX1_sort_25 rfl (lv_at hl 0 rfl) ?_
      refine q_get (C := RX0) (T := TX0) (N := 8) (ci := 0) (v := .int (σ (k1 + 2) 2)) hx hb hts hinX0 hown hK hP (at_ch hk1k) rfl 2 (by decide) hf27 rfl dX1_sort_26 ?_
      refine lv_if_le (tgt := 42) hx hb dX1_sort_29 (by decide) (fun c29 => ?_) (fun c29 => ?_)
      · skip
        refine lv_aload_n hx hb dX1_sort_42 rfl (lv_at hl 0 rfl) ?_
        refine q_get (C := RX0) (T := TX0) (N := 8) (ci := 0) (v := .int (σ (k1 + 2) 3)) hx hb hts hinX0 hown hK hP (at_ch hk1k) rfl 3 (by decide) hf36 rfl dX1_sort_43 ?_
        refine lv_istore (lv' := [(4, .int (σ (k1 + 2) 3)), (3, .ref (e_a E (k1 + 2))), (0, .ref (e_a E (0))), (1, .int (x)), (2, .int (v))]) hx hb dX1_sort_46 hl (by decide) rfl (fun ls hl => ?_)
        refine lv_aload_n hx hb dX1_sort_48 rfl (lv_at hl 1 rfl) ?_
        refine lv_iload_n hx hb dX1_sort_49 rfl (lv_at hl 4 rfl) ?_
        refine q_put (C := RX0) (T := TX0) (N := 8) (ci := 0) (ty := .int) (v := v) hx hb hts hinX0 tyX0 tyX0_ok nmX0 hown hok hK hP hS (at_ch hk1k) (by omega) rfl 3 (by decide) hf36 rfl (tyX0_ok 3 (by decide)) rfl rfl (Nat.le_of_ble_eq_true rfl) (by rw [wc_ch hk1k]; rfl) dX1_sort_50 (fun H locs hP hS => ?_)
        refine lv_iload hx hb dX1_sort_53 (lv_at hl 0 rfl) ?_
        refine W.widen (k := 3) (n := 18) (Nat.le_of_ble_eq_true rfl) (Nat.le_of_ble_eq_true rfl) ?_
        exact vx_ret (r_i hx hb hr hlocks hP hS dX1_sort_55 ⟨k1, hk1k, hk1e, ⟨c7, c12⟩, c29, rfl, rfl⟩)
      · skip
        exact x_throw hx hb hl0 (ik := 31) (is := 33) (ic := 35) hown (by decide +kernel) (hts (.classLink RX1 31 "java/lang/IllegalStateException") (by decide +kernel)) (hts (.initialized "java/lang/IllegalStateException") (by decide +kernel)) hK.s33 (vx_hat (B := [.castable "java/lang/IllegalStateException" "java/lang/IllegalStateException", .declares (Bundle.initS "java/lang/RuntimeException"), .declares (Bundle.initS "java/lang/Exception"), .declares (Bundle.initS "java/lang/Throwable")]) (fun w h => hts w (wxX1_sort_35 w h)) (by decide +kernel) (vx_c (hK.c (by decide)) (vx_c (hK.d (by decide)) (vx_c (hK.d (by decide)) (vx_c (hK.d (by decide)) vx_n))))) (by decide +kernel) hK hP hS hl.1 hml dX1_sort_32 dX1_sort_35 dX1_sort_36 dX1_sort_38 dX1_sort_41 hno (Nat.le_of_ble_eq_true rfl) (Nat.le_of_ble_eq_true rfl) (Nat.le_of_ble_eq_true rfl) (Nat.le_of_ble_eq_true rfl) hlocks (Or.inr (Or.inr ⟨rfl, ⟨c7, c12⟩, k1, hk1k, hk1e, c29⟩)) (Nat.le_of_ble_eq_true rfl) (Nat.le_of_ble_eq_true rfl)
    · skip
      exact x_throw hx hb hl0 (ik := 20) (is := 22) (ic := 24) hown (by decide +kernel) (hts (.classLink RX1 20 "java/lang/IllegalArgumentException") (by decide +kernel)) (hts (.initialized "java/lang/IllegalArgumentException") (by decide +kernel)) hK.s22 (vx_hat (B := [.castable "java/lang/IllegalArgumentException" "java/lang/IllegalArgumentException", .declares (Bundle.initS "java/lang/RuntimeException"), .declares (Bundle.initS "java/lang/Exception"), .declares (Bundle.initS "java/lang/Throwable")]) (fun w h => hts w (wxX1_sort_24 w h)) (by decide +kernel) (vx_c (hK.c (by decide)) (vx_c (hK.d (by decide)) (vx_c (hK.d (by decide)) (vx_c (hK.d (by decide)) vx_n))))) (by decide +kernel) hK hP hS hl.1 hml dX1_sort_15 dX1_sort_18 dX1_sort_19 dX1_sort_21 dX1_sort_24 hno (Nat.le_of_ble_eq_true rfl) (Nat.le_of_ble_eq_true rfl) (Nat.le_of_ble_eq_true rfl) (Nat.le_of_ble_eq_true rfl) hlocks (Or.inr (Or.inl ⟨rfl, ⟨k1, hk1k, hk1e⟩, fun z => c12 z.2⟩)) (Nat.le_of_ble_eq_true rfl) (Nat.le_of_ble_eq_true rfl)
theorem wxX1_limits_35 : ∀ w ∈ (vx_atS RX1 35 "java/lang/IllegalStateException" ["java/lang/RuntimeException", "java/lang/Exception"]).filter goodWord, w ∈ wsX1_limits := fun w h => by
  simp only [wsX1_limits, List.mem_cons, List.mem_append, h, or_true, true_or]
set_option maxHeartbeats 4000000 in
set_option maxRecDepth 100000 in
/-- limits -/
theorem mtX1_limits (l : Launch) (hl0 : l.stackTraces = false) (E : Ev) (hok : e_ok E) (σ : Mem) (o : Nat → Int64) (x a b d : Int32) : vx_Met l yX1_limits wsX1_limits ({ frames := 7, cells := 5, slots := 30, locals := 111 } : Room) (PW E σ o [.ref (e_a E (0)), .int (x), .int (a), .int (b), .int (d)]) (va_Qi (fun (r : Int32) (σ' : Mem) => ∃ k : Nat, k < 8 ∧ x = nI k ∧ okW a ∧ okW b ∧ okG d ∧ hd b a 1 = 0 ∧ r = n3 a b d ∧ σ' = m_lim σ k a b d) (BW E o) (LB (e_B E))) (XW E σ o (fun u => (u = xIO ∧ ¬ isCh x) ∨ (u = xIA ∧ isCh x ∧ ¬ (okW a ∧ okW b ∧ okG d)) ∨ (u = xIS ∧ isCh x ∧ (okW a ∧ okW b ∧ okG d) ∧ hd b a 1 ≠ 0))) 5 30 (LB (e_B E)) := by
  refine vx_ofW (cc := cX1_limits) (maxL := 6) (ret := (some .int)) (by decide) rfl ?_
  intro p e s m args below meth c s₁ B hml hno hv
  obtain ⟨rfl, hP, hK⟩ := hv
  have hx := B.exec
  have hb := B.bytes
  have hr := B.returns
  have hts := atoms_spec (ws := wsX1_limits) B.pre
  have hown : s.vm.findClass RX1 = some m.cls := findClass_of_methodNamed B.named
  have hlocks := B.notSynchronized
  have hS : va_S (LB (e_B E)) s.heap s.heap [] := va_S.rf
  have hinX0 : ∀ w ∈ wsX00, w ∈ wsX1_limits := fun w h => by simp only [wsX1_limits, List.mem_cons, List.mem_append, h, or_true, true_or]
  have hf52 := hts (.fieldLink RX1 52 "ParcelChutes$Chute" "low" "I") (by decide +kernel)
  have hf55 := hts (.fieldLink RX1 55 "ParcelChutes$Chute" "high" "I") (by decide +kernel)
  have hf58 := hts (.fieldLink RX1 58 "ParcelChutes$Chute" "wide" "I") (by decide +kernel)
  have hl := lv_entry ([.ref (e_a E (0)), .int (x), .int (a), .int (b), .int (d)]) (n := 6) (Nat.le_of_ble_eq_true rfl)
  rw [lg_entry_eq]
  generalize (lg_sl ([.ref (e_a E (0)), .int (x), .int (a), .int (b), .int (d)]) ++ List.replicate (6 - (lg_sl ([.ref (e_a E (0)), .int (x), .int (a), .int (b), .int (d)])).length) Slot.unset).toArray = ls at hl ⊢
  have hl : lv_has ls 6 [(0, .ref (e_a E (0))), (1, .int (x)), (2, .int (a)), (3, .int (b)), (4, .int (d))] := hl
  refine lv_aload_n hx hb dX1_limits_0 rfl (lv_at hl 0 rfl) ?_
  refine lv_iload_n hx hb dX1_limits_1 rfl (lv_at hl 1 rfl) ?_
  refine x_Vc (As := [.int (x)]) (rest := []) ⟨hx, hb, hml, hown, hts⟩ (mtX1_chuteAt l hl0 E hok σ o x) (cwV 1 hts gX1_limits_X1_chuteAt rfl rfl rfl (by decide +kernel) ⟨Nat.le_of_ble_eq_true rfl, Nat.le_of_ble_eq_true rfl⟩) (va_recv hK.K hP (ci := 1) (q0 := 0) rfl at_0) hno hlocks hK hP hS rfl hl.1 rfl (Nat.le_of_ble_eq_true rfl) dX1_limits_2 ⟨Nat.le_of_ble_eq_true rfl, Nat.le_of_ble_eq_true rfl⟩ (fun u h => Or.inl h) ⟨Nat.le_of_ble_eq_true rfl, Nat.le_of_ble_eq_true rfl⟩ (fun k1 H locs hk1 hP hS => ?_)
  obtain ⟨hk1k, hk1e⟩ := hk1
  refine lv_astore (lv' := [(5, .ref (e_a E (k1 + 2))), (0, .ref (e_a E (0))), (1, .int (x)), (2, .int (a)), (3, .int (b)), (4, .int (d))]) hx hb dX1_limits_5 hl (by decide) rfl (fun ls hl => ?_)
  refine lv_iload_n hx hb dX1_limits_7 rfl (lv_at hl 3 rfl) ?_
  refine x_Sv (As := [.int (a)]) (rest := []) ⟨hx, hb, hml, hown, hts⟩ (mtX1_requireWeight l hl0 E hok σ o a) (va_cwS 1 hts gX1_limits_X1_requireWeight rfl rfl rfl (by decide +kernel) ⟨Nat.le_of_ble_eq_true rfl, Nat.le_of_ble_eq_true rfl⟩) hno hlocks hK hP hS rfl hl.1 rfl (Nat.le_of_ble_eq_true rfl) dX1_limits_8 ⟨Nat.le_of_ble_eq_true rfl, Nat.le_of_ble_eq_true rfl⟩ (fun u h => Or.inr (Or.inl ⟨h.1, ⟨k1, hk1k, hk1e⟩, fun z => h.2 z.1⟩)) ⟨Nat.le_of_ble_eq_true rfl, Nat.le_of_ble_eq_true rfl⟩ (fun σ_2 H locs hσ_2 hP hS => ?_)
  obtain ⟨hσ_2a, ehσ_2⟩ := hσ_2
  rw [ehσ_2] at hP
  refine lv_iload_n hx hb dX1_limits_11 rfl (lv_at hl 4 rfl) ?_
  refine x_Sv (As := [.int (b)]) (rest := []) ⟨hx, hb, hml, hown, hts⟩ (mtX1_requireWeight l hl0 E hok σ o b) (va_cwS 1 hts gX1_limits_X1_requireWeight rfl rfl rfl (by decide +kernel) ⟨Nat.le_of_ble_eq_true rfl, Nat.le_of_ble_eq_true rfl⟩) hno hlocks hK hP hS rfl hl.1 rfl (Nat.le_of_ble_eq_true rfl) dX1_limits_12 ⟨Nat.le_of_ble_eq_true rfl, Nat.le_of_ble_eq_true rfl⟩ (fun u h => Or.inr (Or.inl ⟨h.1, ⟨k1, hk1k, hk1e⟩, fun z => h.2 z.2.1⟩)) ⟨Nat.le_of_ble_eq_true rfl, Nat.le_of_ble_eq_true rfl⟩ (fun σ_3 H locs hσ_3 hP hS => ?_)
  obtain ⟨hσ_3a, ehσ_3⟩ := hσ_3
  rw [ehσ_3] at hP
  refine lv_iload hx hb dX1_limits_15 (lv_at hl 5 rfl) ?_
  refine x_Sv (As := [.int (d)]) (rest := []) ⟨hx, hb, hml, hown, hts⟩ (mtX1_requireGirth l hl0 E hok σ o d) (va_cwS 1 hts gX1_limits_X1_requireGirth rfl rfl rfl (by decide +kernel) ⟨Nat.le_of_ble_eq_true rfl, Nat.le_of_ble_eq_true rfl⟩) hno hlocks hK hP hS rfl hl.1 rfl (Nat.le_of_ble_eq_true rfl) dX1_limits_17 ⟨Nat.le_of_ble_eq_true rfl, Nat.le_of_ble_eq_true rfl⟩ (fun u h => Or.inr (Or.inl ⟨h.1, ⟨k1, hk1k, hk1e⟩, fun z => h.2 z.2.2⟩)) ⟨Nat.le_of_ble_eq_true rfl, Nat.le_of_ble_eq_true rfl⟩ (fun σ_4 H locs hσ_4 hP hS => ?_)
  obtain ⟨hσ_4a, ehσ_4⟩ := hσ_4
  rw [ehσ_4] at hP
  refine lv_iload_n hx hb dX1_limits_20 rfl (lv_at hl 4 rfl) ?_
  refine lv_iconst (v := 1) hx hb dX1_limits_21 (by decide) ?_
  refine lv_iload_n hx hb dX1_limits_22 rfl (lv_at hl 3 rfl) ?_
  refine k_Si (As := [.int (b), .int (1), .int (a)]) (rest := []) ⟨hx, hb, hml, hown, hts⟩ (mtX1_holds l b 1 a) (va_cwS 3 hts gX1_limits_X1_holds rfl rfl rfl (by decide +kernel) ⟨Nat.le_of_ble_eq_true rfl, Nat.le_of_ble_eq_true rfl⟩) rfl hl.1 rfl (Nat.le_of_ble_eq_true rfl) dX1_limits_23 ⟨Nat.le_of_ble_eq_true rfl, Nat.le_of_ble_eq_true rfl⟩ (fun r5 er5 => ?_)
  subst er5
  refine lv_if_eq (tgt := 39) hx hb dX1_limits_26 (by decide) (fun c26 => ?_) (fun c26 => ?_)
  · skip
    refine lv_aload hx hb dX1_limits_39 (lv_at hl 0 rfl) ?_
    refine lv_iload_n hx hb dX1_limits_41 rfl (lv_at hl 3 rfl) ?_
    refine q_put (C := RX0) (T := TX0) (N := 8) (ci := 0) (ty := .int) (v := a) hx hb hts hinX0 tyX0 tyX0_ok nmX0 hown hok hK hP hS (at_ch hk1k) (by omega) rfl 4 (by decide) hf52 rfl (tyX0_ok 4 (by decide)) rfl rfl (Nat.le_of_ble_eq_true rfl) (by rw [wc_ch hk1k]; rfl) dX1_limits_42 (fun H locs hP hS => ?_)
    refine lv_aload hx hb dX1_limits_45 (lv_at hl 0 rfl) ?_
    refine lv_iload_n hx hb dX1_limits_47 rfl (lv_at hl 4 rfl) ?_
    refine q_put (C := RX0) (T := TX0) (N := 8) (ci := 0) (ty := .int) (v := b) hx hb hts hinX0 tyX0 tyX0_ok nmX0 hown hok hK hP hS (at_ch hk1k) (by omega) rfl 5 (by decide) hf55 rfl (tyX0_ok 5 (by decide)) rfl rfl (Nat.le_of_ble_eq_true rfl) (by rw [wc_ch hk1k]; rfl) dX1_limits_48 (fun H locs hP hS => ?_)
    refine lv_aload hx hb dX1_limits_51 (lv_at hl 0 rfl) ?_
    refine lv_iload hx hb dX1_limits_53 (lv_at hl 5 rfl) ?_
    refine q_put (C := RX0) (T := TX0) (N := 8) (ci := 0) (ty := .int) (v := d) hx hb hts hinX0 tyX0 tyX0_ok nmX0 hown hok hK hP hS (at_ch hk1k) (by omega) rfl 6 (by decide) hf58 rfl (tyX0_ok 6 (by decide)) rfl rfl (Nat.le_of_ble_eq_true rfl) (by rw [wc_ch hk1k]; rfl) dX1_limits_55 (fun H locs hP hS => ?_)
    refine lv_iload_n hx hb dX1_limits_58 rfl (lv_at hl 3 rfl) ?_
    refine cut_i (ls := ls) (pcj := 67) (rest := []) (P := fun v : Int32 => v = b1 a) ?_ (fun J67 => ?_)
    · intro v6 ev6
      subst ev6
      refine k_Si (As := [.int (b1 a)]) (rest := []) ⟨hx, hb, hml, hown, hts⟩ (mtX1_oneIf l (b1 a)) (va_cwS 1 hts gX1_limits_X1_oneIf rfl rfl rfl (by decide +kernel) ⟨Nat.le_of_ble_eq_true rfl, Nat.le_of_ble_eq_true rfl⟩) rfl hl.1 rfl (Nat.le_of_ble_eq_true rfl) dX1_limits_67 ⟨Nat.le_of_ble_eq_true rfl, Nat.le_of_ble_eq_true rfl⟩ (fun r7 er7 => ?_)
      subst er7
      refine lv_iload_n hx hb dX1_limits_70 rfl (lv_at hl 4 rfl) ?_
      refine cut_i (ls := ls) (pcj := 79) (rest := [.int (b1 (b1 a))]) (P := fun v : Int32 => v = b1 b) ?_ (fun J79 => ?_)
      · intro v8 ev8
        subst ev8
        refine k_Si (As := [.int (b1 b)]) (rest := [.int (b1 (b1 a))]) ⟨hx, hb, hml, hown, hts⟩ (mtX1_oneIf l (b1 b)) (va_cwS 1 hts gX1_limits_X1_oneIf rfl rfl rfl (by decide +kernel) ⟨Nat.le_of_ble_eq_true rfl, Nat.le_of_ble_eq_true rfl⟩) rfl hl.1 rfl (Nat.le_of_ble_eq_true rfl) dX1_limits_79 ⟨Nat.le_of_ble_eq_true rfl, Nat.le_of_ble_eq_true rfl⟩ (fun r9 er9 => ?_)
        subst er9
        refine lv_iadd hx hb dX1_limits_82 ?_
        refine lv_iload hx hb dX1_limits_83 (lv_at hl 5 rfl) ?_
        refine cut_i (ls := ls) (pcj := 93) (rest := [.int ((b1 (b1 a)) + (b1 (b1 b)))]) (P := fun v : Int32 => v = b1 d) ?_ (fun J93 => ?_)
        · intro v10 ev10
          subst ev10
          refine k_Si (As := [.int (b1 d)]) (rest := [.int ((b1 (b1 a)) + (b1 (b1 b)))]) ⟨hx, hb, hml, hown, hts⟩ (mtX1_oneIf l (b1 d)) (va_cwS 1 hts gX1_limits_X1_oneIf rfl rfl rfl (by decide +kernel) ⟨Nat.le_of_ble_eq_true rfl, Nat.le_of_ble_eq_true rfl⟩) rfl hl.1 rfl (Nat.le_of_ble_eq_true rfl) dX1_limits_93 ⟨Nat.le_of_ble_eq_true rfl, Nat.le_of_ble_eq_true rfl⟩ (fun r11 er11 => ?_)
          subst er11
          refine lv_iadd hx hb dX1_limits_96 ?_
          refine W.widen (k := 5) (n := 30) (Nat.le_of_ble_eq_true rfl) (Nat.le_of_ble_eq_true rfl) ?_
          exact vx_ret (r_i hx hb hr hlocks hP hS dX1_limits_97 ⟨k1, hk1k, hk1e, hσ_2a, hσ_3a, hσ_4a, c26, rfl, rfl⟩)
        refine lv_if_eq (tgt := 92) hx hb dX1_limits_85 (by decide) (fun c85 => ?_) (fun c85 => ?_)
        · skip
          refine lv_iconst (v := 0) hx hb dX1_limits_92 (by decide) ?_
          exact J93 _ (by simp [b1, hσ_2a, hσ_3a, hσ_4a, c26, c85])
        · skip
          refine lv_iconst (v := 1) hx hb dX1_limits_88 (by decide) ?_
          refine lv_goto (tgt := 93) hx hb dX1_limits_89 (by decide) ?_
          exact J93 _ (by simp [b1, hσ_2a, hσ_3a, hσ_4a, c26, c85])
      refine lv_if_eq (tgt := 78) hx hb dX1_limits_71 (by decide) (fun c71 => ?_) (fun c71 => ?_)
      · skip
        refine lv_iconst (v := 0) hx hb dX1_limits_78 (by decide) ?_
        exact J79 _ (by simp [b1, hσ_2a, hσ_3a, hσ_4a, c26, c71])
      · skip
        refine lv_iconst (v := 1) hx hb dX1_limits_74 (by decide) ?_
        refine lv_goto (tgt := 79) hx hb dX1_limits_75 (by decide) ?_
        exact J79 _ (by simp [b1, hσ_2a, hσ_3a, hσ_4a, c26, c71])
    refine lv_if_eq (tgt := 66) hx hb dX1_limits_59 (by decide) (fun c59 => ?_) (fun c59 => ?_)
    · skip
      refine lv_iconst (v := 0) hx hb dX1_limits_66 (by decide) ?_
      exact J67 _ (by simp [b1, hσ_2a, hσ_3a, hσ_4a, c26, c59])
    · skip
      refine lv_iconst (v := 1) hx hb dX1_limits_62 (by decide) ?_
      refine lv_goto (tgt := 67) hx hb dX1_limits_63 (by decide) ?_
      exact J67 _ (by simp [b1, hσ_2a, hσ_3a, hσ_4a, c26, c59])
  · skip
    exact x_throw hx hb hl0 (ik := 31) (is := 50) (ic := 35) hown (by decide +kernel) (hts (.classLink RX1 31 "java/lang/IllegalStateException") (by decide +kernel)) (hts (.initialized "java/lang/IllegalStateException") (by decide +kernel)) hK.s50 (vx_hat (B := [.castable "java/lang/IllegalStateException" "java/lang/IllegalStateException", .declares (Bundle.initS "java/lang/RuntimeException"), .declares (Bundle.initS "java/lang/Exception"), .declares (Bundle.initS "java/lang/Throwable")]) (fun w h => hts w (wxX1_limits_35 w h)) (by decide +kernel) (vx_c (hK.c (by decide)) (vx_c (hK.d (by decide)) (vx_c (hK.d (by decide)) (vx_c (hK.d (by decide)) vx_n))))) (by decide +kernel) hK hP hS hl.1 hml dX1_limits_29 dX1_limits_32 dX1_limits_33 dX1_limits_35 dX1_limits_38 hno (Nat.le_of_ble_eq_true rfl) (Nat.le_of_ble_eq_true rfl) (Nat.le_of_ble_eq_true rfl) (Nat.le_of_ble_eq_true rfl) hlocks (Or.inr (Or.inr ⟨rfl, ⟨k1, hk1k, hk1e⟩, ⟨hσ_2a, hσ_3a, hσ_4a⟩, c26⟩)) (Nat.le_of_ble_eq_true rfl) (Nat.le_of_ble_eq_true rfl)
set_option maxHeartbeats 4000000 in
set_option maxRecDepth 100000 in
/-- shut -/
theorem mtX1_shut (l : Launch) (hl0 : l.stackTraces = false) (E : Ev) (hok : e_ok E) (σ : Mem) (o : Nat → Int64) (x v : Int32) (hv : v = 0 ∨ v = 1) (hcl : ∀ k, k < 8 → σ (k + 2) 7 = 0 ∨ σ (k + 2) 7 = 1) : vx_Met l yX1_shut wsX1_shut ({ frames := 7, cells := 1, slots := 6, locals := 111 } : Room) (PW E σ o [.ref (e_a E (0)), .int (x), .int (v)]) (va_Qi (fun (r : Int32) (σ' : Mem) => ∃ k : Nat, k < 8 ∧ x = nI k ∧ r = σ (k + 2) 7 ∧ σ' = m_up σ (k + 2) 7 v) (BW E o) (LB (e_B E))) (XW E σ o (fun u => u = xIO ∧ ¬ isCh x)) 1 6 (LB (e_B E)) := by
  refine vx_ofW (cc := cX1_shut) (maxL := 5) (ret := (some .boolean)) (by decide) rfl ?_
  intro p e s m args below meth c s₁ B hml hno hv
  obtain ⟨rfl, hP, hK⟩ := hv
  have hx := B.exec
  have hb := B.bytes
  have hr := B.returns
  have hts := atoms_spec (ws := wsX1_shut) B.pre
  have hown : s.vm.findClass RX1 = some m.cls := findClass_of_methodNamed B.named
  have hlocks := B.notSynchronized
  have hS : va_S (LB (e_B E)) s.heap s.heap [] := va_S.rf
  have hinX0 : ∀ w ∈ wsX00, w ∈ wsX1_shut := fun w h => by simp only [wsX1_shut, List.mem_cons, List.mem_append, h, or_true, true_or]
  have hf65 := hts (.fieldLink RX1 65 "ParcelChutes$Chute" "closed" "Z") (by decide +kernel)
  have hl := lv_entry ([.ref (e_a E (0)), .int (x), .int (v)]) (n := 5) (Nat.le_of_ble_eq_true rfl)
  rw [lg_entry_eq]
  generalize (lg_sl ([.ref (e_a E (0)), .int (x), .int (v)]) ++ List.replicate (5 - (lg_sl ([.ref (e_a E (0)), .int (x), .int (v)])).length) Slot.unset).toArray = ls at hl ⊢
  have hl : lv_has ls 5 [(0, .ref (e_a E (0))), (1, .int (x)), (2, .int (v))] := hl
  refine lv_aload_n hx hb dX1_shut_0 rfl (lv_at hl 0 rfl) ?_
  refine lv_iload_n hx hb dX1_shut_1 rfl (lv_at hl 1 rfl) ?_
  refine x_Vc (As := [.int (x)]) (rest := []) ⟨hx, hb, hml, hown, hts⟩ (mtX1_chuteAt l hl0 E hok σ o x) (cwV 1 hts gX1_shut_X1_chuteAt rfl rfl rfl (by decide +kernel) ⟨Nat.le_of_ble_eq_true rfl, Nat.le_of_ble_eq_true rfl⟩) (va_recv hK.K hP (ci := 1) (q0 := 0) rfl at_0) hno hlocks hK hP hS rfl hl.1 rfl (Nat.le_of_ble_eq_true rfl) dX1_shut_2 ⟨Nat.le_of_ble_eq_true rfl, Nat.le_of_ble_eq_true rfl⟩ (fun u h => h) ⟨Nat.le_of_ble_eq_true rfl, Nat.le_of_ble_eq_true rfl⟩ (fun k1 H locs hk1 hP hS => ?_)
  obtain ⟨hk1k, hk1e⟩ := hk1
  refine lv_astore_n (lv' := [(3, .ref (e_a E (k1 + 2))), (0, .ref (e_a E (0))), (1, .int (x)), (2, .int (v))]) hx hb dX1_shut_5 rfl hl (by decide) rfl (fun ls hl => ?_)
  refine lv_aload_n hx hb dX1_shut_6 rfl (lv_at hl 0 rfl) ?_
  refine q_get (C := RX0) (T := TX0) (N := 8) (ci := 0) (v := .int (σ (k1 + 2) 7)) hx hb hts hinX0 hown hK hP (at_ch hk1k) rfl 7 (by decide) hf65 rfl dX1_shut_7 ?_
  refine lv_istore (lv' := [(4, .int (σ (k1 + 2) 7)), (3, .ref (e_a E (k1 + 2))), (0, .ref (e_a E (0))), (1, .int (x)), (2, .int (v))]) hx hb dX1_shut_10 hl (by decide) rfl (fun ls hl => ?_)
  refine lv_aload_n hx hb dX1_shut_12 rfl (lv_at hl 1 rfl) ?_
  refine lv_iload_n hx hb dX1_shut_13 rfl (lv_at hl 4 rfl) ?_
  refine q_put (C := RX0) (T := TX0) (N := 8) (ci := 0) (ty := .boolean) (v := v) hx hb hts hinX0 tyX0 tyX0_ok nmX0 hown hok hK hP hS (at_ch hk1k) (by omega) rfl 7 (by decide) hf65 rfl (tyX0_ok 7 (by decide)) (by rcases hv with h | h <;> rw [h] <;> rfl) (by rcases hv with h | h <;> rw [h] <;> rfl) (Nat.le_of_ble_eq_true rfl) (by rw [wc_ch hk1k]; rfl) dX1_shut_14 (fun H locs hP hS => ?_)
  refine lv_iload hx hb dX1_shut_17 (lv_at hl 0 rfl) ?_
  refine W.widen (k := 1) (n := 6) (Nat.le_of_ble_eq_true rfl) (Nat.le_of_ble_eq_true rfl) ?_
  exact vx_ret (r_z hx hb hr hlocks (by first | rfl | (rcases hcl _ hk1k with h | h <;> rw [h] <;> rfl)) hP hS dX1_shut_19 ⟨k1, hk1k, hk1e, rfl, rfl⟩)
set_option maxHeartbeats 4000000 in
set_option maxRecDepth 100000 in
/-- send -/
theorem mtX1_send (l : Launch) (hl0 : l.stackTraces = false) (E : Ev) (hok : e_ok E) (σ : Mem) (o : Nat → Int64) (w g : Int32) (N : Nat → Nat) (hN : okN σ N) : vx_Met l yX1_send wsX1_send ({ frames := 7, cells := 2, slots := 12, locals := 110 } : Room) (PW E σ o [.ref (e_a E (0)), .int (w), .int (g)]) (va_Qi (fun (r : Int32) (σ' : Mem) => (okW w ∧ okG g) ∧ ((∃ i : Nat, i < 8 ∧ r = nI i ∧ takes (rgC σ w g) N w g i ∧ (∀ a, a < i → ¬ takes (rgC σ w g) N w g a) ∧ ∃ q : Nat, plq (rgC σ w g) i (N i) w q ∧ σ' = m_ins (rgC σ w g) i q (N i) w g) ∨ (r = -1 ∧ (∀ a, a < 8 → ¬ takes (rgC σ w g) N w g a) ∧ σ' = asC (rgC σ w g) w g))) (BW E o) (LB (e_B E))) (XW E σ o (fun u => u = xIA ∧ ¬ (okW w ∧ okG g))) 2 12 (LB (e_B E)) := by
  refine vx_ofW (cc := cX1_send) (maxL := 4) (ret := (some .int)) (by decide) rfl ?_
  intro p e s m args below meth c s₁ B hml hno hv
  obtain ⟨rfl, hP, hK⟩ := hv
  have hx := B.exec
  have hb := B.bytes
  have hr := B.returns
  have hts := atoms_spec (ws := wsX1_send) B.pre
  have hown : s.vm.findClass RX1 = some m.cls := findClass_of_methodNamed B.named
  have hlocks := B.notSynchronized
  have hS : va_S (LB (e_B E)) s.heap s.heap [] := va_S.rf
  have hinX0 : ∀ w ∈ wsX00, w ∈ wsX1_send := fun w h => by simp only [wsX1_send, List.mem_cons, List.mem_append, h, or_true, true_or]
  have hinX1 : ∀ w ∈ wsX10, w ∈ wsX1_send := fun w h => by simp only [wsX1_send, List.mem_cons, List.mem_append, h, or_true, true_or]
  have hf11 := hts (.fieldLink RX1 11 "ParcelChutes" "chutes" "[LParcelChutes$Chute;") (by decide +kernel)
  have hf65 := hts (.fieldLink RX1 65 "ParcelChutes$Chute" "closed" "Z") (by decide +kernel)
  have hl := lv_entry ([.ref (e_a E (0)), .int (w), .int (g)]) (n := 4) (Nat.le_of_ble_eq_true rfl)
  rw [lg_entry_eq]
  generalize (lg_sl ([.ref (e_a E (0)), .int (w), .int (g)]) ++ List.replicate (4 - (lg_sl ([.ref (e_a E (0)), .int (w), .int (g)])).length) Slot.unset).toArray = ls at hl ⊢
  have hl : lv_has ls 4 [(0, .ref (e_a E (0))), (1, .int (w)), (2, .int (g))] := hl
  refine lv_iload_n hx hb dX1_send_0 rfl (lv_at hl 1 rfl) ?_
  refine x_Sv (As := [.int (w)]) (rest := []) ⟨hx, hb, hml, hown, hts⟩ (mtX1_requireWeight l hl0 E hok σ o w) (va_cwS 1 hts gX1_send_X1_requireWeight rfl rfl rfl (by decide +kernel) ⟨Nat.le_of_ble_eq_true rfl, Nat.le_of_ble_eq_true rfl⟩) hno hlocks hK hP hS rfl hl.1 rfl (Nat.le_of_ble_eq_true rfl) dX1_send_1 ⟨Nat.le_of_ble_eq_true rfl, Nat.le_of_ble_eq_true rfl⟩ (fun u h => ⟨h.1, fun z => h.2 z.1⟩) ⟨Nat.le_of_ble_eq_true rfl, Nat.le_of_ble_eq_true rfl⟩ (fun σ_1 H locs hσ_1 hP hS => ?_)
  obtain ⟨hσ_1a, ehσ_1⟩ := hσ_1
  rw [ehσ_1] at hP
  refine lv_iload_n hx hb dX1_send_4 rfl (lv_at hl 2 rfl) ?_
  refine x_Sv (As := [.int (g)]) (rest := []) ⟨hx, hb, hml, hown, hts⟩ (mtX1_requireGirth l hl0 E hok σ o g) (va_cwS 1 hts gX1_send_X1_requireGirth rfl rfl rfl (by decide +kernel) ⟨Nat.le_of_ble_eq_true rfl, Nat.le_of_ble_eq_true rfl⟩) hno hlocks hK hP hS rfl hl.1 rfl (Nat.le_of_ble_eq_true rfl) dX1_send_5 ⟨Nat.le_of_ble_eq_true rfl, Nat.le_of_ble_eq_true rfl⟩ (fun u h => ⟨h.1, fun z => h.2 z.2⟩) ⟨Nat.le_of_ble_eq_true rfl, Nat.le_of_ble_eq_true rfl⟩ (fun σ_2 H locs hσ_2 hP hS => ?_)
  obtain ⟨hσ_2a, ehσ_2⟩ := hσ_2
  rw [ehσ_2] at hP
  refine lv_aload_n hx hb dX1_send_8 rfl (lv_at hl 0 rfl) ?_
  refine lv_iload_n hx hb dX1_send_9 rfl (lv_at hl 1 rfl) ?_
  refine lv_iload_n hx hb dX1_send_10 rfl (lv_at hl 2 rfl) ?_
  refine k_Vv (As := [.int (w), .int (g)]) (rest := []) ⟨hx, hb, hml, hown, hts⟩ (mtX1_readGauges l E hok σ o w g) (cwV 2 hts gX1_send_X1_readGauges rfl rfl rfl (by decide +kernel) ⟨Nat.le_of_ble_eq_true rfl, Nat.le_of_ble_eq_true rfl⟩) (va_recv hK.K hP (ci := 1) (q0 := 0) rfl at_0) hK hP hS rfl hl.1 rfl (Nat.le_of_ble_eq_true rfl) dX1_send_11 ⟨Nat.le_of_ble_eq_true rfl, Nat.le_of_ble_eq_true rfl⟩ (fun σ_3 H locs hσ_3 hP hS => ?_)
  subst hσ_3
  refine lv_iconst (v := 0) hx hb dX1_send_14 (by decide) ?_
  refine lv_istore_n (lv' := [(3, .int (0)), (0, .ref (e_a E (0))), (1, .int (w)), (2, .int (g))]) hx hb dX1_send_15 rfl hl (by decide) rfl (fun ls hl => ?_)
  have hN1 := okN_rgC hN w g
  refine w_loop (E := E) (o := o) (ι := Nat) (μ := fun i => 8 - i) (I := fun i => i ≤ 8 ∧ ∀ a, a < i → ¬ takes (rgC σ w g) N w g a) (mem := fun i => rgC σ w g) (lv := fun i => [(3, .int (nI (i))), (0, .ref (e_a E (0))), (1, .int (w)), (2, .int (g))]) (nL := 4) (pch := 16) ?_ (0) (show (0) ≤ 8 ∧ ∀ a, a < (0) → ¬ takes (rgC σ w g) N w g a from ⟨Nat.zero_le _, fun a h => absurd h (Nat.not_lt_zero a)⟩) hP hS (lv_sub hl [0, 1, 2, 3] rfl)
  rintro i hI IH H locs ls hP hS hl
  have hP : va_P (e_D E) vwCl (wd E (rgC σ w g) o) H := hP
  have hl : lv_has ls 4 [(3, .int (nI (i))), (0, .ref (e_a E (0))), (1, .int (w)), (2, .int (g))] := hl
  have hI : i ≤ 8 ∧ ∀ a, a < i → ¬ takes (rgC σ w g) N w g a := hI
  refine lv_iload_n hx hb dX1_send_16 rfl (lv_at hl 0 rfl) ?_
  refine lv_bipush (v := 8) hx hb dX1_send_17 (by decide) ?_
  refine nb_ge (i := i) (j := 8) hx hb rfl rfl (by omega) (by omega) dX1_send_19 (tgt := 56) (by decide) (fun c19 => ?_) (fun c19 => ?_)
  · skip
    refine lv_aload_n hx hb dX1_send_56 rfl (lv_at hl 1 rfl) ?_
    refine lv_iload_n hx hb dX1_send_57 rfl (lv_at hl 2 rfl) ?_
    refine lv_iload_n hx hb dX1_send_58 rfl (lv_at hl 3 rfl) ?_
    refine k_Vv (As := [.int (w), .int (g)]) (rest := []) ⟨hx, hb, hml, hown, hts⟩ (mtX1_putAside l E hok (rgC σ w g) o w g) (cwV 2 hts gX1_send_X1_putAside rfl rfl rfl (by decide +kernel) ⟨Nat.le_of_ble_eq_true rfl, Nat.le_of_ble_eq_true rfl⟩) (va_recv hK.K hP (ci := 1) (q0 := 0) rfl at_0) hK hP hS rfl hl.1 rfl (Nat.le_of_ble_eq_true rfl) dX1_send_59 ⟨Nat.le_of_ble_eq_true rfl, Nat.le_of_ble_eq_true rfl⟩ (fun σ_4 H locs hσ_4 hP hS => ?_)
    subst hσ_4
    refine lv_iconst (v := (-1)) hx hb dX1_send_62 (by decide) ?_
    refine W.widen (k := 2) (n := 12) (Nat.le_of_ble_eq_true rfl) (Nat.le_of_ble_eq_true rfl) ?_
    exact vx_ret (r_i hx hb hr hlocks hP hS dX1_send_63 ⟨⟨hσ_1a, hσ_2a⟩, Or.inr ⟨rfl, fun a h => hI.2 a (by omega), rfl⟩⟩)
  · skip
    refine lv_aload_n hx hb dX1_send_22 rfl (lv_at hl 1 rfl) ?_
    refine q_get (C := RX1) (T := TX1) (N := 10) (ci := 1) (v := .ref (e_a E (1))) hx hb hts hinX1 hown hK hP at_0 rfl 0 (by decide) hf11 rfl dX1_send_23 ?_
    refine lv_iload_n hx hb dX1_send_26 rfl (lv_at hl 0 rfl) ?_
    refine q_chld hx hb hK hP (i := i) rfl (by omega) dX1_send_27 ?_
    refine q_get (C := RX0) (T := TX0) (N := 8) (ci := 0) (v := .int ((rgC σ w g) (i + 2) 7)) hx hb hts hinX0 hown hK hP (at_ch (by omega)) rfl 7 (by decide) hf65 rfl dX1_send_28 ?_
    refine lv_if_ne (tgt := 50) hx hb dX1_send_31 (by decide) (fun c31 => ?_) (fun c31 => ?_)
    · skip
      refine lv_iinc (v := nI (i + 1)) (lv' := [(3, .int (nI (i + 1))), (0, .ref (e_a E (0))), (1, .int (w)), (2, .int (g))]) hx hb dX1_send_50 hl (k := 0) rfl (by exact nI_add (i) 1) (by decide) rfl (fun ls hl => ?_)
      refine lv_goto (tgt := 16) hx hb dX1_send_53 (by decide) ?_
      exact IH (i + 1) (show (i + 1) ≤ 8 ∧ ∀ a, a < (i + 1) → ¬ takes (rgC σ w g) N w g a from ⟨by omega, lt_s hI.2 (fun z => c31 z.1)⟩) (by (try dsimp only); omega) _ _ _ hP hS (lv_sub hl [0, 1, 2, 3] rfl)
    · skip
      refine lv_aload_n hx hb dX1_send_34 rfl (lv_at hl 1 rfl) ?_
      refine q_get (C := RX1) (T := TX1) (N := 10) (ci := 1) (v := .ref (e_a E (1))) hx hb hts hinX1 hown hK hP at_0 rfl 0 (by decide) hf11 rfl dX1_send_35 ?_
      refine lv_iload_n hx hb dX1_send_38 rfl (lv_at hl 0 rfl) ?_
      refine q_chld hx hb hK hP (i := i) rfl (by omega) dX1_send_39 ?_
      refine lv_iload_n hx hb dX1_send_40 rfl (lv_at hl 2 rfl) ?_
      refine lv_iload_n hx hb dX1_send_41 rfl (lv_at hl 3 rfl) ?_
      refine k_Vi (As := [.int (w), .int (g)]) (rest := []) ⟨hx, hb, hml, hown, hts⟩ (mtX0_admit l E hok (rgC σ w g) o i (by omega) (N i) (hN1 i (by omega)).1 (hN1 i (by omega)).2 w g) (cwV 2 hts gX1_send_X0_admit rfl rfl rfl (by decide +kernel) ⟨Nat.le_of_ble_eq_true rfl, Nat.le_of_ble_eq_true rfl⟩) (va_recv hK.K hP (ci := 0) (q0 := i + 2) rfl (at_ch (by omega))) hK hP hS rfl hl.1 rfl (Nat.le_of_ble_eq_true rfl) dX1_send_42 ⟨Nat.le_of_ble_eq_true rfl, Nat.le_of_ble_eq_true rfl⟩ (fun r5 σ_6 H locs hr5 hP hS => ?_)
      rcases hr5 with ⟨rfl, ehr5, hnohr5⟩ | ⟨rfl, hlthr5, hfthr5, qhr5, hqhr5, ehr5⟩
      · skip
        rw [ehr5] at hP
        refine lv_if_eq (tgt := 50) hx hb dX1_send_45 (by decide) (fun c45 => ?_) (fun c45 => ?_)
        rotate_left
        · exact absurd c45 (fun h => h rfl)
        refine lv_iinc (v := nI (i + 1)) (lv' := [(3, .int (nI (i + 1))), (0, .ref (e_a E (0))), (1, .int (w)), (2, .int (g))]) hx hb dX1_send_50 hl (k := 0) rfl (by exact nI_add (i) 1) (by decide) rfl (fun ls hl => ?_)
        refine lv_goto (tgt := 16) hx hb dX1_send_53 (by decide) ?_
        exact IH (i + 1) (show (i + 1) ≤ 8 ∧ ∀ a, a < (i + 1) → ¬ takes (rgC σ w g) N w g a from ⟨by omega, lt_s hI.2 (fun z => hnohr5.elim (fun q => absurd z.2.1 (by omega)) (fun q => z.2.2 q))⟩) (by (try dsimp only); omega) _ _ _ hP hS (lv_sub hl [0, 1, 2, 3] rfl)
      · skip
        rw [ehr5] at hP
        refine lv_if_eq (tgt := 50) hx hb dX1_send_45 (by decide) (fun c45 => ?_) (fun c45 => ?_)
        · exact absurd c45 (by decide)
        refine lv_iload_n hx hb dX1_send_48 rfl (lv_at hl 0 rfl) ?_
        refine W.widen (k := 2) (n := 12) (Nat.le_of_ble_eq_true rfl) (Nat.le_of_ble_eq_true rfl) ?_
        exact vx_ret (r_i hx hb hr hlocks hP hS dX1_send_49 ⟨⟨hσ_1a, hσ_2a⟩, Or.inl ⟨i, by omega, rfl, ⟨c31, hlthr5, hfthr5⟩, hI.2, qhr5, hqhr5, rfl⟩⟩)
set_option maxHeartbeats 4000000 in
set_option maxRecDepth 100000 in
/-- fits -/
theorem mtX1_fits (l : Launch) (hl0 : l.stackTraces = false) (E : Ev) (hok : e_ok E) (σ : Mem) (o : Nat → Int64) (w g : Int32) : vx_Met l yX1_fits wsX1_fits ({ frames := 7, cells := 2, slots := 12, locals := 110 } : Room) (PW E σ o [.ref (e_a E (0)), .int (w), .int (g)]) (va_Qi (fun (r : Int32) (σ' : Mem) => (okW w ∧ okG g) ∧ r = ftb σ w g 8 ∧ σ' = σ) (BW E o) (LB (e_B E))) (XW E σ o (fun u => u = xIA ∧ ¬ (okW w ∧ okG g))) 2 12 (LB (e_B E)) := by
  refine vx_ofW (cc := cX1_fits) (maxL := 5) (ret := (some .int)) (by decide) rfl ?_
  intro p e s m args below meth c s₁ B hml hno hv
  obtain ⟨rfl, hP, hK⟩ := hv
  have hx := B.exec
  have hb := B.bytes
  have hr := B.returns
  have hts := atoms_spec (ws := wsX1_fits) B.pre
  have hown : s.vm.findClass RX1 = some m.cls := findClass_of_methodNamed B.named
  have hlocks := B.notSynchronized
  have hS : va_S (LB (e_B E)) s.heap s.heap [] := va_S.rf
  have hinX1 : ∀ w ∈ wsX10, w ∈ wsX1_fits := fun w h => by simp only [wsX1_fits, List.mem_cons, List.mem_append, h, or_true, true_or]
  have hf11 := hts (.fieldLink RX1 11 "ParcelChutes" "chutes" "[LParcelChutes$Chute;") (by decide +kernel)
  have hl := lv_entry ([.ref (e_a E (0)), .int (w), .int (g)]) (n := 5) (Nat.le_of_ble_eq_true rfl)
  rw [lg_entry_eq]
  generalize (lg_sl ([.ref (e_a E (0)), .int (w), .int (g)]) ++ List.replicate (5 - (lg_sl ([.ref (e_a E (0)), .int (w), .int (g)])).length) Slot.unset).toArray = ls at hl ⊢
  have hl : lv_has ls 5 [(0, .ref (e_a E (0))), (1, .int (w)), (2, .int (g))] := hl
  refine lv_iload_n hx hb dX1_fits_0 rfl (lv_at hl 1 rfl) ?_
  refine x_Sv (As := [.int (w)]) (rest := []) ⟨hx, hb, hml, hown, hts⟩ (mtX1_requireWeight l hl0 E hok σ o w) (va_cwS 1 hts gX1_fits_X1_requireWeight rfl rfl rfl (by decide +kernel) ⟨Nat.le_of_ble_eq_true rfl, Nat.le_of_ble_eq_true rfl⟩) hno hlocks hK hP hS rfl hl.1 rfl (Nat.le_of_ble_eq_true rfl) dX1_fits_1 ⟨Nat.le_of_ble_eq_true rfl, Nat.le_of_ble_eq_true rfl⟩ (fun u h => ⟨h.1, fun z => h.2 z.1⟩) ⟨Nat.le_of_ble_eq_true rfl, Nat.le_of_ble_eq_true rfl⟩ (fun σ_1 H locs hσ_1 hP hS => ?_)
  obtain ⟨hσ_1a, ehσ_1⟩ := hσ_1
  rw [ehσ_1] at hP
  refine lv_iload_n hx hb dX1_fits_4 rfl (lv_at hl 2 rfl) ?_
  refine x_Sv (As := [.int (g)]) (rest := []) ⟨hx, hb, hml, hown, hts⟩ (mtX1_requireGirth l hl0 E hok σ o g) (va_cwS 1 hts gX1_fits_X1_requireGirth rfl rfl rfl (by decide +kernel) ⟨Nat.le_of_ble_eq_true rfl, Nat.le_of_ble_eq_true rfl⟩) hno hlocks hK hP hS rfl hl.1 rfl (Nat.le_of_ble_eq_true rfl) dX1_fits_5 ⟨Nat.le_of_ble_eq_true rfl, Nat.le_of_ble_eq_true rfl⟩ (fun u h => ⟨h.1, fun z => h.2 z.2⟩) ⟨Nat.le_of_ble_eq_true rfl, Nat.le_of_ble_eq_true rfl⟩ (fun σ_2 H locs hσ_2 hP hS => ?_)
  obtain ⟨hσ_2a, ehσ_2⟩ := hσ_2
  rw [ehσ_2] at hP
  refine lv_iconst (v := 0) hx hb dX1_fits_8 (by decide) ?_
  refine lv_istore_n (lv' := [(3, .int (0)), (0, .ref (e_a E (0))), (1, .int (w)), (2, .int (g))]) hx hb dX1_fits_9 rfl hl (by decide) rfl (fun ls hl => ?_)
  refine lv_iconst (v := 0) hx hb dX1_fits_10 (by decide) ?_
  refine lv_istore (lv' := [(4, .int (0)), (3, .int (0)), (0, .ref (e_a E (0))), (1, .int (w)), (2, .int (g))]) hx hb dX1_fits_11 hl (by decide) rfl (fun ls hl => ?_)
  refine w_loop (E := E) (o := o) (ι := Nat × Int32) (μ := fun (i, y) => 8 - i) (I := fun (i, y) => i ≤ 8 ∧ y = ftb σ w g i) (mem := fun _ => σ) (lv := fun (i, y) => [(4, .int (nI (i))), (3, .int (y)), (0, .ref (e_a E (0))), (1, .int (w)), (2, .int (g))]) (nL := 5) (pch := 13) ?_ ((0), (0)) (show (0) ≤ 8 ∧ (0) = ftb σ w g (0) from ⟨Nat.zero_le _, rfl⟩) hP hS (lv_sub hl [0, 1, 2, 3, 4] rfl)
  rintro ⟨i, y⟩ hI IH H locs ls hP hS hl
  have hP : va_P (e_D E) vwCl (wd E σ o) H := hP
  have hl : lv_has ls 5 [(4, .int (nI (i))), (3, .int (y)), (0, .ref (e_a E (0))), (1, .int (w)), (2, .int (g))] := hl
  have hI : i ≤ 8 ∧ y = ftb σ w g i := hI
  refine lv_iload hx hb dX1_fits_13 (lv_at hl 0 rfl) ?_
  refine lv_bipush (v := 8) hx hb dX1_fits_15 (by decide) ?_
  refine nb_ge (i := i) (j := 8) hx hb rfl rfl (by omega) (by omega) dX1_fits_17 (tgt := 48) (by decide) (fun c17 => ?_) (fun c17 => ?_)
  · skip
    refine lv_iload_n hx hb dX1_fits_48 rfl (lv_at hl 1 rfl) ?_
    refine W.widen (k := 2) (n := 12) (Nat.le_of_ble_eq_true rfl) (Nat.le_of_ble_eq_true rfl) ?_
    exact vx_ret (r_i hx hb hr hlocks hP hS dX1_fits_49 ⟨⟨hσ_1a, hσ_2a⟩, by rw [hI.2, show i = 8 by omega], rfl⟩)
  · skip
    refine lv_aload_n hx hb dX1_fits_20 rfl (lv_at hl 2 rfl) ?_
    refine q_get (C := RX1) (T := TX1) (N := 10) (ci := 1) (v := .ref (e_a E (1))) hx hb hts hinX1 hown hK hP at_0 rfl 0 (by decide) hf11 rfl dX1_fits_21 ?_
    refine lv_iload hx hb dX1_fits_24 (lv_at hl 0 rfl) ?_
    refine q_chld hx hb hK hP (i := i) rfl (by omega) dX1_fits_26 ?_
    refine lv_iload_n hx hb dX1_fits_27 rfl (lv_at hl 3 rfl) ?_
    refine lv_iload_n hx hb dX1_fits_28 rfl (lv_at hl 4 rfl) ?_
    refine k_Vi (As := [.int (w), .int (g)]) (rest := []) ⟨hx, hb, hml, hown, hts⟩ (mtX0_suits l E hok σ o i (by omega) w g) (cwV 2 hts gX1_fits_X0_suits rfl rfl rfl (by decide +kernel) ⟨Nat.le_of_ble_eq_true rfl, Nat.le_of_ble_eq_true rfl⟩) (va_recv hK.K hP (ci := 0) (q0 := i + 2) rfl (at_ch (by omega))) hK hP hS rfl hl.1 rfl (Nat.le_of_ble_eq_true rfl) dX1_fits_29 ⟨Nat.le_of_ble_eq_true rfl, Nat.le_of_ble_eq_true rfl⟩ (fun r3 σ_4 H locs hr3 hP hS => ?_)
    obtain ⟨rfl, ehr3⟩ := hr3
    rw [ehr3] at hP
    refine lv_if_eq (tgt := 42) hx hb dX1_fits_32 (by decide) (fun c32 => ?_) (fun c32 => ?_)
    · skip
      refine lv_iinc (v := nI (i + 1)) (lv' := [(4, .int (nI (i + 1))), (3, .int (y)), (0, .ref (e_a E (0))), (1, .int (w)), (2, .int (g))]) hx hb dX1_fits_42 hl (k := 0) rfl (by exact nI_add (i) 1) (by decide) rfl (fun ls hl => ?_)
      refine lv_goto (tgt := 13) hx hb dX1_fits_45 (by decide) ?_
      exact IH ((i + 1), (y)) (show (i + 1) ≤ 8 ∧ (y) = ftb σ w g (i + 1) from ⟨by omega, by rw [hI.2]; simp [ftb, c32]⟩) (by (try dsimp only); omega) _ _ _ hP hS (lv_sub hl [0, 1, 2, 3, 4] rfl)
    · skip
      refine lv_iload_n hx hb dX1_fits_35 rfl (lv_at hl 1 rfl) ?_
      refine lv_iconst (v := 1) hx hb dX1_fits_36 (by decide) ?_
      refine lv_iload hx hb dX1_fits_37 (lv_at hl 0 rfl) ?_
      refine lv_ishl hx hb dX1_fits_39 ?_
      refine lv_ior hx hb dX1_fits_40 ?_
      refine lv_istore_n (lv' := [(3, .int (y ||| (1 <<< ((nI (i)) &&& 31)))), (4, .int (nI (i))), (0, .ref (e_a E (0))), (1, .int (w)), (2, .int (g))]) hx hb dX1_fits_41 rfl hl (by decide) rfl (fun ls hl => ?_)
      refine lv_iinc (v := nI (i + 1)) (lv' := [(4, .int (nI (i + 1))), (3, .int (y ||| (1 <<< ((nI (i)) &&& 31)))), (0, .ref (e_a E (0))), (1, .int (w)), (2, .int (g))]) hx hb dX1_fits_42 hl (k := 1) rfl (by exact nI_add (i) 1) (by decide) rfl (fun ls hl => ?_)
      refine lv_goto (tgt := 13) hx hb dX1_fits_45 (by decide) ?_
      exact IH ((i + 1), (y ||| (1 <<< ((nI (i)) &&& 31)))) (show (i + 1) ≤ 8 ∧ (y ||| (1 <<< ((nI (i)) &&& 31))) = ftb σ w g (i + 1) from ⟨by omega, by rw [hI.2]; simp [ftb, c32]⟩) (by (try dsimp only); omega) _ _ _ hP hS (lv_sub hl [0, 1, 2, 3, 4] rfl)
theorem wxX1_signs_24 : ∀ w ∈ (vx_atS RX1 24 "java/lang/IllegalArgumentException" ["java/lang/RuntimeException", "java/lang/Exception"]).filter goodWord, w ∈ wsX1_signs := fun w h => by
  simp only [wsX1_signs, List.mem_cons, List.mem_append, h, or_true, true_or]
set_option maxHeartbeats 4000000 in
set_option maxRecDepth 100000 in
/-- signs -/
theorem mtX1_signs (l : Launch) (hl0 : l.stackTraces = false) (E : Ev) (hok : e_ok E) (σ : Mem) (o : Nat → Int64) (x v z : Int32) : vx_Met l yX1_signs wsX1_signs ({ frames := 7, cells := 2, slots := 12, locals := 111 } : Room) (PW E σ o [.ref (e_a E (0)), .int (x), .int (v), .int (z)]) (va_Qi (fun (r : Int32) (σ' : Mem) => (∃ k : Nat, k < 8 ∧ x = nI k ∧ ((v = 0 ∧ okW z ∧ r = sg z (σ (k + 2) 4)) ∨ (v = 1 ∧ okW z ∧ r = sg z (σ (k + 2) 5)) ∨ (v = 2 ∧ okG z ∧ r = sg z (σ (k + 2) 6)))) ∧ σ' = σ) (BW E o) (LB (e_B E))) (XW E σ o (fun u => (u = xIO ∧ ¬ isCh x) ∨ (u = xIA ∧ isCh x ∧ ¬ ((v = 0 ∧ okW z) ∨ (v = 1 ∧ okW z) ∨ (v = 2 ∧ okG z))))) 2 12 (LB (e_B E)) := by
  refine vx_ofW (cc := cX1_signs) (maxL := 5) (ret := (some .int)) (by decide) rfl ?_
  intro p e s m args below meth c s₁ B hml hno hv
  obtain ⟨rfl, hP, hK⟩ := hv
  have hx := B.exec
  have hb := B.bytes
  have hr := B.returns
  have hts := atoms_spec (ws := wsX1_signs) B.pre
  have hown : s.vm.findClass RX1 = some m.cls := findClass_of_methodNamed B.named
  have hlocks := B.notSynchronized
  have hS : va_S (LB (e_B E)) s.heap s.heap [] := va_S.rf
  have hinX0 : ∀ w ∈ wsX00, w ∈ wsX1_signs := fun w h => by simp only [wsX1_signs, List.mem_cons, List.mem_append, h, or_true, true_or]
  have hf52 := hts (.fieldLink RX1 52 "ParcelChutes$Chute" "low" "I") (by decide +kernel)
  have hf55 := hts (.fieldLink RX1 55 "ParcelChutes$Chute" "high" "I") (by decide +kernel)
  have hf58 := hts (.fieldLink RX1 58 "ParcelChutes$Chute" "wide" "I") (by decide +kernel)
  have hl := lv_entry ([.ref (e_a E (0)), .int (x), .int (v), .int (z)]) (n := 5) (Nat.le_of_ble_eq_true rfl)
  rw [lg_entry_eq]
  generalize (lg_sl ([.ref (e_a E (0)), .int (x), .int (v), .int (z)]) ++ List.replicate (5 - (lg_sl ([.ref (e_a E (0)), .int (x), .int (v), .int (z)])).length) Slot.unset).toArray = ls at hl ⊢
  have hl : lv_has ls 5 [(0, .ref (e_a E (0))), (1, .int (x)), (2, .int (v)), (3, .int (z))] := hl
  refine lv_aload_n hx hb dX1_signs_0 rfl (lv_at hl 0 rfl) ?_
  refine lv_iload_n hx hb dX1_signs_1 rfl (lv_at hl 1 rfl) ?_
  refine x_Vc (As := [.int (x)]) (rest := []) ⟨hx, hb, hml, hown, hts⟩ (mtX1_chuteAt l hl0 E hok σ o x) (cwV 1 hts gX1_signs_X1_chuteAt rfl rfl rfl (by decide +kernel) ⟨Nat.le_of_ble_eq_true rfl, Nat.le_of_ble_eq_true rfl⟩) (va_recv hK.K hP (ci := 1) (q0 := 0) rfl at_0) hno hlocks hK hP hS rfl hl.1 rfl (Nat.le_of_ble_eq_true rfl) dX1_signs_2 ⟨Nat.le_of_ble_eq_true rfl, Nat.le_of_ble_eq_true rfl⟩ (fun u h => Or.inl h) ⟨Nat.le_of_ble_eq_true rfl, Nat.le_of_ble_eq_true rfl⟩ (fun k1 H locs hk1 hP hS => ?_)
  obtain ⟨hk1k, hk1e⟩ := hk1
  refine lv_astore (lv' := [(4, .ref (e_a E (k1 + 2))), (0, .ref (e_a E (0))), (1, .int (x)), (2, .int (v)), (3, .int (z))]) hx hb dX1_signs_5 hl (by decide) rfl (fun ls hl => ?_)
  refine lv_iload_n hx hb dX1_signs_7 rfl (lv_at hl 3 rfl) ?_
  by_cases k8_0 : v = 0
  · skip
    refine lv_tableIn (off := 28) (tgt := 36) hx hb dX1_signs_8 (by rw [k8_0]; decide) (by rw [k8_0]; decide) (by rw [k8_0]; rfl) (by decide) ?_
    refine lv_iload_n hx hb dX1_signs_36 rfl (lv_at hl 4 rfl) ?_
    refine x_Sv (As := [.int (z)]) (rest := []) ⟨hx, hb, hml, hown, hts⟩ (mtX1_requireWeight l hl0 E hok σ o z) (va_cwS 1 hts gX1_signs_X1_requireWeight rfl rfl rfl (by decide +kernel) ⟨Nat.le_of_ble_eq_true rfl, Nat.le_of_ble_eq_true rfl⟩) hno hlocks hK hP hS rfl hl.1 rfl (Nat.le_of_ble_eq_true rfl) dX1_signs_37 ⟨Nat.le_of_ble_eq_true rfl, Nat.le_of_ble_eq_true rfl⟩ (fun u h => Or.inr ⟨h.1, ⟨k1, hk1k, hk1e⟩, fun zz => zz.elim (fun q => h.2 q.2) (fun q => q.elim (fun q => absurd (k8_0.symm.trans q.1) (by decide)) (fun q => absurd (k8_0.symm.trans q.1) (by decide)))⟩) ⟨Nat.le_of_ble_eq_true rfl, Nat.le_of_ble_eq_true rfl⟩ (fun σ_2 H locs hσ_2 hP hS => ?_)
    obtain ⟨hσ_2a, ehσ_2⟩ := hσ_2
    rw [ehσ_2] at hP
    refine lv_iload_n hx hb dX1_signs_40 rfl (lv_at hl 4 rfl) ?_
    refine lv_aload hx hb dX1_signs_41 (lv_at hl 0 rfl) ?_
    refine q_get (C := RX0) (T := TX0) (N := 8) (ci := 0) (v := .int (σ (k1 + 2) 4)) hx hb hts hinX0 hown hK hP (at_ch hk1k) rfl 4 (by decide) hf52 rfl dX1_signs_43 ?_
    refine k_Si (As := [.int (z), .int (σ (k1 + 2) 4)]) (rest := []) ⟨hx, hb, hml, hown, hts⟩ (mtX1_signsBetween l z (σ (k1 + 2) 4)) (va_cwS 2 hts gX1_signs_X1_signsBetween rfl rfl rfl (by decide +kernel) ⟨Nat.le_of_ble_eq_true rfl, Nat.le_of_ble_eq_true rfl⟩) rfl hl.1 rfl (Nat.le_of_ble_eq_true rfl) dX1_signs_46 ⟨Nat.le_of_ble_eq_true rfl, Nat.le_of_ble_eq_true rfl⟩ (fun r3 er3 => ?_)
    subst er3
    refine W.widen (k := 2) (n := 12) (Nat.le_of_ble_eq_true rfl) (Nat.le_of_ble_eq_true rfl) ?_
    exact vx_ret (r_i hx hb hr hlocks hP hS dX1_signs_49 ⟨⟨k1, hk1k, hk1e, Or.inl ⟨k8_0, hσ_2a, rfl⟩⟩, rfl⟩)
  by_cases k8_1 : v = 1
  · skip
    refine lv_tableIn (off := 42) (tgt := 50) hx hb dX1_signs_8 (by rw [k8_1]; decide) (by rw [k8_1]; decide) (by rw [k8_1]; rfl) (by decide) ?_
    refine lv_iload_n hx hb dX1_signs_50 rfl (lv_at hl 4 rfl) ?_
    refine x_Sv (As := [.int (z)]) (rest := []) ⟨hx, hb, hml, hown, hts⟩ (mtX1_requireWeight l hl0 E hok σ o z) (va_cwS 1 hts gX1_signs_X1_requireWeight rfl rfl rfl (by decide +kernel) ⟨Nat.le_of_ble_eq_true rfl, Nat.le_of_ble_eq_true rfl⟩) hno hlocks hK hP hS rfl hl.1 rfl (Nat.le_of_ble_eq_true rfl) dX1_signs_51 ⟨Nat.le_of_ble_eq_true rfl, Nat.le_of_ble_eq_true rfl⟩ (fun u h => Or.inr ⟨h.1, ⟨k1, hk1k, hk1e⟩, fun zz => zz.elim (fun q => absurd (k8_1.symm.trans q.1) (by decide)) (fun q => q.elim (fun q => h.2 q.2) (fun q => absurd (k8_1.symm.trans q.1) (by decide)))⟩) ⟨Nat.le_of_ble_eq_true rfl, Nat.le_of_ble_eq_true rfl⟩ (fun σ_4 H locs hσ_4 hP hS => ?_)
    obtain ⟨hσ_4a, ehσ_4⟩ := hσ_4
    rw [ehσ_4] at hP
    refine lv_iload_n hx hb dX1_signs_54 rfl (lv_at hl 4 rfl) ?_
    refine lv_aload hx hb dX1_signs_55 (lv_at hl 0 rfl) ?_
    refine q_get (C := RX0) (T := TX0) (N := 8) (ci := 0) (v := .int (σ (k1 + 2) 5)) hx hb hts hinX0 hown hK hP (at_ch hk1k) rfl 5 (by decide) hf55 rfl dX1_signs_57 ?_
    refine k_Si (As := [.int (z), .int (σ (k1 + 2) 5)]) (rest := []) ⟨hx, hb, hml, hown, hts⟩ (mtX1_signsBetween l z (σ (k1 + 2) 5)) (va_cwS 2 hts gX1_signs_X1_signsBetween rfl rfl rfl (by decide +kernel) ⟨Nat.le_of_ble_eq_true rfl, Nat.le_of_ble_eq_true rfl⟩) rfl hl.1 rfl (Nat.le_of_ble_eq_true rfl) dX1_signs_60 ⟨Nat.le_of_ble_eq_true rfl, Nat.le_of_ble_eq_true rfl⟩ (fun r5 er5 => ?_)
    subst er5
    refine W.widen (k := 2) (n := 12) (Nat.le_of_ble_eq_true rfl) (Nat.le_of_ble_eq_true rfl) ?_
    exact vx_ret (r_i hx hb hr hlocks hP hS dX1_signs_63 ⟨⟨k1, hk1k, hk1e, Or.inr (Or.inl ⟨k8_1, hσ_4a, rfl⟩)⟩, rfl⟩)
  by_cases k8_2 : v = 2
  · skip
    refine lv_tableIn (off := 56) (tgt := 64) hx hb dX1_signs_8 (by rw [k8_2]; decide) (by rw [k8_2]; decide) (by rw [k8_2]; rfl) (by decide) ?_
    refine lv_iload_n hx hb dX1_signs_64 rfl (lv_at hl 4 rfl) ?_
    refine x_Sv (As := [.int (z)]) (rest := []) ⟨hx, hb, hml, hown, hts⟩ (mtX1_requireGirth l hl0 E hok σ o z) (va_cwS 1 hts gX1_signs_X1_requireGirth rfl rfl rfl (by decide +kernel) ⟨Nat.le_of_ble_eq_true rfl, Nat.le_of_ble_eq_true rfl⟩) hno hlocks hK hP hS rfl hl.1 rfl (Nat.le_of_ble_eq_true rfl) dX1_signs_65 ⟨Nat.le_of_ble_eq_true rfl, Nat.le_of_ble_eq_true rfl⟩ (fun u h => Or.inr ⟨h.1, ⟨k1, hk1k, hk1e⟩, fun zz => zz.elim (fun q => absurd (k8_2.symm.trans q.1) (by decide)) (fun q => q.elim (fun q => absurd (k8_2.symm.trans q.1) (by decide)) (fun q => h.2 q.2))⟩) ⟨Nat.le_of_ble_eq_true rfl, Nat.le_of_ble_eq_true rfl⟩ (fun σ_6 H locs hσ_6 hP hS => ?_)
    obtain ⟨hσ_6a, ehσ_6⟩ := hσ_6
    rw [ehσ_6] at hP
    refine lv_iload_n hx hb dX1_signs_68 rfl (lv_at hl 4 rfl) ?_
    refine lv_aload hx hb dX1_signs_69 (lv_at hl 0 rfl) ?_
    refine q_get (C := RX0) (T := TX0) (N := 8) (ci := 0) (v := .int (σ (k1 + 2) 6)) hx hb hts hinX0 hown hK hP (at_ch hk1k) rfl 6 (by decide) hf58 rfl dX1_signs_71 ?_
    refine k_Si (As := [.int (z), .int (σ (k1 + 2) 6)]) (rest := []) ⟨hx, hb, hml, hown, hts⟩ (mtX1_signsBetween l z (σ (k1 + 2) 6)) (va_cwS 2 hts gX1_signs_X1_signsBetween rfl rfl rfl (by decide +kernel) ⟨Nat.le_of_ble_eq_true rfl, Nat.le_of_ble_eq_true rfl⟩) rfl hl.1 rfl (Nat.le_of_ble_eq_true rfl) dX1_signs_74 ⟨Nat.le_of_ble_eq_true rfl, Nat.le_of_ble_eq_true rfl⟩ (fun r7 er7 => ?_)
    subst er7
    refine W.widen (k := 2) (n := 12) (Nat.le_of_ble_eq_true rfl) (Nat.le_of_ble_eq_true rfl) ?_
    exact vx_ret (r_i hx hb hr hlocks hP hS dX1_signs_77 ⟨⟨k1, hk1k, hk1e, Or.inr (Or.inr ⟨k8_2, hσ_6a, rfl⟩)⟩, rfl⟩)
  refine lv_tableOut (tgt := 78) hx hb dX1_signs_8 (tb_out2 _ k8_0 k8_1 k8_2) (by decide) ?_
  exact x_throw hx hb hl0 (ik := 20) (is := 87) (ic := 24) hown (by decide +kernel) (hts (.classLink RX1 20 "java/lang/IllegalArgumentException") (by decide +kernel)) (hts (.initialized "java/lang/IllegalArgumentException") (by decide +kernel)) hK.s87 (vx_hat (B := [.castable "java/lang/IllegalArgumentException" "java/lang/IllegalArgumentException", .declares (Bundle.initS "java/lang/RuntimeException"), .declares (Bundle.initS "java/lang/Exception"), .declares (Bundle.initS "java/lang/Throwable")]) (fun w h => hts w (wxX1_signs_24 w h)) (by decide +kernel) (vx_c (hK.c (by decide)) (vx_c (hK.d (by decide)) (vx_c (hK.d (by decide)) (vx_c (hK.d (by decide)) vx_n))))) (by decide +kernel) hK hP hS hl.1 hml dX1_signs_78 dX1_signs_81 dX1_signs_82 dX1_signs_84 dX1_signs_87 hno (Nat.le_of_ble_eq_true rfl) (Nat.le_of_ble_eq_true rfl) (Nat.le_of_ble_eq_true rfl) (Nat.le_of_ble_eq_true rfl) hlocks (Or.inr ⟨rfl, ⟨k1, hk1k, hk1e⟩, fun zz => zz.elim (fun q => k8_0 q.1) (fun q => q.elim (fun q => k8_1 q.1) (fun q => k8_2 q.1))⟩) (Nat.le_of_ble_eq_true rfl) (Nat.le_of_ble_eq_true rfl)
end
section
theorem wxX1_chute_24 : ∀ w ∈ (vx_atS RX1 24 "java/lang/IllegalArgumentException" ["java/lang/RuntimeException", "java/lang/Exception"]).filter goodWord, w ∈ wsX1_chute := fun w h => by
  simp only [wsX1_chute, List.mem_cons, List.mem_append, h, or_true, true_or]
set_option maxHeartbeats 4000000 in
set_option maxRecDepth 100000 in
/-- chute -/
theorem mtX1_chute (l : Launch) (hl0 : l.stackTraces = false) (E : Ev) (hok : e_ok E) (σ : Mem) (o : Nat → Int64) (x v : Int32) (N : Nat → Nat) (hN : okN σ N) : vx_Met l yX1_chute wsX1_chute ({ frames := 7, cells := 2, slots := 12, locals := 111 } : Room) (PW E σ o [.ref (e_a E (0)), .int (x), .int (v)]) (va_Qi (fun (r : Int32) (σ' : Mem) => ∃ k : Nat, k < 8 ∧ x = nI k ∧ okV v ∧ r = chC σ N k v ∧ σ' = σ) (BW E o) (LB (e_B E))) (XW E σ o (fun u => (u = xIO ∧ ¬ isCh x) ∨ (u = xIA ∧ isCh x ∧ ¬ okV v))) 2 12 (LB (e_B E)) := by
  refine vx_ofW (cc := cX1_chute) (maxL := 4) (ret := (some .int)) (by decide) rfl ?_
  intro p e s m args below meth c s₁ B hml hno hv
  obtain ⟨rfl, hP, hK⟩ := hv
  have hx := B.exec
  have hb := B.bytes
  have hr := B.returns
  have hts := atoms_spec (ws := wsX1_chute) B.pre
  have hown : s.vm.findClass RX1 = some m.cls := findClass_of_methodNamed B.named
  have hlocks := B.notSynchronized
  have hS : va_S (LB (e_B E)) s.heap s.heap [] := va_S.rf
  have hinX0 : ∀ w ∈ wsX00, w ∈ wsX1_chute := fun w h => by simp only [wsX1_chute, List.mem_cons, List.mem_append, h, or_true, true_or]
  have hf27 := hts (.fieldLink RX1 27 "ParcelChutes$Chute" "count" "I") (by decide +kernel)
  have hf36 := hts (.fieldLink RX1 36 "ParcelChutes$Chute" "kind" "I") (by decide +kernel)
  have hf52 := hts (.fieldLink RX1 52 "ParcelChutes$Chute" "low" "I") (by decide +kernel)
  have hf55 := hts (.fieldLink RX1 55 "ParcelChutes$Chute" "high" "I") (by decide +kernel)
  have hf58 := hts (.fieldLink RX1 58 "ParcelChutes$Chute" "wide" "I") (by decide +kernel)
  have hf65 := hts (.fieldLink RX1 65 "ParcelChutes$Chute" "closed" "Z") (by decide +kernel)
  have hf89 := hts (.fieldLink RX1 89 "ParcelChutes$Chute" "weights" "[I") (by decide +kernel)
  have hf97 := hts (.fieldLink RX1 97 "ParcelChutes$Chute" "girths" "[I") (by decide +kernel)
  have hl := lv_entry ([.ref (e_a E (0)), .int (x), .int (v)]) (n := 4) (Nat.le_of_ble_eq_true rfl)
  rw [lg_entry_eq]
  generalize (lg_sl ([.ref (e_a E (0)), .int (x), .int (v)]) ++ List.replicate (4 - (lg_sl ([.ref (e_a E (0)), .int (x), .int (v)])).length) Slot.unset).toArray = ls at hl ⊢
  have hl : lv_has ls 4 [(0, .ref (e_a E (0))), (1, .int (x)), (2, .int (v))] := hl
  refine lv_aload_n hx hb dX1_chute_0 rfl (lv_at hl 0 rfl) ?_
  refine lv_iload_n hx hb dX1_chute_1 rfl (lv_at hl 1 rfl) ?_
  refine x_Vc (As := [.int (x)]) (rest := []) ⟨hx, hb, hml, hown, hts⟩ (mtX1_chuteAt l hl0 E hok σ o x) (cwV 1 hts gX1_chute_X1_chuteAt rfl rfl rfl (by decide +kernel) ⟨Nat.le_of_ble_eq_true rfl, Nat.le_of_ble_eq_true rfl⟩) (va_recv hK.K hP (ci := 1) (q0 := 0) rfl at_0) hno hlocks hK hP hS rfl hl.1 rfl (Nat.le_of_ble_eq_true rfl) dX1_chute_2 ⟨Nat.le_of_ble_eq_true rfl, Nat.le_of_ble_eq_true rfl⟩ (fun u h => Or.inl h) ⟨Nat.le_of_ble_eq_true rfl, Nat.le_of_ble_eq_true rfl⟩ (fun k1 H locs hk1 hP hS => ?_)
  obtain ⟨hk1k, hk1e⟩ := hk1
  have h12k1 := (hN k1 hk1k).2
  refine lv_astore_n (lv' := [(3, .ref (e_a E (k1 + 2))), (0, .ref (e_a E (0))), (1, .int (x)), (2, .int (v))]) hx hb dX1_chute_5 rfl hl (by decide) rfl (fun ls hl => ?_)
  refine lv_iload_n hx hb dX1_chute_6 rfl (lv_at hl 3 rfl) ?_
  by_cases k7_0 : v = 0
  · skip
    refine lv_tableIn (off := 45) (tgt := 52) hx hb dX1_chute_7 (by rw [k7_0]; decide) (by rw [k7_0]; decide) (by rw [k7_0]; rfl) (by decide) ?_
    refine lv_aload_n hx hb dX1_chute_52 rfl (lv_at hl 0 rfl) ?_
    refine q_get (C := RX0) (T := TX0) (N := 8) (ci := 0) (v := .int (σ (k1 + 2) 3)) hx hb hts hinX0 hown hK hP (at_ch hk1k) rfl 3 (by decide) hf36 rfl dX1_chute_53 ?_
    refine W.widen (k := 2) (n := 12) (Nat.le_of_ble_eq_true rfl) (Nat.le_of_ble_eq_true rfl) ?_
    exact vx_ret (r_i hx hb hr hlocks hP hS dX1_chute_56 ⟨k1, hk1k, hk1e, okV_j (j := 0) (by decide) k7_0, by simp [chC, k7_0], rfl⟩)
  by_cases k7_1 : v = 1
  · skip
    refine lv_tableIn (off := 50) (tgt := 57) hx hb dX1_chute_7 (by rw [k7_1]; decide) (by rw [k7_1]; decide) (by rw [k7_1]; rfl) (by decide) ?_
    refine lv_aload_n hx hb dX1_chute_57 rfl (lv_at hl 0 rfl) ?_
    refine q_get (C := RX0) (T := TX0) (N := 8) (ci := 0) (v := .int (σ (k1 + 2) 4)) hx hb hts hinX0 hown hK hP (at_ch hk1k) rfl 4 (by decide) hf52 rfl dX1_chute_58 ?_
    refine W.widen (k := 2) (n := 12) (Nat.le_of_ble_eq_true rfl) (Nat.le_of_ble_eq_true rfl) ?_
    exact vx_ret (r_i hx hb hr hlocks hP hS dX1_chute_61 ⟨k1, hk1k, hk1e, okV_j (j := 1) (by decide) k7_1, by simp [chC, k7_1], rfl⟩)
  by_cases k7_2 : v = 2
  · skip
    refine lv_tableIn (off := 55) (tgt := 62) hx hb dX1_chute_7 (by rw [k7_2]; decide) (by rw [k7_2]; decide) (by rw [k7_2]; rfl) (by decide) ?_
    refine lv_aload_n hx hb dX1_chute_62 rfl (lv_at hl 0 rfl) ?_
    refine q_get (C := RX0) (T := TX0) (N := 8) (ci := 0) (v := .int (σ (k1 + 2) 5)) hx hb hts hinX0 hown hK hP (at_ch hk1k) rfl 5 (by decide) hf55 rfl dX1_chute_63 ?_
    refine W.widen (k := 2) (n := 12) (Nat.le_of_ble_eq_true rfl) (Nat.le_of_ble_eq_true rfl) ?_
    exact vx_ret (r_i hx hb hr hlocks hP hS dX1_chute_66 ⟨k1, hk1k, hk1e, okV_j (j := 2) (by decide) k7_2, by simp [chC, k7_2], rfl⟩)
  by_cases k7_3 : v = 3
  · skip
    refine lv_tableIn (off := 60) (tgt := 67) hx hb dX1_chute_7 (by rw [k7_3]; decide) (by rw [k7_3]; decide) (by rw [k7_3]; rfl) (by decide) ?_
    refine lv_aload_n hx hb dX1_chute_67 rfl (lv_at hl 0 rfl) ?_
    refine q_get (C := RX0) (T := TX0) (N := 8) (ci := 0) (v := .int (σ (k1 + 2) 6)) hx hb hts hinX0 hown hK hP (at_ch hk1k) rfl 6 (by decide) hf58 rfl dX1_chute_68 ?_
    refine W.widen (k := 2) (n := 12) (Nat.le_of_ble_eq_true rfl) (Nat.le_of_ble_eq_true rfl) ?_
    exact vx_ret (r_i hx hb hr hlocks hP hS dX1_chute_71 ⟨k1, hk1k, hk1e, okV_j (j := 3) (by decide) k7_3, by simp [chC, k7_3], rfl⟩)
  by_cases k7_4 : v = 4
  · skip
    refine lv_tableIn (off := 65) (tgt := 72) hx hb dX1_chute_7 (by rw [k7_4]; decide) (by rw [k7_4]; decide) (by rw [k7_4]; rfl) (by decide) ?_
    refine lv_aload_n hx hb dX1_chute_72 rfl (lv_at hl 0 rfl) ?_
    refine q_get (C := RX0) (T := TX0) (N := 8) (ci := 0) (v := .int (σ (k1 + 2) 7)) hx hb hts hinX0 hown hK hP (at_ch hk1k) rfl 7 (by decide) hf65 rfl dX1_chute_73 ?_
    refine k_Si (As := [.int (σ (k1 + 2) 7)]) (rest := []) ⟨hx, hb, hml, hown, hts⟩ (mtX1_oneIf l (σ (k1 + 2) 7)) (va_cwS 1 hts gX1_chute_X1_oneIf rfl rfl rfl (by decide +kernel) ⟨Nat.le_of_ble_eq_true rfl, Nat.le_of_ble_eq_true rfl⟩) rfl hl.1 rfl (Nat.le_of_ble_eq_true rfl) dX1_chute_76 ⟨Nat.le_of_ble_eq_true rfl, Nat.le_of_ble_eq_true rfl⟩ (fun r2 er2 => ?_)
    subst er2
    refine W.widen (k := 2) (n := 12) (Nat.le_of_ble_eq_true rfl) (Nat.le_of_ble_eq_true rfl) ?_
    exact vx_ret (r_i hx hb hr hlocks hP hS dX1_chute_79 ⟨k1, hk1k, hk1e, okV_j (j := 4) (by decide) k7_4, by simp [chC, k7_4], rfl⟩)
  by_cases k7_5 : v = 5
  · skip
    refine lv_tableIn (off := 73) (tgt := 80) hx hb dX1_chute_7 (by rw [k7_5]; decide) (by rw [k7_5]; decide) (by rw [k7_5]; rfl) (by decide) ?_
    refine lv_aload_n hx hb dX1_chute_80 rfl (lv_at hl 0 rfl) ?_
    refine q_get (C := RX0) (T := TX0) (N := 8) (ci := 0) (v := .int (σ (k1 + 2) 2)) hx hb hts hinX0 hown hK hP (at_ch hk1k) rfl 2 (by decide) hf27 rfl dX1_chute_81 ?_
    refine W.widen (k := 2) (n := 12) (Nat.le_of_ble_eq_true rfl) (Nat.le_of_ble_eq_true rfl) ?_
    exact vx_ret (r_i hx hb hr hlocks hP hS dX1_chute_84 ⟨k1, hk1k, hk1e, okV_j (j := 5) (by decide) k7_5, by simp [chC, k7_5], rfl⟩)
  by_cases k7_6 : v = 6
  · skip
    refine lv_tableIn (off := 78) (tgt := 85) hx hb dX1_chute_7 (by rw [k7_6]; decide) (by rw [k7_6]; decide) (by rw [k7_6]; rfl) (by decide) ?_
    refine lv_aload_n hx hb dX1_chute_85 rfl (lv_at hl 0 rfl) ?_
    refine lv_aload_n hx hb dX1_chute_86 rfl (lv_at hl 0 rfl) ?_
    refine q_get (C := RX0) (T := TX0) (N := 8) (ci := 0) (v := .ref (e_a E (k1 + 10))) hx hb hts hinX0 hown hK hP (at_ch hk1k) rfl 0 (by decide) hf89 rfl dX1_chute_87 ?_
    refine k_Vi (As := [.ref (e_a E (k1 + 10))]) (rest := []) ⟨hx, hb, hml, hown, hts⟩ (mtX0_unknownIn_w l E hok σ o k1 hk1k (N k1) (hN k1 hk1k).1 (hN k1 hk1k).2) (cwV 1 hts gX1_chute_X0_unknownIn rfl rfl rfl (by decide +kernel) ⟨Nat.le_of_ble_eq_true rfl, Nat.le_of_ble_eq_true rfl⟩) (va_recv hK.K hP (ci := 0) (q0 := k1 + 2) rfl (at_ch hk1k)) hK hP hS rfl hl.1 rfl (Nat.le_of_ble_eq_true rfl) dX1_chute_90 ⟨Nat.le_of_ble_eq_true rfl, Nat.le_of_ble_eq_true rfl⟩ (fun r3 σ_4 H locs hr3 hP hS => ?_)
    obtain ⟨rfl, ehr3⟩ := hr3
    rw [ehr3] at hP
    refine W.widen (k := 2) (n := 12) (Nat.le_of_ble_eq_true rfl) (Nat.le_of_ble_eq_true rfl) ?_
    exact vx_ret (r_i hx hb hr hlocks hP hS dX1_chute_93 ⟨k1, hk1k, hk1e, okV_j (j := 6) (by decide) k7_6, by simp [chC, k7_6], rfl⟩)
  by_cases k7_7 : v = 7
  · skip
    refine lv_tableIn (off := 87) (tgt := 94) hx hb dX1_chute_7 (by rw [k7_7]; decide) (by rw [k7_7]; decide) (by rw [k7_7]; rfl) (by decide) ?_
    refine lv_aload_n hx hb dX1_chute_94 rfl (lv_at hl 0 rfl) ?_
    refine lv_aload_n hx hb dX1_chute_95 rfl (lv_at hl 0 rfl) ?_
    refine q_get (C := RX0) (T := TX0) (N := 8) (ci := 0) (v := .ref (e_a E (k1 + 18))) hx hb hts hinX0 hown hK hP (at_ch hk1k) rfl 1 (by decide) hf97 rfl dX1_chute_96 ?_
    refine k_Vi (As := [.ref (e_a E (k1 + 18))]) (rest := []) ⟨hx, hb, hml, hown, hts⟩ (mtX0_unknownIn_g l E hok σ o k1 hk1k (N k1) (hN k1 hk1k).1 (hN k1 hk1k).2) (cwV 1 hts gX1_chute_X0_unknownIn rfl rfl rfl (by decide +kernel) ⟨Nat.le_of_ble_eq_true rfl, Nat.le_of_ble_eq_true rfl⟩) (va_recv hK.K hP (ci := 0) (q0 := k1 + 2) rfl (at_ch hk1k)) hK hP hS rfl hl.1 rfl (Nat.le_of_ble_eq_true rfl) dX1_chute_99 ⟨Nat.le_of_ble_eq_true rfl, Nat.le_of_ble_eq_true rfl⟩ (fun r5 σ_6 H locs hr5 hP hS => ?_)
    obtain ⟨rfl, ehr5⟩ := hr5
    rw [ehr5] at hP
    refine W.widen (k := 2) (n := 12) (Nat.le_of_ble_eq_true rfl) (Nat.le_of_ble_eq_true rfl) ?_
    exact vx_ret (r_i hx hb hr hlocks hP hS dX1_chute_102 ⟨k1, hk1k, hk1e, okV_j (j := 7) (by decide) k7_7, by simp [chC, k7_7], rfl⟩)
  refine lv_tableOut (tgt := 103) hx hb dX1_chute_7 (tb_out7 _ k7_0 k7_1 k7_2 k7_3 k7_4 k7_5 k7_6 k7_7) (by decide) ?_
  exact x_throw hx hb hl0 (ik := 20) (is := 87) (ic := 24) hown (by decide +kernel) (hts (.classLink RX1 20 "java/lang/IllegalArgumentException") (by decide +kernel)) (hts (.initialized "java/lang/IllegalArgumentException") (by decide +kernel)) hK.s87 (vx_hat (B := [.castable "java/lang/IllegalArgumentException" "java/lang/IllegalArgumentException", .declares (Bundle.initS "java/lang/RuntimeException"), .declares (Bundle.initS "java/lang/Exception"), .declares (Bundle.initS "java/lang/Throwable")]) (fun w h => hts w (wxX1_chute_24 w h)) (by decide +kernel) (vx_c (hK.c (by decide)) (vx_c (hK.d (by decide)) (vx_c (hK.d (by decide)) (vx_c (hK.d (by decide)) vx_n))))) (by decide +kernel) hK hP hS hl.1 hml dX1_chute_103 dX1_chute_106 dX1_chute_107 dX1_chute_109 dX1_chute_112 hno (Nat.le_of_ble_eq_true rfl) (Nat.le_of_ble_eq_true rfl) (Nat.le_of_ble_eq_true rfl) (Nat.le_of_ble_eq_true rfl) hlocks (Or.inr ⟨rfl, ⟨k1, hk1k, hk1e⟩, okV_no k7_0 k7_1 k7_2 k7_3 k7_4 k7_5 k7_6 k7_7⟩) (Nat.le_of_ble_eq_true rfl) (Nat.le_of_ble_eq_true rfl)
set_option maxHeartbeats 4000000 in
set_option maxRecDepth 100000 in
/-- weight -/
theorem mtX1_weight (l : Launch) (hl0 : l.stackTraces = false) (E : Ev) (hok : e_ok E) (σ : Mem) (o : Nat → Int64) (x v : Int32) (N : Nat → Nat) (hN : okN σ N) : vx_Met l yX1_weight wsX1_weight ({ frames := 7, cells := 2, slots := 12, locals := 111 } : Room) (PW E σ o [.ref (e_a E (0)), .int (x), .int (v)]) (va_Qi (fun (r : Int32) (σ' : Mem) => ∃ k : Nat, k < 8 ∧ x = nI k ∧ ∃ q : Nat, q < N k ∧ v = nI q ∧ r = σ (k + 10) q ∧ σ' = σ) (BW E o) (LB (e_B E))) (XW E σ o (fun u => (u = xIO ∧ ¬ isCh x) ∨ (u = xNS ∧ ∃ k : Nat, k < 8 ∧ x = nI k ∧ ¬ ∃ q : Nat, q < N k ∧ v = nI q))) 2 12 (LB (e_B E)) := by
  refine vx_ofW (cc := cX1_weight) (maxL := 4) (ret := (some .int)) (by decide) rfl ?_
  intro p e s m args below meth c s₁ B hml hno hv
  obtain ⟨rfl, hP, hK⟩ := hv
  have hx := B.exec
  have hb := B.bytes
  have hr := B.returns
  have hts := atoms_spec (ws := wsX1_weight) B.pre
  have hown : s.vm.findClass RX1 = some m.cls := findClass_of_methodNamed B.named
  have hlocks := B.notSynchronized
  have hS : va_S (LB (e_B E)) s.heap s.heap [] := va_S.rf
  have hinX0 : ∀ w ∈ wsX00, w ∈ wsX1_weight := fun w h => by simp only [wsX1_weight, List.mem_cons, List.mem_append, h, or_true, true_or]
  have hf89 := hts (.fieldLink RX1 89 "ParcelChutes$Chute" "weights" "[I") (by decide +kernel)
  have hl := lv_entry ([.ref (e_a E (0)), .int (x), .int (v)]) (n := 4) (Nat.le_of_ble_eq_true rfl)
  rw [lg_entry_eq]
  generalize (lg_sl ([.ref (e_a E (0)), .int (x), .int (v)]) ++ List.replicate (4 - (lg_sl ([.ref (e_a E (0)), .int (x), .int (v)])).length) Slot.unset).toArray = ls at hl ⊢
  have hl : lv_has ls 4 [(0, .ref (e_a E (0))), (1, .int (x)), (2, .int (v))] := hl
  refine lv_aload_n hx hb dX1_weight_0 rfl (lv_at hl 0 rfl) ?_
  refine lv_iload_n hx hb dX1_weight_1 rfl (lv_at hl 1 rfl) ?_
  refine x_Vc (As := [.int (x)]) (rest := []) ⟨hx, hb, hml, hown, hts⟩ (mtX1_chuteAt l hl0 E hok σ o x) (cwV 1 hts gX1_weight_X1_chuteAt rfl rfl rfl (by decide +kernel) ⟨Nat.le_of_ble_eq_true rfl, Nat.le_of_ble_eq_true rfl⟩) (va_recv hK.K hP (ci := 1) (q0 := 0) rfl at_0) hno hlocks hK hP hS rfl hl.1 rfl (Nat.le_of_ble_eq_true rfl) dX1_weight_2 ⟨Nat.le_of_ble_eq_true rfl, Nat.le_of_ble_eq_true rfl⟩ (fun u h => Or.inl h) ⟨Nat.le_of_ble_eq_true rfl, Nat.le_of_ble_eq_true rfl⟩ (fun k1 H locs hk1 hP hS => ?_)
  obtain ⟨hk1k, hk1e⟩ := hk1
  have h12k1 := (hN k1 hk1k).2
  refine lv_astore_n (lv' := [(3, .ref (e_a E (k1 + 2))), (0, .ref (e_a E (0))), (1, .int (x)), (2, .int (v))]) hx hb dX1_weight_5 rfl hl (by decide) rfl (fun ls hl => ?_)
  refine lv_aload_n hx hb dX1_weight_6 rfl (lv_at hl 0 rfl) ?_
  refine lv_iload_n hx hb dX1_weight_7 rfl (lv_at hl 3 rfl) ?_
  refine x_Sv (As := [.ref (e_a E (k1 + 2)), .int (v)]) (rest := []) ⟨hx, hb, hml, hown, hts⟩ (mtX1_requirePlace l hl0 E hok σ o (k1) hk1k v) (va_cwS 2 hts gX1_weight_X1_requirePlace rfl rfl rfl (by decide +kernel) ⟨Nat.le_of_ble_eq_true rfl, Nat.le_of_ble_eq_true rfl⟩) hno hlocks hK hP hS rfl hl.1 rfl (Nat.le_of_ble_eq_true rfl) dX1_weight_8 ⟨Nat.le_of_ble_eq_true rfl, Nat.le_of_ble_eq_true rfl⟩ (fun u h => Or.inr ⟨h.1, k1, hk1k, hk1e, fun ⟨q, hq, eq⟩ => h.2 (pl_to (hN k1 hk1k).1 (hN k1 hk1k).2 hq eq)⟩) ⟨Nat.le_of_ble_eq_true rfl, Nat.le_of_ble_eq_true rfl⟩ (fun σ_2 H locs hσ_2 hP hS => ?_)
  obtain ⟨hσ_2a, ehσ_2⟩ := hσ_2
  rw [ehσ_2] at hP
  obtain ⟨q, hq, eq⟩ := pl_of (hN k1 hk1k).1 (hN k1 hk1k).2 hσ_2a
  refine lv_aload_n hx hb dX1_weight_11 rfl (lv_at hl 0 rfl) ?_
  refine q_get (C := RX0) (T := TX0) (N := 8) (ci := 0) (v := .ref (e_a E (k1 + 10))) hx hb hts hinX0 hown hK hP (at_ch hk1k) rfl 0 (by decide) hf89 rfl dX1_weight_12 ?_
  refine lv_iload_n hx hb dX1_weight_15 rfl (lv_at hl 3 rfl) ?_
  refine q_ld hx hb hK hP (at_wt hk1k) (i := q) eq (by omega) (by decide) dX1_weight_16 ?_
  refine W.widen (k := 2) (n := 12) (Nat.le_of_ble_eq_true rfl) (Nat.le_of_ble_eq_true rfl) ?_
  exact vx_ret (r_i hx hb hr hlocks hP hS dX1_weight_17 ⟨k1, hk1k, hk1e, q, hq, eq, rfl, rfl⟩)
set_option maxHeartbeats 4000000 in
set_option maxRecDepth 100000 in
/-- girth -/
theorem mtX1_girth (l : Launch) (hl0 : l.stackTraces = false) (E : Ev) (hok : e_ok E) (σ : Mem) (o : Nat → Int64) (x v : Int32) (N : Nat → Nat) (hN : okN σ N) : vx_Met l yX1_girth wsX1_girth ({ frames := 7, cells := 2, slots := 12, locals := 111 } : Room) (PW E σ o [.ref (e_a E (0)), .int (x), .int (v)]) (va_Qi (fun (r : Int32) (σ' : Mem) => ∃ k : Nat, k < 8 ∧ x = nI k ∧ ∃ q : Nat, q < N k ∧ v = nI q ∧ r = σ (k + 18) q ∧ σ' = σ) (BW E o) (LB (e_B E))) (XW E σ o (fun u => (u = xIO ∧ ¬ isCh x) ∨ (u = xNS ∧ ∃ k : Nat, k < 8 ∧ x = nI k ∧ ¬ ∃ q : Nat, q < N k ∧ v = nI q))) 2 12 (LB (e_B E)) := by
  refine vx_ofW (cc := cX1_girth) (maxL := 4) (ret := (some .int)) (by decide) rfl ?_
  intro p e s m args below meth c s₁ B hml hno hv
  obtain ⟨rfl, hP, hK⟩ := hv
  have hx := B.exec
  have hb := B.bytes
  have hr := B.returns
  have hts := atoms_spec (ws := wsX1_girth) B.pre
  have hown : s.vm.findClass RX1 = some m.cls := findClass_of_methodNamed B.named
  have hlocks := B.notSynchronized
  have hS : va_S (LB (e_B E)) s.heap s.heap [] := va_S.rf
  have hinX0 : ∀ w ∈ wsX00, w ∈ wsX1_girth := fun w h => by simp only [wsX1_girth, List.mem_cons, List.mem_append, h, or_true, true_or]
  have hf97 := hts (.fieldLink RX1 97 "ParcelChutes$Chute" "girths" "[I") (by decide +kernel)
  have hl := lv_entry ([.ref (e_a E (0)), .int (x), .int (v)]) (n := 4) (Nat.le_of_ble_eq_true rfl)
  rw [lg_entry_eq]
  generalize (lg_sl ([.ref (e_a E (0)), .int (x), .int (v)]) ++ List.replicate (4 - (lg_sl ([.ref (e_a E (0)), .int (x), .int (v)])).length) Slot.unset).toArray = ls at hl ⊢
  have hl : lv_has ls 4 [(0, .ref (e_a E (0))), (1, .int (x)), (2, .int (v))] := hl
  refine lv_aload_n hx hb dX1_girth_0 rfl (lv_at hl 0 rfl) ?_
  refine lv_iload_n hx hb dX1_girth_1 rfl (lv_at hl 1 rfl) ?_
  refine x_Vc (As := [.int (x)]) (rest := []) ⟨hx, hb, hml, hown, hts⟩ (mtX1_chuteAt l hl0 E hok σ o x) (cwV 1 hts gX1_girth_X1_chuteAt rfl rfl rfl (by decide +kernel) ⟨Nat.le_of_ble_eq_true rfl, Nat.le_of_ble_eq_true rfl⟩) (va_recv hK.K hP (ci := 1) (q0 := 0) rfl at_0) hno hlocks hK hP hS rfl hl.1 rfl (Nat.le_of_ble_eq_true rfl) dX1_girth_2 ⟨Nat.le_of_ble_eq_true rfl, Nat.le_of_ble_eq_true rfl⟩ (fun u h => Or.inl h) ⟨Nat.le_of_ble_eq_true rfl, Nat.le_of_ble_eq_true rfl⟩ (fun k1 H locs hk1 hP hS => ?_)
  obtain ⟨hk1k, hk1e⟩ := hk1
  have h12k1 := (hN k1 hk1k).2
  refine lv_astore_n (lv' := [(3, .ref (e_a E (k1 + 2))), (0, .ref (e_a E (0))), (1, .int (x)), (2, .int (v))]) hx hb dX1_girth_5 rfl hl (by decide) rfl (fun ls hl => ?_)
  refine lv_aload_n hx hb dX1_girth_6 rfl (lv_at hl 0 rfl) ?_
  refine lv_iload_n hx hb dX1_girth_7 rfl (lv_at hl 3 rfl) ?_
  refine x_Sv (As := [.ref (e_a E (k1 + 2)), .int (v)]) (rest := []) ⟨hx, hb, hml, hown, hts⟩ (mtX1_requirePlace l hl0 E hok σ o (k1) hk1k v) (va_cwS 2 hts gX1_girth_X1_requirePlace rfl rfl rfl (by decide +kernel) ⟨Nat.le_of_ble_eq_true rfl, Nat.le_of_ble_eq_true rfl⟩) hno hlocks hK hP hS rfl hl.1 rfl (Nat.le_of_ble_eq_true rfl) dX1_girth_8 ⟨Nat.le_of_ble_eq_true rfl, Nat.le_of_ble_eq_true rfl⟩ (fun u h => Or.inr ⟨h.1, k1, hk1k, hk1e, fun ⟨q, hq, eq⟩ => h.2 (pl_to (hN k1 hk1k).1 (hN k1 hk1k).2 hq eq)⟩) ⟨Nat.le_of_ble_eq_true rfl, Nat.le_of_ble_eq_true rfl⟩ (fun σ_2 H locs hσ_2 hP hS => ?_)
  obtain ⟨hσ_2a, ehσ_2⟩ := hσ_2
  rw [ehσ_2] at hP
  obtain ⟨q, hq, eq⟩ := pl_of (hN k1 hk1k).1 (hN k1 hk1k).2 hσ_2a
  refine lv_aload_n hx hb dX1_girth_11 rfl (lv_at hl 0 rfl) ?_
  refine q_get (C := RX0) (T := TX0) (N := 8) (ci := 0) (v := .ref (e_a E (k1 + 18))) hx hb hts hinX0 hown hK hP (at_ch hk1k) rfl 1 (by decide) hf97 rfl dX1_girth_12 ?_
  refine lv_iload_n hx hb dX1_girth_15 rfl (lv_at hl 3 rfl) ?_
  refine q_ld hx hb hK hP (at_gi hk1k) (i := q) eq (by omega) (by decide) dX1_girth_16 ?_
  refine W.widen (k := 2) (n := 12) (Nat.le_of_ble_eq_true rfl) (Nat.le_of_ble_eq_true rfl) ?_
  exact vx_ret (r_i hx hb hr hlocks hP hS dX1_girth_17 ⟨k1, hk1k, hk1e, q, hq, eq, rfl, rfl⟩)
set_option maxHeartbeats 4000000 in
set_option maxRecDepth 100000 in
/-- below -/
theorem mtX1_below (l : Launch) (hl0 : l.stackTraces = false) (E : Ev) (hok : e_ok E) (σ : Mem) (o : Nat → Int64) (x w : Int32) (N : Nat → Nat) (hN : okN σ N) : vx_Met l yX1_below wsX1_below ({ frames := 7, cells := 2, slots := 12, locals := 111 } : Room) (PW E σ o [.ref (e_a E (0)), .int (x), .int (w)]) (va_Qi (fun (r : Int32) (σ' : Mem) => ∃ k : Nat, k < 8 ∧ x = nI k ∧ okW w ∧ r = blw (σ (k + 10)) w (N k) ∧ σ' = σ) (BW E o) (LB (e_B E))) (XW E σ o (fun u => (u = xIO ∧ ¬ isCh x) ∨ (u = xIA ∧ isCh x ∧ ¬ okW w))) 2 12 (LB (e_B E)) := by
  refine vx_ofW (cc := cX1_below) (maxL := 6) (ret := (some .int)) (by decide) rfl ?_
  intro p e s m args below meth c s₁ B hml hno hv
  obtain ⟨rfl, hP, hK⟩ := hv
  have hx := B.exec
  have hb := B.bytes
  have hr := B.returns
  have hts := atoms_spec (ws := wsX1_below) B.pre
  have hown : s.vm.findClass RX1 = some m.cls := findClass_of_methodNamed B.named
  have hlocks := B.notSynchronized
  have hS : va_S (LB (e_B E)) s.heap s.heap [] := va_S.rf
  have hinX0 : ∀ w ∈ wsX00, w ∈ wsX1_below := fun w h => by simp only [wsX1_below, List.mem_cons, List.mem_append, h, or_true, true_or]
  have hf27 := hts (.fieldLink RX1 27 "ParcelChutes$Chute" "count" "I") (by decide +kernel)
  have hf89 := hts (.fieldLink RX1 89 "ParcelChutes$Chute" "weights" "[I") (by decide +kernel)
  have hl := lv_entry ([.ref (e_a E (0)), .int (x), .int (w)]) (n := 6) (Nat.le_of_ble_eq_true rfl)
  rw [lg_entry_eq]
  generalize (lg_sl ([.ref (e_a E (0)), .int (x), .int (w)]) ++ List.replicate (6 - (lg_sl ([.ref (e_a E (0)), .int (x), .int (w)])).length) Slot.unset).toArray = ls at hl ⊢
  have hl : lv_has ls 6 [(0, .ref (e_a E (0))), (1, .int (x)), (2, .int (w))] := hl
  refine lv_aload_n hx hb dX1_below_0 rfl (lv_at hl 0 rfl) ?_
  refine lv_iload_n hx hb dX1_below_1 rfl (lv_at hl 1 rfl) ?_
  refine x_Vc (As := [.int (x)]) (rest := []) ⟨hx, hb, hml, hown, hts⟩ (mtX1_chuteAt l hl0 E hok σ o x) (cwV 1 hts gX1_below_X1_chuteAt rfl rfl rfl (by decide +kernel) ⟨Nat.le_of_ble_eq_true rfl, Nat.le_of_ble_eq_true rfl⟩) (va_recv hK.K hP (ci := 1) (q0 := 0) rfl at_0) hno hlocks hK hP hS rfl hl.1 rfl (Nat.le_of_ble_eq_true rfl) dX1_below_2 ⟨Nat.le_of_ble_eq_true rfl, Nat.le_of_ble_eq_true rfl⟩ (fun u h => Or.inl h) ⟨Nat.le_of_ble_eq_true rfl, Nat.le_of_ble_eq_true rfl⟩ (fun k1 H locs hk1 hP hS => ?_)
  obtain ⟨hk1k, hk1e⟩ := hk1
  have h12k1 := (hN k1 hk1k).2
  refine lv_astore_n (lv' := [(3, .ref (e_a E (k1 + 2))), (0, .ref (e_a E (0))), (1, .int (x)), (2, .int (w))]) hx hb dX1_below_5 rfl hl (by decide) rfl (fun ls hl => ?_)
  refine lv_iload_n hx hb dX1_below_6 rfl (lv_at hl 3 rfl) ?_
  refine x_Sv (As := [.int (w)]) (rest := []) ⟨hx, hb, hml, hown, hts⟩ (mtX1_requireWeight l hl0 E hok σ o w) (va_cwS 1 hts gX1_below_X1_requireWeight rfl rfl rfl (by decide +kernel) ⟨Nat.le_of_ble_eq_true rfl, Nat.le_of_ble_eq_true rfl⟩) hno hlocks hK hP hS rfl hl.1 rfl (Nat.le_of_ble_eq_true rfl) dX1_below_7 ⟨Nat.le_of_ble_eq_true rfl, Nat.le_of_ble_eq_true rfl⟩ (fun u h => Or.inr ⟨h.1, ⟨k1, hk1k, hk1e⟩, h.2⟩) ⟨Nat.le_of_ble_eq_true rfl, Nat.le_of_ble_eq_true rfl⟩ (fun σ_2 H locs hσ_2 hP hS => ?_)
  obtain ⟨hσ_2a, ehσ_2⟩ := hσ_2
  rw [ehσ_2] at hP
  refine lv_iconst (v := 0) hx hb dX1_below_10 (by decide) ?_
  refine lv_istore (lv' := [(4, .int (0)), (3, .ref (e_a E (k1 + 2))), (0, .ref (e_a E (0))), (1, .int (x)), (2, .int (w))]) hx hb dX1_below_11 hl (by decide) rfl (fun ls hl => ?_)
  refine lv_iconst (v := 0) hx hb dX1_below_13 (by decide) ?_
  refine lv_istore (lv' := [(5, .int (0)), (4, .int (0)), (3, .ref (e_a E (k1 + 2))), (0, .ref (e_a E (0))), (1, .int (x)), (2, .int (w))]) hx hb dX1_below_14 hl (by decide) rfl (fun ls hl => ?_)
  refine w_loop (E := E) (o := o) (ι := Nat × Int32) (μ := fun (i, y) => 12 - i) (I := fun (i, y) => i ≤ N k1 ∧ y = blw (σ (k1 + 10)) w i) (mem := fun _ => σ) (lv := fun (i, y) => [(5, .int (nI (i))), (4, .int (y)), (3, .ref (e_a E (k1 + 2))), (0, .ref (e_a E (0))), (1, .int (x)), (2, .int (w))]) (nL := 6) (pch := 16) ?_ ((0), (0)) (show (0) ≤ N k1 ∧ (0) = blw (σ (k1 + 10)) w (0) from ⟨Nat.zero_le _, rfl⟩) hP hS (lv_sub hl [0, 1, 2, 3, 4, 5] rfl)
  rintro ⟨i, y⟩ hI IH H locs ls hP hS hl
  have hP : va_P (e_D E) vwCl (wd E σ o) H := hP
  have hl : lv_has ls 6 [(5, .int (nI (i))), (4, .int (y)), (3, .ref (e_a E (k1 + 2))), (0, .ref (e_a E (0))), (1, .int (x)), (2, .int (w))] := hl
  have hI : i ≤ N k1 ∧ y = blw (σ (k1 + 10)) w i := hI
  refine lv_iload hx hb dX1_below_16 (lv_at hl 0 rfl) ?_
  refine lv_aload_n hx hb dX1_below_18 rfl (lv_at hl 2 rfl) ?_
  refine q_get (C := RX0) (T := TX0) (N := 8) (ci := 0) (v := .int (σ (k1 + 2) 2)) hx hb hts hinX0 hown hK hP (at_ch hk1k) rfl 2 (by decide) hf27 rfl dX1_below_19 ?_
  refine nb_ge (i := i) (j := N k1) hx hb rfl (hN k1 hk1k).1 (by omega) (by omega) dX1_below_22 (tgt := 51) (by decide) (fun c22 => ?_) (fun c22 => ?_)
  · skip
    refine lv_iload hx hb dX1_below_51 (lv_at hl 1 rfl) ?_
    refine W.widen (k := 2) (n := 12) (Nat.le_of_ble_eq_true rfl) (Nat.le_of_ble_eq_true rfl) ?_
    exact vx_ret (r_i hx hb hr hlocks hP hS dX1_below_53 ⟨k1, hk1k, hk1e, hσ_2a, by rw [hI.2, show i = N k1 by omega], rfl⟩)
  · skip
    refine lv_iload hx hb dX1_below_25 (lv_at hl 1 rfl) ?_
    refine lv_aload_n hx hb dX1_below_27 rfl (lv_at hl 2 rfl) ?_
    refine q_get (C := RX0) (T := TX0) (N := 8) (ci := 0) (v := .ref (e_a E (k1 + 10))) hx hb hts hinX0 hown hK hP (at_ch hk1k) rfl 0 (by decide) hf89 rfl dX1_below_28 ?_
    refine lv_iload hx hb dX1_below_31 (lv_at hl 0 rfl) ?_
    refine q_ld hx hb hK hP (at_wt hk1k) (i := i) rfl (by omega) (by decide) dX1_below_33 ?_
    refine lv_iconst (v := 1) hx hb dX1_below_34 (by decide) ?_
    refine lv_iload_n hx hb dX1_below_35 rfl (lv_at hl 5 rfl) ?_
    refine k_Si (As := [.int (σ (k1 + 10) (i)), .int (1), .int (w)]) (rest := [.int (y)]) ⟨hx, hb, hml, hown, hts⟩ (mtX1_holds l (σ (k1 + 10) (i)) 1 w) (va_cwS 3 hts gX1_below_X1_holds rfl rfl rfl (by decide +kernel) ⟨Nat.le_of_ble_eq_true rfl, Nat.le_of_ble_eq_true rfl⟩) rfl hl.1 rfl (Nat.le_of_ble_eq_true rfl) dX1_below_36 ⟨Nat.le_of_ble_eq_true rfl, Nat.le_of_ble_eq_true rfl⟩ (fun r3 er3 => ?_)
    subst er3
    refine k_Si (As := [.int (hd (σ (k1 + 10) (i)) w 1)]) (rest := [.int (y)]) ⟨hx, hb, hml, hown, hts⟩ (mtX1_oneIf l (hd (σ (k1 + 10) (i)) w 1)) (va_cwS 1 hts gX1_below_X1_oneIf rfl rfl rfl (by decide +kernel) ⟨Nat.le_of_ble_eq_true rfl, Nat.le_of_ble_eq_true rfl⟩) rfl hl.1 rfl (Nat.le_of_ble_eq_true rfl) dX1_below_39 ⟨Nat.le_of_ble_eq_true rfl, Nat.le_of_ble_eq_true rfl⟩ (fun r4 er4 => ?_)
    subst er4
    refine lv_iadd hx hb dX1_below_42 ?_
    refine lv_istore (lv' := [(4, .int (y + (b1 (hd (σ (k1 + 10) (i)) w 1)))), (5, .int (nI (i))), (3, .ref (e_a E (k1 + 2))), (0, .ref (e_a E (0))), (1, .int (x)), (2, .int (w))]) hx hb dX1_below_43 hl (by decide) rfl (fun ls hl => ?_)
    refine lv_iinc (v := nI (i + 1)) (lv' := [(5, .int (nI (i + 1))), (4, .int (y + (b1 (hd (σ (k1 + 10) (i)) w 1)))), (3, .ref (e_a E (k1 + 2))), (0, .ref (e_a E (0))), (1, .int (x)), (2, .int (w))]) hx hb dX1_below_45 hl (k := 1) rfl (by exact nI_add (i) 1) (by decide) rfl (fun ls hl => ?_)
    refine lv_goto (tgt := 16) hx hb dX1_below_48 (by decide) ?_
    exact IH ((i + 1), (y + (b1 (hd (σ (k1 + 10) (i)) w 1)))) (show (i + 1) ≤ N k1 ∧ (y + (b1 (hd (σ (k1 + 10) (i)) w 1))) = blw (σ (k1 + 10)) w (i + 1) from ⟨by omega, by rw [hI.2]; rfl⟩) (by (try dsimp only); omega) _ _ _ hP hS (lv_sub hl [0, 1, 2, 3, 4, 5] rfl)
set_option maxHeartbeats 4000000 in
set_option maxRecDepth 100000 in
/-- take -/
theorem mtX1_take (l : Launch) (hl0 : l.stackTraces = false) (E : Ev) (hok : e_ok E) (σ : Mem) (o : Nat → Int64) (x w : Int32) (N : Nat → Nat) (hN : okN σ N) : vx_Met l yX1_take wsX1_take ({ frames := 7, cells := 3, slots := 18, locals := 111 } : Room) (PW E σ o [.ref (e_a E (0)), .int (x), .int (w)]) (va_Qi (fun (r : Int32) (σ' : Mem) => ∃ k : Nat, k < 8 ∧ x = nI k ∧ okW w ∧ ∃ q : Nat, q < N k ∧ σ (k + 10) q = w ∧ (∀ a, a < q → σ (k + 10) a ≠ w) ∧ r = σ (k + 18) q ∧ σ' = m_rem σ k q (N k)) (BW E o) (LB (e_B E))) (XW E σ o (fun u => (u = xIO ∧ ¬ isCh x) ∨ (u = xIA ∧ isCh x ∧ ¬ okW w) ∨ (u = xNS ∧ okW w ∧ ∃ k : Nat, k < 8 ∧ x = nI k ∧ ∀ a, a < N k → σ (k + 10) a ≠ w))) 3 18 (LB (e_B E)) := by
  refine vx_ofW (cc := cX1_take) (maxL := 6) (ret := (some .int)) (by decide) rfl ?_
  intro p e s m args below meth c s₁ B hml hno hv
  obtain ⟨rfl, hP, hK⟩ := hv
  have hx := B.exec
  have hb := B.bytes
  have hr := B.returns
  have hts := atoms_spec (ws := wsX1_take) B.pre
  have hown : s.vm.findClass RX1 = some m.cls := findClass_of_methodNamed B.named
  have hlocks := B.notSynchronized
  have hS : va_S (LB (e_B E)) s.heap s.heap [] := va_S.rf
  have hinX0 : ∀ w ∈ wsX00, w ∈ wsX1_take := fun w h => by simp only [wsX1_take, List.mem_cons, List.mem_append, h, or_true, true_or]
  have hf97 := hts (.fieldLink RX1 97 "ParcelChutes$Chute" "girths" "[I") (by decide +kernel)
  have hl := lv_entry ([.ref (e_a E (0)), .int (x), .int (w)]) (n := 6) (Nat.le_of_ble_eq_true rfl)
  rw [lg_entry_eq]
  generalize (lg_sl ([.ref (e_a E (0)), .int (x), .int (w)]) ++ List.replicate (6 - (lg_sl ([.ref (e_a E (0)), .int (x), .int (w)])).length) Slot.unset).toArray = ls at hl ⊢
  have hl : lv_has ls 6 [(0, .ref (e_a E (0))), (1, .int (x)), (2, .int (w))] := hl
  refine lv_aload_n hx hb dX1_take_0 rfl (lv_at hl 0 rfl) ?_
  refine lv_iload_n hx hb dX1_take_1 rfl (lv_at hl 1 rfl) ?_
  refine x_Vc (As := [.int (x)]) (rest := []) ⟨hx, hb, hml, hown, hts⟩ (mtX1_chuteAt l hl0 E hok σ o x) (cwV 1 hts gX1_take_X1_chuteAt rfl rfl rfl (by decide +kernel) ⟨Nat.le_of_ble_eq_true rfl, Nat.le_of_ble_eq_true rfl⟩) (va_recv hK.K hP (ci := 1) (q0 := 0) rfl at_0) hno hlocks hK hP hS rfl hl.1 rfl (Nat.le_of_ble_eq_true rfl) dX1_take_2 ⟨Nat.le_of_ble_eq_true rfl, Nat.le_of_ble_eq_true rfl⟩ (fun u h => Or.inl h) ⟨Nat.le_of_ble_eq_true rfl, Nat.le_of_ble_eq_true rfl⟩ (fun k1 H locs hk1 hP hS => ?_)
  obtain ⟨hk1k, hk1e⟩ := hk1
  have h12k1 := (hN k1 hk1k).2
  refine lv_astore_n (lv' := [(3, .ref (e_a E (k1 + 2))), (0, .ref (e_a E (0))), (1, .int (x)), (2, .int (w))]) hx hb dX1_take_5 rfl hl (by decide) rfl (fun ls hl => ?_)
  refine lv_iload_n hx hb dX1_take_6 rfl (lv_at hl 3 rfl) ?_
  refine x_Sv (As := [.int (w)]) (rest := []) ⟨hx, hb, hml, hown, hts⟩ (mtX1_requireWeight l hl0 E hok σ o w) (va_cwS 1 hts gX1_take_X1_requireWeight rfl rfl rfl (by decide +kernel) ⟨Nat.le_of_ble_eq_true rfl, Nat.le_of_ble_eq_true rfl⟩) hno hlocks hK hP hS rfl hl.1 rfl (Nat.le_of_ble_eq_true rfl) dX1_take_7 ⟨Nat.le_of_ble_eq_true rfl, Nat.le_of_ble_eq_true rfl⟩ (fun u h => Or.inr (Or.inl ⟨h.1, ⟨k1, hk1k, hk1e⟩, h.2⟩)) ⟨Nat.le_of_ble_eq_true rfl, Nat.le_of_ble_eq_true rfl⟩ (fun σ_2 H locs hσ_2 hP hS => ?_)
  obtain ⟨hσ_2a, ehσ_2⟩ := hσ_2
  rw [ehσ_2] at hP
  refine lv_aload_n hx hb dX1_take_10 rfl (lv_at hl 0 rfl) ?_
  refine lv_iload_n hx hb dX1_take_11 rfl (lv_at hl 3 rfl) ?_
  refine k_Vi (As := [.int (w)]) (rest := []) ⟨hx, hb, hml, hown, hts⟩ (mtX0_firstOf l E hok σ o k1 hk1k (N k1) (hN k1 hk1k).1 (hN k1 hk1k).2 w) (cwV 1 hts gX1_take_X0_firstOf rfl rfl rfl (by decide +kernel) ⟨Nat.le_of_ble_eq_true rfl, Nat.le_of_ble_eq_true rfl⟩) (va_recv hK.K hP (ci := 0) (q0 := k1 + 2) rfl (at_ch hk1k)) hK hP hS rfl hl.1 rfl (Nat.le_of_ble_eq_true rfl) dX1_take_12 ⟨Nat.le_of_ble_eq_true rfl, Nat.le_of_ble_eq_true rfl⟩ (fun r3 σ_4 H locs hr3 hP hS => ?_)
  obtain ⟨hfo, ehr3⟩ := hr3
  rw [ehr3] at hP
  rcases hfo with ⟨q, hq, rfl, hqe, hqa⟩ | ⟨rfl, hna⟩
  · skip
    refine lv_istore (lv' := [(4, .int (nI (q))), (3, .ref (e_a E (k1 + 2))), (0, .ref (e_a E (0))), (1, .int (x)), (2, .int (w))]) hx hb dX1_take_15 hl (by decide) rfl (fun ls hl => ?_)
    refine lv_aload_n hx hb dX1_take_17 rfl (lv_at hl 1 rfl) ?_
    refine lv_iload hx hb dX1_take_18 (lv_at hl 0 rfl) ?_
    refine x_Sv (As := [.ref (e_a E (k1 + 2)), .int (nI (q))]) (rest := []) ⟨hx, hb, hml, hown, hts⟩ (mtX1_requirePlace l hl0 E hok σ o (k1) hk1k (nI (q))) (va_cwS 2 hts gX1_take_X1_requirePlace rfl rfl rfl (by decide +kernel) ⟨Nat.le_of_ble_eq_true rfl, Nat.le_of_ble_eq_true rfl⟩) hno hlocks hK hP hS rfl hl.1 rfl (Nat.le_of_ble_eq_true rfl) dX1_take_20 ⟨Nat.le_of_ble_eq_true rfl, Nat.le_of_ble_eq_true rfl⟩ (fun u h => absurd (pl_to (hN k1 hk1k).1 (hN k1 hk1k).2 hq rfl) h.2) ⟨Nat.le_of_ble_eq_true rfl, Nat.le_of_ble_eq_true rfl⟩ (fun σ_5 H locs hσ_5 hP hS => ?_)
    obtain ⟨hσ_5a, ehσ_5⟩ := hσ_5
    rw [ehσ_5] at hP
    refine lv_aload_n hx hb dX1_take_23 rfl (lv_at hl 1 rfl) ?_
    refine q_get (C := RX0) (T := TX0) (N := 8) (ci := 0) (v := .ref (e_a E (k1 + 18))) hx hb hts hinX0 hown hK hP (at_ch hk1k) rfl 1 (by decide) hf97 rfl dX1_take_24 ?_
    refine lv_iload hx hb dX1_take_27 (lv_at hl 0 rfl) ?_
    refine q_ld hx hb hK hP (at_gi hk1k) (i := q) rfl (by omega) (by decide) dX1_take_29 ?_
    refine lv_istore (lv' := [(5, .int (σ (k1 + 18) (q))), (4, .int (nI (q))), (3, .ref (e_a E (k1 + 2))), (0, .ref (e_a E (0))), (1, .int (x)), (2, .int (w))]) hx hb dX1_take_30 hl (by decide) rfl (fun ls hl => ?_)
    refine lv_aload_n hx hb dX1_take_32 rfl (lv_at hl 2 rfl) ?_
    refine lv_iload hx hb dX1_take_33 (lv_at hl 1 rfl) ?_
    refine k_Vv (As := [.int (nI (q))]) (rest := []) ⟨hx, hb, hml, hown, hts⟩ (mtX0_removeAt l E hok σ o k1 hk1k (N k1) q (hN k1 hk1k).1 (hN k1 hk1k).2 hq) (cwV 1 hts gX1_take_X0_removeAt rfl rfl rfl (by decide +kernel) ⟨Nat.le_of_ble_eq_true rfl, Nat.le_of_ble_eq_true rfl⟩) (va_recv hK.K hP (ci := 0) (q0 := k1 + 2) rfl (at_ch hk1k)) hK hP hS rfl hl.1 rfl (Nat.le_of_ble_eq_true rfl) dX1_take_35 ⟨Nat.le_of_ble_eq_true rfl, Nat.le_of_ble_eq_true rfl⟩ (fun σ_6 H locs hσ_6 hP hS => ?_)
    subst hσ_6
    refine lv_iload hx hb dX1_take_38 (lv_at hl 0 rfl) ?_
    refine W.widen (k := 3) (n := 18) (Nat.le_of_ble_eq_true rfl) (Nat.le_of_ble_eq_true rfl) ?_
    exact vx_ret (r_i hx hb hr hlocks hP hS dX1_take_40 ⟨k1, hk1k, hk1e, hσ_2a, q, hq, hqe, hqa, rfl, rfl⟩)
  · skip
    refine lv_istore (lv' := [(4, .int (-1)), (3, .ref (e_a E (k1 + 2))), (0, .ref (e_a E (0))), (1, .int (x)), (2, .int (w))]) hx hb dX1_take_15 hl (by decide) rfl (fun ls hl => ?_)
    refine lv_aload_n hx hb dX1_take_17 rfl (lv_at hl 1 rfl) ?_
    refine lv_iload hx hb dX1_take_18 (lv_at hl 0 rfl) ?_
    refine x_Sv (As := [.ref (e_a E (k1 + 2)), .int (-1)]) (rest := []) ⟨hx, hb, hml, hown, hts⟩ (mtX1_requirePlace l hl0 E hok σ o (k1) hk1k (-1)) (va_cwS 2 hts gX1_take_X1_requirePlace rfl rfl rfl (by decide +kernel) ⟨Nat.le_of_ble_eq_true rfl, Nat.le_of_ble_eq_true rfl⟩) hno hlocks hK hP hS rfl hl.1 rfl (Nat.le_of_ble_eq_true rfl) dX1_take_20 ⟨Nat.le_of_ble_eq_true rfl, Nat.le_of_ble_eq_true rfl⟩ (fun u h => Or.inr (Or.inr ⟨h.1, hσ_2a, k1, hk1k, hk1e, hna⟩)) ⟨Nat.le_of_ble_eq_true rfl, Nat.le_of_ble_eq_true rfl⟩ (fun σ_7 H locs hσ_7 hP hS => ?_)
    obtain ⟨hσ_7a, ehσ_7⟩ := hσ_7
    rw [ehσ_7] at hP
    exact absurd (by decide) hσ_7a.1
set_option maxHeartbeats 4000000 in
set_option maxRecDepth 100000 in
/-- heavier -/
theorem mtX1_heavier (l : Launch) (hl0 : l.stackTraces = false) (E : Ev) (hok : e_ok E) (σ : Mem) (o : Nat → Int64) (x y : Int32) (N : Nat → Nat) (hN : okN σ N) : vx_Met l yX1_heavier wsX1_heavier ({ frames := 7, cells := 2, slots := 12, locals := 111 } : Room) (PW E σ o [.ref (e_a E (0)), .int (x), .int (y)]) (va_Qi (fun (r : Int32) (σ' : Mem) => ∃ a : Nat, a < 8 ∧ x = nI a ∧ ∃ b : Nat, b < 8 ∧ y = nI b ∧ r = cmC (hvC (σ (a + 10)) (N a)) (hvC (σ (b + 10)) (N b)) ∧ σ' = σ) (BW E o) (LB (e_B E))) (XW E σ o (fun u => u = xIO ∧ ¬ (isCh x ∧ isCh y))) 2 12 (LB (e_B E)) := by
  refine vx_ofW (cc := cX1_heavier) (maxL := 5) (ret := (some .int)) (by decide) rfl ?_
  intro p e s m args below meth c s₁ B hml hno hv
  obtain ⟨rfl, hP, hK⟩ := hv
  have hx := B.exec
  have hb := B.bytes
  have hr := B.returns
  have hts := atoms_spec (ws := wsX1_heavier) B.pre
  have hown : s.vm.findClass RX1 = some m.cls := findClass_of_methodNamed B.named
  have hlocks := B.notSynchronized
  have hS : va_S (LB (e_B E)) s.heap s.heap [] := va_S.rf
  have hl := lv_entry ([.ref (e_a E (0)), .int (x), .int (y)]) (n := 5) (Nat.le_of_ble_eq_true rfl)
  rw [lg_entry_eq]
  generalize (lg_sl ([.ref (e_a E (0)), .int (x), .int (y)]) ++ List.replicate (5 - (lg_sl ([.ref (e_a E (0)), .int (x), .int (y)])).length) Slot.unset).toArray = ls at hl ⊢
  have hl : lv_has ls 5 [(0, .ref (e_a E (0))), (1, .int (x)), (2, .int (y))] := hl
  refine lv_aload_n hx hb dX1_heavier_0 rfl (lv_at hl 0 rfl) ?_
  refine lv_iload_n hx hb dX1_heavier_1 rfl (lv_at hl 1 rfl) ?_
  refine x_Vc (As := [.int (x)]) (rest := []) ⟨hx, hb, hml, hown, hts⟩ (mtX1_chuteAt l hl0 E hok σ o x) (cwV 1 hts gX1_heavier_X1_chuteAt rfl rfl rfl (by decide +kernel) ⟨Nat.le_of_ble_eq_true rfl, Nat.le_of_ble_eq_true rfl⟩) (va_recv hK.K hP (ci := 1) (q0 := 0) rfl at_0) hno hlocks hK hP hS rfl hl.1 rfl (Nat.le_of_ble_eq_true rfl) dX1_heavier_2 ⟨Nat.le_of_ble_eq_true rfl, Nat.le_of_ble_eq_true rfl⟩ (fun u h => ⟨h.1, fun z => h.2 z.1⟩) ⟨Nat.le_of_ble_eq_true rfl, Nat.le_of_ble_eq_true rfl⟩ (fun k1 H locs hk1 hP hS => ?_)
  obtain ⟨hk1k, hk1e⟩ := hk1
  have h12k1 := (hN k1 hk1k).2
  refine k_Vi (As := []) (rest := []) ⟨hx, hb, hml, hown, hts⟩ (mtX0_heaviestKnown l E hok σ o k1 hk1k (N k1) (hN k1 hk1k).1 (hN k1 hk1k).2) (cwV 0 hts gX1_heavier_X0_heaviestKnown rfl rfl rfl (by decide +kernel) ⟨Nat.le_of_ble_eq_true rfl, Nat.le_of_ble_eq_true rfl⟩) (va_recv hK.K hP (ci := 0) (q0 := k1 + 2) rfl (at_ch hk1k)) hK hP hS rfl hl.1 rfl (Nat.le_of_ble_eq_true rfl) dX1_heavier_5 ⟨Nat.le_of_ble_eq_true rfl, Nat.le_of_ble_eq_true rfl⟩ (fun r2 σ_3 H locs hr2 hP hS => ?_)
  obtain ⟨rfl, ehr2⟩ := hr2
  rw [ehr2] at hP
  refine lv_istore_n (lv' := [(3, .int (hvC (σ (k1 + 10)) (N k1))), (0, .ref (e_a E (0))), (1, .int (x)), (2, .int (y))]) hx hb dX1_heavier_8 rfl hl (by decide) rfl (fun ls hl => ?_)
  refine lv_aload_n hx hb dX1_heavier_9 rfl (lv_at hl 1 rfl) ?_
  refine lv_iload_n hx hb dX1_heavier_10 rfl (lv_at hl 3 rfl) ?_
  refine x_Vc (As := [.int (y)]) (rest := []) ⟨hx, hb, hml, hown, hts⟩ (mtX1_chuteAt l hl0 E hok σ o y) (cwV 1 hts gX1_heavier_X1_chuteAt rfl rfl rfl (by decide +kernel) ⟨Nat.le_of_ble_eq_true rfl, Nat.le_of_ble_eq_true rfl⟩) (va_recv hK.K hP (ci := 1) (q0 := 0) rfl at_0) hno hlocks hK hP hS rfl hl.1 rfl (Nat.le_of_ble_eq_true rfl) dX1_heavier_11 ⟨Nat.le_of_ble_eq_true rfl, Nat.le_of_ble_eq_true rfl⟩ (fun u h => ⟨h.1, fun z => h.2 z.2⟩) ⟨Nat.le_of_ble_eq_true rfl, Nat.le_of_ble_eq_true rfl⟩ (fun k4 H locs hk4 hP hS => ?_)
  obtain ⟨hk4k, hk4e⟩ := hk4
  have h12k4 := (hN k4 hk4k).2
  refine k_Vi (As := []) (rest := []) ⟨hx, hb, hml, hown, hts⟩ (mtX0_heaviestKnown l E hok σ o k4 hk4k (N k4) (hN k4 hk4k).1 (hN k4 hk4k).2) (cwV 0 hts gX1_heavier_X0_heaviestKnown rfl rfl rfl (by decide +kernel) ⟨Nat.le_of_ble_eq_true rfl, Nat.le_of_ble_eq_true rfl⟩) (va_recv hK.K hP (ci := 0) (q0 := k4 + 2) rfl (at_ch hk4k)) hK hP hS rfl hl.1 rfl (Nat.le_of_ble_eq_true rfl) dX1_heavier_14 ⟨Nat.le_of_ble_eq_true rfl, Nat.le_of_ble_eq_true rfl⟩ (fun r5 σ_6 H locs hr5 hP hS => ?_)
  obtain ⟨rfl, ehr5⟩ := hr5
  rw [ehr5] at hP
  refine lv_istore (lv' := [(4, .int (hvC (σ (k4 + 10)) (N k4))), (3, .int (hvC (σ (k1 + 10)) (N k1))), (0, .ref (e_a E (0))), (1, .int (x)), (2, .int (y))]) hx hb dX1_heavier_17 hl (by decide) rfl (fun ls hl => ?_)
  refine lv_iload_n hx hb dX1_heavier_19 rfl (lv_at hl 1 rfl) ?_
  refine lv_iconst (v := 4) hx hb dX1_heavier_20 (by decide) ?_
  refine lv_iload hx hb dX1_heavier_21 (lv_at hl 0 rfl) ?_
  refine k_Si (As := [.int (hvC (σ (k1 + 10)) (N k1)), .int (4), .int (hvC (σ (k4 + 10)) (N k4))]) (rest := []) ⟨hx, hb, hml, hown, hts⟩ (mtX1_holds l (hvC (σ (k1 + 10)) (N k1)) 4 (hvC (σ (k4 + 10)) (N k4))) (va_cwS 3 hts gX1_heavier_X1_holds rfl rfl rfl (by decide +kernel) ⟨Nat.le_of_ble_eq_true rfl, Nat.le_of_ble_eq_true rfl⟩) rfl hl.1 rfl (Nat.le_of_ble_eq_true rfl) dX1_heavier_23 ⟨Nat.le_of_ble_eq_true rfl, Nat.le_of_ble_eq_true rfl⟩ (fun r7 er7 => ?_)
  subst er7
  refine lv_if_eq (tgt := 31) hx hb dX1_heavier_26 (by decide) (fun c26 => ?_) (fun c26 => ?_)
  · skip
    refine lv_iload_n hx hb dX1_heavier_31 rfl (lv_at hl 1 rfl) ?_
    refine lv_iconst (v := 1) hx hb dX1_heavier_32 (by decide) ?_
    refine lv_iload hx hb dX1_heavier_33 (lv_at hl 0 rfl) ?_
    refine k_Si (As := [.int (hvC (σ (k1 + 10)) (N k1)), .int (1), .int (hvC (σ (k4 + 10)) (N k4))]) (rest := []) ⟨hx, hb, hml, hown, hts⟩ (mtX1_holds l (hvC (σ (k1 + 10)) (N k1)) 1 (hvC (σ (k4 + 10)) (N k4))) (va_cwS 3 hts gX1_heavier_X1_holds rfl rfl rfl (by decide +kernel) ⟨Nat.le_of_ble_eq_true rfl, Nat.le_of_ble_eq_true rfl⟩) rfl hl.1 rfl (Nat.le_of_ble_eq_true rfl) dX1_heavier_35 ⟨Nat.le_of_ble_eq_true rfl, Nat.le_of_ble_eq_true rfl⟩ (fun r8 er8 => ?_)
    subst er8
    refine lv_if_eq (tgt := 43) hx hb dX1_heavier_38 (by decide) (fun c38 => ?_) (fun c38 => ?_)
    · skip
      refine lv_iload_n hx hb dX1_heavier_43 rfl (lv_at hl 1 rfl) ?_
      refine lv_bipush (v := 16) hx hb dX1_heavier_44 (by decide) ?_
      refine lv_iload hx hb dX1_heavier_46 (lv_at hl 0 rfl) ?_
      refine k_Si (As := [.int (hvC (σ (k1 + 10)) (N k1)), .int (16), .int (hvC (σ (k4 + 10)) (N k4))]) (rest := []) ⟨hx, hb, hml, hown, hts⟩ (mtX1_holds l (hvC (σ (k1 + 10)) (N k1)) 16 (hvC (σ (k4 + 10)) (N k4))) (va_cwS 3 hts gX1_heavier_X1_holds rfl rfl rfl (by decide +kernel) ⟨Nat.le_of_ble_eq_true rfl, Nat.le_of_ble_eq_true rfl⟩) rfl hl.1 rfl (Nat.le_of_ble_eq_true rfl) dX1_heavier_48 ⟨Nat.le_of_ble_eq_true rfl, Nat.le_of_ble_eq_true rfl⟩ (fun r9 er9 => ?_)
      subst er9
      refine lv_if_eq (tgt := 58) hx hb dX1_heavier_51 (by decide) (fun c51 => ?_) (fun c51 => ?_)
      · skip
        refine lv_iconst (v := 2) hx hb dX1_heavier_58 (by decide) ?_
        refine W.widen (k := 2) (n := 12) (Nat.le_of_ble_eq_true rfl) (Nat.le_of_ble_eq_true rfl) ?_
        exact vx_ret (r_i hx hb hr hlocks hP hS dX1_heavier_59 ⟨k1, hk1k, hk1e, k4, hk4k, hk4e, by simp [cmC, c26, c38, c51], rfl⟩)
      · skip
        refine lv_iconst (v := 0) hx hb dX1_heavier_54 (by decide) ?_
        refine lv_goto (tgt := 59) hx hb dX1_heavier_55 (by decide) ?_
        refine W.widen (k := 2) (n := 12) (Nat.le_of_ble_eq_true rfl) (Nat.le_of_ble_eq_true rfl) ?_
        exact vx_ret (r_i hx hb hr hlocks hP hS dX1_heavier_59 ⟨k1, hk1k, hk1e, k4, hk4k, hk4e, by simp [cmC, c26, c38, c51], rfl⟩)
    · skip
      refine lv_iconst (v := (-1)) hx hb dX1_heavier_41 (by decide) ?_
      refine W.widen (k := 2) (n := 12) (Nat.le_of_ble_eq_true rfl) (Nat.le_of_ble_eq_true rfl) ?_
      exact vx_ret (r_i hx hb hr hlocks hP hS dX1_heavier_42 ⟨k1, hk1k, hk1e, k4, hk4k, hk4e, by simp [cmC, c26, c38], rfl⟩)
  · skip
    refine lv_iconst (v := 1) hx hb dX1_heavier_29 (by decide) ?_
    refine W.widen (k := 2) (n := 12) (Nat.le_of_ble_eq_true rfl) (Nat.le_of_ble_eq_true rfl) ?_
    exact vx_ret (r_i hx hb hr hlocks hP hS dX1_heavier_30 ⟨k1, hk1k, hk1e, k4, hk4k, hk4e, by simp [cmC, c26], rfl⟩)
set_option maxHeartbeats 4000000 in
set_option maxRecDepth 100000 in
/-- alike -/
theorem mtX1_alike (l : Launch) (hl0 : l.stackTraces = false) (E : Ev) (hok : e_ok E) (σ : Mem) (o : Nat → Int64) (x y : Int32) (N : Nat → Nat) (hN : okN σ N) : vx_Met l yX1_alike wsX1_alike ({ frames := 7, cells := 2, slots := 12, locals := 111 } : Room) (PW E σ o [.ref (e_a E (0)), .int (x), .int (y)]) (va_Qi (fun (r : Int32) (σ' : Mem) => ∃ a : Nat, a < 8 ∧ x = nI a ∧ ∃ b : Nat, b < 8 ∧ y = nI b ∧ ∃ i : Nat, r = nI i ∧ i ≤ min (N a) (N b) ∧ (∀ t, t < i → hd (σ (a + 10) t) (σ (b + 10) t) 16 ≠ 0 ∧ hd (σ (a + 18) t) (σ (b + 18) t) 16 ≠ 0) ∧ (i < min (N a) (N b) → hd (σ (a + 10) i) (σ (b + 10) i) 16 = 0 ∨ hd (σ (a + 18) i) (σ (b + 18) i) 16 = 0) ∧ σ' = σ) (BW E o) (LB (e_B E))) (XW E σ o (fun u => u = xIO ∧ ¬ (isCh x ∧ isCh y))) 2 12 (LB (e_B E)) := by
  refine vx_ofW (cc := cX1_alike) (maxL := 7) (ret := (some .int)) (by decide) rfl ?_
  intro p e s m args below meth c s₁ B hml hno hv
  obtain ⟨rfl, hP, hK⟩ := hv
  have hx := B.exec
  have hb := B.bytes
  have hr := B.returns
  have hts := atoms_spec (ws := wsX1_alike) B.pre
  have hown : s.vm.findClass RX1 = some m.cls := findClass_of_methodNamed B.named
  have hlocks := B.notSynchronized
  have hS : va_S (LB (e_B E)) s.heap s.heap [] := va_S.rf
  have hinX0 : ∀ w ∈ wsX00, w ∈ wsX1_alike := fun w h => by simp only [wsX1_alike, List.mem_cons, List.mem_append, h, or_true, true_or]
  have hf27 := hts (.fieldLink RX1 27 "ParcelChutes$Chute" "count" "I") (by decide +kernel)
  have hf89 := hts (.fieldLink RX1 89 "ParcelChutes$Chute" "weights" "[I") (by decide +kernel)
  have hf97 := hts (.fieldLink RX1 97 "ParcelChutes$Chute" "girths" "[I") (by decide +kernel)
  have hl := lv_entry ([.ref (e_a E (0)), .int (x), .int (y)]) (n := 7) (Nat.le_of_ble_eq_true rfl)
  rw [lg_entry_eq]
  generalize (lg_sl ([.ref (e_a E (0)), .int (x), .int (y)]) ++ List.replicate (7 - (lg_sl ([.ref (e_a E (0)), .int (x), .int (y)])).length) Slot.unset).toArray = ls at hl ⊢
  have hl : lv_has ls 7 [(0, .ref (e_a E (0))), (1, .int (x)), (2, .int (y))] := hl
  refine lv_aload_n hx hb dX1_alike_0 rfl (lv_at hl 0 rfl) ?_
  refine lv_iload_n hx hb dX1_alike_1 rfl (lv_at hl 1 rfl) ?_
  refine x_Vc (As := [.int (x)]) (rest := []) ⟨hx, hb, hml, hown, hts⟩ (mtX1_chuteAt l hl0 E hok σ o x) (cwV 1 hts gX1_alike_X1_chuteAt rfl rfl rfl (by decide +kernel) ⟨Nat.le_of_ble_eq_true rfl, Nat.le_of_ble_eq_true rfl⟩) (va_recv hK.K hP (ci := 1) (q0 := 0) rfl at_0) hno hlocks hK hP hS rfl hl.1 rfl (Nat.le_of_ble_eq_true rfl) dX1_alike_2 ⟨Nat.le_of_ble_eq_true rfl, Nat.le_of_ble_eq_true rfl⟩ (fun u h => ⟨h.1, fun z => h.2 z.1⟩) ⟨Nat.le_of_ble_eq_true rfl, Nat.le_of_ble_eq_true rfl⟩ (fun k1 H locs hk1 hP hS => ?_)
  obtain ⟨hk1k, hk1e⟩ := hk1
  have h12k1 := (hN k1 hk1k).2
  refine lv_astore_n (lv' := [(3, .ref (e_a E (k1 + 2))), (0, .ref (e_a E (0))), (1, .int (x)), (2, .int (y))]) hx hb dX1_alike_5 rfl hl (by decide) rfl (fun ls hl => ?_)
  refine lv_aload_n hx hb dX1_alike_6 rfl (lv_at hl 1 rfl) ?_
  refine lv_iload_n hx hb dX1_alike_7 rfl (lv_at hl 3 rfl) ?_
  refine x_Vc (As := [.int (y)]) (rest := []) ⟨hx, hb, hml, hown, hts⟩ (mtX1_chuteAt l hl0 E hok σ o y) (cwV 1 hts gX1_alike_X1_chuteAt rfl rfl rfl (by decide +kernel) ⟨Nat.le_of_ble_eq_true rfl, Nat.le_of_ble_eq_true rfl⟩) (va_recv hK.K hP (ci := 1) (q0 := 0) rfl at_0) hno hlocks hK hP hS rfl hl.1 rfl (Nat.le_of_ble_eq_true rfl) dX1_alike_8 ⟨Nat.le_of_ble_eq_true rfl, Nat.le_of_ble_eq_true rfl⟩ (fun u h => ⟨h.1, fun z => h.2 z.2⟩) ⟨Nat.le_of_ble_eq_true rfl, Nat.le_of_ble_eq_true rfl⟩ (fun k2 H locs hk2 hP hS => ?_)
  obtain ⟨hk2k, hk2e⟩ := hk2
  have h12k2 := (hN k2 hk2k).2
  refine lv_astore (lv' := [(4, .ref (e_a E (k2 + 2))), (3, .ref (e_a E (k1 + 2))), (0, .ref (e_a E (0))), (1, .int (x)), (2, .int (y))]) hx hb dX1_alike_11 hl (by decide) rfl (fun ls hl => ?_)
  refine lv_aload_n hx hb dX1_alike_13 rfl (lv_at hl 1 rfl) ?_
  refine q_get (C := RX0) (T := TX0) (N := 8) (ci := 0) (v := .int (σ (k1 + 2) 2)) hx hb hts hinX0 hown hK hP (at_ch hk1k) rfl 2 (by decide) hf27 rfl dX1_alike_14 ?_
  refine lv_aload hx hb dX1_alike_17 (lv_at hl 0 rfl) ?_
  refine q_get (C := RX0) (T := TX0) (N := 8) (ci := 0) (v := .int (σ (k2 + 2) 2)) hx hb hts hinX0 hown hK hP (at_ch hk2k) rfl 2 (by decide) hf27 rfl dX1_alike_19 ?_
  refine va_mmin hx hb (hml.trans hl.1.symm) hown (hts (.methodLink RX1 117 Lib.Math.min.name) (by decide +kernel)) (hts (.static Lib.Math.min.name) (by decide +kernel)) (hts (.initialized "java/lang/Math") (by decide +kernel)) (hts (.code Lib.Math.min.name Lib.Math.min.code 2 (some .int)) (by decide +kernel)) (Nat.le_of_ble_eq_true rfl) (Nat.le_of_ble_eq_true rfl) (Nat.le_of_ble_eq_true rfl) (Nat.le_of_ble_eq_true rfl) dX1_alike_22 ?_
  rw [min_I (hN k1 hk1k).1 (hN k2 hk2k).1 (hN k1 hk1k).2 (hN k2 hk2k).2]
  refine lv_istore (lv' := [(5, .int (nI (min (N k1) (N k2)))), (4, .ref (e_a E (k2 + 2))), (3, .ref (e_a E (k1 + 2))), (0, .ref (e_a E (0))), (1, .int (x)), (2, .int (y))]) hx hb dX1_alike_25 hl (by decide) rfl (fun ls hl => ?_)
  refine lv_iconst (v := 0) hx hb dX1_alike_27 (by decide) ?_
  refine lv_istore (lv' := [(6, .int (0)), (5, .int (nI (min (N k1) (N k2)))), (4, .ref (e_a E (k2 + 2))), (3, .ref (e_a E (k1 + 2))), (0, .ref (e_a E (0))), (1, .int (x)), (2, .int (y))]) hx hb dX1_alike_28 hl (by decide) rfl (fun ls hl => ?_)
  refine w_loop (E := E) (o := o) (ι := Nat) (μ := fun i => 12 - i) (I := fun i => i ≤ min (N k1) (N k2) ∧ ∀ t, t < i → hd (σ (k1 + 10) t) (σ (k2 + 10) t) 16 ≠ 0 ∧ hd (σ (k1 + 18) t) (σ (k2 + 18) t) 16 ≠ 0) (mem := fun _ => σ) (lv := fun i => [(6, .int (nI (i))), (5, .int (nI (min (N k1) (N k2)))), (4, .ref (e_a E (k2 + 2))), (3, .ref (e_a E (k1 + 2))), (0, .ref (e_a E (0))), (1, .int (x)), (2, .int (y))]) (nL := 7) (pch := 30) ?_ (0) (show (0) ≤ min (N k1) (N k2) ∧ ∀ t, t < (0) → hd (σ (k1 + 10) t) (σ (k2 + 10) t) 16 ≠ 0 ∧ hd (σ (k1 + 18) t) (σ (k2 + 18) t) 16 ≠ 0 from ⟨Nat.zero_le _, fun a h => absurd h (Nat.not_lt_zero a)⟩) hP hS (lv_sub hl [0, 1, 2, 3, 4, 5, 6] rfl)
  rintro i hI IH H locs ls hP hS hl
  have hP : va_P (e_D E) vwCl (wd E σ o) H := hP
  have hl : lv_has ls 7 [(6, .int (nI (i))), (5, .int (nI (min (N k1) (N k2)))), (4, .ref (e_a E (k2 + 2))), (3, .ref (e_a E (k1 + 2))), (0, .ref (e_a E (0))), (1, .int (x)), (2, .int (y))] := hl
  have hI : i ≤ min (N k1) (N k2) ∧ ∀ t, t < i → hd (σ (k1 + 10) t) (σ (k2 + 10) t) 16 ≠ 0 ∧ hd (σ (k1 + 18) t) (σ (k2 + 18) t) 16 ≠ 0 := hI
  refine lv_iload hx hb dX1_alike_30 (lv_at hl 0 rfl) ?_
  refine lv_iload hx hb dX1_alike_32 (lv_at hl 1 rfl) ?_
  refine nb_ge (i := i) (j := min (N k1) (N k2)) hx hb rfl rfl (by omega) (by omega) dX1_alike_34 (tgt := 92) (by decide) (fun c34 => ?_) (fun c34 => ?_)
  · skip
    refine lv_iload hx hb dX1_alike_92 (lv_at hl 1 rfl) ?_
    refine W.widen (k := 2) (n := 12) (Nat.le_of_ble_eq_true rfl) (Nat.le_of_ble_eq_true rfl) ?_
    exact vx_ret (r_i hx hb hr hlocks hP hS dX1_alike_94 ⟨k1, hk1k, hk1e, k2, hk2k, hk2e, min (N k1) (N k2), rfl, Nat.le_refl _, fun t h => hI.2 t (by omega), fun h => absurd h (Nat.lt_irrefl _), rfl⟩)
  · skip
    refine lv_aload_n hx hb dX1_alike_37 rfl (lv_at hl 3 rfl) ?_
    refine q_get (C := RX0) (T := TX0) (N := 8) (ci := 0) (v := .ref (e_a E (k1 + 10))) hx hb hts hinX0 hown hK hP (at_ch hk1k) rfl 0 (by decide) hf89 rfl dX1_alike_38 ?_
    refine lv_iload hx hb dX1_alike_41 (lv_at hl 0 rfl) ?_
    refine q_ld hx hb hK hP (at_wt hk1k) (i := i) rfl (by omega) (by decide) dX1_alike_43 ?_
    refine lv_bipush (v := 16) hx hb dX1_alike_44 (by decide) ?_
    refine lv_aload hx hb dX1_alike_46 (lv_at hl 2 rfl) ?_
    refine q_get (C := RX0) (T := TX0) (N := 8) (ci := 0) (v := .ref (e_a E (k2 + 10))) hx hb hts hinX0 hown hK hP (at_ch hk2k) rfl 0 (by decide) hf89 rfl dX1_alike_48 ?_
    refine lv_iload hx hb dX1_alike_51 (lv_at hl 0 rfl) ?_
    refine q_ld hx hb hK hP (at_wt hk2k) (i := i) rfl (by omega) (by decide) dX1_alike_53 ?_
    refine k_Si (As := [.int (σ (k1 + 10) (i)), .int (16), .int (σ (k2 + 10) (i))]) (rest := []) ⟨hx, hb, hml, hown, hts⟩ (mtX1_holds l (σ (k1 + 10) (i)) 16 (σ (k2 + 10) (i))) (va_cwS 3 hts gX1_alike_X1_holds rfl rfl rfl (by decide +kernel) ⟨Nat.le_of_ble_eq_true rfl, Nat.le_of_ble_eq_true rfl⟩) rfl hl.1 rfl (Nat.le_of_ble_eq_true rfl) dX1_alike_54 ⟨Nat.le_of_ble_eq_true rfl, Nat.le_of_ble_eq_true rfl⟩ (fun r3 er3 => ?_)
    subst er3
    refine lv_if_eq (tgt := 83) hx hb dX1_alike_57 (by decide) (fun c57 => ?_) (fun c57 => ?_)
    · skip
      refine lv_iload hx hb dX1_alike_83 (lv_at hl 0 rfl) ?_
      refine W.widen (k := 2) (n := 12) (Nat.le_of_ble_eq_true rfl) (Nat.le_of_ble_eq_true rfl) ?_
      exact vx_ret (r_i hx hb hr hlocks hP hS dX1_alike_85 ⟨k1, hk1k, hk1e, k2, hk2k, hk2e, i, rfl, hI.1, hI.2, fun _ => Or.inl c57, rfl⟩)
    · skip
      refine lv_aload_n hx hb dX1_alike_60 rfl (lv_at hl 3 rfl) ?_
      refine q_get (C := RX0) (T := TX0) (N := 8) (ci := 0) (v := .ref (e_a E (k1 + 18))) hx hb hts hinX0 hown hK hP (at_ch hk1k) rfl 1 (by decide) hf97 rfl dX1_alike_61 ?_
      refine lv_iload hx hb dX1_alike_64 (lv_at hl 0 rfl) ?_
      refine q_ld hx hb hK hP (at_gi hk1k) (i := i) rfl (by omega) (by decide) dX1_alike_66 ?_
      refine lv_bipush (v := 16) hx hb dX1_alike_67 (by decide) ?_
      refine lv_aload hx hb dX1_alike_69 (lv_at hl 2 rfl) ?_
      refine q_get (C := RX0) (T := TX0) (N := 8) (ci := 0) (v := .ref (e_a E (k2 + 18))) hx hb hts hinX0 hown hK hP (at_ch hk2k) rfl 1 (by decide) hf97 rfl dX1_alike_71 ?_
      refine lv_iload hx hb dX1_alike_74 (lv_at hl 0 rfl) ?_
      refine q_ld hx hb hK hP (at_gi hk2k) (i := i) rfl (by omega) (by decide) dX1_alike_76 ?_
      refine k_Si (As := [.int (σ (k1 + 18) (i)), .int (16), .int (σ (k2 + 18) (i))]) (rest := []) ⟨hx, hb, hml, hown, hts⟩ (mtX1_holds l (σ (k1 + 18) (i)) 16 (σ (k2 + 18) (i))) (va_cwS 3 hts gX1_alike_X1_holds rfl rfl rfl (by decide +kernel) ⟨Nat.le_of_ble_eq_true rfl, Nat.le_of_ble_eq_true rfl⟩) rfl hl.1 rfl (Nat.le_of_ble_eq_true rfl) dX1_alike_77 ⟨Nat.le_of_ble_eq_true rfl, Nat.le_of_ble_eq_true rfl⟩ (fun r4 er4 => ?_)
      subst er4
      refine lv_if_ne (tgt := 86) hx hb dX1_alike_80 (by decide) (fun c80 => ?_) (fun c80 => ?_)
      · skip
        refine lv_iinc (v := nI (i + 1)) (lv' := [(6, .int (nI (i + 1))), (5, .int (nI (min (N k1) (N k2)))), (4, .ref (e_a E (k2 + 2))), (3, .ref (e_a E (k1 + 2))), (0, .ref (e_a E (0))), (1, .int (x)), (2, .int (y))]) hx hb dX1_alike_86 hl (k := 0) rfl (by exact nI_add (i) 1) (by decide) rfl (fun ls hl => ?_)
        refine lv_goto (tgt := 30) hx hb dX1_alike_89 (by decide) ?_
        exact IH (i + 1) (show (i + 1) ≤ min (N k1) (N k2) ∧ ∀ t, t < (i + 1) → hd (σ (k1 + 10) t) (σ (k2 + 10) t) 16 ≠ 0 ∧ hd (σ (k1 + 18) t) (σ (k2 + 18) t) 16 ≠ 0 from ⟨by omega, lt_s hI.2 ⟨c57, c80⟩⟩) (by (try dsimp only); omega) _ _ _ hP hS (lv_sub hl [0, 1, 2, 3, 4, 5, 6] rfl)
      · skip
        refine lv_iload hx hb dX1_alike_83 (lv_at hl 0 rfl) ?_
        refine W.widen (k := 2) (n := 12) (Nat.le_of_ble_eq_true rfl) (Nat.le_of_ble_eq_true rfl) ?_
        exact vx_ret (r_i hx hb hr hlocks hP hS dX1_alike_85 ⟨k1, hk1k, hk1e, k2, hk2k, hk2e, i, rfl, hI.1, hI.2, fun _ => Or.inr c80, rfl⟩)
theorem wxX1_gauge_24 : ∀ w ∈ (vx_atS RX1 24 "java/lang/IllegalArgumentException" ["java/lang/RuntimeException", "java/lang/Exception"]).filter goodWord, w ∈ wsX1_gauge := fun w h => by
  simp only [wsX1_gauge, List.mem_cons, List.mem_append, h, or_true, true_or]
set_option maxHeartbeats 4000000 in
set_option maxRecDepth 100000 in
/-- gauge -/
theorem mtX1_gauge (l : Launch) (hl0 : l.stackTraces = false) (E : Ev) (hok : e_ok E) (σ : Mem) (o : Nat → Int64) (v : Int32) : vx_Met l yX1_gauge wsX1_gauge ({ frames := 6, cells := 1, slots := 6, locals := 90 } : Room) (PW E σ o [.ref (e_a E (0)), .int (v)]) (va_Qi (fun (r : Int32) (σ' : Mem) => okV v ∧ r = gC σ v ∧ σ' = σ) (BW E o) (LB (e_B E))) (XW E σ o (fun u => u = xIA ∧ ¬ okV v)) 1 6 (LB (e_B E)) := by
  refine vx_ofW (cc := cX1_gauge) (maxL := 2) (ret := (some .int)) (by decide) rfl ?_
  intro p e s m args below meth c s₁ B hml hno hv
  obtain ⟨rfl, hP, hK⟩ := hv
  have hx := B.exec
  have hb := B.bytes
  have hr := B.returns
  have hts := atoms_spec (ws := wsX1_gauge) B.pre
  have hown : s.vm.findClass RX1 = some m.cls := findClass_of_methodNamed B.named
  have hlocks := B.notSynchronized
  have hS : va_S (LB (e_B E)) s.heap s.heap [] := va_S.rf
  have hinX1 : ∀ w ∈ wsX10, w ∈ wsX1_gauge := fun w h => by simp only [wsX1_gauge, List.mem_cons, List.mem_append, h, or_true, true_or]
  have hf122 := hts (.fieldLink RX1 122 "ParcelChutes" "lightest" "I") (by decide +kernel)
  have hf125 := hts (.fieldLink RX1 125 "ParcelChutes" "heaviest" "I") (by decide +kernel)
  have hf128 := hts (.fieldLink RX1 128 "ParcelChutes" "widest" "I") (by decide +kernel)
  have hf131 := hts (.fieldLink RX1 131 "ParcelChutes" "streak" "I") (by decide +kernel)
  have hf134 := hts (.fieldLink RX1 134 "ParcelChutes" "came" "I") (by decide +kernel)
  have hf137 := hts (.fieldLink RX1 137 "ParcelChutes" "asideCount" "I") (by decide +kernel)
  have hf140 := hts (.fieldLink RX1 140 "ParcelChutes" "asideWeight" "I") (by decide +kernel)
  have hf143 := hts (.fieldLink RX1 143 "ParcelChutes" "asideGirth" "I") (by decide +kernel)
  have hl := lv_entry ([.ref (e_a E (0)), .int (v)]) (n := 2) (Nat.le_of_ble_eq_true rfl)
  rw [lg_entry_eq]
  generalize (lg_sl ([.ref (e_a E (0)), .int (v)]) ++ List.replicate (2 - (lg_sl ([.ref (e_a E (0)), .int (v)])).length) Slot.unset).toArray = ls at hl ⊢
  have hl : lv_has ls 2 [(0, .ref (e_a E (0))), (1, .int (v))] := hl
  refine lv_iload_n hx hb dX1_gauge_0 rfl (lv_at hl 1 rfl) ?_
  by_cases k1_0 : v = 0
  · skip
    refine lv_tableIn (off := 47) (tgt := 48) hx hb dX1_gauge_1 (by rw [k1_0]; decide) (by rw [k1_0]; decide) (by rw [k1_0]; rfl) (by decide) ?_
    refine lv_aload_n hx hb dX1_gauge_48 rfl (lv_at hl 0 rfl) ?_
    refine q_get (C := RX1) (T := TX1) (N := 10) (ci := 1) (v := .int (σ (0) 1)) hx hb hts hinX1 hown hK hP at_0 rfl 1 (by decide) hf122 rfl dX1_gauge_49 ?_
    refine W.widen (k := 1) (n := 6) (Nat.le_of_ble_eq_true rfl) (Nat.le_of_ble_eq_true rfl) ?_
    exact vx_ret (r_i hx hb hr hlocks hP hS dX1_gauge_52 ⟨okV_j (j := 0) (by decide) k1_0, by simp [gC, k1_0], rfl⟩)
  by_cases k1_1 : v = 1
  · skip
    refine lv_tableIn (off := 52) (tgt := 53) hx hb dX1_gauge_1 (by rw [k1_1]; decide) (by rw [k1_1]; decide) (by rw [k1_1]; rfl) (by decide) ?_
    refine lv_aload_n hx hb dX1_gauge_53 rfl (lv_at hl 0 rfl) ?_
    refine q_get (C := RX1) (T := TX1) (N := 10) (ci := 1) (v := .int (σ (0) 2)) hx hb hts hinX1 hown hK hP at_0 rfl 2 (by decide) hf125 rfl dX1_gauge_54 ?_
    refine W.widen (k := 1) (n := 6) (Nat.le_of_ble_eq_true rfl) (Nat.le_of_ble_eq_true rfl) ?_
    exact vx_ret (r_i hx hb hr hlocks hP hS dX1_gauge_57 ⟨okV_j (j := 1) (by decide) k1_1, by simp [gC, k1_1], rfl⟩)
  by_cases k1_2 : v = 2
  · skip
    refine lv_tableIn (off := 57) (tgt := 58) hx hb dX1_gauge_1 (by rw [k1_2]; decide) (by rw [k1_2]; decide) (by rw [k1_2]; rfl) (by decide) ?_
    refine lv_aload_n hx hb dX1_gauge_58 rfl (lv_at hl 0 rfl) ?_
    refine q_get (C := RX1) (T := TX1) (N := 10) (ci := 1) (v := .int (σ (0) 3)) hx hb hts hinX1 hown hK hP at_0 rfl 3 (by decide) hf128 rfl dX1_gauge_59 ?_
    refine W.widen (k := 1) (n := 6) (Nat.le_of_ble_eq_true rfl) (Nat.le_of_ble_eq_true rfl) ?_
    exact vx_ret (r_i hx hb hr hlocks hP hS dX1_gauge_62 ⟨okV_j (j := 2) (by decide) k1_2, by simp [gC, k1_2], rfl⟩)
  by_cases k1_3 : v = 3
  · skip
    refine lv_tableIn (off := 62) (tgt := 63) hx hb dX1_gauge_1 (by rw [k1_3]; decide) (by rw [k1_3]; decide) (by rw [k1_3]; rfl) (by decide) ?_
    refine lv_aload_n hx hb dX1_gauge_63 rfl (lv_at hl 0 rfl) ?_
    refine q_get (C := RX1) (T := TX1) (N := 10) (ci := 1) (v := .int (σ (0) 4)) hx hb hts hinX1 hown hK hP at_0 rfl 4 (by decide) hf131 rfl dX1_gauge_64 ?_
    refine W.widen (k := 1) (n := 6) (Nat.le_of_ble_eq_true rfl) (Nat.le_of_ble_eq_true rfl) ?_
    exact vx_ret (r_i hx hb hr hlocks hP hS dX1_gauge_67 ⟨okV_j (j := 3) (by decide) k1_3, by simp [gC, k1_3], rfl⟩)
  by_cases k1_4 : v = 4
  · skip
    refine lv_tableIn (off := 67) (tgt := 68) hx hb dX1_gauge_1 (by rw [k1_4]; decide) (by rw [k1_4]; decide) (by rw [k1_4]; rfl) (by decide) ?_
    refine lv_aload_n hx hb dX1_gauge_68 rfl (lv_at hl 0 rfl) ?_
    refine q_get (C := RX1) (T := TX1) (N := 10) (ci := 1) (v := .int (σ (0) 5)) hx hb hts hinX1 hown hK hP at_0 rfl 5 (by decide) hf134 rfl dX1_gauge_69 ?_
    refine W.widen (k := 1) (n := 6) (Nat.le_of_ble_eq_true rfl) (Nat.le_of_ble_eq_true rfl) ?_
    exact vx_ret (r_i hx hb hr hlocks hP hS dX1_gauge_72 ⟨okV_j (j := 4) (by decide) k1_4, by simp [gC, k1_4], rfl⟩)
  by_cases k1_5 : v = 5
  · skip
    refine lv_tableIn (off := 72) (tgt := 73) hx hb dX1_gauge_1 (by rw [k1_5]; decide) (by rw [k1_5]; decide) (by rw [k1_5]; rfl) (by decide) ?_
    refine lv_aload_n hx hb dX1_gauge_73 rfl (lv_at hl 0 rfl) ?_
    refine q_get (C := RX1) (T := TX1) (N := 10) (ci := 1) (v := .int (σ (0) 7)) hx hb hts hinX1 hown hK hP at_0 rfl 7 (by decide) hf137 rfl dX1_gauge_74 ?_
    refine W.widen (k := 1) (n := 6) (Nat.le_of_ble_eq_true rfl) (Nat.le_of_ble_eq_true rfl) ?_
    exact vx_ret (r_i hx hb hr hlocks hP hS dX1_gauge_77 ⟨okV_j (j := 5) (by decide) k1_5, by simp [gC, k1_5], rfl⟩)
  by_cases k1_6 : v = 6
  · skip
    refine lv_tableIn (off := 77) (tgt := 78) hx hb dX1_gauge_1 (by rw [k1_6]; decide) (by rw [k1_6]; decide) (by rw [k1_6]; rfl) (by decide) ?_
    refine lv_aload_n hx hb dX1_gauge_78 rfl (lv_at hl 0 rfl) ?_
    refine q_get (C := RX1) (T := TX1) (N := 10) (ci := 1) (v := .int (σ (0) 8)) hx hb hts hinX1 hown hK hP at_0 rfl 8 (by decide) hf140 rfl dX1_gauge_79 ?_
    refine W.widen (k := 1) (n := 6) (Nat.le_of_ble_eq_true rfl) (Nat.le_of_ble_eq_true rfl) ?_
    exact vx_ret (r_i hx hb hr hlocks hP hS dX1_gauge_82 ⟨okV_j (j := 6) (by decide) k1_6, by simp [gC, k1_6], rfl⟩)
  by_cases k1_7 : v = 7
  · skip
    refine lv_tableIn (off := 82) (tgt := 83) hx hb dX1_gauge_1 (by rw [k1_7]; decide) (by rw [k1_7]; decide) (by rw [k1_7]; rfl) (by decide) ?_
    refine lv_aload_n hx hb dX1_gauge_83 rfl (lv_at hl 0 rfl) ?_
    refine q_get (C := RX1) (T := TX1) (N := 10) (ci := 1) (v := .int (σ (0) 9)) hx hb hts hinX1 hown hK hP at_0 rfl 9 (by decide) hf143 rfl dX1_gauge_84 ?_
    refine W.widen (k := 1) (n := 6) (Nat.le_of_ble_eq_true rfl) (Nat.le_of_ble_eq_true rfl) ?_
    exact vx_ret (r_i hx hb hr hlocks hP hS dX1_gauge_87 ⟨okV_j (j := 7) (by decide) k1_7, by simp [gC, k1_7], rfl⟩)
  refine lv_tableOut (tgt := 88) hx hb dX1_gauge_1 (tb_out7 _ k1_0 k1_1 k1_2 k1_3 k1_4 k1_5 k1_6 k1_7) (by decide) ?_
  exact x_throw hx hb hl0 (ik := 20) (is := 87) (ic := 24) hown (by decide +kernel) (hts (.classLink RX1 20 "java/lang/IllegalArgumentException") (by decide +kernel)) (hts (.initialized "java/lang/IllegalArgumentException") (by decide +kernel)) hK.s87 (vx_hat (B := [.castable "java/lang/IllegalArgumentException" "java/lang/IllegalArgumentException", .declares (Bundle.initS "java/lang/RuntimeException"), .declares (Bundle.initS "java/lang/Exception"), .declares (Bundle.initS "java/lang/Throwable")]) (fun w h => hts w (wxX1_gauge_24 w h)) (by decide +kernel) (vx_c (hK.c (by decide)) (vx_c (hK.d (by decide)) (vx_c (hK.d (by decide)) (vx_c (hK.d (by decide)) vx_n))))) (by decide +kernel) hK hP hS hl.1 hml dX1_gauge_88 dX1_gauge_91 dX1_gauge_92 dX1_gauge_94 dX1_gauge_97 hno (Nat.le_of_ble_eq_true rfl) (Nat.le_of_ble_eq_true rfl) (Nat.le_of_ble_eq_true rfl) (Nat.le_of_ble_eq_true rfl) hlocks ⟨rfl, okV_no k1_0 k1_1 k1_2 k1_3 k1_4 k1_5 k1_6 k1_7⟩ (Nat.le_of_ble_eq_true rfl) (Nat.le_of_ble_eq_true rfl)
theorem wxX1_pour_24 : ∀ w ∈ (vx_atS RX1 24 "java/lang/IllegalArgumentException" ["java/lang/RuntimeException", "java/lang/Exception"]).filter goodWord, w ∈ wsX1_pour := fun w h => by
  simp only [wsX1_pour, List.mem_cons, List.mem_append, h, or_true, true_or]
set_option maxHeartbeats 4000000 in
set_option maxRecDepth 100000 in
/-- pour -/
theorem mtX1_pour (l : Launch) (hl0 : l.stackTraces = false) (E : Ev) (hok : e_ok E) (σ : Mem) (o : Nat → Int64) (x y : Int32) (N : Nat → Nat) (hN : okN σ N) : vx_Met l yX1_pour wsX1_pour ({ frames := 7, cells := 3, slots := 18, locals := 111 } : Room) (PW E σ o [.ref (e_a E (0)), .int (x), .int (y)]) (va_Qi (fun (r : Int32) (σ' : Mem) => ∃ a : Nat, a < 8 ∧ x = nI a ∧ ∃ b : Nat, b < 8 ∧ y = nI b ∧ a ≠ b ∧ ∃ (N' : Nat → Nat) (p' : Nat), p' ≤ N a ∧ r = nI (N a - p') ∧ okN σ' N' ∧ psteps a b (N a) σ N 0 σ' N' p') (BW E o) (LB (e_B E))) (XW E σ o (fun u => (u = xIO ∧ ¬ (isCh x ∧ isCh y)) ∨ (u = xIA ∧ isCh x ∧ isCh y ∧ x = y))) 3 18 (LB (e_B E)) := by
  refine vx_ofW (cc := cX1_pour) (maxL := 8) (ret := (some .int)) (by decide) rfl ?_
  intro p e s m args below meth c s₁ B hml hno hv
  obtain ⟨rfl, hP, hK⟩ := hv
  have hx := B.exec
  have hb := B.bytes
  have hr := B.returns
  have hts := atoms_spec (ws := wsX1_pour) B.pre
  have hown : s.vm.findClass RX1 = some m.cls := findClass_of_methodNamed B.named
  have hlocks := B.notSynchronized
  have hS : va_S (LB (e_B E)) s.heap s.heap [] := va_S.rf
  have hinX0 : ∀ w ∈ wsX00, w ∈ wsX1_pour := fun w h => by simp only [wsX1_pour, List.mem_cons, List.mem_append, h, or_true, true_or]
  have hf27 := hts (.fieldLink RX1 27 "ParcelChutes$Chute" "count" "I") (by decide +kernel)
  have hf89 := hts (.fieldLink RX1 89 "ParcelChutes$Chute" "weights" "[I") (by decide +kernel)
  have hf97 := hts (.fieldLink RX1 97 "ParcelChutes$Chute" "girths" "[I") (by decide +kernel)
  have hl := lv_entry ([.ref (e_a E (0)), .int (x), .int (y)]) (n := 8) (Nat.le_of_ble_eq_true rfl)
  rw [lg_entry_eq]
  generalize (lg_sl ([.ref (e_a E (0)), .int (x), .int (y)]) ++ List.replicate (8 - (lg_sl ([.ref (e_a E (0)), .int (x), .int (y)])).length) Slot.unset).toArray = ls at hl ⊢
  have hl : lv_has ls 8 [(0, .ref (e_a E (0))), (1, .int (x)), (2, .int (y))] := hl
  refine lv_aload_n hx hb dX1_pour_0 rfl (lv_at hl 0 rfl) ?_
  refine lv_iload_n hx hb dX1_pour_1 rfl (lv_at hl 1 rfl) ?_
  refine x_Vc (As := [.int (x)]) (rest := []) ⟨hx, hb, hml, hown, hts⟩ (mtX1_chuteAt l hl0 E hok σ o x) (cwV 1 hts gX1_pour_X1_chuteAt rfl rfl rfl (by decide +kernel) ⟨Nat.le_of_ble_eq_true rfl, Nat.le_of_ble_eq_true rfl⟩) (va_recv hK.K hP (ci := 1) (q0 := 0) rfl at_0) hno hlocks hK hP hS rfl hl.1 rfl (Nat.le_of_ble_eq_true rfl) dX1_pour_2 ⟨Nat.le_of_ble_eq_true rfl, Nat.le_of_ble_eq_true rfl⟩ (fun u h => Or.inl ⟨h.1, fun z => h.2 z.1⟩) ⟨Nat.le_of_ble_eq_true rfl, Nat.le_of_ble_eq_true rfl⟩ (fun k1 H locs hk1 hP hS => ?_)
  obtain ⟨hk1k, hk1e⟩ := hk1
  have h12k1 := (hN k1 hk1k).2
  refine lv_astore_n (lv' := [(3, .ref (e_a E (k1 + 2))), (0, .ref (e_a E (0))), (1, .int (x)), (2, .int (y))]) hx hb dX1_pour_5 rfl hl (by decide) rfl (fun ls hl => ?_)
  refine lv_aload_n hx hb dX1_pour_6 rfl (lv_at hl 1 rfl) ?_
  refine lv_iload_n hx hb dX1_pour_7 rfl (lv_at hl 3 rfl) ?_
  refine x_Vc (As := [.int (y)]) (rest := []) ⟨hx, hb, hml, hown, hts⟩ (mtX1_chuteAt l hl0 E hok σ o y) (cwV 1 hts gX1_pour_X1_chuteAt rfl rfl rfl (by decide +kernel) ⟨Nat.le_of_ble_eq_true rfl, Nat.le_of_ble_eq_true rfl⟩) (va_recv hK.K hP (ci := 1) (q0 := 0) rfl at_0) hno hlocks hK hP hS rfl hl.1 rfl (Nat.le_of_ble_eq_true rfl) dX1_pour_8 ⟨Nat.le_of_ble_eq_true rfl, Nat.le_of_ble_eq_true rfl⟩ (fun u h => Or.inl ⟨h.1, fun z => h.2 z.2⟩) ⟨Nat.le_of_ble_eq_true rfl, Nat.le_of_ble_eq_true rfl⟩ (fun k2 H locs hk2 hP hS => ?_)
  obtain ⟨hk2k, hk2e⟩ := hk2
  have h12k2 := (hN k2 hk2k).2
  refine lv_astore (lv' := [(4, .ref (e_a E (k2 + 2))), (3, .ref (e_a E (k1 + 2))), (0, .ref (e_a E (0))), (1, .int (x)), (2, .int (y))]) hx hb dX1_pour_11 hl (by decide) rfl (fun ls hl => ?_)
  refine lv_iload_n hx hb dX1_pour_13 rfl (lv_at hl 3 rfl) ?_
  refine lv_iload_n hx hb dX1_pour_14 rfl (lv_at hl 4 rfl) ?_
  refine lv_icmp_ne (tgt := 28) hx hb dX1_pour_15 (by decide) (fun c15 => ?_) (fun c15 => ?_)
  · skip
    refine lv_aload_n hx hb dX1_pour_28 rfl (lv_at hl 1 rfl) ?_
    refine q_get (C := RX0) (T := TX0) (N := 8) (ci := 0) (v := .int (σ (k1 + 2) 2)) hx hb hts hinX0 hown hK hP (at_ch hk1k) rfl 2 (by decide) hf27 rfl dX1_pour_29 ?_
    have hab : k1 ≠ k2 := fun z => c15 (by rw [hk1e, hk2e, z])
    rw [(hN k1 hk1k).1]
    refine lv_istore (lv' := [(5, .int (nI (N k1))), (4, .ref (e_a E (k2 + 2))), (3, .ref (e_a E (k1 + 2))), (0, .ref (e_a E (0))), (1, .int (x)), (2, .int (y))]) hx hb dX1_pour_32 hl (by decide) rfl (fun ls hl => ?_)
    refine lv_iconst (v := 0) hx hb dX1_pour_34 (by decide) ?_
    refine lv_istore (lv' := [(6, .int (0)), (5, .int (nI (N k1))), (4, .ref (e_a E (k2 + 2))), (3, .ref (e_a E (k1 + 2))), (0, .ref (e_a E (0))), (1, .int (x)), (2, .int (y))]) hx hb dX1_pour_35 hl (by decide) rfl (fun ls hl => ?_)
    refine lv_iconst (v := 0) hx hb dX1_pour_37 (by decide) ?_
    refine lv_istore (lv' := [(7, .int (0)), (6, .int (0)), (5, .int (nI (N k1))), (4, .ref (e_a E (k2 + 2))), (3, .ref (e_a E (k1 + 2))), (0, .ref (e_a E (0))), (1, .int (x)), (2, .int (y))]) hx hb dX1_pour_38 hl (by decide) rfl (fun ls hl => ?_)
    refine w_loop (E := E) (o := o) (ι := Nat × Nat × Mem × (Nat → Nat)) (μ := fun (i, p1, σ1, N1) => 12 - i) (I := fun (i, p1, σ1, N1) => i ≤ N k1 ∧ p1 ≤ i ∧ okN σ1 N1 ∧ N1 k1 = N k1 - (i - p1) ∧ psteps k1 k2 i σ N 0 σ1 N1 p1) (mem := fun (i, p1, σ1, N1) => σ1) (lv := fun (i, p1, σ1, N1) => [(7, .int (nI (i))), (6, .int (nI (p1))), (5, .int (nI (N k1))), (4, .ref (e_a E (k2 + 2))), (3, .ref (e_a E (k1 + 2))), (0, .ref (e_a E (0))), (1, .int (x)), (2, .int (y))]) (nL := 8) (pch := 40) ?_ ((0), (0), (σ), (N)) (show (0) ≤ N k1 ∧ (0) ≤ (0) ∧ okN (σ) (N) ∧ (N) k1 = N k1 - ((0) - (0)) ∧ psteps k1 k2 (0) σ N 0 (σ) (N) (0) from ⟨Nat.zero_le _, Nat.le_refl _, hN, by omega, rfl, rfl, rfl⟩) hP hS (lv_sub hl [0, 1, 2, 3, 4, 5, 6, 7] rfl)
    rintro ⟨i, p1, σ1, N1⟩ hI IH H locs ls hP hS hl
    have hP : va_P (e_D E) vwCl (wd E σ1 o) H := hP
    have hl : lv_has ls 8 [(7, .int (nI (i))), (6, .int (nI (p1))), (5, .int (nI (N k1))), (4, .ref (e_a E (k2 + 2))), (3, .ref (e_a E (k1 + 2))), (0, .ref (e_a E (0))), (1, .int (x)), (2, .int (y))] := hl
    have hI : i ≤ N k1 ∧ p1 ≤ i ∧ okN σ1 N1 ∧ N1 k1 = N k1 - (i - p1) ∧ psteps k1 k2 i σ N 0 σ1 N1 p1 := hI
    have h1a := (hI.2.2.1 k1 hk1k).2
    refine lv_iload hx hb dX1_pour_40 (lv_at hl 0 rfl) ?_
    refine lv_iload hx hb dX1_pour_42 (lv_at hl 2 rfl) ?_
    refine nb_ge (i := i) (j := N k1) hx hb rfl rfl (by omega) (by omega) dX1_pour_44 (tgt := 87) (by decide) (fun c44 => ?_) (fun c44 => ?_)
    · skip
      refine lv_iload hx hb dX1_pour_87 (lv_at hl 2 rfl) ?_
      refine lv_iload hx hb dX1_pour_89 (lv_at hl 1 rfl) ?_
      refine lv_isub hx hb dX1_pour_91 ?_
      refine W.widen (k := 3) (n := 18) (Nat.le_of_ble_eq_true rfl) (Nat.le_of_ble_eq_true rfl) ?_
      exact vx_ret (r_i hx hb hr hlocks hP hS dX1_pour_92 (by
      have hi : i = N k1 := by omega
      subst hi
      exact ⟨k1, hk1k, hk1e, k2, hk2k, hk2e, hab, N1, p1, hI.2.1, pk_sub hI.2.1, hI.2.2.1, hI.2.2.2.2⟩))
    · skip
      refine lv_aload hx hb dX1_pour_47 (lv_at hl 3 rfl) ?_
      refine lv_aload_n hx hb dX1_pour_49 rfl (lv_at hl 4 rfl) ?_
      refine q_get (C := RX0) (T := TX0) (N := 8) (ci := 0) (v := .ref (e_a E (k1 + 10))) hx hb hts hinX0 hown hK hP (at_ch hk1k) rfl 0 (by decide) hf89 rfl dX1_pour_50 ?_
      refine lv_iload hx hb dX1_pour_53 (lv_at hl 1 rfl) ?_
      refine q_ld hx hb hK hP (at_wt hk1k) (i := p1) rfl (by omega) (by decide) dX1_pour_55 ?_
      refine lv_aload_n hx hb dX1_pour_56 rfl (lv_at hl 4 rfl) ?_
      refine q_get (C := RX0) (T := TX0) (N := 8) (ci := 0) (v := .ref (e_a E (k1 + 18))) hx hb hts hinX0 hown hK hP (at_ch hk1k) rfl 1 (by decide) hf97 rfl dX1_pour_57 ?_
      refine lv_iload hx hb dX1_pour_60 (lv_at hl 1 rfl) ?_
      refine q_ld hx hb hK hP (at_gi hk1k) (i := p1) rfl (by omega) (by decide) dX1_pour_62 ?_
      refine k_Vi (As := [.int (σ1 (k1 + 10) (p1)), .int (σ1 (k1 + 18) (p1))]) (rest := []) ⟨hx, hb, hml, hown, hts⟩ (mtX0_admit l E hok σ1 o k2 hk2k (N1 k2) (hI.2.2.1 k2 hk2k).1 (hI.2.2.1 k2 hk2k).2 (σ1 (k1 + 10) (p1)) (σ1 (k1 + 18) (p1))) (cwV 2 hts gX1_pour_X0_admit rfl rfl rfl (by decide +kernel) ⟨Nat.le_of_ble_eq_true rfl, Nat.le_of_ble_eq_true rfl⟩) (va_recv hK.K hP (ci := 0) (q0 := k2 + 2) rfl (at_ch hk2k)) hK hP hS rfl hl.1 rfl (Nat.le_of_ble_eq_true rfl) dX1_pour_63 ⟨Nat.le_of_ble_eq_true rfl, Nat.le_of_ble_eq_true rfl⟩ (fun r3 σ_4 H locs hr3 hP hS => ?_)
      rcases hr3 with ⟨rfl, ehr3, hnohr3⟩ | ⟨rfl, hlthr3, hfthr3, qhr3, hqhr3, ehr3⟩
      · skip
        rw [ehr3] at hP
        refine lv_if_eq (tgt := 78) hx hb dX1_pour_66 (by decide) (fun c66 => ?_) (fun c66 => ?_)
        rotate_left
        · exact absurd c66 (fun h => h rfl)
        refine lv_iinc (v := nI (p1 + 1)) (lv' := [(6, .int (nI (p1 + 1))), (7, .int (nI (i))), (5, .int (nI (N k1))), (4, .ref (e_a E (k2 + 2))), (3, .ref (e_a E (k1 + 2))), (0, .ref (e_a E (0))), (1, .int (x)), (2, .int (y))]) hx hb dX1_pour_78 hl (k := 1) rfl (by exact nI_add (p1) 1) (by decide) rfl (fun ls hl => ?_)
        refine lv_iinc (v := nI (i + 1)) (lv' := [(7, .int (nI (i + 1))), (6, .int (nI (p1 + 1))), (5, .int (nI (N k1))), (4, .ref (e_a E (k2 + 2))), (3, .ref (e_a E (k1 + 2))), (0, .ref (e_a E (0))), (1, .int (x)), (2, .int (y))]) hx hb dX1_pour_81 hl (k := 1) rfl (by exact nI_add (i) 1) (by decide) rfl (fun ls hl => ?_)
        refine lv_goto (tgt := 40) hx hb dX1_pour_84 (by decide) ?_
        exact IH ((i + 1), (p1 + 1), (σ1), (N1)) (show (i + 1) ≤ N k1 ∧ (p1 + 1) ≤ (i + 1) ∧ okN (σ1) (N1) ∧ (N1) k1 = N k1 - ((i + 1) - (p1 + 1)) ∧ psteps k1 k2 (i + 1) σ N 0 (σ1) (N1) (p1 + 1) from ⟨by omega, by omega, hI.2.2.1, by omega, σ1, N1, p1, hI.2.2.2.2, Or.inl ⟨hnohr3, rfl, rfl, rfl⟩⟩) (by (try dsimp only); omega) _ _ _ hP hS (lv_sub hl [0, 1, 2, 3, 4, 5, 6, 7] rfl)
      · skip
        rw [ehr3] at hP
        refine lv_if_eq (tgt := 78) hx hb dX1_pour_66 (by decide) (fun c66 => ?_) (fun c66 => ?_)
        · exact absurd c66 (by decide)
        have hra := okN_ins (q := qhr3) (w := σ1 (k1 + 10) p1) (g := σ1 (k1 + 18) p1) hI.2.2.1 hk2k hlthr3 k1 hk1k
        rw [show addN N1 k2 k1 = N1 k1 by simp [addN, hab]] at hra
        refine lv_aload_n hx hb dX1_pour_69 rfl (lv_at hl 4 rfl) ?_
        refine lv_iload hx hb dX1_pour_70 (lv_at hl 1 rfl) ?_
        refine k_Vv (As := [.int (nI (p1))]) (rest := []) ⟨hx, hb, hml, hown, hts⟩ (mtX0_removeAt l E hok (m_ins σ1 k2 qhr3 (N1 k2) (σ1 (k1 + 10) (p1)) (σ1 (k1 + 18) (p1))) o k1 hk1k (N1 k1) p1 hra.1 hra.2 (by omega)) (cwV 1 hts gX1_pour_X0_removeAt rfl rfl rfl (by decide +kernel) ⟨Nat.le_of_ble_eq_true rfl, Nat.le_of_ble_eq_true rfl⟩) (va_recv hK.K hP (ci := 0) (q0 := k1 + 2) rfl (at_ch hk1k)) hK hP hS rfl hl.1 rfl (Nat.le_of_ble_eq_true rfl) dX1_pour_72 ⟨Nat.le_of_ble_eq_true rfl, Nat.le_of_ble_eq_true rfl⟩ (fun σ_5 H locs hσ_5 hP hS => ?_)
        subst hσ_5
        refine lv_goto (tgt := 81) hx hb dX1_pour_75 (by decide) ?_
        refine lv_iinc (v := nI (i + 1)) (lv' := [(7, .int (nI (i + 1))), (6, .int (nI (p1))), (5, .int (nI (N k1))), (4, .ref (e_a E (k2 + 2))), (3, .ref (e_a E (k1 + 2))), (0, .ref (e_a E (0))), (1, .int (x)), (2, .int (y))]) hx hb dX1_pour_81 hl (k := 0) rfl (by exact nI_add (i) 1) (by decide) rfl (fun ls hl => ?_)
        refine lv_goto (tgt := 40) hx hb dX1_pour_84 (by decide) ?_
        exact IH ((i + 1), (p1), (m_rem (m_ins σ1 k2 qhr3 (N1 k2) (σ1 (k1 + 10) p1) (σ1 (k1 + 18) p1)) k1 p1 (N1 k1)), (subN (addN N1 k2) k1)) (show (i + 1) ≤ N k1 ∧ (p1) ≤ (i + 1) ∧ okN (m_rem (m_ins σ1 k2 qhr3 (N1 k2) (σ1 (k1 + 10) p1) (σ1 (k1 + 18) p1)) k1 p1 (N1 k1)) (subN (addN N1 k2) k1) ∧ (subN (addN N1 k2) k1) k1 = N k1 - ((i + 1) - (p1)) ∧ psteps k1 k2 (i + 1) σ N 0 (m_rem (m_ins σ1 k2 qhr3 (N1 k2) (σ1 (k1 + 10) p1) (σ1 (k1 + 18) p1)) k1 p1 (N1 k1)) (subN (addN N1 k2) k1) (p1) from ⟨by omega, by omega, by have hz := okN_rem (q := p1) (okN_ins (q := qhr3) (w := σ1 (k1 + 10) p1) (g := σ1 (k1 + 18) p1) hI.2.2.1 hk2k hlthr3) hk1k; rw [show addN N1 k2 k1 = N1 k1 by simp [addN, hab]] at hz; exact hz, by simp [subN, addN, hab]; omega, σ1, N1, p1, hI.2.2.2.2, Or.inr ⟨hlthr3, hfthr3, qhr3, hqhr3, rfl, rfl, rfl⟩⟩) (by (try dsimp only); omega) _ _ _ hP hS (lv_sub hl [0, 1, 2, 3, 4, 5, 6, 7] rfl)
  · skip
    exact x_throw hx hb hl0 (ik := 20) (is := 111) (ic := 24) hown (by decide +kernel) (hts (.classLink RX1 20 "java/lang/IllegalArgumentException") (by decide +kernel)) (hts (.initialized "java/lang/IllegalArgumentException") (by decide +kernel)) hK.s111 (vx_hat (B := [.castable "java/lang/IllegalArgumentException" "java/lang/IllegalArgumentException", .declares (Bundle.initS "java/lang/RuntimeException"), .declares (Bundle.initS "java/lang/Exception"), .declares (Bundle.initS "java/lang/Throwable")]) (fun w h => hts w (wxX1_pour_24 w h)) (by decide +kernel) (vx_c (hK.c (by decide)) (vx_c (hK.d (by decide)) (vx_c (hK.d (by decide)) (vx_c (hK.d (by decide)) vx_n))))) (by decide +kernel) hK hP hS hl.1 hml dX1_pour_18 dX1_pour_21 dX1_pour_22 dX1_pour_24 dX1_pour_27 hno (Nat.le_of_ble_eq_true rfl) (Nat.le_of_ble_eq_true rfl) (Nat.le_of_ble_eq_true rfl) (Nat.le_of_ble_eq_true rfl) hlocks (Or.inr ⟨rfl, ⟨k1, hk1k, hk1e⟩, ⟨k2, hk2k, hk2e⟩, c15⟩) (Nat.le_of_ble_eq_true rfl) (Nat.le_of_ble_eq_true rfl)
set_option maxHeartbeats 4000000 in
set_option maxRecDepth 100000 in
/-- sweep -/
theorem mtX1_sweep (l : Launch) (hl0 : l.stackTraces = false) (E : Ev) (hok : e_ok E) (σ : Mem) (o : Nat → Int64) (x : Int32) (N : Nat → Nat) (hN : okN σ N) : vx_Met l yX1_sweep wsX1_sweep ({ frames := 7, cells := 1, slots := 6, locals := 111 } : Room) (PW E σ o [.ref (e_a E (0)), .int (x)]) (va_Qi (fun (r : Int32) (σ' : Mem) => ∃ a : Nat, a < 8 ∧ x = nI a ∧ ∃ (N' : Nat → Nat) (p' : Nat), p' ≤ N a ∧ r = nI (N a - p') ∧ okN σ' N' ∧ ssteps a (N a) σ N 0 σ' N' p') (BW E o) (LB (e_B E))) (XW E σ o (fun u => u = xIO ∧ ¬ isCh x)) 1 6 (LB (e_B E)) := by
  refine vx_ofW (cc := cX1_sweep) (maxL := 6) (ret := (some .int)) (by decide) rfl ?_
  intro p e s m args below meth c s₁ B hml hno hv
  obtain ⟨rfl, hP, hK⟩ := hv
  have hx := B.exec
  have hb := B.bytes
  have hr := B.returns
  have hts := atoms_spec (ws := wsX1_sweep) B.pre
  have hown : s.vm.findClass RX1 = some m.cls := findClass_of_methodNamed B.named
  have hlocks := B.notSynchronized
  have hS : va_S (LB (e_B E)) s.heap s.heap [] := va_S.rf
  have hinX0 : ∀ w ∈ wsX00, w ∈ wsX1_sweep := fun w h => by simp only [wsX1_sweep, List.mem_cons, List.mem_append, h, or_true, true_or]
  have hf27 := hts (.fieldLink RX1 27 "ParcelChutes$Chute" "count" "I") (by decide +kernel)
  have hf89 := hts (.fieldLink RX1 89 "ParcelChutes$Chute" "weights" "[I") (by decide +kernel)
  have hf97 := hts (.fieldLink RX1 97 "ParcelChutes$Chute" "girths" "[I") (by decide +kernel)
  have hl := lv_entry ([.ref (e_a E (0)), .int (x)]) (n := 6) (Nat.le_of_ble_eq_true rfl)
  rw [lg_entry_eq]
  generalize (lg_sl ([.ref (e_a E (0)), .int (x)]) ++ List.replicate (6 - (lg_sl ([.ref (e_a E (0)), .int (x)])).length) Slot.unset).toArray = ls at hl ⊢
  have hl : lv_has ls 6 [(0, .ref (e_a E (0))), (1, .int (x))] := hl
  refine lv_aload_n hx hb dX1_sweep_0 rfl (lv_at hl 0 rfl) ?_
  refine lv_iload_n hx hb dX1_sweep_1 rfl (lv_at hl 1 rfl) ?_
  refine x_Vc (As := [.int (x)]) (rest := []) ⟨hx, hb, hml, hown, hts⟩ (mtX1_chuteAt l hl0 E hok σ o x) (cwV 1 hts gX1_sweep_X1_chuteAt rfl rfl rfl (by decide +kernel) ⟨Nat.le_of_ble_eq_true rfl, Nat.le_of_ble_eq_true rfl⟩) (va_recv hK.K hP (ci := 1) (q0 := 0) rfl at_0) hno hlocks hK hP hS rfl hl.1 rfl (Nat.le_of_ble_eq_true rfl) dX1_sweep_2 ⟨Nat.le_of_ble_eq_true rfl, Nat.le_of_ble_eq_true rfl⟩ (fun u h => h) ⟨Nat.le_of_ble_eq_true rfl, Nat.le_of_ble_eq_true rfl⟩ (fun k1 H locs hk1 hP hS => ?_)
  obtain ⟨hk1k, hk1e⟩ := hk1
  have h12k1 := (hN k1 hk1k).2
  refine lv_astore_n (lv' := [(2, .ref (e_a E (k1 + 2))), (0, .ref (e_a E (0))), (1, .int (x))]) hx hb dX1_sweep_5 rfl hl (by decide) rfl (fun ls hl => ?_)
  refine lv_aload_n hx hb dX1_sweep_6 rfl (lv_at hl 0 rfl) ?_
  refine q_get (C := RX0) (T := TX0) (N := 8) (ci := 0) (v := .int (σ (k1 + 2) 2)) hx hb hts hinX0 hown hK hP (at_ch hk1k) rfl 2 (by decide) hf27 rfl dX1_sweep_7 ?_
  rw [(hN k1 hk1k).1]
  refine lv_istore_n (lv' := [(3, .int (nI (N k1))), (2, .ref (e_a E (k1 + 2))), (0, .ref (e_a E (0))), (1, .int (x))]) hx hb dX1_sweep_10 rfl hl (by decide) rfl (fun ls hl => ?_)
  refine lv_iconst (v := 0) hx hb dX1_sweep_11 (by decide) ?_
  refine lv_istore (lv' := [(4, .int (0)), (3, .int (nI (N k1))), (2, .ref (e_a E (k1 + 2))), (0, .ref (e_a E (0))), (1, .int (x))]) hx hb dX1_sweep_12 hl (by decide) rfl (fun ls hl => ?_)
  refine lv_iconst (v := 0) hx hb dX1_sweep_14 (by decide) ?_
  refine lv_istore (lv' := [(5, .int (0)), (4, .int (0)), (3, .int (nI (N k1))), (2, .ref (e_a E (k1 + 2))), (0, .ref (e_a E (0))), (1, .int (x))]) hx hb dX1_sweep_15 hl (by decide) rfl (fun ls hl => ?_)
  refine w_loop (E := E) (o := o) (ι := Nat × Nat × Mem × (Nat → Nat)) (μ := fun (i, p1, σ1, N1) => 12 - i) (I := fun (i, p1, σ1, N1) => i ≤ N k1 ∧ p1 ≤ i ∧ okN σ1 N1 ∧ N1 k1 = N k1 - (i - p1) ∧ ssteps k1 i σ N 0 σ1 N1 p1) (mem := fun (i, p1, σ1, N1) => σ1) (lv := fun (i, p1, σ1, N1) => [(5, .int (nI (i))), (4, .int (nI (p1))), (3, .int (nI (N k1))), (2, .ref (e_a E (k1 + 2))), (0, .ref (e_a E (0))), (1, .int (x))]) (nL := 6) (pch := 17) ?_ ((0), (0), (σ), (N)) (show (0) ≤ N k1 ∧ (0) ≤ (0) ∧ okN (σ) (N) ∧ (N) k1 = N k1 - ((0) - (0)) ∧ ssteps k1 (0) σ N 0 (σ) (N) (0) from ⟨Nat.zero_le _, Nat.le_refl _, hN, by omega, rfl, rfl, rfl⟩) hP hS (lv_sub hl [0, 1, 2, 3, 4, 5] rfl)
  rintro ⟨i, p1, σ1, N1⟩ hI IH H locs ls hP hS hl
  have hP : va_P (e_D E) vwCl (wd E σ1 o) H := hP
  have hl : lv_has ls 6 [(5, .int (nI (i))), (4, .int (nI (p1))), (3, .int (nI (N k1))), (2, .ref (e_a E (k1 + 2))), (0, .ref (e_a E (0))), (1, .int (x))] := hl
  have hI : i ≤ N k1 ∧ p1 ≤ i ∧ okN σ1 N1 ∧ N1 k1 = N k1 - (i - p1) ∧ ssteps k1 i σ N 0 σ1 N1 p1 := hI
  have h1a := (hI.2.2.1 k1 hk1k).2
  refine lv_iload hx hb dX1_sweep_17 (lv_at hl 0 rfl) ?_
  refine lv_iload_n hx hb dX1_sweep_19 rfl (lv_at hl 2 rfl) ?_
  refine nb_ge (i := i) (j := N k1) hx hb rfl rfl (by omega) (by omega) dX1_sweep_20 (tgt := 80) (by decide) (fun c20 => ?_) (fun c20 => ?_)
  · skip
    refine lv_iload_n hx hb dX1_sweep_80 rfl (lv_at hl 2 rfl) ?_
    refine lv_iload hx hb dX1_sweep_81 (lv_at hl 1 rfl) ?_
    refine lv_isub hx hb dX1_sweep_83 ?_
    refine W.widen (k := 1) (n := 6) (Nat.le_of_ble_eq_true rfl) (Nat.le_of_ble_eq_true rfl) ?_
    exact vx_ret (r_i hx hb hr hlocks hP hS dX1_sweep_84 (by
      have hi : i = N k1 := by omega
      subst hi
      exact ⟨k1, hk1k, hk1e, N1, p1, hI.2.1, pk_sub hI.2.1, hI.2.2.1, hI.2.2.2.2⟩))
  · skip
    refine lv_aload_n hx hb dX1_sweep_23 rfl (lv_at hl 3 rfl) ?_
    refine lv_aload_n hx hb dX1_sweep_24 rfl (lv_at hl 3 rfl) ?_
    refine q_get (C := RX0) (T := TX0) (N := 8) (ci := 0) (v := .ref (e_a E (k1 + 10))) hx hb hts hinX0 hown hK hP (at_ch hk1k) rfl 0 (by decide) hf89 rfl dX1_sweep_25 ?_
    refine lv_iload hx hb dX1_sweep_28 (lv_at hl 1 rfl) ?_
    refine q_ld hx hb hK hP (at_wt hk1k) (i := p1) rfl (by omega) (by decide) dX1_sweep_30 ?_
    refine lv_aload_n hx hb dX1_sweep_31 rfl (lv_at hl 3 rfl) ?_
    refine q_get (C := RX0) (T := TX0) (N := 8) (ci := 0) (v := .ref (e_a E (k1 + 18))) hx hb hts hinX0 hown hK hP (at_ch hk1k) rfl 1 (by decide) hf97 rfl dX1_sweep_32 ?_
    refine lv_iload hx hb dX1_sweep_35 (lv_at hl 1 rfl) ?_
    refine q_ld hx hb hK hP (at_gi hk1k) (i := p1) rfl (by omega) (by decide) dX1_sweep_37 ?_
    refine k_Vi (As := [.int (σ1 (k1 + 10) (p1)), .int (σ1 (k1 + 18) (p1))]) (rest := []) ⟨hx, hb, hml, hown, hts⟩ (mtX0_suits l E hok σ1 o k1 hk1k (σ1 (k1 + 10) (p1)) (σ1 (k1 + 18) (p1))) (cwV 2 hts gX1_sweep_X0_suits rfl rfl rfl (by decide +kernel) ⟨Nat.le_of_ble_eq_true rfl, Nat.le_of_ble_eq_true rfl⟩) (va_recv hK.K hP (ci := 0) (q0 := k1 + 2) rfl (at_ch hk1k)) hK hP hS rfl hl.1 rfl (Nat.le_of_ble_eq_true rfl) dX1_sweep_38 ⟨Nat.le_of_ble_eq_true rfl, Nat.le_of_ble_eq_true rfl⟩ (fun r2 σ_3 H locs hr2 hP hS => ?_)
    obtain ⟨rfl, ehr2⟩ := hr2
    rw [ehr2] at hP
    refine lv_if_eq (tgt := 50) hx hb dX1_sweep_41 (by decide) (fun c41 => ?_) (fun c41 => ?_)
    · skip
      refine lv_aload_n hx hb dX1_sweep_50 rfl (lv_at hl 4 rfl) ?_
      refine lv_aload_n hx hb dX1_sweep_51 rfl (lv_at hl 3 rfl) ?_
      refine q_get (C := RX0) (T := TX0) (N := 8) (ci := 0) (v := .ref (e_a E (k1 + 10))) hx hb hts hinX0 hown hK hP (at_ch hk1k) rfl 0 (by decide) hf89 rfl dX1_sweep_52 ?_
      refine lv_iload hx hb dX1_sweep_55 (lv_at hl 1 rfl) ?_
      refine q_ld hx hb hK hP (at_wt hk1k) (i := p1) rfl (by omega) (by decide) dX1_sweep_57 ?_
      refine lv_aload_n hx hb dX1_sweep_58 rfl (lv_at hl 3 rfl) ?_
      refine q_get (C := RX0) (T := TX0) (N := 8) (ci := 0) (v := .ref (e_a E (k1 + 18))) hx hb hts hinX0 hown hK hP (at_ch hk1k) rfl 1 (by decide) hf97 rfl dX1_sweep_59 ?_
      refine lv_iload hx hb dX1_sweep_62 (lv_at hl 1 rfl) ?_
      refine q_ld hx hb hK hP (at_gi hk1k) (i := p1) rfl (by omega) (by decide) dX1_sweep_64 ?_
      refine k_Vv (As := [.int (σ1 (k1 + 10) (p1)), .int (σ1 (k1 + 18) (p1))]) (rest := []) ⟨hx, hb, hml, hown, hts⟩ (mtX1_putAside l E hok σ1 o (σ1 (k1 + 10) (p1)) (σ1 (k1 + 18) (p1))) (cwV 2 hts gX1_sweep_X1_putAside rfl rfl rfl (by decide +kernel) ⟨Nat.le_of_ble_eq_true rfl, Nat.le_of_ble_eq_true rfl⟩) (va_recv hK.K hP (ci := 1) (q0 := 0) rfl at_0) hK hP hS rfl hl.1 rfl (Nat.le_of_ble_eq_true rfl) dX1_sweep_65 ⟨Nat.le_of_ble_eq_true rfl, Nat.le_of_ble_eq_true rfl⟩ (fun σ_4 H locs hσ_4 hP hS => ?_)
      subst hσ_4
      refine lv_aload_n hx hb dX1_sweep_68 rfl (lv_at hl 3 rfl) ?_
      refine lv_iload hx hb dX1_sweep_69 (lv_at hl 1 rfl) ?_
      refine k_Vv (As := [.int (nI (p1))]) (rest := []) ⟨hx, hb, hml, hown, hts⟩ (mtX0_removeAt l E hok (asC σ1 (σ1 (k1 + 10) (p1)) (σ1 (k1 + 18) (p1))) o k1 hk1k (N1 k1) p1 (okN_asC hI.2.2.1 _ _ k1 hk1k).1 (okN_asC hI.2.2.1 0 0 k1 hk1k).2 (by omega)) (cwV 1 hts gX1_sweep_X0_removeAt rfl rfl rfl (by decide +kernel) ⟨Nat.le_of_ble_eq_true rfl, Nat.le_of_ble_eq_true rfl⟩) (va_recv hK.K hP (ci := 0) (q0 := k1 + 2) rfl (at_ch hk1k)) hK hP hS rfl hl.1 rfl (Nat.le_of_ble_eq_true rfl) dX1_sweep_71 ⟨Nat.le_of_ble_eq_true rfl, Nat.le_of_ble_eq_true rfl⟩ (fun σ_5 H locs hσ_5 hP hS => ?_)
      subst hσ_5
      refine lv_iinc (v := nI (i + 1)) (lv' := [(5, .int (nI (i + 1))), (4, .int (nI (p1))), (3, .int (nI (N k1))), (2, .ref (e_a E (k1 + 2))), (0, .ref (e_a E (0))), (1, .int (x))]) hx hb dX1_sweep_74 hl (k := 0) rfl (by exact nI_add (i) 1) (by decide) rfl (fun ls hl => ?_)
      refine lv_goto (tgt := 17) hx hb dX1_sweep_77 (by decide) ?_
      exact IH ((i + 1), (p1), (m_rem (asC σ1 (σ1 (k1 + 10) p1) (σ1 (k1 + 18) p1)) k1 p1 (N1 k1)), (subN N1 k1)) (show (i + 1) ≤ N k1 ∧ (p1) ≤ (i + 1) ∧ okN (m_rem (asC σ1 (σ1 (k1 + 10) p1) (σ1 (k1 + 18) p1)) k1 p1 (N1 k1)) (subN N1 k1) ∧ (subN N1 k1) k1 = N k1 - ((i + 1) - (p1)) ∧ ssteps k1 (i + 1) σ N 0 (m_rem (asC σ1 (σ1 (k1 + 10) p1) (σ1 (k1 + 18) p1)) k1 p1 (N1 k1)) (subN N1 k1) (p1) from ⟨by omega, by omega, okN_rem (okN_asC hI.2.2.1 _ _) hk1k, by simp [subN]; omega, σ1, N1, p1, hI.2.2.2.2, Or.inr ⟨c41, rfl, rfl, rfl⟩⟩) (by (try dsimp only); omega) _ _ _ hP hS (lv_sub hl [0, 1, 2, 3, 4, 5] rfl)
    · skip
      refine lv_iinc (v := nI (p1 + 1)) (lv' := [(4, .int (nI (p1 + 1))), (5, .int (nI (i))), (3, .int (nI (N k1))), (2, .ref (e_a E (k1 + 2))), (0, .ref (e_a E (0))), (1, .int (x))]) hx hb dX1_sweep_44 hl (k := 1) rfl (by exact nI_add (p1) 1) (by decide) rfl (fun ls hl => ?_)
      refine lv_goto (tgt := 74) hx hb dX1_sweep_47 (by decide) ?_
      refine lv_iinc (v := nI (i + 1)) (lv' := [(5, .int (nI (i + 1))), (4, .int (nI (p1 + 1))), (3, .int (nI (N k1))), (2, .ref (e_a E (k1 + 2))), (0, .ref (e_a E (0))), (1, .int (x))]) hx hb dX1_sweep_74 hl (k := 1) rfl (by exact nI_add (i) 1) (by decide) rfl (fun ls hl => ?_)
      refine lv_goto (tgt := 17) hx hb dX1_sweep_77 (by decide) ?_
      exact IH ((i + 1), (p1 + 1), (σ1), (N1)) (show (i + 1) ≤ N k1 ∧ (p1 + 1) ≤ (i + 1) ∧ okN (σ1) (N1) ∧ (N1) k1 = N k1 - ((i + 1) - (p1 + 1)) ∧ ssteps k1 (i + 1) σ N 0 (σ1) (N1) (p1 + 1) from ⟨by omega, by omega, hI.2.2.1, by omega, σ1, N1, p1, hI.2.2.2.2, Or.inl ⟨c41, rfl, rfl, rfl⟩⟩) (by (try dsimp only); omega) _ _ _ hP hS (lv_sub hl [0, 1, 2, 3, 4, 5] rfl)
end

section
-- ===== PART A: goes FIRST, ahead of the names: the tables' words, and 'selects' of the private methods out of them =====
/-- a private method of a class that the tables say can be made, by its rows of tables_1 -/
def lw_okq (q : MethodName × Nat) : Prop := (q.1.cls ≠ "java/lang/invoke/MethodHandle" ∧ q.1.cls ≠ "java/lang/invoke/VarHandle") ∧ Cond.instantiable q.1.cls q.2 ∈ tables_1 ∧ Cond.privateMethod q.1 ∈ tables_1 ∧ Cond.instanceMethod q.1 ∈ tables_1
theorem lw_p0 : lw_okq (⟨"OffsetRows", "isNode", "(I)Z"⟩, 11) := ⟨⟨by decide +kernel, by decide +kernel⟩, List.mem_of_getElem? (i := 15) (by decide +kernel), List.mem_of_getElem? (i := 178) (by decide +kernel), List.mem_of_getElem? (i := 179) (by decide +kernel)⟩
theorem lw_p1 : lw_okq (⟨"OffsetRows", "mark", "(IZ)I"⟩, 11) := ⟨⟨by decide +kernel, by decide +kernel⟩, List.mem_of_getElem? (i := 15) (by decide +kernel), List.mem_of_getElem? (i := 190) (by decide +kernel), List.mem_of_getElem? (i := 191) (by decide +kernel)⟩
theorem lw_p2 : lw_okq (⟨"OffsetRows", "buildAnew", "()I"⟩, 11) := ⟨⟨by decide +kernel, by decide +kernel⟩, List.mem_of_getElem? (i := 15) (by decide +kernel), List.mem_of_getElem? (i := 206) (by decide +kernel), List.mem_of_getElem? (i := 207) (by decide +kernel)⟩
theorem lw_p3 : lw_okq (⟨"OffsetRows", "buildRows", "()V"⟩, 11) := ⟨⟨by decide +kernel, by decide +kernel⟩, List.mem_of_getElem? (i := 15) (by decide +kernel), List.mem_of_getElem? (i := 214) (by decide +kernel), List.mem_of_getElem? (i := 215) (by decide +kernel)⟩
theorem lw_p4 : lw_okq (⟨"OffsetRows", "side", "(Z)LOffsetRows$Side;"⟩, 11) := ⟨⟨by decide +kernel, by decide +kernel⟩, List.mem_of_getElem? (i := 15) (by decide +kernel), List.mem_of_getElem? (i := 257) (by decide +kernel), List.mem_of_getElem? (i := 258) (by decide +kernel)⟩
theorem lw_p5 : lw_okq (⟨"OffsetRows", "stepOnFrom", "(I)V"⟩, 11) := ⟨⟨by decide +kernel, by decide +kernel⟩, List.mem_of_getElem? (i := 15) (by decide +kernel), List.mem_of_getElem? (i := 316) (by decide +kernel), List.mem_of_getElem? (i := 317) (by decide +kernel)⟩
theorem lw_p6 : lw_okq (⟨"OffsetRows", "lengthenWays", "()V"⟩, 11) := ⟨⟨by decide +kernel, by decide +kernel⟩, List.mem_of_getElem? (i := 15) (by decide +kernel), List.mem_of_getElem? (i := 330) (by decide +kernel), List.mem_of_getElem? (i := 331) (by decide +kernel)⟩
theorem lw_p7 : lw_okq (⟨"OffsetRows", "arcInRow", "(LOffsetRows$Side;II)I"⟩, 11) := ⟨⟨by decide +kernel, by decide +kernel⟩, List.mem_of_getElem? (i := 15) (by decide +kernel), List.mem_of_getElem? (i := 416) (by decide +kernel), List.mem_of_getElem? (i := 417) (by decide +kernel)⟩
theorem lw_p8 : lw_okq (⟨"java/lang/Throwable", "fillInStackTrace", "(I)Ljava/lang/Throwable;"⟩, 6) := ⟨⟨by decide +kernel, by decide +kernel⟩, List.mem_of_getElem? (i := 456) (by decide +kernel), List.mem_of_getElem? (i := 454) (by decide +kernel), List.mem_of_getElem? (i := 455) (by decide +kernel)⟩
theorem lw_p9 : lw_okq (⟨"OffsetRowsModel", "isNode", "(I)Z"⟩, 20) := ⟨⟨by decide +kernel, by decide +kernel⟩, List.mem_of_getElem? (i := 499) (by decide +kernel), List.mem_of_getElem? (i := 570) (by decide +kernel), List.mem_of_getElem? (i := 571) (by decide +kernel)⟩
theorem lw_p10 : lw_okq (⟨"OffsetRowsModel", "isArc", "(I)Z"⟩, 20) := ⟨⟨by decide +kernel, by decide +kernel⟩, List.mem_of_getElem? (i := 499) (by decide +kernel), List.mem_of_getElem? (i := 578) (by decide +kernel), List.mem_of_getElem? (i := 579) (by decide +kernel)⟩
theorem lw_p11 : lw_okq (⟨"OffsetRowsModel", "stale", "()V"⟩, 20) := ⟨⟨by decide +kernel, by decide +kernel⟩, List.mem_of_getElem? (i := 499) (by decide +kernel), List.mem_of_getElem? (i := 590) (by decide +kernel), List.mem_of_getElem? (i := 591) (by decide +kernel)⟩
theorem lw_p12 : lw_okq (⟨"OffsetRowsModel", "inRow", "(IZI)I"⟩, 20) := ⟨⟨by decide +kernel, by decide +kernel⟩, List.mem_of_getElem? (i := 499) (by decide +kernel), List.mem_of_getElem? (i := 607) (by decide +kernel), List.mem_of_getElem? (i := 608) (by decide +kernel)⟩
theorem lw_p13 : lw_okq (⟨"OffsetRowsModel", "place", "(IZZI)I"⟩, 20) := ⟨⟨by decide +kernel, by decide +kernel⟩, List.mem_of_getElem? (i := 499) (by decide +kernel), List.mem_of_getElem? (i := 611) (by decide +kernel), List.mem_of_getElem? (i := 612) (by decide +kernel)⟩
theorem lw_p14 : lw_okq (⟨"OffsetRowsModel", "isOf", "(IIZZ)Z"⟩, 20) := ⟨⟨by decide +kernel, by decide +kernel⟩, List.mem_of_getElem? (i := 499) (by decide +kernel), List.mem_of_getElem? (i := 615) (by decide +kernel), List.mem_of_getElem? (i := 616) (by decide +kernel)⟩
theorem lw_p15 : lw_okq (⟨"OffsetRowsModel", "own", "(IZ)I"⟩, 20) := ⟨⟨by decide +kernel, by decide +kernel⟩, List.mem_of_getElem? (i := 499) (by decide +kernel), List.mem_of_getElem? (i := 619) (by decide +kernel), List.mem_of_getElem? (i := 620) (by decide +kernel)⟩
def lw_privs_1 : List (MethodName × Nat) := [(⟨"OffsetRows", "isNode", "(I)Z"⟩, 11), (⟨"OffsetRows", "mark", "(IZ)I"⟩, 11), (⟨"OffsetRows", "buildAnew", "()I"⟩, 11), (⟨"OffsetRows", "buildRows", "()V"⟩, 11), (⟨"OffsetRows", "side", "(Z)LOffsetRows$Side;"⟩, 11), (⟨"OffsetRows", "stepOnFrom", "(I)V"⟩, 11), (⟨"OffsetRows", "lengthenWays", "()V"⟩, 11), (⟨"OffsetRows", "arcInRow", "(LOffsetRows$Side;II)I"⟩, 11), (⟨"java/lang/Throwable", "fillInStackTrace", "(I)Ljava/lang/Throwable;"⟩, 6), (⟨"OffsetRowsModel", "isNode", "(I)Z"⟩, 20), (⟨"OffsetRowsModel", "isArc", "(I)Z"⟩, 20), (⟨"OffsetRowsModel", "stale", "()V"⟩, 20), (⟨"OffsetRowsModel", "inRow", "(IZI)I"⟩, 20), (⟨"OffsetRowsModel", "place", "(IZZI)I"⟩, 20), (⟨"OffsetRowsModel", "isOf", "(IIZZ)Z"⟩, 20), (⟨"OffsetRowsModel", "own", "(IZ)I"⟩, 20)]
theorem lw_r1 : ∀ q ∈ lw_privs_1, lw_okq q := List.forall_mem_cons.mpr ⟨lw_p0, List.forall_mem_cons.mpr ⟨lw_p1, List.forall_mem_cons.mpr ⟨lw_p2, List.forall_mem_cons.mpr ⟨lw_p3, List.forall_mem_cons.mpr ⟨lw_p4, List.forall_mem_cons.mpr ⟨lw_p5, List.forall_mem_cons.mpr ⟨lw_p6, List.forall_mem_cons.mpr ⟨lw_p7, List.forall_mem_cons.mpr ⟨lw_p8, List.forall_mem_cons.mpr ⟨lw_p9, List.forall_mem_cons.mpr ⟨lw_p10, List.forall_mem_cons.mpr ⟨lw_p11, List.forall_mem_cons.mpr ⟨lw_p12, List.forall_mem_cons.mpr ⟨lw_p13, List.forall_mem_cons.mpr ⟨lw_p14, List.forall_mem_cons.mpr ⟨lw_p15, fun _ h => absurd h List.not_mem_nil⟩⟩⟩⟩⟩⟩⟩⟩⟩⟩⟩⟩⟩⟩⟩⟩
theorem lw_p16 : lw_okq (⟨"OffsetRowsModel", "isAhead", "(IIZ)Z"⟩, 20) := ⟨⟨by decide +kernel, by decide +kernel⟩, List.mem_of_getElem? (i := 499) (by decide +kernel), List.mem_of_getElem? (i := 623) (by decide +kernel), List.mem_of_getElem? (i := 624) (by decide +kernel)⟩
theorem lw_p17 : lw_okq (⟨"OffsetRowsModel", "other", "(IZ)I"⟩, 20) := ⟨⟨by decide +kernel, by decide +kernel⟩, List.mem_of_getElem? (i := 499) (by decide +kernel), List.mem_of_getElem? (i := 627) (by decide +kernel), List.mem_of_getElem? (i := 628) (by decide +kernel)⟩
theorem lw_p18 : lw_okq (⟨"OffsetRowsModel", "lead", "(II)I"⟩, 20) := ⟨⟨by decide +kernel, by decide +kernel⟩, List.mem_of_getElem? (i := 499) (by decide +kernel), List.mem_of_getElem? (i := 655) (by decide +kernel), List.mem_of_getElem? (i := 656) (by decide +kernel)⟩
theorem lw_p19 : lw_okq (⟨"OffsetRowsModel", "isIterator", "(I)Z"⟩, 20) := ⟨⟨by decide +kernel, by decide +kernel⟩, List.mem_of_getElem? (i := 499) (by decide +kernel), List.mem_of_getElem? (i := 677) (by decide +kernel), List.mem_of_getElem? (i := 678) (by decide +kernel)⟩
theorem lw_p20 : lw_okq (⟨"OffsetRowsModel", "judged", "(I)I"⟩, 20) := ⟨⟨by decide +kernel, by decide +kernel⟩, List.mem_of_getElem? (i := 499) (by decide +kernel), List.mem_of_getElem? (i := 693) (by decide +kernel), List.mem_of_getElem? (i := 694) (by decide +kernel)⟩
def lw_privs_2 : List (MethodName × Nat) := [(⟨"OffsetRowsModel", "isAhead", "(IIZ)Z"⟩, 20), (⟨"OffsetRowsModel", "other", "(IZ)I"⟩, 20), (⟨"OffsetRowsModel", "lead", "(II)I"⟩, 20), (⟨"OffsetRowsModel", "isIterator", "(I)Z"⟩, 20), (⟨"OffsetRowsModel", "judged", "(I)I"⟩, 20)]
theorem lw_r2 : ∀ q ∈ lw_privs_2, lw_okq q := List.forall_mem_cons.mpr ⟨lw_p16, List.forall_mem_cons.mpr ⟨lw_p17, List.forall_mem_cons.mpr ⟨lw_p18, List.forall_mem_cons.mpr ⟨lw_p19, List.forall_mem_cons.mpr ⟨lw_p20, fun _ h => absurd h List.not_mem_nil⟩⟩⟩⟩⟩
def lw_privs : List (MethodName × Nat) := lw_privs_1 ++ (lw_privs_2)
def lw_tbl : List Cond := k2_sels lw_privs ++ tables_1
theorem lw_privs_ok : ∀ q ∈ lw_privs, lw_okq q := by
  show ∀ q ∈ lw_privs_1 ++ (lw_privs_2), lw_okq q
  exact List.forall_mem_append.mpr ⟨lw_r1, lw_r2⟩
end
section
/-! ===== BEGIN words of one list among another's, by their places ===== -/
theorem goodIn_r {big : List Cond} (ws : List Cond) (ps : List Nat) (hp : ws = ps.filterMap (fun i => big[i]?)) (h : ws.all goodWord = true) : GoodIn big ws := by
  intro w hw
  have h1 := List.all_eq_true.mp h w hw
  rw [hp] at hw
  obtain ⟨i, -, hi⟩ := List.mem_filterMap.mp hw
  have hm : w ∈ big := by first | exact List.mem_of_getElem? hi | exact List.getElem?_mem hi
  exact ⟨hm, good_of_word h1⟩
theorem goodIn_app {big a b : List Cond} (ha : GoodIn big a) (hb : GoodIn big b) : GoodIn big (a ++ b) := fun w h => (List.mem_append.mp h).elim (ha w) (hb w)
theorem goodIn_ca {big a b : List Cond} {c : Cond} (ha : GoodIn big (c :: a)) (hb : GoodIn big b) : GoodIn big (c :: (a ++ b)) := fun w h => (List.mem_cons.mp h).elim (fun e => ha w (List.mem_cons.mpr (Or.inl e))) (fun h => (List.mem_append.mp h).elim (fun h => ha w (List.mem_cons.mpr (Or.inr h))) (hb w))
theorem goodIn_sub {big ws : List Cond} (hm : ∀ w ∈ ws, w ∈ big) (h : ws.all goodWord = true) : GoodIn big ws := fun w hw => ⟨hm w hw, good_of_word (List.all_eq_true.mp h w hw)⟩
/-! ===== END ===== -/

/-! ===== BEGIN exceptions that leave a method, and their catching by the caller (launches without stack traces) ===== -/
section VXA
/-! The laws vx_back, vx_callV, vx_callS, vx_callSW, vx_throw0, vx_throwS follow proofs of the library, with one case more: JvmDerived/Free/Laws.lean (Back.of_free), Shelf42/LK1.lean (callV, callS), Shelf/KitTraced.lean (throwNew0V, throwNewS). -/
/-- where a method has thrown q: the class by its name, the cell, what was written, the world -/
def vx_T (XC : String → State → State → Prop) (st : State) (q : Addr) (t : State) (mc ms : Nat) (free : Addr → Prop) : Prop :=
  ∃ (E : String) (ce : Cell) (L : List Loc), XC E st t ∧ t.heap[q]? = some ce ∧ ce.vm = .none ∧ st.vm.findClass E = some ce.cls ∧ st.WarmedH t.vm ∧ st.sameButNew ({ t with vm := st.vm } : State) L mc ms ∧ ∀ z ∈ L, free z.base
def vx_Q (Qc : Array Value → State → Outcome → State → Prop) (XC : String → State → State → Prop) (mc ms : Nat) (free : Addr → Prop) : Array Value → State → Outcome → State → Prop := fun a st o t =>
  (Qc a st o t ∧ ∃ L, FrameEnd st o t L mc ms ∧ ∀ q ∈ L, free q.base) ∨ ∃ q, o = .threw q ∧ vx_T XC st q t mc ms free
/-- a callee that returns or throws -/
def vx_Met (l : Launch) (y : MethodName) (ws : List Cond) (rm : Room) (Pc : Array Value → State → Prop) (Qc : Array Value → State → Outcome → State → Prop) (XC : String → State → State → Prop) (mc ms : Nat) (free : Addr → Prop) : Prop :=
  MetFree l y (headSpec ws rm) Pc (fun _ _ _ _ _ => True) (vx_Q Qc XC mc ms free)
def vx_Post (XC : String → State → State → Prop) (mc ms : Nat) (free : Addr → Prop) : Pt → Array Value → Addr → Pt → Prop := fun A a q B =>
  ∃ (g : JFrame) (mk : MethodId) (t : State) (L : List Loc) (E : String) (ce : Cell), B.U.heap = t.heap ∧ B.U.vm = t.vm ∧ XC E (A.U.calling g mk a) t ∧ t.heap[q]? = some ce ∧ ce.vm = .none ∧ A.U.vm.findClass E = some ce.cls ∧ B.locs = A.locs ++ L ∧ (∀ z ∈ L, free z.base) ∧ B.cells = A.cells + mc ∧ B.slots = A.slots + ms
def vx_Back (l : Launch) (R : Room) (p : Program) (e : Env) (below : List Frame) (s : State) (sargs : Array Value) (y : MethodName) (len W9 : Nat)
    (Pre : Pt → Array Value → Prop) (Post : Pt → Array Value → Option Value → Pt → Prop) (PostX : Pt → Array Value → Addr → Pt → Prop) : Prop :=
  ∀ (m : MethodId) (meth : Method) (c : Code) (A : Pt) (g : JFrame) (ig : Instr) (mk : MethodId) (a : Array Value),
    Stand p l e R s m sargs below meth c A.U A.locs A.cells A.slots → g.method = m → g.locals.size = c.maxLocals → decode c.code g.pc = .ok (ig, len) →
    2 * g.monitorRoom + (g.stack.map fun v => v.category).sum ≤ W9 → A.U.methodNamed? y = some mk → Pre A a →
    (∃ (v : Option Value) (B : Pt), Stand p l e R s m sargs below meth c B.U B.locs B.cells B.slots ∧ Post A a v B ∧
      Steps p.tables e below (doInvoke e (A.U.setTop g) [] mk a).1 (B.U.setTop { g with pc := g.pc + len, stack := v.toList ++ g.stack })) ∨
    (∃ (q : Addr) (B : Pt), Stand p l e R s m sargs below meth c B.U B.locs B.cells B.slots ∧ PostX A a q B ∧
      Steps p.tables e below (doInvoke e (A.U.setTop g) [] mk a).1 ((B.U.setTop g).pushFrame (.throwing q)))
section Payer
variable {l : Launch} {R : Room} {p : Program} {e : Env} {below : List Frame} {s : State} {sargs : Array Value} {y : MethodName} {len W9 : Nat}
theorem vx_back {ws : List Cond} {rm : Room} {Pc : Array Value → State → Prop} {Qc : Array Value → State → Outcome → State → Prop} {XC : String → State → State → Prop} {mc ms : Nat} {free : Addr → Prop} {bytes : ByteArray} {maxL : Nat} {ret : Option FieldType}
    (hM : vx_Met l y ws rm Pc Qc XC mc ms free) (hblind : FrameBlind Pc) (hrc : rm.cells = mc) (hrs : rm.slots = ms)
    (hframes : rm.frames + 1 ≤ R.frames) (hlocals : W9 + (maxL + 11) + rm.locals ≤ R.locals)
    (hws : ∀ w ∈ ws, ∀ a' U, s.WarmedH U.vm → w.before a' U = true) (hcode : Cond.code y bytes maxL ret ∈ ws) (hinit : ∀ a' U, s.WarmedH U.vm → (Cond.initialized y.cls).before a' U = true) :
    vx_Back l R p e below s sargs y len W9 (PreOf R mc ms Pc) (PostOf Qc mc ms free) (vx_Post XC mc ms free) := by
  intro m meth c A g ig mk a X hg hsize hdg hW hn hp
  have h1 : (headSpec ws rm).pre.before a A.U = true := atoms_intro fun w hw => hws w hw _ _ X.warmed
  have h2 : (Cond.code y bytes maxL ret).before a A.U = true := hws _ hcode _ _ X.warmed
  have h3 : (Cond.initialized y.cls).before a A.U = true := hinit _ _ X.warmed
  have h4 : A.cells + (headSpec ws rm).room.cells ≤ R.cells := by rw [show (headSpec ws rm).room.cells = mc from hrc]; exact hp.1
  have h5 : A.slots + (headSpec ws rm).room.slots ≤ R.slots := by rw [show (headSpec ws rm).room.slots = ms from hrs]; exact hp.2.1
  have hPc : Pc a (A.U.calling g mk a) := hblind _ _ _ _ hp.2.2
  obtain ⟨U, Ls, c0, s0⟩ := A
  dsimp only [Pt.U, Pt.locs, Pt.cells, Pt.slots] at h1 h2 h3 h4 h5 X hn hPc ⊢
  obtain ⟨methY, cY, hmY, hcY, -, hlY, -, -, -, -⟩ := Cond.code_spec hn h2
  obtain ⟨kY, hkY, -⟩ := className_of_methodNamed hn
  have hinitY : kY.init = .initialized := Cond.initialized_spec (findClass_of_methodNamed hn) hkY h3
  have h : At U g.method c below := by rw [hg]; exact X.here
  have hlocals9 : W9 + (maxL + 11) + (headSpec ws rm).room.locals ≤ R.locals := hlocals
  have happ : (headSpec ws rm).appliesLoose y e.platform (U.calling g mk a) = true :=
    Spec.appliesLoose_calling (g := g) h hdg hn hkY hinitY
      (X.room_calling (g := g) (R' := (headSpec ws rm).room) hsize hmY hcY hframes (by rw [hlY]; omega) h4 h5) h1
  obtain ⟨mid, hmid⟩ := h.above
  have hfr : (U.setTop g).frames = (.java g :: mid) ++ below := by rw [State.frames_setTop' g h.top, hmid]; rfl
  obtain ⟨o, s₂, hsteps, -, hend, hq⟩ := Steps.callFree hM p X.admits X.cas X.clock (acts := []) hfr happ hPc trivial
  have hq' : vx_Q Qc XC mc ms free a (U.calling g mk a) o s₂ := hq
  rw [State.frames_setTop' g h.top] at hend
  obtain ⟨g₀, hg0⟩ := Option.isSome_iff_exists.mp h.top
  obtain ⟨r, hr⟩ := State.topJava?_eq_some.mp hg0
  have hr' : (({ U with heap := s₂.heap, slotsUsed := s₂.slotsUsed } : State).setVm s₂.vm).frames = .java g₀ :: r := hr
  rcases hq' with ⟨hqc, L, hfe, hL⟩ | ⟨q, rfl, E, ce, L, hx, hce, hcv, hcl, hW₂, hsm, hL⟩
  · obtain ⟨⟨v, rfl⟩, hW₂, e2, q2, q3, q4, q5, q6⟩ := id hfe
    have e3 : s₂ = ({ (U.calling g mk a).setFrames s₂.frames with heap := s₂.heap, slotsUsed := s₂.slotsUsed } : State).setVm s₂.vm := by
      have : s₂ = ({ s₂ with vm := (U.calling g mk a).vm } : State).setVm s₂.vm := rfl
      rw [e2] at this
      exact this
    obtain ⟨c₂, i₂, len₂, hc₂, hd₂, hf₂⟩ := hend
    have hW' : U.WarmedH s₂.vm := hW₂
    have hcc : c₂ = c := by
      have h1 : s₂.code? g.method = U.code? g.method := by
        rw [State.code?_eq, State.code?_eq, hW'.alike.method?]
      exact Option.some.inj (hc₂.symm.trans (h1.trans h.code))
    subst hcc
    have hlen : len₂ = len := by rw [hdg] at hd₂; cases hd₂; rfl
    subst hlen
    have hs₂ : s₂ = (({ U with heap := s₂.heap, slotsUsed := s₂.slotsUsed } : State).setVm s₂.vm).setTop { g with pc := g.pc + len₂, stack := v.toList ++ g.stack } := by
      refine e3.trans ?_
      rw [hf₂, State.calling_eq h.top, State.setFrames_setFrames, State.setTop_of_frames _ hr', hr]
      rfl
    have hsame : U.sameButNew ({ U with heap := s₂.heap, slotsUsed := s₂.slotsUsed } : State) L mc ms := by
      refine ⟨?_, q2, q3, q4, q5, q6⟩
      obtain ⟨t, ht, -⟩ := State.frames_cons hr
      show ({ U with heap := s₂.heap, slotsUsed := s₂.slotsUsed } : State) = { U.setFrames U.frames with heap := s₂.heap, slotsUsed := s₂.slotsUsed }
      rw [State.setFrames_self ht]
    subst hg
    refine Or.inl ⟨v, ⟨(({ U with heap := s₂.heap, slotsUsed := s₂.slotsUsed } : State).setVm s₂.vm), Ls ++ L, c0 + mc, s0 + ms⟩,
      ⟨X.admits, X.cas, X.clock, X.frames, X.room, X.hears, X.method, X.code, (X.here.setHeapUsed s₂.heap s₂.slotsUsed).setVm hW'.alike, X.tail, State.WarmedH.trans X.warmed hW', X.limits, X.bytes, X.same.trans (hsame.setVm s.vm)⟩,
      ⟨g, mk, s₂, L, rfl, rfl, hqc, rfl, hL, rfl, rfl⟩, ?_⟩
    show Steps p.tables e below _ ((({ U with heap := s₂.heap, slotsUsed := s₂.slotsUsed } : State).setVm s₂.vm).setTop { g with pc := g.pc + len₂, stack := v.toList ++ g.stack })
    rw [← hs₂]
    exact hsteps
  · obtain ⟨e2, q2, q3, q4, q5, q6⟩ := id hsm
    have e3 : s₂ = ({ (U.calling g mk a).setFrames s₂.frames with heap := s₂.heap, slotsUsed := s₂.slotsUsed } : State).setVm s₂.vm := by
      have : s₂ = ({ s₂ with vm := (U.calling g mk a).vm } : State).setVm s₂.vm := rfl
      rw [e2] at this
      exact this
    have hf₂ : s₂.frames = .throwing q :: .java g :: U.frames.tail := hend
    have hW' : U.WarmedH s₂.vm := hW₂
    have hs₂ : s₂ = ((({ U with heap := s₂.heap, slotsUsed := s₂.slotsUsed } : State).setVm s₂.vm).setTop g).pushFrame (.throwing q) := by
      refine e3.trans ?_
      rw [hf₂, State.calling_eq h.top, State.setFrames_setFrames, State.pushFrame, State.frames_setTop _ hr', State.setTop_of_frames _ hr', State.setFrames_setFrames, hr]
      rfl
    have hsame : U.sameButNew ({ U with heap := s₂.heap, slotsUsed := s₂.slotsUsed } : State) L mc ms := by
      refine ⟨?_, q2, q3, q4, q5, q6⟩
      obtain ⟨t, ht, -⟩ := State.frames_cons hr
      show ({ U with heap := s₂.heap, slotsUsed := s₂.slotsUsed } : State) = { U.setFrames U.frames with heap := s₂.heap, slotsUsed := s₂.slotsUsed }
      rw [State.setFrames_self ht]
    subst hg
    refine Or.inr ⟨q, ⟨(({ U with heap := s₂.heap, slotsUsed := s₂.slotsUsed } : State).setVm s₂.vm), Ls ++ L, c0 + mc, s0 + ms⟩,
      ⟨X.admits, X.cas, X.clock, X.frames, X.room, X.hears, X.method, X.code, (X.here.setHeapUsed s₂.heap s₂.slotsUsed).setVm hW'.alike, X.tail, State.WarmedH.trans X.warmed hW', X.limits, X.bytes, X.same.trans (hsame.setVm s.vm)⟩,
      ⟨g, mk, s₂, L, E, ce, rfl, rfl, hx, hce, hcv, hcl, rfl, hL, rfl, rfl⟩, ?_⟩
    show Steps p.tables e below _ (((({ U with heap := s₂.heap, slotsUsed := s₂.slotsUsed } : State).setVm s₂.vm).setTop g).pushFrame (.throwing q))
    rw [← hs₂]
    exact hsteps
end Payer
section Calls
variable {p : Program} {l : Launch} {e : Env} {R : Room} {s : State} {m : MethodId} {args : Array Value} {below : List Frame} {meth : Method} {c : Code} {T : State} {locs : List Loc} {cells slots : Nat}
theorem vx_callV (X : Stand p l e R s m args below meth c T locs cells slots) (hexec : p.tables.exec = Jvm.exec) {own C : String} {index : Nat} {y : MethodName} {bytes : ByteArray} {maxL : Nat} {ret : Option FieldType}
    (hown : s.vm.findClass own = some m.cls) (hlink : (Cond.methodLink own index y).before args s = true) (hinst : (Cond.instanceMethod y).before args s = true) (hsel : (Cond.selects C y y).before args s = true)
    (hcode : (Cond.code y bytes maxL ret).before args s = true) (hy : y.cls ≠ "java/lang/invoke/MethodHandle" ∧ y.cls ≠ "java/lang/invoke/VarHandle")
    {W9 : Nat} {Pre : Pt → Array Value → Prop} {Post : Pt → Array Value → Option Value → Pt → Prop} {PostX : Pt → Array Value → Addr → Pt → Prop} (hK : vx_Back l R p e below s args y 3 W9 Pre Post PostX)
    {b : Addr} {cellB : Cell} (hcell : T.heap[b]? = some cellB) (hobj : cellB.vm.isStatics = false) (hcls : s.vm.findClass C = some cellB.cls)
    {g : JFrame} (hg : g.method = m) (hsize : g.locals.size = c.maxLocals) {argsL rest : List Value} (hlen : ∀ sig, parseMethodDescriptor y.desc = some sig → argsL.length = sig.parameters.length)
    (hstack : g.stack = argsL.reverse ++ .ref b :: rest) (hW : 2 * g.monitorRoom + (rest.map fun v => v.category).sum ≤ W9) (hdg : decode c.code g.pc = .ok (.invokevirtual index, 3))
    (hpre : ∀ vm₁, s.WarmedH vm₁ → Pre ⟨T.setVm vm₁, locs, cells, slots⟩ (Value.ref b :: argsL).toArray) :
    (∃ (v : Option Value) (vm₁ : Vm) (B : Pt), s.WarmedH vm₁ ∧ Stand p l e R s m args below meth c B.U B.locs B.cells B.slots ∧ Post ⟨T.setVm vm₁, locs, cells, slots⟩ (Value.ref b :: argsL).toArray v B ∧
      ∀ target, Steps p.tables e below (B.U.setTop { g with pc := g.pc + 3, stack := v.toList ++ rest }) target → Steps p.tables e below (T.setTop g) target) ∨
    (∃ (q : Addr) (vm₁ : Vm) (B : Pt), s.WarmedH vm₁ ∧ Stand p l e R s m args below meth c B.U B.locs B.cells B.slots ∧ PostX ⟨T.setVm vm₁, locs, cells, slots⟩ (Value.ref b :: argsL).toArray q B ∧
      Steps p.tables e below (T.setTop g) ((B.U.setTop { g with stack := rest }).pushFrame (.throwing q))) := by
  obtain ⟨mk, methM, hnamed, hmethM, hstM, habM⟩ := Cond.instanceMethod_spec hinst
  obtain ⟨methM', cM, hmethM', -, -, -, -, -, -, hsigM⟩ := Cond.code_spec hnamed hcode
  cases hmethM.symm.trans hmethM'
  obtain ⟨c2, r2, m2, q1, q2, q3, q4, kP, hkP, hkPi⟩ := Cond.selects_spec hsel
  cases hcls.symm.trans q1
  cases (State.methodFound?_of_named hnamed hy).symm.trans q2
  cases hnamed.symm.trans q3
  have hselP : selectMethod e.platform s.vm cellB.cls mk = .method mk := by rw [Launch.admits_selectMethod X.admits]; exact q4
  obtain ⟨vm₁, X₁, hstep₁⟩ := X.invokevirtual hexec hown hlink hnamed hmethM hstM hkP hkPi hy (a := b) (cell := cellB) hcell
    (fun z h => by rw [h] at hobj; cases hobj) hselP hmethM habM hkP hkPi (g := g) hg (argsL := argsL) (rest := rest) (hlen _ hsigM) hstack hdg
  rcases hK m meth c ⟨T.setVm vm₁, locs, cells, slots⟩ { g with stack := rest } (.invokevirtual index) mk (Value.ref b :: argsL).toArray X₁ hg hsize hdg hW (X₁.named hnamed) (hpre vm₁ X₁.warmed) with ⟨v, B, X', hpost, hsteps⟩ | ⟨q, B, X', hpost, hsteps⟩
  · exact Or.inl ⟨v, vm₁, B, X₁.warmed, X', hpost, fun target h => hstep₁ _ fun acts => by rw [doInvoke_state]; exact hsteps.trans h⟩
  · exact Or.inr ⟨q, vm₁, B, X₁.warmed, X', hpost, hstep₁ _ fun acts => by rw [doInvoke_state]; exact hsteps⟩
theorem vx_callS (X : Stand p l e R s m args below meth c T locs cells slots) (hexec : p.tables.exec = Jvm.exec) {own : String} {index : Nat} {y : MethodName} {bytes : ByteArray} {maxL : Nat} {ret : Option FieldType}
    (hown : s.vm.findClass own = some m.cls) (hlink : (Cond.methodLink own index y).before args s = true) (hstat : (Cond.static y).before args s = true) (hinit : (Cond.initialized y.cls).before args s = true)
    (hcode : (Cond.code y bytes maxL ret).before args s = true) (hy : y.cls ≠ "java/lang/invoke/MethodHandle" ∧ y.cls ≠ "java/lang/invoke/VarHandle")
    {W9 : Nat} {Pre : Pt → Array Value → Prop} {Post : Pt → Array Value → Option Value → Pt → Prop} {PostX : Pt → Array Value → Addr → Pt → Prop} (hK : vx_Back l R p e below s args y 3 W9 Pre Post PostX)
    {g : JFrame} (hg : g.method = m) (hsize : g.locals.size = c.maxLocals) {argsL rest : List Value} (hlen : ∀ sig, parseMethodDescriptor y.desc = some sig → argsL.length = sig.parameters.length)
    (hstack : g.stack = argsL.reverse ++ rest) (hW : 2 * g.monitorRoom + (rest.map fun v => v.category).sum ≤ W9) (hdg : decode c.code g.pc = .ok (.invokestatic index, 3))
    (hpre : ∀ vm₁, s.WarmedH vm₁ → Pre ⟨T.setVm vm₁, locs, cells, slots⟩ argsL.toArray) :
    (∃ (v : Option Value) (vm₁ : Vm) (B : Pt), s.WarmedH vm₁ ∧ Stand p l e R s m args below meth c B.U B.locs B.cells B.slots ∧ Post ⟨T.setVm vm₁, locs, cells, slots⟩ argsL.toArray v B ∧
      ∀ target, Steps p.tables e below (B.U.setTop { g with pc := g.pc + 3, stack := v.toList ++ rest }) target → Steps p.tables e below (T.setTop g) target) ∨
    (∃ (q : Addr) (vm₁ : Vm) (B : Pt), s.WarmedH vm₁ ∧ Stand p l e R s m args below meth c B.U B.locs B.cells B.slots ∧ PostX ⟨T.setVm vm₁, locs, cells, slots⟩ argsL.toArray q B ∧
      Steps p.tables e below (T.setTop g) ((B.U.setTop { g with stack := rest }).pushFrame (.throwing q))) := by
  obtain ⟨mk, hnamed⟩ := Cond.code_named hcode
  obtain ⟨methM, cM, hmethM, -, -, -, -, -, -, hsigM⟩ := Cond.code_spec hnamed hcode
  have hstatic : methM.isStatic = true := Cond.static_spec hnamed hmethM hstat
  obtain ⟨kP, hkP, -⟩ := className_of_methodNamed hnamed
  have hinitP : kP.init = .initialized := Cond.initialized_spec (findClass_of_methodNamed hnamed) hkP hinit
  obtain ⟨vm₁, X₁, hstep₁⟩ := X.invokestatic hexec hown hlink hnamed hmethM hstatic hkP hinitP hy (g := g) hg (argsL := argsL) (rest := rest) (hlen _ hsigM) hstack hdg
  rcases hK m meth c ⟨T.setVm vm₁, locs, cells, slots⟩ { g with stack := rest } (.invokestatic index) mk argsL.toArray X₁ hg hsize hdg hW (X₁.named hnamed) (hpre vm₁ X₁.warmed) with ⟨v, B, X', hpost, hsteps⟩ | ⟨q, B, X', hpost, hsteps⟩
  · exact Or.inl ⟨v, vm₁, B, X₁.warmed, X', hpost, fun target h => hstep₁ _ fun acts => by rw [doInvoke_state]; exact hsteps.trans h⟩
  · exact Or.inr ⟨q, vm₁, B, X₁.warmed, X', hpost, hstep₁ _ fun acts => by rw [doInvoke_state]; exact hsteps⟩
end Calls
theorem vx_cls {s : State} {T : State} {vm₁ : Vm} {E : String} {k : ClassId} (hW : s.WarmedH vm₁) (h : (T.setVm vm₁).vm.findClass E = some k) : s.vm.findClass E = some k := by
  have h1 : vm₁.findClass E = some k := h
  rw [hW.alike.findClass] at h1
  exact h1
/-- the method's frame g, with q thrown over it -/
def vx_W (p : Program) (l : Launch) (e : Env) (R : Room) (s : State) (m : MethodId) (args : Array Value) (below : List Frame) (meth : Method) (c : Code) (H : Heap) (locs : List Loc) (cells slots : Nat) (Q : State → Prop) (g : JFrame) (q : Addr) : Prop :=
  ∀ T : State, T.heap = H → Stand p l e R s m args below meth c T locs cells slots → ∃ t, Steps p.tables e below ((T.setTop g).pushFrame (.throwing q)) t ∧ Q t
def vx_Run (p : Program) (l : Launch) (e : Env) (R : Room) (s : State) (m : MethodId) (args : Array Value) (below : List Frame) (meth : Method) (c : Code) (H : Heap) (locs : List Loc) (cells slots mc ms : Nat) (g : JFrame) (rest : List Value) (Qa : State → Outcome → State → Prop) (XC : String → State → State → Prop) (free : Addr → Prop) : Prop :=
  ∀ T : State, T.heap = H → Stand p l e R s m args below meth c T locs cells slots →
    (∃ (v : Option Value) (st₀ t T' : State) (L : List Loc), st₀.heap = H ∧ Stand p l e R s m args below meth c T' (locs ++ L) (cells + mc) (slots + ms) ∧ (∀ q ∈ L, free q.base) ∧ T'.heap = t.heap ∧ T'.vm = t.vm ∧ Qa st₀ (.returned v) t ∧
      Goes p e below T g T' { g with pc := g.pc + 3, stack := v.toList ++ rest }) ∨
    (∃ (q : Addr) (st₀ t T' : State) (L : List Loc) (E : String) (ce : Cell), st₀.heap = H ∧ Stand p l e R s m args below meth c T' (locs ++ L) (cells + mc) (slots + ms) ∧ (∀ z ∈ L, free z.base) ∧ T'.heap = t.heap ∧ T'.vm = t.vm ∧ XC E st₀ t ∧ t.heap[q]? = some ce ∧ ce.vm = .none ∧ s.vm.findClass E = some ce.cls ∧
      Steps p.tables e below (T.setTop g) ((T'.setTop { g with stack := rest }).pushFrame (.throwing q)))
def vx_X {S : Type} (px : S → Prop) (B : String → S → State → Prop) (A : Nat → Prop) : String → State → State → Prop := fun E st t => ∃ u : S, px u ∧ B E u t ∧ va_F A st t
section Runs
variable {p : Program} {l : Launch} {e : Env} {R : Room} {s : State} {m : MethodId} {args : Array Value} {below : List Frame} {meth : Method} {c : Code} {H : Heap} {locs : List Loc} {cells slots : Nat}
variable {y : MethodName} {bytes cc : ByteArray} {maxL nL mc ms n index : Nat} {ret : Option FieldType} {ws : List Cond} {rm : Room} {Pc : Array Value → State → Prop} {Qc : Array Value → State → Outcome → State → Prop} {XC : String → State → State → Prop} {free : Addr → Prop} {Ts : List Cond} {own C : String} {b : Addr} {As rest : List Value} {g : JFrame}
theorem vx_callBack (cb : CallB R s args own index y bytes maxL ret ws rm mc ms n) (hM : vx_Met l y ws rm Pc Qc XC mc ms free) (hbl : FrameBlind Pc) : vx_Back l R p e below s args y 3 8 (PreOf R mc ms Pc) (PostOf Qc mc ms free) (vx_Post XC mc ms free) := by
  obtain ⟨hrc, hrs, hfr, hlo, hws, hcw, -, hini, -⟩ := cb
  exact vx_back (bytes := bytes) (maxL := maxL) (ret := ret) hM hbl hrc hrs hfr hlo hws hcw (fun a' U hW => word_at hW (Or.inl (by first | rfl | simp [Cond.onTables, Cond.keeps, Cond.steady])) hini)
theorem vx_runV (S : CallFix p m c cc nL s args Ts own) (hM : vx_Met l y ws rm Pc Qc XC mc ms free) (cw : CallW R s args own C index y bytes maxL ret ws rm mc ms n) (hp : PreV s H C b Pc As)
    (hg : g.method = m) (hn : As.length = n) (hsize : g.locals.size = nL) (hstack : g.stack = As.reverse ++ .ref b :: rest) (hW : 2 * g.monitorRoom + (rest.map fun v => v.category).sum ≤ 8) (hdg : decode cc g.pc = .ok (.invokevirtual index, 3)) (hf : cells + mc ≤ R.cells ∧ slots + ms ≤ R.slots) :
    vx_Run p l e R s m args below meth c H locs cells slots mc ms g rest (Qc (Value.ref b :: As).toArray) XC free := by
  have hK : vx_Back l R p e below s args y 3 8 (PreOf R mc ms Pc) (PostOf Qc mc ms free) (vx_Post XC mc ms free) := vx_callBack cw.1 hM hp.1
  obtain ⟨⟨-, -, -, -, -, -, hcode, -, hy, hlen, hl⟩, hin, hse⟩ := cw
  obtain ⟨hx, hb, hml, ho, -⟩ := S
  obtain ⟨-, ⟨cellB, hcB, hoB, hclB⟩, hPc⟩ := hp
  intro T hT X
  rcases vx_callV X hx (C := C) (bytes := bytes) (maxL := maxL) (ret := ret) ho hl hin hse hcode hy hK (by rw [hT]; exact hcB) hoB hclB hg (hsize.trans hml.symm) (argsL := As) (rest := rest) (fun sig h => hn.trans (hlen sig h)) hstack hW (by rw [hb]; exact hdg)
    (fun vm₁ hW₁ => ⟨hf.1, hf.2, hPc (T.setVm vm₁) hT hW₁⟩) with ⟨v, vm₁, ⟨U', l2, c2, s2⟩, hW₁, X', ⟨g', mk, t, L, e1, e2, hq, h1, hL, h2, h3⟩, st⟩ | ⟨q, vm₁, ⟨U', l2, c2, s2⟩, hW₁, X', ⟨g', mk, t, L, E, ce, e1, e2, hq, hce, hcv, hcl, h1, hL, h2, h3⟩, st⟩
  · dsimp only [Pt.U, Pt.locs, Pt.cells, Pt.slots] at X' e1 e2 h1 h2 h3 st
    subst h1; subst h2; subst h3
    exact Or.inl ⟨v, (T.setVm vm₁).calling g' mk (Value.ref b :: As).toArray, t, U', L, hT, X', hL, e1, e2, hq, st⟩
  · dsimp only [Pt.U, Pt.locs, Pt.cells, Pt.slots] at X' e1 e2 h1 h2 h3 st hcl
    subst h1; subst h2; subst h3
    exact Or.inr ⟨q, (T.setVm vm₁).calling g' mk (Value.ref b :: As).toArray, t, U', L, E, ce, hT, X', hL, e1, e2, hq, hce, hcv, vx_cls hW₁ hcl, st⟩
theorem vx_runS (S : CallFix p m c cc nL s args Ts own) (hM : vx_Met l y ws rm Pc Qc XC mc ms free) (cw : CallB R s args own index y bytes maxL ret ws rm mc ms n ∧ (Cond.static y).before args s = true) (hp : PreS s H Pc As)
    (hg : g.method = m) (hn : As.length = n) (hsize : g.locals.size = nL) (hstack : g.stack = As.reverse ++ rest) (hW : 2 * g.monitorRoom + (rest.map fun v => v.category).sum ≤ 8) (hdg : decode cc g.pc = .ok (.invokestatic index, 3)) (hf : cells + mc ≤ R.cells ∧ slots + ms ≤ R.slots) :
    vx_Run p l e R s m args below meth c H locs cells slots mc ms g rest (Qc As.toArray) XC free := by
  have hK : vx_Back l R p e below s args y 3 8 (PreOf R mc ms Pc) (PostOf Qc mc ms free) (vx_Post XC mc ms free) := vx_callBack cw.1 hM hp.1
  obtain ⟨⟨-, -, -, -, -, -, hcode, hini, hy, hlen, hl⟩, hstt⟩ := cw
  obtain ⟨hx, hb, hml, ho, -⟩ := S
  intro T hT X
  rcases vx_callS X hx (bytes := bytes) (maxL := maxL) (ret := ret) ho hl hstt hini hcode hy hK hg (hsize.trans hml.symm) (argsL := As) (rest := rest) (fun sig h => hn.trans (hlen sig h)) hstack hW (by rw [hb]; exact hdg)
    (fun vm₁ hW₁ => ⟨hf.1, hf.2, hp.2 (T.setVm vm₁) hT hW₁⟩) with ⟨v, vm₁, ⟨U', l2, c2, s2⟩, hW₁, X', ⟨g', mk, t, L, e1, e2, hq, h1, hL, h2, h3⟩, st⟩ | ⟨q, vm₁, ⟨U', l2, c2, s2⟩, hW₁, X', ⟨g', mk, t, L, E, ce, e1, e2, hq, hce, hcv, hcl, h1, hL, h2, h3⟩, st⟩
  · dsimp only [Pt.U, Pt.locs, Pt.cells, Pt.slots] at X' e1 e2 h1 h2 h3 st
    subst h1; subst h2; subst h3
    exact Or.inl ⟨v, (T.setVm vm₁).calling g' mk As.toArray, t, U', L, hT, X', hL, e1, e2, hq, st⟩
  · dsimp only [Pt.U, Pt.locs, Pt.cells, Pt.slots] at X' e1 e2 h1 h2 h3 st hcl
    subst h1; subst h2; subst h3
    exact Or.inr ⟨q, (T.setVm vm₁).calling g' mk As.toArray, t, U', L, E, ce, hT, X', hL, e1, e2, hq, hce, hcv, vx_cls hW₁ hcl, st⟩
end Runs
section Rows
variable {p : Program} {l : Launch} {e : Env} {R : Room} {s : State} {m : MethodId} {args : Array Value} {below : List Frame} {meth : Method} {c : Code} {H : Heap} {locs : List Loc} {cells slots : Nat} {Q : State → Prop}
variable {mc ms : Nat} {free : Addr → Prop} {A0 A1 : Nat → Prop} {H0 : Heap} {a : Array Value} {pc : Nat} {ls : Array Slot} {st0 rest : List Value}
theorem vx_keep {st₀ t T' : State} {L : List Loc} (h0 : st₀.heap = H) (e1 : T'.heap = t.heap) (hS : va_S A0 H0 H locs) (hA : ∀ q, q < H.size → A1 q → A0 q) (hf : ∀ q, free q → A0 q) (hL : ∀ q ∈ L, free q.base) (hF : va_F A1 st₀ t) :
    H.size ≤ T'.heap.size ∧ (∀ q : Nat, q < H.size → ¬ A1 q → T'.heap[q]? = H[q]?) ∧ va_S A0 H0 T'.heap (locs ++ L) := by
  obtain ⟨hz, hk⟩ := hF
  rw [h0] at hz hk
  exact ⟨by rw [e1]; exact hz, fun q h1 h2 => by rw [e1]; exact hk q h1 h2,
    ⟨Nat.le_trans hS.1 (by rw [e1]; exact hz), fun q h1 h2 => by rw [e1, hk q (Nat.lt_of_lt_of_le h1 hS.1) (fun z => h2 (hA q (Nat.lt_of_lt_of_le h1 hS.1) z))]; exact hS.2.1 q h1 h2, fun q hq => by
      rcases List.mem_append.mp hq with h | h
      · exact hS.2.2 q h
      · exact hf _ (hL q h)⟩⟩
theorem vx_calli {S SX : Type} {post : Int32 → S → Prop} {px : SX → Prop} {B : S → State → Prop} {BX : String → SX → State → Prop} {AX : Nat → Prop} (hr : vx_Run p l e R s m args below meth c H locs cells slots mc ms (F0 m pc ls st0) rest (va_Qi post B A1 a) (vx_X px BX AX) free) (hS : va_S A0 H0 H locs) (hA : ∀ q, q < H.size → A1 q → A0 q) (hf : ∀ q, free q → A0 q) (hAX : ∀ q, q < H.size → AX q → A0 q)
    (kx : ∀ (E : String) (ce : Cell) (q9 : Addr) (u : SX) (t : State) (H1 : Heap) (locs1 : List Loc), t.heap = H1 → s.vm.Alike t.vm → px u → BX E u t → H.size ≤ H1.size → (∀ q : Nat, q < H.size → ¬ AX q → H1[q]? = H[q]?) → va_S A0 H0 H1 locs1 → H1[q9]? = some ce → ce.vm = .none → s.vm.findClass E = some ce.cls → vx_W p l e R s m args below meth c H1 locs1 (cells + mc) (slots + ms) Q (F0 m pc ls rest) q9)
    (kk : ∀ (r : Int32) (u : S) (t : State) (H1 : Heap) (locs1 : List Loc), t.heap = H1 → s.vm.Alike t.vm → post r u → B u t → H.size ≤ H1.size → (∀ q : Nat, q < H.size → ¬ A1 q → H1[q]? = H[q]?) → va_S A0 H0 H1 locs1 → W p l e R s m args below meth c H1 locs1 (cells + mc) (slots + ms) Q (F0 m (pc + 3) ls (.int r :: rest))) : W p l e R s m args below meth c H locs cells slots Q (F0 m pc ls st0) := by
  intro T hT X
  rcases hr T hT X with ⟨v, st₀, t, T', L, h0, X', hL, e1, e2, ⟨⟨r, u, hv, hp, hb⟩, hF⟩, st⟩ | ⟨q, st₀, t, T', L, E, ce, h0, X', hL, e1, e2, ⟨u, hp, hb, hF⟩, hce, hcv, hcl, st⟩
  · cases hv
    obtain ⟨k1, k2, k3⟩ := vx_keep h0 e1 hS hA hf hL hF
    obtain ⟨t2, a1, b1⟩ := kk r u t T'.heap (locs ++ L) e1.symm (by rw [← e2]; exact X'.warmed.alike) hp hb k1 k2 k3 T' rfl X'
    exact ⟨t2, st t2 a1, b1⟩
  · obtain ⟨k1, k2, k3⟩ := vx_keep h0 e1 hS hAX hf hL hF
    obtain ⟨t2, a1, b1⟩ := kx E ce q u t T'.heap (locs ++ L) e1.symm (by rw [← e2]; exact X'.warmed.alike) hp hb k1 k2 k3 (by rw [e1]; exact hce) hcv hcl T' rfl X'
    exact ⟨t2, st.trans a1, b1⟩
theorem vx_calll {S SX : Type} {post : Int64 → S → Prop} {px : SX → Prop} {B : S → State → Prop} {BX : String → SX → State → Prop} {AX : Nat → Prop} (hr : vx_Run p l e R s m args below meth c H locs cells slots mc ms (F0 m pc ls st0) rest (va_Ql post B A1 a) (vx_X px BX AX) free) (hS : va_S A0 H0 H locs) (hA : ∀ q, q < H.size → A1 q → A0 q) (hf : ∀ q, free q → A0 q) (hAX : ∀ q, q < H.size → AX q → A0 q)
    (kx : ∀ (E : String) (ce : Cell) (q9 : Addr) (u : SX) (t : State) (H1 : Heap) (locs1 : List Loc), t.heap = H1 → s.vm.Alike t.vm → px u → BX E u t → H.size ≤ H1.size → (∀ q : Nat, q < H.size → ¬ AX q → H1[q]? = H[q]?) → va_S A0 H0 H1 locs1 → H1[q9]? = some ce → ce.vm = .none → s.vm.findClass E = some ce.cls → vx_W p l e R s m args below meth c H1 locs1 (cells + mc) (slots + ms) Q (F0 m pc ls rest) q9)
    (kk : ∀ (r : Int64) (u : S) (t : State) (H1 : Heap) (locs1 : List Loc), t.heap = H1 → s.vm.Alike t.vm → post r u → B u t → H.size ≤ H1.size → (∀ q : Nat, q < H.size → ¬ A1 q → H1[q]? = H[q]?) → va_S A0 H0 H1 locs1 → W p l e R s m args below meth c H1 locs1 (cells + mc) (slots + ms) Q (F0 m (pc + 3) ls (.long r :: rest))) : W p l e R s m args below meth c H locs cells slots Q (F0 m pc ls st0) := by
  intro T hT X
  rcases hr T hT X with ⟨v, st₀, t, T', L, h0, X', hL, e1, e2, ⟨⟨r, u, hv, hp, hb⟩, hF⟩, st⟩ | ⟨q, st₀, t, T', L, E, ce, h0, X', hL, e1, e2, ⟨u, hp, hb, hF⟩, hce, hcv, hcl, st⟩
  · cases hv
    obtain ⟨k1, k2, k3⟩ := vx_keep h0 e1 hS hA hf hL hF
    obtain ⟨t2, a1, b1⟩ := kk r u t T'.heap (locs ++ L) e1.symm (by rw [← e2]; exact X'.warmed.alike) hp hb k1 k2 k3 T' rfl X'
    exact ⟨t2, st t2 a1, b1⟩
  · obtain ⟨k1, k2, k3⟩ := vx_keep h0 e1 hS hAX hf hL hF
    obtain ⟨t2, a1, b1⟩ := kx E ce q u t T'.heap (locs ++ L) e1.symm (by rw [← e2]; exact X'.warmed.alike) hp hb k1 k2 k3 (by rw [e1]; exact hce) hcv hcl T' rfl X'
    exact ⟨t2, st.trans a1, b1⟩
theorem vx_callf {S SX : Type} {post : UInt32 → S → Prop} {px : SX → Prop} {B : S → State → Prop} {BX : String → SX → State → Prop} {AX : Nat → Prop} (hr : vx_Run p l e R s m args below meth c H locs cells slots mc ms (F0 m pc ls st0) rest (va_Qf post B A1 a) (vx_X px BX AX) free) (hS : va_S A0 H0 H locs) (hA : ∀ q, q < H.size → A1 q → A0 q) (hf : ∀ q, free q → A0 q) (hAX : ∀ q, q < H.size → AX q → A0 q)
    (kx : ∀ (E : String) (ce : Cell) (q9 : Addr) (u : SX) (t : State) (H1 : Heap) (locs1 : List Loc), t.heap = H1 → s.vm.Alike t.vm → px u → BX E u t → H.size ≤ H1.size → (∀ q : Nat, q < H.size → ¬ AX q → H1[q]? = H[q]?) → va_S A0 H0 H1 locs1 → H1[q9]? = some ce → ce.vm = .none → s.vm.findClass E = some ce.cls → vx_W p l e R s m args below meth c H1 locs1 (cells + mc) (slots + ms) Q (F0 m pc ls rest) q9)
    (kk : ∀ (r : UInt32) (u : S) (t : State) (H1 : Heap) (locs1 : List Loc), t.heap = H1 → s.vm.Alike t.vm → post r u → B u t → H.size ≤ H1.size → (∀ q : Nat, q < H.size → ¬ A1 q → H1[q]? = H[q]?) → va_S A0 H0 H1 locs1 → W p l e R s m args below meth c H1 locs1 (cells + mc) (slots + ms) Q (F0 m (pc + 3) ls (.float r :: rest))) : W p l e R s m args below meth c H locs cells slots Q (F0 m pc ls st0) := by
  intro T hT X
  rcases hr T hT X with ⟨v, st₀, t, T', L, h0, X', hL, e1, e2, ⟨⟨r, u, hv, hp, hb⟩, hF⟩, st⟩ | ⟨q, st₀, t, T', L, E, ce, h0, X', hL, e1, e2, ⟨u, hp, hb, hF⟩, hce, hcv, hcl, st⟩
  · cases hv
    obtain ⟨k1, k2, k3⟩ := vx_keep h0 e1 hS hA hf hL hF
    obtain ⟨t2, a1, b1⟩ := kk r u t T'.heap (locs ++ L) e1.symm (by rw [← e2]; exact X'.warmed.alike) hp hb k1 k2 k3 T' rfl X'
    exact ⟨t2, st t2 a1, b1⟩
  · obtain ⟨k1, k2, k3⟩ := vx_keep h0 e1 hS hAX hf hL hF
    obtain ⟨t2, a1, b1⟩ := kx E ce q u t T'.heap (locs ++ L) e1.symm (by rw [← e2]; exact X'.warmed.alike) hp hb k1 k2 k3 (by rw [e1]; exact hce) hcv hcl T' rfl X'
    exact ⟨t2, st.trans a1, b1⟩
theorem vx_calld {S SX : Type} {post : UInt64 → S → Prop} {px : SX → Prop} {B : S → State → Prop} {BX : String → SX → State → Prop} {AX : Nat → Prop} (hr : vx_Run p l e R s m args below meth c H locs cells slots mc ms (F0 m pc ls st0) rest (va_Qd post B A1 a) (vx_X px BX AX) free) (hS : va_S A0 H0 H locs) (hA : ∀ q, q < H.size → A1 q → A0 q) (hf : ∀ q, free q → A0 q) (hAX : ∀ q, q < H.size → AX q → A0 q)
    (kx : ∀ (E : String) (ce : Cell) (q9 : Addr) (u : SX) (t : State) (H1 : Heap) (locs1 : List Loc), t.heap = H1 → s.vm.Alike t.vm → px u → BX E u t → H.size ≤ H1.size → (∀ q : Nat, q < H.size → ¬ AX q → H1[q]? = H[q]?) → va_S A0 H0 H1 locs1 → H1[q9]? = some ce → ce.vm = .none → s.vm.findClass E = some ce.cls → vx_W p l e R s m args below meth c H1 locs1 (cells + mc) (slots + ms) Q (F0 m pc ls rest) q9)
    (kk : ∀ (r : UInt64) (u : S) (t : State) (H1 : Heap) (locs1 : List Loc), t.heap = H1 → s.vm.Alike t.vm → post r u → B u t → H.size ≤ H1.size → (∀ q : Nat, q < H.size → ¬ A1 q → H1[q]? = H[q]?) → va_S A0 H0 H1 locs1 → W p l e R s m args below meth c H1 locs1 (cells + mc) (slots + ms) Q (F0 m (pc + 3) ls (.double r :: rest))) : W p l e R s m args below meth c H locs cells slots Q (F0 m pc ls st0) := by
  intro T hT X
  rcases hr T hT X with ⟨v, st₀, t, T', L, h0, X', hL, e1, e2, ⟨⟨r, u, hv, hp, hb⟩, hF⟩, st⟩ | ⟨q, st₀, t, T', L, E, ce, h0, X', hL, e1, e2, ⟨u, hp, hb, hF⟩, hce, hcv, hcl, st⟩
  · cases hv
    obtain ⟨k1, k2, k3⟩ := vx_keep h0 e1 hS hA hf hL hF
    obtain ⟨t2, a1, b1⟩ := kk r u t T'.heap (locs ++ L) e1.symm (by rw [← e2]; exact X'.warmed.alike) hp hb k1 k2 k3 T' rfl X'
    exact ⟨t2, st t2 a1, b1⟩
  · obtain ⟨k1, k2, k3⟩ := vx_keep h0 e1 hS hAX hf hL hF
    obtain ⟨t2, a1, b1⟩ := kx E ce q u t T'.heap (locs ++ L) e1.symm (by rw [← e2]; exact X'.warmed.alike) hp hb k1 k2 k3 (by rw [e1]; exact hce) hcv hcl T' rfl X'
    exact ⟨t2, st.trans a1, b1⟩
theorem vx_callv {S SX : Type} {post : S → Prop} {px : SX → Prop} {B : S → State → Prop} {BX : String → SX → State → Prop} {AX : Nat → Prop} (hr : vx_Run p l e R s m args below meth c H locs cells slots mc ms (F0 m pc ls st0) rest (va_Qv post B A1 a) (vx_X px BX AX) free) (hS : va_S A0 H0 H locs) (hA : ∀ q, q < H.size → A1 q → A0 q) (hf : ∀ q, free q → A0 q) (hAX : ∀ q, q < H.size → AX q → A0 q)
    (kx : ∀ (E : String) (ce : Cell) (q9 : Addr) (u : SX) (t : State) (H1 : Heap) (locs1 : List Loc), t.heap = H1 → s.vm.Alike t.vm → px u → BX E u t → H.size ≤ H1.size → (∀ q : Nat, q < H.size → ¬ AX q → H1[q]? = H[q]?) → va_S A0 H0 H1 locs1 → H1[q9]? = some ce → ce.vm = .none → s.vm.findClass E = some ce.cls → vx_W p l e R s m args below meth c H1 locs1 (cells + mc) (slots + ms) Q (F0 m pc ls rest) q9)
    (kk : ∀ (u : S) (t : State) (H1 : Heap) (locs1 : List Loc), t.heap = H1 → s.vm.Alike t.vm → post u → B u t → H.size ≤ H1.size → (∀ q : Nat, q < H.size → ¬ A1 q → H1[q]? = H[q]?) → va_S A0 H0 H1 locs1 → W p l e R s m args below meth c H1 locs1 (cells + mc) (slots + ms) Q (F0 m (pc + 3) ls (rest))) : W p l e R s m args below meth c H locs cells slots Q (F0 m pc ls st0) := by
  intro T hT X
  rcases hr T hT X with ⟨v, st₀, t, T', L, h0, X', hL, e1, e2, ⟨⟨u, hv, hp, hb⟩, hF⟩, st⟩ | ⟨q, st₀, t, T', L, E, ce, h0, X', hL, e1, e2, ⟨u, hp, hb, hF⟩, hce, hcv, hcl, st⟩
  · cases hv
    obtain ⟨k1, k2, k3⟩ := vx_keep h0 e1 hS hA hf hL hF
    obtain ⟨t2, a1, b1⟩ := kk u t T'.heap (locs ++ L) e1.symm (by rw [← e2]; exact X'.warmed.alike) hp hb k1 k2 k3 T' rfl X'
    exact ⟨t2, st t2 a1, b1⟩
  · obtain ⟨k1, k2, k3⟩ := vx_keep h0 e1 hS hAX hf hL hF
    obtain ⟨t2, a1, b1⟩ := kx E ce q u t T'.heap (locs ++ L) e1.symm (by rw [← e2]; exact X'.warmed.alike) hp hb k1 k2 k3 (by rw [e1]; exact hce) hcv hcl T' rfl X'
    exact ⟨t2, st.trans a1, b1⟩
end Rows
section Ends
variable {p : Program} {l : Launch} {e : Env} {R : Room} {s : State} {m : MethodId} {args : Array Value} {below : List Frame} {meth : Method} {c : Code} {H : Heap} {locs : List Loc} {cells slots : Nat} {Q : State → Prop}
variable {mc ms : Nat} {free : Addr → Prop} {A0 A1 : Nat → Prop} {H0 : Heap} {a : Array Value} {ls : Array Slot} {st0 rest : List Value}
variable {Qc : Array Value → State → Outcome → State → Prop} {XC : String → State → State → Prop}
/-- what a body that may throw owes at its end -/
def vx_MQ (below : List Frame) (Qc : Array Value → State → Outcome → State → Prop) (XC : String → State → State → Prop) (a : Array Value) (s : State) (mc ms : Nat) (free : Addr → Prop) : State → Prop := fun t =>
  ∃ o, t.status = .running ∧ Ended t below o ∧ vx_Q Qc XC mc ms free a s o t
theorem vx_ret {g : JFrame} {mc ms : Nat} (k : W p l e R s m args below meth c H locs cells slots (MQ below Qc args s mc ms free) g) : W p l e R s m args below meth c H locs cells slots (vx_MQ below Qc XC args s mc ms free) g := by
  intro T hT X
  obtain ⟨t, a1, o, b1, b2, b3, b4⟩ := k T hT X
  exact ⟨t, a1, o, b1, b2, Or.inl ⟨b3, b4⟩⟩
/-- not caught here: it goes on to the caller -/
theorem vx_widen {g : JFrame} {q : Addr} {k n : Nat} (h1 : cells ≤ k) (h2 : slots ≤ n) (kk : vx_W p l e R s m args below meth c H locs k n Q g q) : vx_W p l e R s m args below meth c H locs cells slots Q g q := fun T hT X => kk T hT (stand_widen X h1 h2)
theorem vx_out {pc : Nat} {E : String} {ce : Cell} {q : Addr} {mc ms : Nat} (hout : ∀ x ∈ c.exceptionTable.toList, covers x pc = false) (hlocks : meth.locks = false) (hcell : H[q]? = some ce) (hv : ce.vm = .none) (hcl : s.vm.findClass E = some ce.cls)
    (hx : ∀ t : State, t.heap = H → s.vm.Alike t.vm → XC E s t) (hf : ∀ z ∈ locs, free z.base) (hc : cells ≤ mc) (hs : slots ≤ ms) :
    vx_W p l e R s m args below meth c H locs cells slots (vx_MQ below Qc XC args s mc ms free) (F0 m pc ls rest) q := by
  intro T hT X
  obtain ⟨st1, hrun, hend, hW, hsm⟩ := X.leaveThrown q (g := F0 m pc ls rest) rfl rfl rfl hout hlocks
  have hcell9 : (T.setFrames (.throwing q :: below)).heap[q]? = some ce := by
    show T.heap[q]? = some ce
    rw [hT]; exact hcell
  exact ⟨_, st1, .threw q, hrun, hend, Or.inr ⟨q, rfl, E, ce, locs, hx _ hT hW.alike, hcell9, hv, hcl, hW, hsm.mono hc hs, hf⟩⟩
theorem vx_frame {U : State} {k n : Nat} (h : s.sameButNew ({ U with vm := s.vm } : State) locs k n) : s.heap.size ≤ U.heap.size ∧ ∀ q : Nat, q < s.heap.size → (∀ z ∈ locs, z.base ≠ q) → U.heap[q]? = s.heap[q]? := by
  obtain ⟨-, h2, -, -, -, h6⟩ := h
  refine ⟨h2, fun q hq hz => ?_⟩
  obtain ⟨c9, e1, e2, e3, e4⟩ := h6 q _ (Array.getElem?_eq_getElem hq)
  have hs : c9.slots = (s.heap[q]).slots := Array.ext_getElem? fun i => e4 i fun hm => hz _ hm rfl
  have h9 : c9 = s.heap[q] := by
    rw [hs] at e2
    exact e2
  have e5 : U.heap[q]? = some c9 := e1
  rw [e5, h9, Array.getElem?_eq_getElem hq]
/-- the words of a throw but the four that speak of the heap -/
def vx_no (w : Cond) : Bool := decide (w ≠ .isRef (.static Bundle.tN "UNASSIGNED_STACK" Bundle.steD)) && decide (w ≠ .isRef (.static Bundle.tN "SUPPRESSED_SENTINEL" Bundle.listD)) && decide (w ≠ .laysStatic Bundle.tN "UNASSIGNED_STACK" Bundle.steD) && decide (w ≠ .laysStatic Bundle.tN "SUPPRESSED_SENTINEL" Bundle.listD)
def vx_at0 (own : String) (ic : Nat) (X : String) (names : List String) : List Cond := (Bundle.ownAtoms0 own ic X names).filter vx_no
def vx_atS (own : String) (ic : Nat) (X : String) (names : List String) : List Cond := (Bundle.ownAtoms own ic X names).filter vx_no
/-- a word that the tables alone decide, or a good one -/
def vx_ot (w : Cond) : Bool := w.onTables || goodWord w
theorem vx_ot_at {args a' : Array Value} {s U : State} {w : Cond} (hW : s.WarmedH U.vm) (hvm : s.vm = U.vm) (hg : vx_ot w = true) (h : w.before args s = true) : w.before a' U = true := by
  simp only [vx_ot, Bool.or_eq_true] at hg
  rcases hg with hg | hg
  · exact va_tabs hg hvm h
  · exact word_at hW (good_of_word hg) h
/-- a list's words: the good ones out of the method's own list, the others by premises of their own -/
theorem vx_hat {args : Array Value} {s : State} {L B : List Cond} (h1 : ∀ w ∈ L.filter goodWord, w.before args s = true) (h2 : ∀ w ∈ L.filter (fun w => !goodWord w), w ∈ B) (h3 : ∀ w ∈ B, w.before args s = true) : ∀ w ∈ L, w.before args s = true := by
  intro w hw
  by_cases g : goodWord w = true
  · exact h1 w (List.mem_filter.mpr ⟨hw, g⟩)
  · refine h3 w (h2 w (List.mem_filter.mpr ⟨hw, ?_⟩))
    show (!goodWord w) = true
    cases hgw : goodWord w
    · rfl
    · exact absurd hgw g
theorem vx_c {args : Array Value} {s : State} {w : Cond} {B : List Cond} (h : w.before args s = true) (t : ∀ w ∈ B, w.before args s = true) : ∀ w' ∈ w :: B, w'.before args s = true := fun w' h' => (List.mem_cons.mp h').elim (fun e => by rw [e]; exact h) (t w')
theorem vx_n {args : Array Value} {s : State} : ∀ w ∈ ([] : List Cond), w.before args s = true := fun _ h => nomatch h
theorem vx_own {args : Array Value} {s : State} {L : List Cond} (h1 : ∀ w ∈ L.filter vx_no, w.before args s = true)
    (hU : (Cond.isRef (.static Bundle.tN "UNASSIGNED_STACK" Bundle.steD)).before args s = true) (hN : (Cond.isRef (.static Bundle.tN "SUPPRESSED_SENTINEL" Bundle.listD)).before args s = true)
    (lU : (Cond.laysStatic Bundle.tN "UNASSIGNED_STACK" Bundle.steD).before args s = true) (lN : (Cond.laysStatic Bundle.tN "SUPPRESSED_SENTINEL" Bundle.listD).before args s = true) : ∀ w ∈ L, w.before args s = true := by
  intro w hw
  by_cases e1 : w = .isRef (.static Bundle.tN "UNASSIGNED_STACK" Bundle.steD)
  · rw [e1]; exact hU
  · by_cases e2 : w = .isRef (.static Bundle.tN "SUPPRESSED_SENTINEL" Bundle.listD)
    · rw [e2]; exact hN
    · by_cases e3 : w = .laysStatic Bundle.tN "UNASSIGNED_STACK" Bundle.steD
      · rw [e3]; exact lU
      · by_cases e4 : w = .laysStatic Bundle.tN "SUPPRESSED_SENTINEL" Bundle.listD
        · rw [e4]; exact lN
        · exact h1 w (List.mem_filter.mpr ⟨hw, by unfold vx_no; rw [decide_eq_true e1, decide_eq_true e2, decide_eq_true e3, decide_eq_true e4]; rfl⟩)
/-- where a static field lies, its class's statics cell in H -/
def vx_L (C n d : String) (A : Nat → Prop) (U : State) (H : Heap) : Prop := ∃ (c : ClassId) (k : Class) (i : Nat) (f : Field) (a : Nat) (cell : Cell), U.vm.findClass C = some c ∧ U.fieldFound? C n d = some (c, k, i, f) ∧ f.isStatic = true ∧ k.statics = some a ∧ H[a]? = some cell ∧ cell.vm.isStatics = true ∧ cell.cls = c ∧ f.slot < cell.slots.size ∧ k.staticTypes[f.slot]? = some f.type ∧ ¬ A a
theorem vx_L.moved {C n d : String} {A : Nat → Prop} {u U : State} {H : Heap} (hvm : u.vm.Alike U.vm) (h : vx_L C n d A u H) : vx_L C n d A U H := by
  obtain ⟨c, k, i, f, a, cell, h1, h2, h3, h4, h5, h6, h7, h8, h9, h10⟩ := h
  obtain ⟨k', hi', he⟩ := State.fieldFound?_setVm hvm h2
  exact ⟨c, k', i, f, a, cell, by rw [hvm.findClass]; exact h1, hi', h3, by rw [he]; exact h4, h5, h6, h7, h8, by rw [he]; exact h9, h10⟩
theorem vx_L.kept {C n d : String} {A : Nat → Prop} {U : State} {H H1 : Heap} (h : vx_L C n d A U H) (hq : ∀ a : Nat, a < H.size → ¬ A a → H1[a]? = H[a]?) : vx_L C n d A U H1 := by
  obtain ⟨c, k, i, f, a, cell, h1, h2, h3, h4, h5, h6, h7, h8, h9, h10⟩ := h
  exact ⟨c, k, i, f, a, cell, h1, h2, h3, h4, by rw [hq a (Array.getElem?_eq_some_iff.mp h5).1 h10]; exact h5, h6, h7, h8, h9, h10⟩
theorem vx_L.narrow {C n d : String} {A B : Nat → Prop} {U : State} {H : Heap} (h : vx_L C n d A U H) (hAB : ∀ q, B q → A q) : vx_L C n d B U H := by
  obtain ⟨c, k, i, f, a, cell, h1, h2, h3, h4, h5, h6, h7, h8, h9, h10⟩ := h
  exact ⟨c, k, i, f, a, cell, h1, h2, h3, h4, h5, h6, h7, h8, h9, fun z => h10 (hAB _ z)⟩
theorem vx_L.word {C n d : String} {A : Nat → Prop} {s : State} {args : Array Value} (h : vx_L C n d A s s.heap) : (Cond.laysStatic C n d).before args s = true := by
  obtain ⟨c, k, i, f, a, cell, h1, h2, h3, h4, h5, h6, h7, h8, h9, -⟩ := h
  show (Cond.laysStatic C n d).holds args s none s [] = true
  exact Cond.laysStatic_of h1 h2 h3 h4 h5 h6 h7 h8 h9
/-- .. and what it holds: null or some reference -/
def vx_Zq (C n d : String) (A : Nat → Prop) (U : State) (H : Heap) : Prop := va_Zq C n d A U H ∧ vx_L C n d A U H
theorem vx_Zq.moved {C n d : String} {A : Nat → Prop} {u U : State} {H : Heap} (hvm : u.vm.Alike U.vm) (h : vx_Zq C n d A u H) : vx_Zq C n d A U H := ⟨va_Zq.moved hvm h.1, vx_L.moved hvm h.2⟩
theorem vx_Zq.kept {C n d : String} {A : Nat → Prop} {U : State} {H H1 : Heap} (h : vx_Zq C n d A U H) (hq : ∀ a : Nat, a < H.size → ¬ A a → H1[a]? = H[a]?) : vx_Zq C n d A U H1 := ⟨va_Zq.kept h.1 hq, vx_L.kept h.2 hq⟩
theorem vx_Zq.narrow {C n d : String} {A B : Nat → Prop} {U : State} {H : Heap} (h : vx_Zq C n d A U H) (hAB : ∀ q, B q → A q) : vx_Zq C n d B U H := ⟨va_Zq.narrow h.1 hAB, vx_L.narrow h.2 hAB⟩
theorem vx_Zqof {args : Array Value} {s : State} {C n d : String} {A : Nat → Prop} (hl : (Cond.laysStatic C n d).before args s = true) (hini : (Cond.initialized C).before args s = true) (h : (Cond.isRef (.static C n d)).before args s = true) (hA : ∀ a : Nat, a < s.heap.size → ¬ A a) : vx_Zq C n d A s s.heap := by
  refine ⟨va_Zqof hl hini h hA, ?_⟩
  obtain ⟨c, k, i, f, a, cell, h1, h2, h3, h4, h5, h6, h7, h8, h9⟩ := Cond.laysStatic_spec hl
  exact ⟨c, k, i, f, a, cell, h1, h2, h3, h4, h5, h6, h7, h8, h9, hA a (Array.getElem?_eq_some_iff.mp h5).1⟩
theorem vx_isRef {C n d : String} {v : Value} {A : Nat → Prop} {s : State} {args : Array Value} (h : va_Z C n d v A s s.heap) (hv : v.isRef = true) : (Cond.isRef (.static C n d)).before args s = true := by
  obtain ⟨cf, kf, fi, f, a, cell, h1, h2, h3, h4, h5, h6, h7, -⟩ := h
  have he : (Term.static C n d).eval args s none [] s = some v := by
    simp [Term.eval, State.fieldNamed?, h1, h2, h4, h5, h6, h7]
  simp only [Cond.before, Cond.holds, Cond.value, he]
  cases v <;> simp_all [Value.isRef]
theorem vx_isRefq {C n d : String} {A : Nat → Prop} {s : State} {args : Array Value} (h : va_Zq C n d A s s.heap) : (Cond.isRef (.static C n d)).before args s = true := by
  rcases h with h | ⟨t, h⟩
  · exact vx_isRef h rfl
  · exact vx_isRef h rfl
/-- the same frame, seen from here: as if the method were called anew in this heap -/
theorem vx_rebase {T : State} (X : Stand p l e R s m args below meth c T locs cells slots) {R' : Room} (hf : R'.frames ≤ R.frames) (hl : R'.locals ≤ R.locals) (hc : cells + R'.cells ≤ R.cells) (hs : slots + R'.slots ≤ R.slots) :
    Stand p l e R' ((T.setVm s.vm).setFrames (.invoking m args :: below)) m args below meth c T [] 0 0 := by
  have htop : (T.setVm s.vm).topJava?.isSome := X.here.top
  have hF : ((T.setVm s.vm).setFrames (.invoking m args :: below)).frames = .invoking m args :: below := State.frames_setFrames _ (State.cur_lt_of_top htop)
  obtain ⟨g₀, hg0⟩ := Option.isSome_iff_exists.mp htop
  obtain ⟨r, hr⟩ := State.topJava?_eq_some.mp hg0
  have hl9 : e.platform.stackLimits (T.setVm s.vm).me = e.platform.stackLimits s.me := X.limits
  have hb9 : (T.setVm s.vm).me.stackBytes = s.me.stackBytes := X.bytes
  refine ⟨X.admits, X.cas, X.clock, hF, ?_, X.hears, X.method, X.code, X.here, X.tail, X.warmed, ?_, ?_, ?_⟩
  · have h := X.room
    have hU : ((T.setVm s.vm).setFrames (.invoking m args :: below)).localsInUse = s.localsInUse := by
      rw [State.localsInUse_invoking hF (meth := meth) (c := c) X.method X.code, State.localsInUse_invoking X.frames X.method X.code]
    simp only [State.hasRoom, Bool.and_eq_true, decide_eq_true_eq] at h ⊢
    obtain ⟨⟨⟨⟨h1, h2, h3, h4, h5, h6⟩, h7⟩, h8⟩, h9⟩ := h
    rw [X.frames, List.length_cons] at h2 h3
    have q1 := X.heapSize
    have q2 := X.used
    simp only [hF, hU, List.length_cons, State.stackLimits_setFrames, State.stackBytes_setFrames, hl9, hb9]
    refine ⟨⟨⟨⟨by omega, by omega, by omega, by omega, by omega, h6⟩, ?_⟩, ?_⟩, X.book⟩
    · show T.heap.size + R'.cells ≤ e.platform.maxCells
      omega
    · show T.slotsUsed + R'.slots ≤ e.platform.maxSlots
      omega
  · rw [State.stackLimits_setFrames]; rfl
  · rw [State.stackBytes_setFrames]; rfl
  · refine ⟨?_, Nat.le_refl _, Nat.le_refl _, ?_, ?_, fun a c9 h9 => ⟨c9, h9, rfl, rfl, fun _ _ => rfl⟩⟩
    · obtain ⟨t, ht, -⟩ := State.frames_cons hr
      show T.setVm s.vm = { ((T.setVm s.vm).setFrames (.invoking m args :: below)).setFrames (T.setVm s.vm).frames with heap := T.heap, slotsUsed := T.slotsUsed }
      rw [State.setFrames_setFrames, State.setFrames_self ht]
      rfl
    · show T.slotsUsed = T.slotsUsed + ((T.heap.toList.drop T.heap.size).map (·.slots.size)).sum
      rw [List.drop_eq_nil_of_le (Nat.le_of_eq Array.length_toList)]
      rfl
    · show ((T.heap.toList.drop T.heap.size).map (·.slots.size)).sum ≤ 0
      rw [List.drop_eq_nil_of_le (Nat.le_of_eq Array.length_toList)]
      exact Nat.le_refl _
/-- 'throw new E()': new; dup; invokespecial; athrow -/
theorem vx_throw0 {cc : ByteArray} {pc : Nat} (hexec : p.tables.exec = Jvm.exec) (hb : c.code = cc) (hl : l.stackTraces = false) {own cls : String} {names : List String} {ik ic mc ms : Nat} {A : Nat → Prop}
    (hown : s.vm.findClass own = some m.cls) (hcls : Bundle.fit cls = true) (hnames : ∀ n ∈ names, Bundle.fit n = true)
    (hk : (Cond.classLink own ik cls).before args s = true) (hini : (Cond.initialized cls).before args s = true) (hat : ∀ w ∈ vx_at0 own ic cls names, w.before args s = true)
    (hgood : ∀ w ∈ Cond.classLink own ik cls :: Cond.initialized cls :: vx_at0 own ic cls names, vx_ot w = true)
    (hU : vx_Zq Bundle.tN "UNASSIGNED_STACK" Bundle.steD A s s.heap) (hN : vx_Zq Bundle.tN "SUPPRESSED_SENTINEL" Bundle.listD A s s.heap) (hS : va_S A s.heap H locs) (hsize : ls.size = c.maxLocals)
    (d0 : decode cc pc = .ok (.new ik, 3)) (d3 : decode cc (pc + 3) = .ok (.dup, 1)) (d4 : decode cc (pc + 4) = .ok (.invokespecial ic, 3)) (d7 : decode cc (pc + 7) = .ok (.athrow, 1))
    (hout : ∀ x ∈ c.exceptionTable.toList, covers x (pc + 7) = false)
    (hRframes : names.length + 3 < R.frames) (hRlocals : (rest.map fun v => v.category).sum + (13 * (names.length + 1) + 42) ≤ R.locals) (hRcells : cells + 1 ≤ R.cells) (hRslots : slots + 6 ≤ R.slots) (hlocks : meth.locks = false)
    (hx : ∀ t : State, s.vm.Alike t.vm → H.size ≤ t.heap.size → (∀ q : Nat, q < H.size → t.heap[q]? = H[q]?) → XC cls s t)
    (hf : ∀ z ∈ locs, free z.base) (hc : cells + 1 ≤ mc) (hs : slots + 6 ≤ ms) :
    W p l e R s m args below meth c H locs cells slots (vx_MQ below Qc XC args s mc ms free) (F0 m pc ls rest) := by
  intro T hT X
  have htr : e.platform.stackTraces = false := (show e.platform.stackTraces = l.stackTraces by rw [X.admits.platform]).trans hl
  have Y := vx_rebase X (R' := { frames := R.frames, locals := R.locals, cells := 1, slots := 6 }) (Nat.le_refl _) (Nat.le_refl _) hRcells hRslots
  obtain ⟨s', hA⟩ : ∃ z, z = (T.setVm s.vm).setFrames (.invoking m args :: below) := ⟨_, rfl⟩
  rw [← hA] at Y
  have hvm : s'.vm = s.vm := by rw [hA]; rfl
  have hhp : s'.heap = H := by rw [hA]; exact hT
  have hW0 : s.WarmedH s'.vm := by rw [hvm]; exact State.WarmedH.refl s
  have hat' : ∀ w ∈ vx_at0 own ic cls names, w.before args s' = true := fun w hw => vx_ot_at hW0 hvm.symm (hgood w (List.mem_cons_of_mem _ (List.mem_cons_of_mem _ hw))) (hat w hw)
  have hk' : (Cond.classLink own ik cls).before args s' = true := vx_ot_at hW0 hvm.symm (hgood _ List.mem_cons_self) hk
  have hini' : (Cond.initialized cls).before args s' = true := vx_ot_at hW0 hvm.symm (hgood _ (List.mem_cons_of_mem _ List.mem_cons_self)) hini
  have hU' : vx_Zq Bundle.tN "UNASSIGNED_STACK" Bundle.steD A s' s'.heap := by rw [hhp]; exact vx_Zq.moved hW0.alike (hU.kept hS.2.1)
  have hN' : vx_Zq Bundle.tN "SUPPRESSED_SENTINEL" Bundle.listD A s' s'.heap := by rw [hhp]; exact vx_Zq.moved hW0.alike (hN.kept hS.2.1)
  have h : ∀ w ∈ Bundle.ownAtoms0 own ic cls names, w.before args s' = true := vx_own hat' (vx_isRefq hU'.1) (vx_isRefq hN'.1) hU'.2.word hN'.2.word
  have hown' : s'.vm.findClass own = some m.cls := by rw [hvm]; exact hown
  have hins : (Cond.instantiable cls 6).before args s' = true := h _ (by simp [Bundle.ownAtoms0])
  obtain ⟨vm₁, cX, kX, hfX, hkX, -, -, X₁, st1⟩ := Y.newCold hexec (own := own) (C := cls) (index := ik) (n := 6) hown' hk' hins hini'
    (g := F0 m pc ls rest) rfl (by rw [hb]; exact d0) (Nat.le_refl _) (Nat.le_refl _)
  generalize hT1 : (T.setVm vm₁).pushCell { cls := cX, slots := kX.instanceTypes.map defaultValue, vm := .none } = T1 at X₁ st1
  have hcat : (Value.ref T.heap.size).category = 1 := rfl
  have hcellA : T1.heap[T.heap.size]? = some (freshCell cX kX) := by rw [← hT1]; exact State.heap_pushCell_size _ _
  have d3' : decode c.code (pc + 3) = .ok (.dup, 1) := by rw [hb]; exact d3
  obtain ⟨U, hsteps, hrun, hend, hW, hsame, ce, hce, hO⟩ := X₁.ctorThrow0 hexec htr (own := own) (cls := cls) (names := names) (ic := ic) hown' hcls hnames h (fun x hx => nomatch hx) hfX hkX hcellA (by rw [hhp, hT]; exact Nat.le_refl _)
    (g := { method := m, pc := pc + 4, locals := ls, stack := .ref T.heap.size :: .ref T.heap.size :: rest, locked := none }) rfl hsize rfl rfl (rest := rest) rfl
    (by rw [hb]; exact d4) (by rw [hb]; exact d7) hout hRframes (by simp only [List.map_cons, List.sum_cons, hcat]; omega) hlocks
  obtain ⟨f1, f2⟩ := vx_frame hsame
  rw [hhp] at f1 f2
  have hWs : s.WarmedH U.vm := State.WarmedH.trans hW0 hW
  have hcl : s.vm.findClass cls = some ce.cls := by
    have h9 := hO.cls
    rw [hvm] at h9
    exact h9
  have hall : s.sameButNew ({ U with vm := s.vm } : State) locs mc ms := by
    subst hA
    obtain ⟨e1, e2⟩ := hsame
    rw [State.setFrames_setFrames] at e1
    have h2 : (T.setVm s.vm).sameButNew ({ U with vm := s.vm } : State) [] (0 + 1) (0 + 6) := ⟨e1, e2⟩
    have h3 := X.same.trans h2
    rw [List.append_nil] at h3
    exact h3.mono hc hs
  refine ⟨U, ?_, .threw T.heap.size, hrun, hend, Or.inr ⟨T.heap.size, rfl, cls, ce, locs, hx U hWs.alike f1 (fun q hq => f2 q hq (fun z hz => nomatch hz)), hce, hO.vm, hcl, hWs, hall, hf⟩⟩
  refine st1 _ ?_
  show Steps p.tables e below (T1.setTop { method := m, pc := pc + 3, locals := ls, stack := .ref T.heap.size :: rest, locked := none }) _
  jvm_step X₁.here [X₁.here.top, hexec, d3', Value.category]
  exact hsteps
/-- 'throw new E("text")': new; dup; ldc; invokespecial; athrow -/
theorem vx_throwS {cc : ByteArray} {pc : Nat} (hexec : p.tables.exec = Jvm.exec) (hb : c.code = cc) (hl : l.stackTraces = false) {own cls text : String} {names : List String} {ik is ic mc ms sa : Nat} {A : Nat → Prop}
    (hown : s.vm.findClass own = some m.cls) (hcls : Bundle.fit cls = true) (hnames : ∀ n ∈ names, Bundle.fit n = true)
    (hk : (Cond.classLink own ik cls).before args s = true) (hini : (Cond.initialized cls).before args s = true) (hstr : vk_R own is text sa s) (hat : ∀ w ∈ vx_atS own ic cls names, w.before args s = true)
    (hgood : ∀ w ∈ Cond.classLink own ik cls :: Cond.initialized cls :: vx_atS own ic cls names, vx_ot w = true)
    (hU : vx_Zq Bundle.tN "UNASSIGNED_STACK" Bundle.steD A s s.heap) (hN : vx_Zq Bundle.tN "SUPPRESSED_SENTINEL" Bundle.listD A s s.heap) (hS : va_S A s.heap H locs) (hsize : ls.size = c.maxLocals)
    (d0 : decode cc pc = .ok (.new ik, 3)) (d3 : decode cc (pc + 3) = .ok (.dup, 1)) (d4 : decode cc (pc + 4) = .ok (.ldc is, 2)) (d6 : decode cc (pc + 6) = .ok (.invokespecial ic, 3)) (d9 : decode cc (pc + 9) = .ok (.athrow, 1))
    (hout : ∀ x ∈ c.exceptionTable.toList, covers x (pc + 9) = false)
    (hRframes : names.length + 3 < R.frames) (hRlocals : (rest.map fun v => v.category).sum + (13 * (names.length + 1) + 43) ≤ R.locals) (hRcells : cells + 1 ≤ R.cells) (hRslots : slots + 6 ≤ R.slots) (hlocks : meth.locks = false)
    (hx : ∀ t : State, s.vm.Alike t.vm → H.size ≤ t.heap.size → (∀ q : Nat, q < H.size → t.heap[q]? = H[q]?) → XC cls s t)
    (hf : ∀ z ∈ locs, free z.base) (hc : cells + 1 ≤ mc) (hs : slots + 6 ≤ ms) :
    W p l e R s m args below meth c H locs cells slots (vx_MQ below Qc XC args s mc ms free) (F0 m pc ls rest) := by
  intro T hT X
  have htr : e.platform.stackTraces = false := (show e.platform.stackTraces = l.stackTraces by rw [X.admits.platform]).trans hl
  have Y := vx_rebase X (R' := { frames := R.frames, locals := R.locals, cells := 1, slots := 6 }) (Nat.le_refl _) (Nat.le_refl _) hRcells hRslots
  obtain ⟨s', hA⟩ : ∃ z, z = (T.setVm s.vm).setFrames (.invoking m args :: below) := ⟨_, rfl⟩
  rw [← hA] at Y
  have hvm : s'.vm = s.vm := by rw [hA]; rfl
  have hhp : s'.heap = H := by rw [hA]; exact hT
  have hW0 : s.WarmedH s'.vm := by rw [hvm]; exact State.WarmedH.refl s
  have hat' : ∀ w ∈ vx_atS own ic cls names, w.before args s' = true := fun w hw => vx_ot_at hW0 hvm.symm (hgood w (List.mem_cons_of_mem _ (List.mem_cons_of_mem _ hw))) (hat w hw)
  have hk' : (Cond.classLink own ik cls).before args s' = true := vx_ot_at hW0 hvm.symm (hgood _ List.mem_cons_self) hk
  have hini' : (Cond.initialized cls).before args s' = true := vx_ot_at hW0 hvm.symm (hgood _ (List.mem_cons_of_mem _ List.mem_cons_self)) hini
  have hU' : vx_Zq Bundle.tN "UNASSIGNED_STACK" Bundle.steD A s' s'.heap := by rw [hhp]; exact vx_Zq.moved hW0.alike (hU.kept hS.2.1)
  have hN' : vx_Zq Bundle.tN "SUPPRESSED_SENTINEL" Bundle.listD A s' s'.heap := by rw [hhp]; exact vx_Zq.moved hW0.alike (hN.kept hS.2.1)
  have h : ∀ w ∈ Bundle.ownAtoms own ic cls names, w.before args s' = true := vx_own hat' (vx_isRefq hU'.1) (vx_isRefq hN'.1) hU'.2.word hN'.2.word
  have hown' : s'.vm.findClass own = some m.cls := by rw [hvm]; exact hown
  have hins : (Cond.instantiable cls 6).before args s' = true := h _ (by simp [Bundle.ownAtoms])
  obtain ⟨vm₁, cX, kX, hfX, hkX, -, -, X₁, st1⟩ := Y.newCold hexec (own := own) (C := cls) (index := ik) (n := 6) hown' hk' hins hini'
    (g := F0 m pc ls rest) rfl (by rw [hb]; exact d0) (Nat.le_refl _) (Nat.le_refl _)
  generalize hT1 : (T.setVm vm₁).pushCell { cls := cX, slots := kX.instanceTypes.map defaultValue, vm := .none } = T1 at X₁ st1
  have hcat : (Value.ref T.heap.size).category = 1 := rfl
  have hcellA : T1.heap[T.heap.size]? = some (freshCell cX kX) := by rw [← hT1]; exact State.heap_pushCell_size _ _
  have d3' : decode c.code (pc + 3) = .ok (.dup, 1) := by rw [hb]; exact d3
  have d4' : decode c.code (pc + 4) = .ok (.ldc is, 2) := by rw [hb]; exact d4
  have hstr' : vk_R own is text sa s' := vk_R.warm hW0 hstr
  obtain ⟨U, hsteps, hrun, hend, hW, hsame, ce, hce, hO⟩ := X₁.ctorThrowS hexec htr (own := own) (cls := cls) (names := names) (ic := ic) hown' hcls hnames h (fun x hx => nomatch hx) hfX hkX hcellA (by rw [hhp, hT]; exact Nat.le_refl _) (msg := .ref sa) rfl
    (g := { method := m, pc := pc + 6, locals := ls, stack := .ref sa :: .ref T.heap.size :: .ref T.heap.size :: rest, locked := none }) rfl hsize rfl rfl (rest := rest) rfl
    (by rw [hb]; exact d6) (by rw [hb]; exact d9) hout hRframes (by simp only [List.map_cons, List.sum_cons, hcat]; omega) hlocks
  obtain ⟨f1, f2⟩ := vx_frame hsame
  rw [hhp] at f1 f2
  have hWs : s.WarmedH U.vm := State.WarmedH.trans hW0 hW
  have hcl : s.vm.findClass cls = some ce.cls := by
    have h9 := hO.cls
    rw [hvm] at h9
    exact h9
  have hall : s.sameButNew ({ U with vm := s.vm } : State) locs mc ms := by
    subst hA
    obtain ⟨e1, e2⟩ := hsame
    rw [State.setFrames_setFrames] at e1
    have h2 : (T.setVm s.vm).sameButNew ({ U with vm := s.vm } : State) [] (0 + 1) (0 + 6) := ⟨e1, e2⟩
    have h3 := X.same.trans h2
    rw [List.append_nil] at h3
    exact h3.mono hc hs
  refine ⟨U, ?_, .threw T.heap.size, hrun, hend, Or.inr ⟨T.heap.size, rfl, cls, ce, locs, hx U hWs.alike f1 (fun q hq => f2 q hq (fun z hz => nomatch hz)), hce, hO.vm, hcl, hWs, hall, hf⟩⟩
  refine st1 _ ?_
  show Steps p.tables e below (T1.setTop { method := m, pc := pc + 3, locals := ls, stack := .ref T.heap.size :: rest, locked := none }) _
  jvm_step X₁.here [X₁.here.top, hexec, d3', Value.category]
  exact X₁.ldcString hexec (own := own) (text := text) (index := is) (a := sa) hown' hstr'.1 hstr'.2
    (g := { method := m, pc := pc + 4, locals := ls, stack := .ref T.heap.size :: .ref T.heap.size :: rest, locked := none }) rfl d4' _ hsteps
/-- 'throw new E("text")', the text by a wide index -/
theorem vx_throwSW {cc : ByteArray} {pc : Nat} (hexec : p.tables.exec = Jvm.exec) (hb : c.code = cc) (hl : l.stackTraces = false) {own cls text : String} {names : List String} {ik is ic mc ms sa : Nat} {A : Nat → Prop}
    (hown : s.vm.findClass own = some m.cls) (hcls : Bundle.fit cls = true) (hnames : ∀ n ∈ names, Bundle.fit n = true)
    (hk : (Cond.classLink own ik cls).before args s = true) (hini : (Cond.initialized cls).before args s = true) (hstr : vk_R own is text sa s) (hat : ∀ w ∈ vx_atS own ic cls names, w.before args s = true)
    (hgood : ∀ w ∈ Cond.classLink own ik cls :: Cond.initialized cls :: vx_atS own ic cls names, vx_ot w = true)
    (hU : vx_Zq Bundle.tN "UNASSIGNED_STACK" Bundle.steD A s s.heap) (hN : vx_Zq Bundle.tN "SUPPRESSED_SENTINEL" Bundle.listD A s s.heap) (hS : va_S A s.heap H locs) (hsize : ls.size = c.maxLocals)
    (d0 : decode cc pc = .ok (.new ik, 3)) (d3 : decode cc (pc + 3) = .ok (.dup, 1)) (d4 : decode cc (pc + 4) = .ok (.ldc_w is, 3)) (d7 : decode cc (pc + 7) = .ok (.invokespecial ic, 3)) (d10 : decode cc (pc + 10) = .ok (.athrow, 1))
    (hout : ∀ x ∈ c.exceptionTable.toList, covers x (pc + 10) = false)
    (hRframes : names.length + 3 < R.frames) (hRlocals : (rest.map fun v => v.category).sum + (13 * (names.length + 1) + 43) ≤ R.locals) (hRcells : cells + 1 ≤ R.cells) (hRslots : slots + 6 ≤ R.slots) (hlocks : meth.locks = false)
    (hx : ∀ t : State, s.vm.Alike t.vm → H.size ≤ t.heap.size → (∀ q : Nat, q < H.size → t.heap[q]? = H[q]?) → XC cls s t)
    (hf : ∀ z ∈ locs, free z.base) (hc : cells + 1 ≤ mc) (hs : slots + 6 ≤ ms) :
    W p l e R s m args below meth c H locs cells slots (vx_MQ below Qc XC args s mc ms free) (F0 m pc ls rest) := by
  intro T hT X
  have htr : e.platform.stackTraces = false := (show e.platform.stackTraces = l.stackTraces by rw [X.admits.platform]).trans hl
  have Y := vx_rebase X (R' := { frames := R.frames, locals := R.locals, cells := 1, slots := 6 }) (Nat.le_refl _) (Nat.le_refl _) hRcells hRslots
  obtain ⟨s', hA⟩ : ∃ z, z = (T.setVm s.vm).setFrames (.invoking m args :: below) := ⟨_, rfl⟩
  rw [← hA] at Y
  have hvm : s'.vm = s.vm := by rw [hA]; rfl
  have hhp : s'.heap = H := by rw [hA]; exact hT
  have hW0 : s.WarmedH s'.vm := by rw [hvm]; exact State.WarmedH.refl s
  have hat' : ∀ w ∈ vx_atS own ic cls names, w.before args s' = true := fun w hw => vx_ot_at hW0 hvm.symm (hgood w (List.mem_cons_of_mem _ (List.mem_cons_of_mem _ hw))) (hat w hw)
  have hk' : (Cond.classLink own ik cls).before args s' = true := vx_ot_at hW0 hvm.symm (hgood _ List.mem_cons_self) hk
  have hini' : (Cond.initialized cls).before args s' = true := vx_ot_at hW0 hvm.symm (hgood _ (List.mem_cons_of_mem _ List.mem_cons_self)) hini
  have hU' : vx_Zq Bundle.tN "UNASSIGNED_STACK" Bundle.steD A s' s'.heap := by rw [hhp]; exact vx_Zq.moved hW0.alike (hU.kept hS.2.1)
  have hN' : vx_Zq Bundle.tN "SUPPRESSED_SENTINEL" Bundle.listD A s' s'.heap := by rw [hhp]; exact vx_Zq.moved hW0.alike (hN.kept hS.2.1)
  have h : ∀ w ∈ Bundle.ownAtoms own ic cls names, w.before args s' = true := vx_own hat' (vx_isRefq hU'.1) (vx_isRefq hN'.1) hU'.2.word hN'.2.word
  have hown' : s'.vm.findClass own = some m.cls := by rw [hvm]; exact hown
  have hins : (Cond.instantiable cls 6).before args s' = true := h _ (by simp [Bundle.ownAtoms])
  obtain ⟨vm₁, cX, kX, hfX, hkX, -, -, X₁, st1⟩ := Y.newCold hexec (own := own) (C := cls) (index := ik) (n := 6) hown' hk' hins hini'
    (g := F0 m pc ls rest) rfl (by rw [hb]; exact d0) (Nat.le_refl _) (Nat.le_refl _)
  generalize hT1 : (T.setVm vm₁).pushCell { cls := cX, slots := kX.instanceTypes.map defaultValue, vm := .none } = T1 at X₁ st1
  have hcat : (Value.ref T.heap.size).category = 1 := rfl
  have hcellA : T1.heap[T.heap.size]? = some (freshCell cX kX) := by rw [← hT1]; exact State.heap_pushCell_size _ _
  have d3' : decode c.code (pc + 3) = .ok (.dup, 1) := by rw [hb]; exact d3
  have d4' : decode c.code (pc + 4) = .ok (.ldc_w is, 3) := by rw [hb]; exact d4
  have hstr' : vk_R own is text sa s' := vk_R.warm hW0 hstr
  obtain ⟨U, hsteps, hrun, hend, hW, hsame, ce, hce, hO⟩ := X₁.ctorThrowS hexec htr (own := own) (cls := cls) (names := names) (ic := ic) hown' hcls hnames h (fun x hx => nomatch hx) hfX hkX hcellA (by rw [hhp, hT]; exact Nat.le_refl _) (msg := .ref sa) rfl
    (g := { method := m, pc := pc + 7, locals := ls, stack := .ref sa :: .ref T.heap.size :: .ref T.heap.size :: rest, locked := none }) rfl hsize rfl rfl (rest := rest) rfl
    (by rw [hb]; exact d7) (by rw [hb]; exact d10) hout hRframes (by simp only [List.map_cons, List.sum_cons, hcat]; omega) hlocks
  obtain ⟨f1, f2⟩ := vx_frame hsame
  rw [hhp] at f1 f2
  have hWs : s.WarmedH U.vm := State.WarmedH.trans hW0 hW
  have hcl : s.vm.findClass cls = some ce.cls := by
    have h9 := hO.cls
    rw [hvm] at h9
    exact h9
  have hall : s.sameButNew ({ U with vm := s.vm } : State) locs mc ms := by
    subst hA
    obtain ⟨e1, e2⟩ := hsame
    rw [State.setFrames_setFrames] at e1
    have h2 : (T.setVm s.vm).sameButNew ({ U with vm := s.vm } : State) [] (0 + 1) (0 + 6) := ⟨e1, e2⟩
    have h3 := X.same.trans h2
    rw [List.append_nil] at h3
    exact h3.mono hc hs
  refine ⟨U, ?_, .threw T.heap.size, hrun, hend, Or.inr ⟨T.heap.size, rfl, cls, ce, locs, hx U hWs.alike f1 (fun q hq => f2 q hq (fun z hz => nomatch hz)), hce, hO.vm, hcl, hWs, hall, hf⟩⟩
  refine st1 _ ?_
  show Steps p.tables e below (T1.setTop { method := m, pc := pc + 3, locals := ls, stack := .ref T.heap.size :: rest, locked := none }) _
  jvm_step X₁.here [X₁.here.top, hexec, d3', Value.category]
  exact X₁.ldcStringW hexec (own := own) (text := text) (index := is) (a := sa) hown' hstr'.1 hstr'.2
    (g := { method := m, pc := pc + 4, locals := ls, stack := .ref T.heap.size :: .ref T.heap.size :: rest, locked := none }) rfl d4' _ hsteps
end Ends
section Bodies
variable {l : Launch}
theorem vx_ofW {y : MethodName} {ws ws' : List Cond} {rm : Room} {Pc : Array Value → State → Prop} {Qc : Array Value → State → Outcome → State → Prop} {XC : String → State → State → Prop} {mc ms : Nat} {free : Addr → Prop} {cc : ByteArray} {maxL : Nat} {ret : Option FieldType}
    (hy : plainName y.cls = true) (hw : ws = Cond.code y cc maxL ret :: ws')
    (body : ∀ p e s m args below meth c s₁, BodyLoose p l y (headSpec ws rm) cc maxL ret e s m args below meth c s₁ → c.maxLocals = maxL → (∀ x ∈ c.exceptionTable.toList, False) → Pc args s →
      W p l e (headSpec ws rm).room s m args below meth c s.heap [] 0 0 (vx_MQ below Qc XC args s mc ms free) (entryFrame m args maxL)) : vx_Met l y ws rm Pc Qc XC mc ms free := by
  refine MetFree.of_bodyS (code := cc) (maxLocals := maxL) (ret := ret) hy ?_ ?_
  · intro args s m h hn
    obtain ⟨meth, c, h1, h2, h3, h4, h5, h6, -, -⟩ := Cond.code_spec hn (atoms_spec (ws := ws) h _ (by rw [hw]; exact List.mem_cons_self))
    exact ⟨meth, c, h1, h2, h3, h4, h5, h6⟩
  · intro p e s m args below meth c s₁ B hml hP _
    have hh0 : s₁.heap = s.heap := by rw [B.state]; rfl
    have ht : ∀ x ∈ c.exceptionTable.toList, False := by
      obtain ⟨meth9, c9, h1, h2, -, -, -, -, h7, -⟩ := Cond.code_spec B.named (atoms_spec (ws := ws) B.pre _ (by rw [hw]; exact List.mem_cons_self))
      cases Option.some.inj (h1.symm.trans B.method)
      cases Option.some.inj (h2.symm.trans (Stand.of_body B).code)
      intro x hx
      rw [Array.isEmpty_iff.mp h7] at hx
      cases hx
    obtain ⟨t, a1, o, b1, b2, b3⟩ := body p e s m args below meth c s₁ B hml ht hP s₁ hh0 (Stand.of_body B)
    exact ⟨t, o, a1, b1, b2, b3⟩
/-- the table of a body with handlers -/
theorem vx_table {p : Program} {x y : MethodName} {S : Spec} {cc bytes : ByteArray} {maxL maxL' : Nat} {ret ret' : Option FieldType} {e : Env} {s s₁ : State} {m : MethodId} {args : Array Value} {below : List Frame} {meth : Method} {c : Code} {hh : List (Nat × Nat × Nat × Nat)}
    (B : BodyLoose p l y S cc maxL ret e s m args below meth c s₁) (h : (Cond.codeWith y bytes maxL' ret' hh).before args s = true) : c.exceptionTable.toList = tableOf hh := by
  obtain ⟨m9, meth9, c9, hn9, h1, h2, -, -, h6, -⟩ := Cond.codeWith_spec h
  cases Option.some.inj (hn9.symm.trans B.named)
  cases Option.some.inj (h1.symm.trans B.method)
  cases Option.some.inj (h2.symm.trans (Stand.of_body B).code)
  rw [← h6, table_eq]
end Bodies
end VXA
/-! ===== END ===== -/
/-! ===== BEGIN a static call of a method with an exception table ===== -/
section VXS
variable {p : Program} {l : Launch} {e : Env} {R : Room} {s : State} {m : MethodId} {args : Array Value} {below : List Frame} {meth : Method} {c : Code} {T : State} {H : Heap} {locs : List Loc} {cells slots : Nat}
abbrev vx_CSW (R : Room) (s : State) (args : Array Value) (own : String) (index : Nat) (y : MethodName) (bytes : ByteArray) (maxL : Nat) (ret : Option FieldType) (hh : List (Nat × Nat × Nat × Nat)) (ws : List Cond) (rm : Room) (mc ms n : Nat) : Prop :=
  (rm.cells = mc ∧ rm.slots = ms ∧ rm.frames + 1 ≤ R.frames ∧ 8 + (maxL + 11) + rm.locals ≤ R.locals ∧ (∀ w ∈ ws, ∀ (a' : Array Value) (U : State), s.WarmedH U.vm → w.before a' U = true) ∧ Cond.codeWith y bytes maxL ret hh ∈ ws) ∧
  (Cond.codeWith y bytes maxL ret hh).before args s = true ∧ (Cond.initialized y.cls).before args s = true ∧ (y.cls ≠ "java/lang/invoke/MethodHandle" ∧ y.cls ≠ "java/lang/invoke/VarHandle") ∧
  (∀ sig, parseMethodDescriptor y.desc = some sig → n = sig.parameters.length) ∧ (Cond.methodLink own index y).before args s = true ∧ (Cond.static y).before args s = true
theorem vx_cwSW {own : String} {index maxL mc ms : Nat} {y : MethodName} {bytes : ByteArray} {ret : Option FieldType} {hh : List (Nat × Nat × Nat × Nat)} {Ts ws ws' : List Cond} {rm : Room} (n : Nat) (ht : ∀ w ∈ Ts, w.before args s = true) (hT : GoodIn Ts (va_wsS own index y ws)) (hw : ws = Cond.codeWith y bytes maxL ret hh :: ws') (hrc : rm.cells = mc) (hrs : rm.slots = ms)
    (hd : y.cls ≠ "java/lang/invoke/MethodHandle" ∧ y.cls ≠ "java/lang/invoke/VarHandle" ∧ (parseMethodDescriptor y.desc).map (fun d => d.parameters.length) = some n) (hR : rm.frames + 1 ≤ R.frames ∧ 8 + (maxL + 11) + rm.locals ≤ R.locals) :
    vx_CSW R s args own index y bytes maxL ret hh ws rm mc ms n := by
  have ok : ∀ w ∈ va_wsS own index y ws, w.before args s = true := fun w h => ht w (hT w h).1
  have hG : GoodIn Ts ws := fun w h => hT w (by unfold va_wsS; exact List.mem_append_right _ h)
  have hc : Cond.codeWith y bytes maxL ret hh ∈ ws := by rw [hw]; exact List.mem_cons_self
  refine ⟨⟨hrc, hrs, hR.1, hR.2, pay_in ht hG, hc⟩, ht _ (hG _ hc).1, ok _ (by simp [va_wsS]), ⟨hd.1, hd.2.1⟩, fun sig h => ?_, ok _ (by simp [va_wsS]), ok _ (by simp [va_wsS])⟩
  have h2 := hd.2.2
  rw [h] at h2
  exact (Option.some.inj h2).symm
theorem vx_callSW (X : Stand p l e R s m args below meth c T locs cells slots) (hexec : p.tables.exec = Jvm.exec) {own : String} {index : Nat} {y : MethodName} {bytes : ByteArray} {maxL : Nat} {ret : Option FieldType} {hh : List (Nat × Nat × Nat × Nat)}
    (hown : s.vm.findClass own = some m.cls) (hlink : (Cond.methodLink own index y).before args s = true) (hstat : (Cond.static y).before args s = true) (hinit : (Cond.initialized y.cls).before args s = true)
    (hcode : (Cond.codeWith y bytes maxL ret hh).before args s = true) (hy : y.cls ≠ "java/lang/invoke/MethodHandle" ∧ y.cls ≠ "java/lang/invoke/VarHandle")
    {W9 : Nat} {Pre : Pt → Array Value → Prop} {Post : Pt → Array Value → Option Value → Pt → Prop} (hK : Back l R p e below s args y 3 W9 Pre Post)
    {g : JFrame} (hg : g.method = m) (hsize : g.locals.size = c.maxLocals) {argsL rest : List Value} (hlen : ∀ sig, parseMethodDescriptor y.desc = some sig → argsL.length = sig.parameters.length)
    (hstack : g.stack = argsL.reverse ++ rest) (hW : 2 * g.monitorRoom + (rest.map fun v => v.category).sum ≤ W9) (hdg : decode c.code g.pc = .ok (.invokestatic index, 3))
    (hpre : ∀ vm₁, s.WarmedH vm₁ → Pre ⟨T.setVm vm₁, locs, cells, slots⟩ argsL.toArray) :
    ∃ (v : Option Value) (vm₁ : Vm) (B : Pt), s.WarmedH vm₁ ∧ Stand p l e R s m args below meth c B.U B.locs B.cells B.slots ∧ Post ⟨T.setVm vm₁, locs, cells, slots⟩ argsL.toArray v B ∧
      ∀ target, Steps p.tables e below (B.U.setTop { g with pc := g.pc + 3, stack := v.toList ++ rest }) target → Steps p.tables e below (T.setTop g) target := by
  obtain ⟨mk, methM, cM, hnamed, hmethM, -, -, -, -, -, -, hsigM⟩ := Cond.codeWith_spec hcode
  have hstatic : methM.isStatic = true := Cond.static_spec hnamed hmethM hstat
  obtain ⟨kP, hkP, -⟩ := className_of_methodNamed hnamed
  have hinitP : kP.init = .initialized := Cond.initialized_spec (findClass_of_methodNamed hnamed) hkP hinit
  obtain ⟨vm₁, X₁, hstep₁⟩ := X.invokestatic hexec hown hlink hnamed hmethM hstatic hkP hinitP hy (g := g) hg (argsL := argsL) (rest := rest) (hlen _ hsigM) hstack hdg
  obtain ⟨v, B, X', hpost, hsteps⟩ := hK m meth c ⟨T.setVm vm₁, locs, cells, slots⟩ { g with stack := rest } (.invokestatic index) mk argsL.toArray X₁ hg hsize hdg hW (X₁.named hnamed) (hpre vm₁ X₁.warmed)
  exact ⟨v, vm₁, B, X₁.warmed, X', hpost, fun target h => hstep₁ _ fun acts => by rw [doInvoke_state]; exact hsteps.trans h⟩
theorem vx_runSW {y : MethodName} {bytes cc : ByteArray} {maxL nL mc ms n index : Nat} {ret : Option FieldType} {hh : List (Nat × Nat × Nat × Nat)} {ws : List Cond} {rm : Room} {Pc : Array Value → State → Prop} {Qc : Array Value → State → Outcome → State → Prop} {free : Addr → Prop} {Ts : List Cond} {own : String} {As rest : List Value} {g : JFrame}
    (S : CallFix p m c cc nL s args Ts own) (hM : Met l y ws rm Pc Qc mc ms free) (cw : vx_CSW R s args own index y bytes maxL ret hh ws rm mc ms n) (hp : PreS s H Pc As)
    (hg : g.method = m) (hn : As.length = n) (hsize : g.locals.size = nL) (hstack : g.stack = As.reverse ++ rest) (hW : 2 * g.monitorRoom + (rest.map fun v => v.category).sum ≤ 8) (hdg : decode cc g.pc = .ok (.invokestatic index, 3)) (hf : cells + mc ≤ R.cells ∧ slots + ms ≤ R.slots) :
    va_Run p l e R s m args below meth c H locs cells slots mc ms g rest (Qc As.toArray) (free) := by
  obtain ⟨⟨hrc, hrs, hfr, hlo, hws, hcw⟩, hcode, hini, hy, hlen, hl, hstt⟩ := cw
  have hK : Back l R p e below s args y 3 8 (PreOf R mc ms Pc) (PostOf Qc mc ms free) := va_backW (hh := hh) (bytes := bytes) (maxL := maxL) (ret := ret) hM hp.1 hrc hrs hfr hlo hws hcw (fun a' U hW => word_at hW (Or.inl (by first | rfl | simp [Cond.onTables, Cond.keeps, Cond.steady])) hini)
  obtain ⟨hx, hb, hml, ho, -⟩ := S
  intro T hT X
  obtain ⟨v, vm₁, ⟨U', l2, c2, s2⟩, hW₁, X', ⟨g', mk, t, L, e1, e2, hq, h1, hL, h2, h3⟩, st⟩ := vx_callSW X hx (hh := hh) (bytes := bytes) (maxL := maxL) (ret := ret) ho hl hstt hini hcode hy hK hg (hsize.trans hml.symm) (argsL := As) (rest := rest) (fun sig h => hn.trans (hlen sig h)) hstack hW (by rw [hb]; exact hdg)
    (fun vm₁ hW₁ => ⟨hf.1, hf.2, hp.2 (T.setVm vm₁) hT hW₁⟩)
  dsimp only [Pt.U, Pt.locs, Pt.cells, Pt.slots] at X' e1 e2 h1 h2 h3 st
  subst h1; subst h2; subst h3
  exact ⟨v, (T.setVm vm₁).calling g' mk As.toArray, t, U', L, hT, X', hL, e1, e2, hq, st⟩
/-- a thing of a world lies in the heap -/
theorem vx_lt {D : va_G} {cl : List vw_C} {ws : va_W} {H1 : Heap} (h : va_P D cl ws H1) {k : Nat} {q : Nat × va_E} (hk : ws[k]? = some q) : q.1 < H1.size := (h k q hk).lt
end VXS
/-! ===== END ===== -/
/-! ===== BEGIN methods with a table of their own: called by a name, returning or throwing ===== -/
section VXH
/-! vx_backW, vx_callVX, vx_callSX, vx_callVW, vx_runVW, vx_runVX, vx_runSX, vx_ofWH follow the same proofs as their sisters above (Free/Laws.lean, Shelf42/LK1.lean); vx_outP calls Shelf42/NT130.lean (outThrough). -/
section
variable {l : Launch} {R : Room} {p : Program} {e : Env} {below : List Frame} {s : State} {sargs : Array Value} {y : MethodName} {len W9 : Nat}
theorem vx_backW {ws : List Cond} {rm : Room} {Pc : Array Value → State → Prop} {Qc : Array Value → State → Outcome → State → Prop} {XC : String → State → State → Prop} {mc ms : Nat} {free : Addr → Prop} {bytes : ByteArray} {maxL : Nat} {ret : Option FieldType} {hh : List (Nat × Nat × Nat × Nat)}
    (hM : vx_Met l y ws rm Pc Qc XC mc ms free) (hblind : FrameBlind Pc) (hrc : rm.cells = mc) (hrs : rm.slots = ms)
    (hframes : rm.frames + 1 ≤ R.frames) (hlocals : W9 + (maxL + 11) + rm.locals ≤ R.locals)
    (hws : ∀ w ∈ ws, ∀ a' U, s.WarmedH U.vm → w.before a' U = true) (hcode : Cond.codeWith y bytes maxL ret hh ∈ ws) (hinit : ∀ a' U, s.WarmedH U.vm → (Cond.initialized y.cls).before a' U = true) :
    vx_Back l R p e below s sargs y len W9 (PreOf R mc ms Pc) (PostOf Qc mc ms free) (vx_Post XC mc ms free) := by
  intro m meth c A g ig mk a X hg hsize hdg hW hn hp
  have h1 : (headSpec ws rm).pre.before a A.U = true := atoms_intro fun w hw => hws w hw _ _ X.warmed
  have h2 : (Cond.codeWith y bytes maxL ret hh).before a A.U = true := hws _ hcode _ _ X.warmed
  have h3 : (Cond.initialized y.cls).before a A.U = true := hinit _ _ X.warmed
  have h4 : A.cells + (headSpec ws rm).room.cells ≤ R.cells := by rw [show (headSpec ws rm).room.cells = mc from hrc]; exact hp.1
  have h5 : A.slots + (headSpec ws rm).room.slots ≤ R.slots := by rw [show (headSpec ws rm).room.slots = ms from hrs]; exact hp.2.1
  have hPc : Pc a (A.U.calling g mk a) := hblind _ _ _ _ hp.2.2
  obtain ⟨U, Ls, c0, s0⟩ := A
  dsimp only [Pt.U, Pt.locs, Pt.cells, Pt.slots] at h1 h2 h3 h4 h5 X hn hPc ⊢
  obtain ⟨m9, methY, cY, hn9, hmY, hcY, -, hlY, -⟩ := Cond.codeWith_spec h2
  cases Option.some.inj (hn9.symm.trans hn)
  obtain ⟨kY, hkY, -⟩ := className_of_methodNamed hn
  have hinitY : kY.init = .initialized := Cond.initialized_spec (findClass_of_methodNamed hn) hkY h3
  have h : At U g.method c below := by rw [hg]; exact X.here
  have hlocals9 : W9 + (maxL + 11) + (headSpec ws rm).room.locals ≤ R.locals := hlocals
  have happ : (headSpec ws rm).appliesLoose y e.platform (U.calling g mk a) = true :=
    Spec.appliesLoose_calling (g := g) h hdg hn hkY hinitY
      (X.room_calling (g := g) (R' := (headSpec ws rm).room) hsize hmY hcY hframes (by rw [hlY]; omega) h4 h5) h1
  obtain ⟨mid, hmid⟩ := h.above
  have hfr : (U.setTop g).frames = (.java g :: mid) ++ below := by rw [State.frames_setTop' g h.top, hmid]; rfl
  obtain ⟨o, s₂, hsteps, -, hend, hq⟩ := Steps.callFree hM p X.admits X.cas X.clock (acts := []) hfr happ hPc trivial
  have hq' : vx_Q Qc XC mc ms free a (U.calling g mk a) o s₂ := hq
  rw [State.frames_setTop' g h.top] at hend
  obtain ⟨g₀, hg0⟩ := Option.isSome_iff_exists.mp h.top
  obtain ⟨r, hr⟩ := State.topJava?_eq_some.mp hg0
  have hr' : (({ U with heap := s₂.heap, slotsUsed := s₂.slotsUsed } : State).setVm s₂.vm).frames = .java g₀ :: r := hr
  rcases hq' with ⟨hqc, L, hfe, hL⟩ | ⟨q, rfl, E, ce, L, hx, hce, hcv, hcl, hW₂, hsm, hL⟩
  · obtain ⟨⟨v, rfl⟩, hW₂, e2, q2, q3, q4, q5, q6⟩ := id hfe
    have e3 : s₂ = ({ (U.calling g mk a).setFrames s₂.frames with heap := s₂.heap, slotsUsed := s₂.slotsUsed } : State).setVm s₂.vm := by
      have : s₂ = ({ s₂ with vm := (U.calling g mk a).vm } : State).setVm s₂.vm := rfl
      rw [e2] at this
      exact this
    obtain ⟨c₂, i₂, len₂, hc₂, hd₂, hf₂⟩ := hend
    have hW' : U.WarmedH s₂.vm := hW₂
    have hcc : c₂ = c := by
      have h1 : s₂.code? g.method = U.code? g.method := by
        rw [State.code?_eq, State.code?_eq, hW'.alike.method?]
      exact Option.some.inj (hc₂.symm.trans (h1.trans h.code))
    subst hcc
    have hlen : len₂ = len := by rw [hdg] at hd₂; cases hd₂; rfl
    subst hlen
    have hs₂ : s₂ = (({ U with heap := s₂.heap, slotsUsed := s₂.slotsUsed } : State).setVm s₂.vm).setTop { g with pc := g.pc + len₂, stack := v.toList ++ g.stack } := by
      refine e3.trans ?_
      rw [hf₂, State.calling_eq h.top, State.setFrames_setFrames, State.setTop_of_frames _ hr', hr]
      rfl
    have hsame : U.sameButNew ({ U with heap := s₂.heap, slotsUsed := s₂.slotsUsed } : State) L mc ms := by
      refine ⟨?_, q2, q3, q4, q5, q6⟩
      obtain ⟨t, ht, -⟩ := State.frames_cons hr
      show ({ U with heap := s₂.heap, slotsUsed := s₂.slotsUsed } : State) = { U.setFrames U.frames with heap := s₂.heap, slotsUsed := s₂.slotsUsed }
      rw [State.setFrames_self ht]
    subst hg
    refine Or.inl ⟨v, ⟨(({ U with heap := s₂.heap, slotsUsed := s₂.slotsUsed } : State).setVm s₂.vm), Ls ++ L, c0 + mc, s0 + ms⟩,
      ⟨X.admits, X.cas, X.clock, X.frames, X.room, X.hears, X.method, X.code, (X.here.setHeapUsed s₂.heap s₂.slotsUsed).setVm hW'.alike, X.tail, State.WarmedH.trans X.warmed hW', X.limits, X.bytes, X.same.trans (hsame.setVm s.vm)⟩,
      ⟨g, mk, s₂, L, rfl, rfl, hqc, rfl, hL, rfl, rfl⟩, ?_⟩
    show Steps p.tables e below _ ((({ U with heap := s₂.heap, slotsUsed := s₂.slotsUsed } : State).setVm s₂.vm).setTop { g with pc := g.pc + len₂, stack := v.toList ++ g.stack })
    rw [← hs₂]
    exact hsteps
  · obtain ⟨e2, q2, q3, q4, q5, q6⟩ := id hsm
    have e3 : s₂ = ({ (U.calling g mk a).setFrames s₂.frames with heap := s₂.heap, slotsUsed := s₂.slotsUsed } : State).setVm s₂.vm := by
      have : s₂ = ({ s₂ with vm := (U.calling g mk a).vm } : State).setVm s₂.vm := rfl
      rw [e2] at this
      exact this
    have hf₂ : s₂.frames = .throwing q :: .java g :: U.frames.tail := hend
    have hW' : U.WarmedH s₂.vm := hW₂
    have hs₂ : s₂ = ((({ U with heap := s₂.heap, slotsUsed := s₂.slotsUsed } : State).setVm s₂.vm).setTop g).pushFrame (.throwing q) := by
      refine e3.trans ?_
      rw [hf₂, State.calling_eq h.top, State.setFrames_setFrames, State.pushFrame, State.frames_setTop _ hr', State.setTop_of_frames _ hr', State.setFrames_setFrames, hr]
      rfl
    have hsame : U.sameButNew ({ U with heap := s₂.heap, slotsUsed := s₂.slotsUsed } : State) L mc ms := by
      refine ⟨?_, q2, q3, q4, q5, q6⟩
      obtain ⟨t, ht, -⟩ := State.frames_cons hr
      show ({ U with heap := s₂.heap, slotsUsed := s₂.slotsUsed } : State) = { U.setFrames U.frames with heap := s₂.heap, slotsUsed := s₂.slotsUsed }
      rw [State.setFrames_self ht]
    subst hg
    refine Or.inr ⟨q, ⟨(({ U with heap := s₂.heap, slotsUsed := s₂.slotsUsed } : State).setVm s₂.vm), Ls ++ L, c0 + mc, s0 + ms⟩,
      ⟨X.admits, X.cas, X.clock, X.frames, X.room, X.hears, X.method, X.code, (X.here.setHeapUsed s₂.heap s₂.slotsUsed).setVm hW'.alike, X.tail, State.WarmedH.trans X.warmed hW', X.limits, X.bytes, X.same.trans (hsame.setVm s.vm)⟩,
      ⟨g, mk, s₂, L, E, ce, rfl, rfl, hx, hce, hcv, hcl, rfl, hL, rfl, rfl⟩, ?_⟩
    show Steps p.tables e below _ (((({ U with heap := s₂.heap, slotsUsed := s₂.slotsUsed } : State).setVm s₂.vm).setTop g).pushFrame (.throwing q))
    rw [← hs₂]
    exact hsteps
end
variable {p : Program} {l : Launch} {e : Env} {R : Room} {s : State} {m : MethodId} {args : Array Value} {below : List Frame} {meth : Method} {c : Code} {T : State} {H : Heap} {locs : List Loc} {cells slots : Nat}
theorem vx_callVX (X : Stand p l e R s m args below meth c T locs cells slots) (hexec : p.tables.exec = Jvm.exec) {own C : String} {index : Nat} {y : MethodName} {bytes : ByteArray} {maxL : Nat} {ret : Option FieldType} {hh : List (Nat × Nat × Nat × Nat)}
    (hown : s.vm.findClass own = some m.cls) (hlink : (Cond.methodLink own index y).before args s = true) (hinst : (Cond.instanceMethod y).before args s = true) (hsel : (Cond.selects C y y).before args s = true)
    (hcode : (Cond.codeWith y bytes maxL ret hh).before args s = true) (hy : y.cls ≠ "java/lang/invoke/MethodHandle" ∧ y.cls ≠ "java/lang/invoke/VarHandle")
    {W9 : Nat} {Pre : Pt → Array Value → Prop} {Post : Pt → Array Value → Option Value → Pt → Prop} {PostX : Pt → Array Value → Addr → Pt → Prop} (hK : vx_Back l R p e below s args y 3 W9 Pre Post PostX)
    {b : Addr} {cellB : Cell} (hcell : T.heap[b]? = some cellB) (hobj : cellB.vm.isStatics = false) (hcls : s.vm.findClass C = some cellB.cls)
    {g : JFrame} (hg : g.method = m) (hsize : g.locals.size = c.maxLocals) {argsL rest : List Value} (hlen : ∀ sig, parseMethodDescriptor y.desc = some sig → argsL.length = sig.parameters.length)
    (hstack : g.stack = argsL.reverse ++ .ref b :: rest) (hW : 2 * g.monitorRoom + (rest.map fun v => v.category).sum ≤ W9) (hdg : decode c.code g.pc = .ok (.invokevirtual index, 3))
    (hpre : ∀ vm₁, s.WarmedH vm₁ → Pre ⟨T.setVm vm₁, locs, cells, slots⟩ (Value.ref b :: argsL).toArray) :
    (∃ (v : Option Value) (vm₁ : Vm) (B : Pt), s.WarmedH vm₁ ∧ Stand p l e R s m args below meth c B.U B.locs B.cells B.slots ∧ Post ⟨T.setVm vm₁, locs, cells, slots⟩ (Value.ref b :: argsL).toArray v B ∧
      ∀ target, Steps p.tables e below (B.U.setTop { g with pc := g.pc + 3, stack := v.toList ++ rest }) target → Steps p.tables e below (T.setTop g) target) ∨
    (∃ (q : Addr) (vm₁ : Vm) (B : Pt), s.WarmedH vm₁ ∧ Stand p l e R s m args below meth c B.U B.locs B.cells B.slots ∧ PostX ⟨T.setVm vm₁, locs, cells, slots⟩ (Value.ref b :: argsL).toArray q B ∧
      Steps p.tables e below (T.setTop g) ((B.U.setTop { g with stack := rest }).pushFrame (.throwing q))) := by
  obtain ⟨mk, methM, hnamed, hmethM, hstM, habM⟩ := Cond.instanceMethod_spec hinst
  obtain ⟨m8, methM', cM, hn8, hmethM', -, -, -, -, -, -, hsigM⟩ := Cond.codeWith_spec hcode
  cases Option.some.inj (hn8.symm.trans hnamed)
  cases hmethM.symm.trans hmethM'
  obtain ⟨c2, r2, m2, q1, q2, q3, q4, kP, hkP, hkPi⟩ := Cond.selects_spec hsel
  cases hcls.symm.trans q1
  cases (State.methodFound?_of_named hnamed hy).symm.trans q2
  cases hnamed.symm.trans q3
  have hselP : selectMethod e.platform s.vm cellB.cls mk = .method mk := by rw [Launch.admits_selectMethod X.admits]; exact q4
  obtain ⟨vm₁, X₁, hstep₁⟩ := X.invokevirtual hexec hown hlink hnamed hmethM hstM hkP hkPi hy (a := b) (cell := cellB) hcell
    (fun z h => by rw [h] at hobj; cases hobj) hselP hmethM habM hkP hkPi (g := g) hg (argsL := argsL) (rest := rest) (hlen _ hsigM) hstack hdg
  rcases hK m meth c ⟨T.setVm vm₁, locs, cells, slots⟩ { g with stack := rest } (.invokevirtual index) mk (Value.ref b :: argsL).toArray X₁ hg hsize hdg hW (X₁.named hnamed) (hpre vm₁ X₁.warmed) with ⟨v, B, X', hpost, hsteps⟩ | ⟨q, B, X', hpost, hsteps⟩
  · exact Or.inl ⟨v, vm₁, B, X₁.warmed, X', hpost, fun target h => hstep₁ _ fun acts => by rw [doInvoke_state]; exact hsteps.trans h⟩
  · exact Or.inr ⟨q, vm₁, B, X₁.warmed, X', hpost, hstep₁ _ fun acts => by rw [doInvoke_state]; exact hsteps⟩
theorem vx_callSX (X : Stand p l e R s m args below meth c T locs cells slots) (hexec : p.tables.exec = Jvm.exec) {own : String} {index : Nat} {y : MethodName} {bytes : ByteArray} {maxL : Nat} {ret : Option FieldType} {hh : List (Nat × Nat × Nat × Nat)}
    (hown : s.vm.findClass own = some m.cls) (hlink : (Cond.methodLink own index y).before args s = true) (hstat : (Cond.static y).before args s = true) (hinit : (Cond.initialized y.cls).before args s = true)
    (hcode : (Cond.codeWith y bytes maxL ret hh).before args s = true) (hy : y.cls ≠ "java/lang/invoke/MethodHandle" ∧ y.cls ≠ "java/lang/invoke/VarHandle")
    {W9 : Nat} {Pre : Pt → Array Value → Prop} {Post : Pt → Array Value → Option Value → Pt → Prop} {PostX : Pt → Array Value → Addr → Pt → Prop} (hK : vx_Back l R p e below s args y 3 W9 Pre Post PostX)
    {g : JFrame} (hg : g.method = m) (hsize : g.locals.size = c.maxLocals) {argsL rest : List Value} (hlen : ∀ sig, parseMethodDescriptor y.desc = some sig → argsL.length = sig.parameters.length)
    (hstack : g.stack = argsL.reverse ++ rest) (hW : 2 * g.monitorRoom + (rest.map fun v => v.category).sum ≤ W9) (hdg : decode c.code g.pc = .ok (.invokestatic index, 3))
    (hpre : ∀ vm₁, s.WarmedH vm₁ → Pre ⟨T.setVm vm₁, locs, cells, slots⟩ argsL.toArray) :
    (∃ (v : Option Value) (vm₁ : Vm) (B : Pt), s.WarmedH vm₁ ∧ Stand p l e R s m args below meth c B.U B.locs B.cells B.slots ∧ Post ⟨T.setVm vm₁, locs, cells, slots⟩ argsL.toArray v B ∧
      ∀ target, Steps p.tables e below (B.U.setTop { g with pc := g.pc + 3, stack := v.toList ++ rest }) target → Steps p.tables e below (T.setTop g) target) ∨
    (∃ (q : Addr) (vm₁ : Vm) (B : Pt), s.WarmedH vm₁ ∧ Stand p l e R s m args below meth c B.U B.locs B.cells B.slots ∧ PostX ⟨T.setVm vm₁, locs, cells, slots⟩ argsL.toArray q B ∧
      Steps p.tables e below (T.setTop g) ((B.U.setTop { g with stack := rest }).pushFrame (.throwing q))) := by
  obtain ⟨mk, methM, cM, hnamed, hmethM, -, -, -, -, -, -, hsigM⟩ := Cond.codeWith_spec hcode
  have hstatic : methM.isStatic = true := Cond.static_spec hnamed hmethM hstat
  obtain ⟨kP, hkP, -⟩ := className_of_methodNamed hnamed
  have hinitP : kP.init = .initialized := Cond.initialized_spec (findClass_of_methodNamed hnamed) hkP hinit
  obtain ⟨vm₁, X₁, hstep₁⟩ := X.invokestatic hexec hown hlink hnamed hmethM hstatic hkP hinitP hy (g := g) hg (argsL := argsL) (rest := rest) (hlen _ hsigM) hstack hdg
  rcases hK m meth c ⟨T.setVm vm₁, locs, cells, slots⟩ { g with stack := rest } (.invokestatic index) mk argsL.toArray X₁ hg hsize hdg hW (X₁.named hnamed) (hpre vm₁ X₁.warmed) with ⟨v, B, X', hpost, hsteps⟩ | ⟨q, B, X', hpost, hsteps⟩
  · exact Or.inl ⟨v, vm₁, B, X₁.warmed, X', hpost, fun target h => hstep₁ _ fun acts => by rw [doInvoke_state]; exact hsteps.trans h⟩
  · exact Or.inr ⟨q, vm₁, B, X₁.warmed, X', hpost, hstep₁ _ fun acts => by rw [doInvoke_state]; exact hsteps⟩
theorem vx_callVW (X : Stand p l e R s m args below meth c T locs cells slots) (hexec : p.tables.exec = Jvm.exec) {own C : String} {index : Nat} {y : MethodName} {bytes : ByteArray} {maxL : Nat} {ret : Option FieldType} {hh : List (Nat × Nat × Nat × Nat)}
    (hown : s.vm.findClass own = some m.cls) (hlink : (Cond.methodLink own index y).before args s = true) (hinst : (Cond.instanceMethod y).before args s = true) (hsel : (Cond.selects C y y).before args s = true)
    (hcode : (Cond.codeWith y bytes maxL ret hh).before args s = true) (hy : y.cls ≠ "java/lang/invoke/MethodHandle" ∧ y.cls ≠ "java/lang/invoke/VarHandle")
    {W9 : Nat} {Pre : Pt → Array Value → Prop} {Post : Pt → Array Value → Option Value → Pt → Prop} (hK : Back l R p e below s args y 3 W9 Pre Post)
    {b : Addr} {cellB : Cell} (hcell : T.heap[b]? = some cellB) (hobj : cellB.vm.isStatics = false) (hcls : s.vm.findClass C = some cellB.cls)
    {g : JFrame} (hg : g.method = m) (hsize : g.locals.size = c.maxLocals) {argsL rest : List Value} (hlen : ∀ sig, parseMethodDescriptor y.desc = some sig → argsL.length = sig.parameters.length)
    (hstack : g.stack = argsL.reverse ++ .ref b :: rest) (hW : 2 * g.monitorRoom + (rest.map fun v => v.category).sum ≤ W9) (hdg : decode c.code g.pc = .ok (.invokevirtual index, 3))
    (hpre : ∀ vm₁, s.WarmedH vm₁ → Pre ⟨T.setVm vm₁, locs, cells, slots⟩ (Value.ref b :: argsL).toArray) :
    ∃ (v : Option Value) (vm₁ : Vm) (B : Pt), s.WarmedH vm₁ ∧ Stand p l e R s m args below meth c B.U B.locs B.cells B.slots ∧ Post ⟨T.setVm vm₁, locs, cells, slots⟩ (Value.ref b :: argsL).toArray v B ∧
      ∀ target, Steps p.tables e below (B.U.setTop { g with pc := g.pc + 3, stack := v.toList ++ rest }) target → Steps p.tables e below (T.setTop g) target := by
  obtain ⟨mk, methM, hnamed, hmethM, hstM, habM⟩ := Cond.instanceMethod_spec hinst
  obtain ⟨m8, methM', cM, hn8, hmethM', -, -, -, -, -, -, hsigM⟩ := Cond.codeWith_spec hcode
  cases Option.some.inj (hn8.symm.trans hnamed)
  cases hmethM.symm.trans hmethM'
  obtain ⟨c2, r2, m2, q1, q2, q3, q4, kP, hkP, hkPi⟩ := Cond.selects_spec hsel
  cases hcls.symm.trans q1
  cases (State.methodFound?_of_named hnamed hy).symm.trans q2
  cases hnamed.symm.trans q3
  have hselP : selectMethod e.platform s.vm cellB.cls mk = .method mk := by rw [Launch.admits_selectMethod X.admits]; exact q4
  obtain ⟨vm₁, X₁, hstep₁⟩ := X.invokevirtual hexec hown hlink hnamed hmethM hstM hkP hkPi hy (a := b) (cell := cellB) hcell
    (fun z h => by rw [h] at hobj; cases hobj) hselP hmethM habM hkP hkPi (g := g) hg (argsL := argsL) (rest := rest) (hlen _ hsigM) hstack hdg
  obtain ⟨v, B, X', hpost, hsteps⟩ := hK m meth c ⟨T.setVm vm₁, locs, cells, slots⟩ { g with stack := rest } (.invokevirtual index) mk (Value.ref b :: argsL).toArray X₁ hg hsize hdg hW (X₁.named hnamed) (hpre vm₁ X₁.warmed)
  exact ⟨v, vm₁, B, X₁.warmed, X', hpost, fun target h => hstep₁ _ fun acts => by rw [doInvoke_state]; exact hsteps.trans h⟩
abbrev vx_CVW (R : Room) (s : State) (args : Array Value) (own C : String) (index : Nat) (y : MethodName) (bytes : ByteArray) (maxL : Nat) (ret : Option FieldType) (hh : List (Nat × Nat × Nat × Nat)) (ws : List Cond) (rm : Room) (mc ms n : Nat) : Prop :=
  (rm.cells = mc ∧ rm.slots = ms ∧ rm.frames + 1 ≤ R.frames ∧ 8 + (maxL + 11) + rm.locals ≤ R.locals ∧ (∀ w ∈ ws, ∀ (a' : Array Value) (U : State), s.WarmedH U.vm → w.before a' U = true) ∧ Cond.codeWith y bytes maxL ret hh ∈ ws) ∧
  (Cond.codeWith y bytes maxL ret hh).before args s = true ∧ (Cond.initialized y.cls).before args s = true ∧ (y.cls ≠ "java/lang/invoke/MethodHandle" ∧ y.cls ≠ "java/lang/invoke/VarHandle") ∧
  (∀ sig, parseMethodDescriptor y.desc = some sig → n = sig.parameters.length) ∧ (Cond.methodLink own index y).before args s = true ∧ (Cond.instanceMethod y).before args s = true ∧ (Cond.selects C y y).before args s = true
theorem vx_cwVW {own C : String} {index maxL mc ms : Nat} {y : MethodName} {bytes : ByteArray} {ret : Option FieldType} {hh : List (Nat × Nat × Nat × Nat)} {Ts ws ws' : List Cond} {rm : Room} (n : Nat) (ht : ∀ w ∈ Ts, w.before args s = true) (hT : GoodIn Ts (wsV own index C y ws)) (hw : ws = Cond.codeWith y bytes maxL ret hh :: ws') (hrc : rm.cells = mc) (hrs : rm.slots = ms)
    (hd : y.cls = C ∧ y.cls ≠ "java/lang/invoke/MethodHandle" ∧ y.cls ≠ "java/lang/invoke/VarHandle" ∧ (parseMethodDescriptor y.desc).map (fun d => d.parameters.length) = some n) (hR : rm.frames + 1 ≤ R.frames ∧ 8 + (maxL + 11) + rm.locals ≤ R.locals) :
    vx_CVW R s args own C index y bytes maxL ret hh ws rm mc ms n := by
  obtain ⟨hC, hd⟩ := hd
  subst hC
  have ok : ∀ w ∈ wsV own index y.cls y ws, w.before args s = true := fun w h => ht w (hT w h).1
  have hG : GoodIn Ts ws := fun w h => hT w (by unfold wsV; exact List.mem_append_right _ h)
  have hc : Cond.codeWith y bytes maxL ret hh ∈ ws := by rw [hw]; exact List.mem_cons_self
  refine ⟨⟨hrc, hrs, hR.1, hR.2, pay_in ht hG, hc⟩, ht _ (hG _ hc).1, ok _ (by simp [wsV]), ⟨hd.1, hd.2.1⟩, fun sig h => ?_, ok _ (by simp [wsV]), ok _ (by simp [wsV]), ok _ (by simp [wsV])⟩
  have h2 := hd.2.2
  rw [h] at h2
  exact (Option.some.inj h2).symm
theorem vx_runVW {y : MethodName} {bytes cc : ByteArray} {maxL nL mc ms n index : Nat} {ret : Option FieldType} {hh : List (Nat × Nat × Nat × Nat)} {ws : List Cond} {rm : Room} {Pc : Array Value → State → Prop} {Qc : Array Value → State → Outcome → State → Prop} {free : Addr → Prop} {Ts : List Cond} {own C : String} {b : Addr} {As rest : List Value} {g : JFrame}
    (S : CallFix p m c cc nL s args Ts own) (hM : Met l y ws rm Pc Qc mc ms free) (cw : vx_CVW R s args own C index y bytes maxL ret hh ws rm mc ms n) (hp : PreV s H C b Pc As)
    (hg : g.method = m) (hn : As.length = n) (hsize : g.locals.size = nL) (hstack : g.stack = As.reverse ++ .ref b :: rest) (hW : 2 * g.monitorRoom + (rest.map fun v => v.category).sum ≤ 8) (hdg : decode cc g.pc = .ok (.invokevirtual index, 3)) (hf : cells + mc ≤ R.cells ∧ slots + ms ≤ R.slots) :
    va_Run p l e R s m args below meth c H locs cells slots mc ms g rest (Qc (Value.ref b :: As).toArray) free := by
  obtain ⟨⟨hrc, hrs, hfr, hlo, hws, hcw⟩, hcode, hini, hy, hlen, hl, hin, hse⟩ := cw
  have hK : Back l R p e below s args y 3 8 (PreOf R mc ms Pc) (PostOf Qc mc ms free) := va_backW (hh := hh) (bytes := bytes) (maxL := maxL) (ret := ret) hM hp.1 hrc hrs hfr hlo hws hcw (fun a' U hW => word_at hW (Or.inl (by first | rfl | simp [Cond.onTables, Cond.keeps, Cond.steady])) hini)
  obtain ⟨hx, hb, hml, ho, -⟩ := S
  obtain ⟨-, ⟨cellB, hcB, hoB, hclB⟩, hPc⟩ := hp
  intro T hT X
  obtain ⟨v, vm₁, ⟨U', l2, c2, s2⟩, hW₁, X', ⟨g', mk, t, L, e1, e2, hq, h1, hL, h2, h3⟩, st⟩ := vx_callVW X hx (C := C) (hh := hh) (bytes := bytes) (maxL := maxL) (ret := ret) ho hl hin hse hcode hy hK (by rw [hT]; exact hcB) hoB hclB hg (hsize.trans hml.symm) (argsL := As) (rest := rest) (fun sig h => hn.trans (hlen sig h)) hstack hW (by rw [hb]; exact hdg)
    (fun vm₁ hW₁ => ⟨hf.1, hf.2, hPc (T.setVm vm₁) hT hW₁⟩)
  dsimp only [Pt.U, Pt.locs, Pt.cells, Pt.slots] at X' e1 e2 h1 h2 h3 st
  subst h1; subst h2; subst h3
  exact ⟨v, (T.setVm vm₁).calling g' mk (Value.ref b :: As).toArray, t, U', L, hT, X', hL, e1, e2, hq, st⟩
section
variable {y : MethodName} {bytes cc : ByteArray} {maxL nL mc ms n index : Nat} {ret : Option FieldType} {ws : List Cond} {rm : Room} {Pc : Array Value → State → Prop} {Qc : Array Value → State → Outcome → State → Prop} {XC : String → State → State → Prop} {free : Addr → Prop} {Ts : List Cond} {own C : String} {b : Addr} {As rest : List Value} {g : JFrame}
theorem vx_runVX {hh : List (Nat × Nat × Nat × Nat)} (S : CallFix p m c cc nL s args Ts own) (hM : vx_Met l y ws rm Pc Qc XC mc ms free) (cw : vx_CVW R s args own C index y bytes maxL ret hh ws rm mc ms n) (hp : PreV s H C b Pc As)
    (hg : g.method = m) (hn : As.length = n) (hsize : g.locals.size = nL) (hstack : g.stack = As.reverse ++ .ref b :: rest) (hW : 2 * g.monitorRoom + (rest.map fun v => v.category).sum ≤ 8) (hdg : decode cc g.pc = .ok (.invokevirtual index, 3)) (hf : cells + mc ≤ R.cells ∧ slots + ms ≤ R.slots) :
    vx_Run p l e R s m args below meth c H locs cells slots mc ms g rest (Qc (Value.ref b :: As).toArray) XC free := by
  obtain ⟨⟨hrc, hrs, hfr, hlo, hws, hcw⟩, hcode, hini, hy, hlen, hl, hin, hse⟩ := cw
  have hK : vx_Back l R p e below s args y 3 8 (PreOf R mc ms Pc) (PostOf Qc mc ms free) (vx_Post XC mc ms free) := vx_backW (hh := hh) (bytes := bytes) (maxL := maxL) (ret := ret) hM hp.1 hrc hrs hfr hlo hws hcw (fun a' U hW => word_at hW (Or.inl (by first | rfl | simp [Cond.onTables, Cond.keeps, Cond.steady])) hini)
  obtain ⟨hx, hb, hml, ho, -⟩ := S
  obtain ⟨-, ⟨cellB, hcB, hoB, hclB⟩, hPc⟩ := hp
  intro T hT X
  rcases vx_callVX X hx (C := C) (hh := hh) (bytes := bytes) (maxL := maxL) (ret := ret) ho hl hin hse hcode hy hK (by rw [hT]; exact hcB) hoB hclB hg (hsize.trans hml.symm) (argsL := As) (rest := rest) (fun sig h => hn.trans (hlen sig h)) hstack hW (by rw [hb]; exact hdg)
    (fun vm₁ hW₁ => ⟨hf.1, hf.2, hPc (T.setVm vm₁) hT hW₁⟩) with ⟨v, vm₁, ⟨U', l2, c2, s2⟩, hW₁, X', ⟨g', mk, t, L, e1, e2, hq, h1, hL, h2, h3⟩, st⟩ | ⟨q, vm₁, ⟨U', l2, c2, s2⟩, hW₁, X', ⟨g', mk, t, L, E, ce, e1, e2, hq, hce, hcv, hcl, h1, hL, h2, h3⟩, st⟩
  · dsimp only [Pt.U, Pt.locs, Pt.cells, Pt.slots] at X' e1 e2 h1 h2 h3 st
    subst h1; subst h2; subst h3
    exact Or.inl ⟨v, (T.setVm vm₁).calling g' mk (Value.ref b :: As).toArray, t, U', L, hT, X', hL, e1, e2, hq, st⟩
  · dsimp only [Pt.U, Pt.locs, Pt.cells, Pt.slots] at X' e1 e2 h1 h2 h3 st hcl
    subst h1; subst h2; subst h3
    exact Or.inr ⟨q, (T.setVm vm₁).calling g' mk (Value.ref b :: As).toArray, t, U', L, E, ce, hT, X', hL, e1, e2, hq, hce, hcv, vx_cls hW₁ hcl, st⟩
theorem vx_runSX {hh : List (Nat × Nat × Nat × Nat)} (S : CallFix p m c cc nL s args Ts own) (hM : vx_Met l y ws rm Pc Qc XC mc ms free) (cw : vx_CSW R s args own index y bytes maxL ret hh ws rm mc ms n) (hp : PreS s H Pc As)
    (hg : g.method = m) (hn : As.length = n) (hsize : g.locals.size = nL) (hstack : g.stack = As.reverse ++ rest) (hW : 2 * g.monitorRoom + (rest.map fun v => v.category).sum ≤ 8) (hdg : decode cc g.pc = .ok (.invokestatic index, 3)) (hf : cells + mc ≤ R.cells ∧ slots + ms ≤ R.slots) :
    vx_Run p l e R s m args below meth c H locs cells slots mc ms g rest (Qc As.toArray) XC free := by
  obtain ⟨⟨hrc, hrs, hfr, hlo, hws, hcw⟩, hcode, hini, hy, hlen, hl, hstt⟩ := cw
  have hK : vx_Back l R p e below s args y 3 8 (PreOf R mc ms Pc) (PostOf Qc mc ms free) (vx_Post XC mc ms free) := vx_backW (hh := hh) (bytes := bytes) (maxL := maxL) (ret := ret) hM hp.1 hrc hrs hfr hlo hws hcw (fun a' U hW => word_at hW (Or.inl (by first | rfl | simp [Cond.onTables, Cond.keeps, Cond.steady])) hini)
  obtain ⟨hx, hb, hml, ho, -⟩ := S
  intro T hT X
  rcases vx_callSX X hx (hh := hh) (bytes := bytes) (maxL := maxL) (ret := ret) ho hl hstt hini hcode hy hK hg (hsize.trans hml.symm) (argsL := As) (rest := rest) (fun sig h => hn.trans (hlen sig h)) hstack hW (by rw [hb]; exact hdg)
    (fun vm₁ hW₁ => ⟨hf.1, hf.2, hp.2 (T.setVm vm₁) hT hW₁⟩) with ⟨v, vm₁, ⟨U', l2, c2, s2⟩, hW₁, X', ⟨g', mk, t, L, e1, e2, hq, h1, hL, h2, h3⟩, st⟩ | ⟨q, vm₁, ⟨U', l2, c2, s2⟩, hW₁, X', ⟨g', mk, t, L, E, ce, e1, e2, hq, hce, hcv, hcl, h1, hL, h2, h3⟩, st⟩
  · dsimp only [Pt.U, Pt.locs, Pt.cells, Pt.slots] at X' e1 e2 h1 h2 h3 st
    subst h1; subst h2; subst h3
    exact Or.inl ⟨v, (T.setVm vm₁).calling g' mk As.toArray, t, U', L, hT, X', hL, e1, e2, hq, st⟩
  · dsimp only [Pt.U, Pt.locs, Pt.cells, Pt.slots] at X' e1 e2 h1 h2 h3 st hcl
    subst h1; subst h2; subst h3
    exact Or.inr ⟨q, (T.setVm vm₁).calling g' mk As.toArray, t, U', L, E, ce, hT, X', hL, e1, e2, hq, hce, hcv, vx_cls hW₁ hcl, st⟩
end
end VXH
theorem vx_ofWH {l : Launch} {y : MethodName} {ws ws' : List Cond} {rm : Room} {Pc : Array Value → State → Prop} {Qc : Array Value → State → Outcome → State → Prop} {XC : String → State → State → Prop} {mc ms : Nat} {free : Addr → Prop} {cc : ByteArray} {maxL : Nat} {ret : Option FieldType} {hh : List (Nat × Nat × Nat × Nat)}
    (hy : plainName y.cls = true) (hw : ws = Cond.codeWith y cc maxL ret hh :: ws')
    (body : ∀ p e s m args below meth c s₁, BodyLoose p l y (headSpec ws rm) cc maxL ret e s m args below meth c s₁ → c.maxLocals = maxL → Pc args s →
      W p l e (headSpec ws rm).room s m args below meth c s.heap [] 0 0 (vx_MQ below Qc XC args s mc ms free) (entryFrame m args maxL)) : vx_Met l y ws rm Pc Qc XC mc ms free := by
  refine MetFree.of_bodyS (code := cc) (maxLocals := maxL) (ret := ret) hy ?_ ?_
  · intro args s m h hn
    obtain ⟨m9, meth, c, hn9, h1, h2, h3, h4, -, h5, h6, -⟩ := Cond.codeWith_spec (atoms_spec (ws := ws) h _ (by rw [hw]; exact List.mem_cons_self))
    cases hn.symm.trans hn9
    exact ⟨meth, c, h1, h2, h3, h4, h5, h6⟩
  · intro p e s m args below meth c s₁ B hml hP _
    have hh0 : s₁.heap = s.heap := by rw [B.state]; rfl
    obtain ⟨t, a1, o, b1, b2, b3⟩ := body p e s m args below meth c s₁ B hml hP s₁ hh0 (Stand.of_body B)
    exact ⟨t, o, a1, b1, b2, b3⟩
/-! ===== END ===== -/
end
section
/-! ===== BEGIN printed: names, fields, word lists, decode rows ===== -/
def RX0 : String := "OffsetRows$ArcList"
def TX0 : u_T := fun k => match k with
  | 0 => ("OffsetRows$ArcList", "from", "[I", true)
  | 1 => ("OffsetRows$ArcList", "to", "[I", true)
  | 2 => ("OffsetRows$ArcList", "state", "[I", true)
  | 3 => ("OffsetRows$ArcList", "taken", "[Z", true)
  | _ => ("OffsetRows$ArcList", "count", "I", false)
def tyX0 : Nat → FieldType := fun k => match k with
  | 0 => .array .int
  | 1 => .array .int
  | 2 => .array .int
  | 3 => .array .boolean
  | _ => .int
abbrev wsX00 : List Cond := u_ws RX0 TX0 5
theorem nmX0 : ∀ a, a < 5 → ∀ b, b < 5 → a ≠ b → (TX0 a).2.1 ≠ (TX0 b).2.1 := by decide +kernel
theorem tyX0_ok : ∀ k, k < 5 → parseFieldDescriptor (TX0 k).2.2.1 = some (tyX0 k) := by decide +kernel
abbrev cX0_init : ByteArray := prog_2_method_1_code
def yX0_init : MethodName := ⟨RX0, "<init>", "()V"⟩
abbrev cX0_has : ByteArray := prog_2_method_2_code
def yX0_has : MethodName := ⟨RX0, "has", "(I)Z"⟩
abbrev cX0_isLive : ByteArray := prog_2_method_3_code
def yX0_isLive : MethodName := ⟨RX0, "isLive", "(I)Z"⟩
abbrev cX0_isWaiting : ByteArray := prog_2_method_4_code
def yX0_isWaiting : MethodName := ⟨RX0, "isWaiting", "(I)Z"⟩
abbrev cX0_append : ByteArray := prog_2_method_5_code
def yX0_append : MethodName := ⟨RX0, "append", "(III)I"⟩
abbrev cX0_settle : ByteArray := prog_2_method_6_code
def yX0_settle : MethodName := ⟨RX0, "settle", "()I"⟩
abbrev cX0_renumber : ByteArray := prog_2_method_7_code
def yX0_renumber : MethodName := ⟨RX0, "renumber", "([I)V"⟩
abbrev cX0_countInState : ByteArray := prog_2_method_8_code
def yX0_countInState : MethodName := ⟨RX0, "countInState", "(I)I"⟩
abbrev cX0_countLive : ByteArray := prog_2_method_9_code
def yX0_countLive : MethodName := ⟨RX0, "countLive", "()I"⟩
abbrev cX0_countLiveBetween : ByteArray := prog_2_method_10_code
def yX0_countLiveBetween : MethodName := ⟨RX0, "countLiveBetween", "(II)I"⟩
def RX1 : String := "OffsetRows$Given"
def TX1 : u_T := fun k => match k with
  | 0 => ("OffsetRows$Given", "offsets", "[I", true)
  | _ => ("OffsetRows$Given", "targets", "[I", true)
def tyX1 : Nat → FieldType := fun k => match k with
  | 0 => .array .int
  | _ => .array .int
abbrev wsX10 : List Cond := u_ws RX1 TX1 2
theorem nmX1 : ∀ a, a < 2 → ∀ b, b < 2 → a ≠ b → (TX1 a).2.1 ≠ (TX1 b).2.1 := by decide +kernel
theorem tyX1_ok : ∀ k, k < 2 → parseFieldDescriptor (TX1 k).2.2.1 = some (tyX1 k) := by decide +kernel
abbrev cX1_init : ByteArray := prog_3_method_1_code
def yX1_init : MethodName := ⟨RX1, "<init>", "()V"⟩
abbrev cX1_firstFault : ByteArray := prog_3_method_2_code
def yX1_firstFault : MethodName := ⟨RX1, "firstFault", "(II)I"⟩
abbrev cX1_isOffsetRight : ByteArray := prog_3_method_3_code
def yX1_isOffsetRight : MethodName := ⟨RX1, "isOffsetRight", "(III)Z"⟩
abbrev cX1_fill : ByteArray := prog_3_method_4_code
def yX1_fill : MethodName := ⟨RX1, "fill", "(LOffsetRows$ArcList;I)V"⟩
def RX2 : String := "OffsetRows$Iterators"
def TX2 : u_T := fun k => match k with
  | 0 => ("OffsetRows$Iterators", "isOpen", "[Z", true)
  | 1 => ("OffsetRows$Iterators", "isStale", "[Z", true)
  | 2 => ("OffsetRows$Iterators", "ofIn", "[Z", true)
  | 3 => ("OffsetRows$Iterators", "node", "[I", true)
  | 4 => ("OffsetRows$Iterators", "lastPlace", "[I", true)
  | _ => ("OffsetRows$Iterators", "arcsTold", "[I", true)
def tyX2 : Nat → FieldType := fun k => match k with
  | 0 => .array .boolean
  | 1 => .array .boolean
  | 2 => .array .boolean
  | 3 => .array .int
  | 4 => .array .int
  | _ => .array .int
abbrev wsX20 : List Cond := u_ws RX2 TX2 6
theorem nmX2 : ∀ a, a < 6 → ∀ b, b < 6 → a ≠ b → (TX2 a).2.1 ≠ (TX2 b).2.1 := by decide +kernel
theorem tyX2_ok : ∀ k, k < 6 → parseFieldDescriptor (TX2 k).2.2.1 = some (tyX2 k) := by decide +kernel
abbrev cX2_init : ByteArray := prog_4_method_1_code
def yX2_init : MethodName := ⟨RX2, "<init>", "()V"⟩
abbrev cX2_has : ByteArray := prog_4_method_2_code
def yX2_has : MethodName := ⟨RX2, "has", "(I)Z"⟩
abbrev cX2_leastFree : ByteArray := prog_4_method_3_code
def yX2_leastFree : MethodName := ⟨RX2, "leastFree", "()I"⟩
abbrev cX2_start : ByteArray := prog_4_method_4_code
def yX2_start : MethodName := ⟨RX2, "start", "(IIZ)V"⟩
abbrev cX2_moveTo : ByteArray := prog_4_method_5_code
def yX2_moveTo : MethodName := ⟨RX2, "moveTo", "(II)V"⟩
abbrev cX2_makeStale : ByteArray := prog_4_method_6_code
def yX2_makeStale : MethodName := ⟨RX2, "makeStale", "()V"⟩
abbrev cX2_countOpen : ByteArray := prog_4_method_7_code
def yX2_countOpen : MethodName := ⟨RX2, "countOpen", "()I"⟩
def RX3 : String := "OffsetRows$Side"
def TX3 : u_T := fun k => match k with
  | 0 => ("OffsetRows$Side", "arcs", "LOffsetRows$ArcList;", true)
  | 1 => ("OffsetRows$Side", "ownEnd", "[I", true)
  | 2 => ("OffsetRows$Side", "farEnd", "[I", true)
  | 3 => ("OffsetRows$Side", "offsets", "[I", true)
  | 4 => ("OffsetRows$Side", "row", "[I", true)
  | 5 => ("OffsetRows$Side", "numbers", "[I", true)
  | 6 => ("OffsetRows$Side", "byFarEnd", "[I", true)
  | _ => ("OffsetRows$Side", "free", "[I", true)
def tyX3 : Nat → FieldType := fun k => match k with
  | 0 => .object "OffsetRows$ArcList"
  | 1 => .array .int
  | 2 => .array .int
  | 3 => .array .int
  | 4 => .array .int
  | 5 => .array .int
  | 6 => .array .int
  | _ => .array .int
abbrev wsX30 : List Cond := u_ws RX3 TX3 8
theorem nmX3 : ∀ a, a < 8 → ∀ b, b < 8 → a ≠ b → (TX3 a).2.1 ≠ (TX3 b).2.1 := by decide +kernel
theorem tyX3_ok : ∀ k, k < 8 → parseFieldDescriptor (TX3 k).2.2.1 = some (tyX3 k) := by decide +kernel
abbrev cX3_init : ByteArray := prog_5_method_1_code
def yX3_init : MethodName := ⟨RX3, "<init>", "(ILOffsetRows$ArcList;[I[I)V"⟩
abbrev cX3_build : ByteArray := prog_5_method_2_code
def yX3_build : MethodName := ⟨RX3, "build", "()V"⟩
abbrev cX3_listBuilt : ByteArray := prog_5_method_3_code
def yX3_listBuilt : MethodName := ⟨RX3, "listBuilt", "()I"⟩
abbrev cX3_sortByCounting : ByteArray := prog_5_method_4_code
def yX3_sortByCounting : MethodName := ⟨RX3, "sortByCounting", "([II[I[I)V"⟩
abbrev cX3_rowLength : ByteArray := prog_5_method_5_code
def yX3_rowLength : MethodName := ⟨RX3, "rowLength", "(I)I"⟩
abbrev cX3_countPlaces : ByteArray := prog_5_method_6_code
def yX3_countPlaces : MethodName := ⟨RX3, "countPlaces", "(I)I"⟩
abbrev cX3_arcAt : ByteArray := prog_5_method_7_code
def yX3_arcAt : MethodName := ⟨RX3, "arcAt", "(II)I"⟩
abbrev cX3_livePlaceFrom : ByteArray := prog_5_method_8_code
def yX3_livePlaceFrom : MethodName := ⟨RX3, "livePlaceFrom", "(II)I"⟩
abbrev cX3_countLive : ByteArray := prog_5_method_9_code
def yX3_countLive : MethodName := ⟨RX3, "countLive", "(I)I"⟩
abbrev cX3_liveArc : ByteArray := prog_5_method_10_code
def yX3_liveArc : MethodName := ⟨RX3, "liveArc", "(II)I"⟩
def RX4 : String := "OffsetRows"
def TX4 : u_T := fun k => match k with
  | 0 => ("OffsetRows", "nodes", "I", true)
  | 1 => ("OffsetRows", "arcs", "LOffsetRows$ArcList;", true)
  | 2 => ("OffsetRows", "outSide", "LOffsetRows$Side;", true)
  | 3 => ("OffsetRows", "inSide", "LOffsetRows$Side;", true)
  | 4 => ("OffsetRows", "iterators", "LOffsetRows$Iterators;", true)
  | 5 => ("OffsetRows", "given", "LOffsetRows$Given;", true)
  | 6 => ("OffsetRows", "turnRow", "[I", true)
  | 7 => ("OffsetRows", "turnedNumbers", "I", false)
  | 8 => ("OffsetRows", "steps", "[I", true)
  | 9 => ("OffsetRows", "waysHere", "[J", true)
  | _ => ("OffsetRows", "waysOnward", "[J", true)
def tyX4 : Nat → FieldType := fun k => match k with
  | 0 => .int
  | 1 => .object "OffsetRows$ArcList"
  | 2 => .object "OffsetRows$Side"
  | 3 => .object "OffsetRows$Side"
  | 4 => .object "OffsetRows$Iterators"
  | 5 => .object "OffsetRows$Given"
  | 6 => .array .int
  | 7 => .int
  | 8 => .array .int
  | 9 => .array .long
  | _ => .array .long
abbrev wsX40 : List Cond := u_ws RX4 TX4 11
theorem nmX4 : ∀ a, a < 11 → ∀ b, b < 11 → a ≠ b → (TX4 a).2.1 ≠ (TX4 b).2.1 := by decide +kernel
theorem tyX4_ok : ∀ k, k < 11 → parseFieldDescriptor (TX4 k).2.2.1 = some (tyX4 k) := by decide +kernel
abbrev cX4_init : ByteArray := prog_1_method_1_code
def yX4_init : MethodName := ⟨RX4, "<init>", "(I)V"⟩
abbrev cX4_arc : ByteArray := prog_1_method_2_code
def yX4_arc : MethodName := ⟨RX4, "arc", "(II)I"⟩
abbrev cX4_take : ByteArray := prog_1_method_3_code
def yX4_take : MethodName := ⟨RX4, "take", "(I)I"⟩
abbrev cX4_untake : ByteArray := prog_1_method_4_code
def yX4_untake : MethodName := ⟨RX4, "untake", "(I)I"⟩
abbrev cX4_merge : ByteArray := prog_1_method_5_code
def yX4_merge : MethodName := ⟨RX4, "merge", "()I"⟩
abbrev cX4_pack : ByteArray := prog_1_method_6_code
def yX4_pack : MethodName := ⟨RX4, "pack", "()I"⟩
abbrev cX4_turned : ByteArray := prog_1_method_7_code
def yX4_turned : MethodName := ⟨RX4, "turned", "(I)I"⟩
abbrev cX4_out : ByteArray := prog_1_method_8_code
def yX4_out : MethodName := ⟨RX4, "out", "(II)I"⟩
abbrev cX4_in : ByteArray := prog_1_method_9_code
def yX4_in : MethodName := ⟨RX4, "in", "(II)I"⟩
abbrev cX4_offset : ByteArray := prog_1_method_10_code
def yX4_offset : MethodName := ⟨RX4, "offset", "(IZ)I"⟩
abbrev cX4_told : ByteArray := prog_1_method_11_code
def yX4_told : MethodName := ⟨RX4, "told", "(II)I"⟩
abbrev cX4_degree : ByteArray := prog_1_method_12_code
def yX4_degree : MethodName := ⟨RX4, "degree", "(IZ)I"⟩
abbrev cX4_live : ByteArray := prog_1_method_13_code
def yX4_live : MethodName := ⟨RX4, "live", "(IZI)I"⟩
abbrev cX4_between : ByteArray := prog_1_method_14_code
def yX4_between : MethodName := ⟨RX4, "between", "(II)I"⟩
abbrev cX4_near : ByteArray := prog_1_method_15_code
def yX4_near : MethodName := ⟨RX4, "near", "(II)I"⟩
abbrev cX4_ways : ByteArray := prog_1_method_16_code
def yX4_ways : MethodName := ⟨RX4, "ways", "(III)J"⟩
abbrev cX4_open : ByteArray := prog_1_method_17_code
def yX4_open : MethodName := ⟨RX4, "open", "(IZ)I"⟩
abbrev cX4_next : ByteArray := prog_1_method_18_code
def yX4_next : MethodName := ⟨RX4, "next", "(I)I"⟩
abbrev cX4_close : ByteArray := prog_1_method_19_code
def yX4_close : MethodName := ⟨RX4, "close", "(I)I"⟩
abbrev cX4_give : ByteArray := prog_1_method_20_code
def yX4_give : MethodName := ⟨RX4, "give", "(ZII)I"⟩
abbrev cX4_load : ByteArray := prog_1_method_21_code
def yX4_load : MethodName := ⟨RX4, "load", "(I)I"⟩
abbrev cX4_about : ByteArray := prog_1_method_22_code
def yX4_about : MethodName := ⟨RX4, "about", "(I)I"⟩
abbrev cX4_isNode : ByteArray := prog_1_method_23_code
def yX4_isNode : MethodName := ⟨RX4, "isNode", "(I)Z"⟩
abbrev cX4_side : ByteArray := prog_1_method_24_code
def yX4_side : MethodName := ⟨RX4, "side", "(Z)LOffsetRows$Side;"⟩
abbrev cX4_mark : ByteArray := prog_1_method_25_code
def yX4_mark : MethodName := ⟨RX4, "mark", "(IZ)I"⟩
abbrev cX4_buildAnew : ByteArray := prog_1_method_26_code
def yX4_buildAnew : MethodName := ⟨RX4, "buildAnew", "()I"⟩
abbrev cX4_buildRows : ByteArray := prog_1_method_27_code
def yX4_buildRows : MethodName := ⟨RX4, "buildRows", "()V"⟩
abbrev cX4_arcInRow : ByteArray := prog_1_method_28_code
def yX4_arcInRow : MethodName := ⟨RX4, "arcInRow", "(LOffsetRows$Side;II)I"⟩
abbrev cX4_stepOnFrom : ByteArray := prog_1_method_29_code
def yX4_stepOnFrom : MethodName := ⟨RX4, "stepOnFrom", "(I)V"⟩
abbrev cX4_lengthenWays : ByteArray := prog_1_method_30_code
def yX4_lengthenWays : MethodName := ⟨RX4, "lengthenWays", "()V"⟩
def RX5 : String := "OffsetRowsModel"
def TX5 : u_T := fun k => match k with
  | 0 => ("OffsetRowsModel", "thrown", "I", false)
  | 1 => ("OffsetRowsModel", "nodes", "I", true)
  | 2 => ("OffsetRowsModel", "arcs", "I", false)
  | 3 => ("OffsetRowsModel", "from", "[I", true)
  | 4 => ("OffsetRowsModel", "to", "[I", true)
  | 5 => ("OffsetRowsModel", "state", "[I", true)
  | 6 => ("OffsetRowsModel", "isTaken", "[Z", true)
  | 7 => ("OffsetRowsModel", "turns", "I", false)
  | 8 => ("OffsetRowsModel", "turn", "[I", true)
  | 9 => ("OffsetRowsModel", "isOpen", "[Z", true)
  | 10 => ("OffsetRowsModel", "isStale", "[Z", true)
  | 11 => ("OffsetRowsModel", "itNode", "[I", true)
  | 12 => ("OffsetRowsModel", "itIn", "[Z", true)
  | 13 => ("OffsetRowsModel", "itLast", "[I", true)
  | 14 => ("OffsetRowsModel", "itTold", "[I", true)
  | 15 => ("OffsetRowsModel", "givenOffset", "[I", true)
  | 16 => ("OffsetRowsModel", "givenTarget", "[I", true)
  | 17 => ("OffsetRowsModel", "far", "[I", true)
  | 18 => ("OffsetRowsModel", "many", "[J", true)
  | _ => ("OffsetRowsModel", "next", "[J", true)
def tyX5 : Nat → FieldType := fun k => match k with
  | 0 => .int
  | 1 => .int
  | 2 => .int
  | 3 => .array .int
  | 4 => .array .int
  | 5 => .array .int
  | 6 => .array .boolean
  | 7 => .int
  | 8 => .array .int
  | 9 => .array .boolean
  | 10 => .array .boolean
  | 11 => .array .int
  | 12 => .array .boolean
  | 13 => .array .int
  | 14 => .array .int
  | 15 => .array .int
  | 16 => .array .int
  | 17 => .array .int
  | 18 => .array .long
  | _ => .array .long
abbrev wsX50 : List Cond := u_ws RX5 TX5 20
theorem nmX5 : ∀ a, a < 20 → ∀ b, b < 20 → a ≠ b → (TX5 a).2.1 ≠ (TX5 b).2.1 := by decide +kernel
theorem tyX5_ok : ∀ k, k < 20 → parseFieldDescriptor (TX5 k).2.2.1 = some (tyX5 k) := by decide +kernel
abbrev cX5_thrown : ByteArray := prog_7_method_1_code
def yX5_thrown : MethodName := ⟨RX5, "thrown", "()I"⟩
abbrev cX5_init : ByteArray := prog_7_method_2_code
def yX5_init : MethodName := ⟨RX5, "<init>", "(I)V"⟩
abbrev cX5_isNode : ByteArray := prog_7_method_3_code
def yX5_isNode : MethodName := ⟨RX5, "isNode", "(I)Z"⟩
abbrev cX5_isArc : ByteArray := prog_7_method_4_code
def yX5_isArc : MethodName := ⟨RX5, "isArc", "(I)Z"⟩
abbrev cX5_arc : ByteArray := prog_7_method_5_code
def yX5_arc : MethodName := ⟨RX5, "arc", "(II)I"⟩
abbrev cX5_take : ByteArray := prog_7_method_6_code
def yX5_take : MethodName := ⟨RX5, "take", "(I)I"⟩
abbrev cX5_untake : ByteArray := prog_7_method_7_code
def yX5_untake : MethodName := ⟨RX5, "untake", "(I)I"⟩
abbrev cX5_stale : ByteArray := prog_7_method_8_code
def yX5_stale : MethodName := ⟨RX5, "stale", "()V"⟩
abbrev cX5_merge : ByteArray := prog_7_method_9_code
def yX5_merge : MethodName := ⟨RX5, "merge", "()I"⟩
abbrev cX5_pack : ByteArray := prog_7_method_10_code
def yX5_pack : MethodName := ⟨RX5, "pack", "()I"⟩
abbrev cX5_turned : ByteArray := prog_7_method_11_code
def yX5_turned : MethodName := ⟨RX5, "turned", "(I)I"⟩
abbrev cX5_own : ByteArray := prog_7_method_12_code
def yX5_own : MethodName := ⟨RX5, "own", "(IZ)I"⟩
abbrev cX5_other : ByteArray := prog_7_method_13_code
def yX5_other : MethodName := ⟨RX5, "other", "(IZ)I"⟩
abbrev cX5_isAhead : ByteArray := prog_7_method_14_code
def yX5_isAhead : MethodName := ⟨RX5, "isAhead", "(IIZ)Z"⟩
abbrev cX5_isOf : ByteArray := prog_7_method_15_code
def yX5_isOf : MethodName := ⟨RX5, "isOf", "(IIZZ)Z"⟩
abbrev cX5_place : ByteArray := prog_7_method_16_code
def yX5_place : MethodName := ⟨RX5, "place", "(IZZI)I"⟩
abbrev cX5_inRow : ByteArray := prog_7_method_17_code
def yX5_inRow : MethodName := ⟨RX5, "inRow", "(IZI)I"⟩
abbrev cX5_out : ByteArray := prog_7_method_18_code
def yX5_out : MethodName := ⟨RX5, "out", "(II)I"⟩
abbrev cX5_in : ByteArray := prog_7_method_19_code
def yX5_in : MethodName := ⟨RX5, "in", "(II)I"⟩
abbrev cX5_offset : ByteArray := prog_7_method_20_code
def yX5_offset : MethodName := ⟨RX5, "offset", "(IZ)I"⟩
abbrev cX5_told : ByteArray := prog_7_method_21_code
def yX5_told : MethodName := ⟨RX5, "told", "(II)I"⟩
abbrev cX5_degree : ByteArray := prog_7_method_22_code
def yX5_degree : MethodName := ⟨RX5, "degree", "(IZ)I"⟩
abbrev cX5_live : ByteArray := prog_7_method_23_code
def yX5_live : MethodName := ⟨RX5, "live", "(IZI)I"⟩
abbrev cX5_lead : ByteArray := prog_7_method_24_code
def yX5_lead : MethodName := ⟨RX5, "lead", "(II)I"⟩
abbrev cX5_between : ByteArray := prog_7_method_25_code
def yX5_between : MethodName := ⟨RX5, "between", "(II)I"⟩
abbrev cX5_near : ByteArray := prog_7_method_26_code
def yX5_near : MethodName := ⟨RX5, "near", "(II)I"⟩
abbrev cX5_ways : ByteArray := prog_7_method_27_code
def yX5_ways : MethodName := ⟨RX5, "ways", "(III)J"⟩
abbrev cX5_open : ByteArray := prog_7_method_28_code
def yX5_open : MethodName := ⟨RX5, "open", "(IZ)I"⟩
abbrev cX5_isIterator : ByteArray := prog_7_method_29_code
def yX5_isIterator : MethodName := ⟨RX5, "isIterator", "(I)Z"⟩
abbrev cX5_next : ByteArray := prog_7_method_30_code
def yX5_next : MethodName := ⟨RX5, "next", "(I)I"⟩
abbrev cX5_close : ByteArray := prog_7_method_31_code
def yX5_close : MethodName := ⟨RX5, "close", "(I)I"⟩
abbrev cX5_give : ByteArray := prog_7_method_32_code
def yX5_give : MethodName := ⟨RX5, "give", "(ZII)I"⟩
abbrev cX5_judged : ByteArray := prog_7_method_33_code
def yX5_judged : MethodName := ⟨RX5, "judged", "(I)I"⟩
abbrev cX5_load : ByteArray := prog_7_method_34_code
def yX5_load : MethodName := ⟨RX5, "load", "(I)I"⟩
abbrev cX5_about : ByteArray := prog_7_method_35_code
def yX5_about : MethodName := ⟨RX5, "about", "(I)I"⟩
def RJ9 : String := "java/lang/Math"
def TJ9 : u_T := fun k => match k with
  | _ => ("", "", "", false)
def tyJ9 : Nat → FieldType := fun k => match k with
  | _ => .int
abbrev wsJ90 : List Cond := u_ws RJ9 TJ9 0
theorem nmJ9 : ∀ a, a < 0 → ∀ b, b < 0 → a ≠ b → (TJ9 a).2.1 ≠ (TJ9 b).2.1 := by decide +kernel
theorem tyJ9_ok : ∀ k, k < 0 → parseFieldDescriptor (TJ9 k).2.2.1 = some (tyJ9 k) := by decide +kernel
abbrev cJ9_max_7cf53 : ByteArray := prog_10_method_65_code
def yJ9_max_7cf53 : MethodName := ⟨RJ9, "max", "(II)I"⟩
abbrev cJ9_min_7cf53 : ByteArray := prog_10_method_69_code
def yJ9_min_7cf53 : MethodName := ⟨RJ9, "min", "(II)I"⟩
def RJ0 : String := "java/lang/String"
def TJ0 : u_T := fun k => match k with
  | _ => ("", "", "", false)
def tyJ0 : Nat → FieldType := fun k => match k with
  | _ => .int
abbrev wsJ00 : List Cond := u_ws RJ0 TJ0 0
theorem nmJ0 : ∀ a, a < 0 → ∀ b, b < 0 → a ≠ b → (TJ0 a).2.1 ≠ (TJ0 b).2.1 := by decide +kernel
theorem tyJ0_ok : ∀ k, k < 0 → parseFieldDescriptor (TJ0 k).2.2.1 = some (tyJ0 k) := by decide +kernel
def RJ10 : String := "java/lang/System"
def TJ10 : u_T := fun k => match k with
  | _ => ("", "", "", false)
def tyJ10 : Nat → FieldType := fun k => match k with
  | _ => .int
abbrev wsJ100 : List Cond := u_ws RJ10 TJ10 0
theorem nmJ10 : ∀ a, a < 0 → ∀ b, b < 0 → a ≠ b → (TJ10 a).2.1 ≠ (TJ10 b).2.1 := by decide +kernel
theorem tyJ10_ok : ∀ k, k < 0 → parseFieldDescriptor (TJ10 k).2.2.1 = some (tyJ10 k) := by decide +kernel
def RJ7 : String := "java/util/Arrays"
def TJ7 : u_T := fun k => match k with
  | _ => ("", "", "", false)
def tyJ7 : Nat → FieldType := fun k => match k with
  | _ => .int
abbrev wsJ70 : List Cond := u_ws RJ7 TJ7 0
theorem nmJ7 : ∀ a, a < 0 → ∀ b, b < 0 → a ≠ b → (TJ7 a).2.1 ≠ (TJ7 b).2.1 := by decide +kernel
theorem tyJ7_ok : ∀ k, k < 0 → parseFieldDescriptor (TJ7 k).2.2.1 = some (tyJ7 k) := by decide +kernel
abbrev cJ7_fill_d0a16 : ByteArray := prog_15_method_101_code
def yJ7_fill_d0a16 : MethodName := ⟨RJ7, "fill", "([JJ)V"⟩
abbrev cJ7_fill_53178 : ByteArray := prog_15_method_103_code
def yJ7_fill_53178 : MethodName := ⟨RJ7, "fill", "([II)V"⟩
def RL : String := "OffsetRowsLaw"
abbrev cL_cell : ByteArray := method_2_code
def yL_cell : MethodName := ⟨RL, "cell", "([II)I"⟩
abbrev cL_out : ByteArray := method_3_code
def yL_out : MethodName := ⟨RL, "out", "(LOffsetRows;II[J)I"⟩
abbrev cL_in : ByteArray := method_4_code
def yL_in : MethodName := ⟨RL, "in", "(LOffsetRows;II[J)I"⟩
abbrev cL_law : ByteArray := code
def yL_law : MethodName := ⟨RL, "law", "([I)Z"⟩
def wsX0_init : List Cond := .code yX0_init cX0_init 1 none :: ([.methodLink RX0 3 objectInit, .instanceMethod objectInit, .code objectInit ⟨#[0xb1]⟩ 1 none, .arrayClass .int, .fieldLink RX0 9 "OffsetRows$ArcList" "from" "[I", .fieldLink RX0 15 "OffsetRows$ArcList" "to" "[I", .fieldLink RX0 18 "OffsetRows$ArcList" "state" "[I", .arrayClass .boolean, .fieldLink RX0 21 "OffsetRows$ArcList" "taken" "[Z", .fieldLink RX0 25 "OffsetRows$ArcList" "count" "I"] ++ wsX00)
def wsX0_has : List Cond := .code yX0_has cX0_has 2 (some .boolean) :: ([.fieldLink RX0 25 "OffsetRows$ArcList" "count" "I"] ++ wsX00)
def wsX0_isLive : List Cond := .code yX0_isLive cX0_isLive 2 (some .boolean) :: ([.fieldLink RX0 18 "OffsetRows$ArcList" "state" "[I", .fieldLink RX0 21 "OffsetRows$ArcList" "taken" "[Z", .methodLink RX0 29 yX0_has, .instanceMethod yX0_has, .selects RX0 yX0_has yX0_has, .initialized RX0, .code yX0_has cX0_has 2 (some .boolean), .fieldLink RX0 25 "OffsetRows$ArcList" "count" "I"] ++ wsX00)
def wsX0_isWaiting : List Cond := .code yX0_isWaiting cX0_isWaiting 2 (some .boolean) :: ([.fieldLink RX0 18 "OffsetRows$ArcList" "state" "[I", .methodLink RX0 29 yX0_has, .instanceMethod yX0_has, .selects RX0 yX0_has yX0_has, .initialized RX0, .code yX0_has cX0_has 2 (some .boolean), .fieldLink RX0 25 "OffsetRows$ArcList" "count" "I"] ++ wsX00)
def wsX0_append : List Cond := .code yX0_append cX0_append 5 (some .int) :: ([.fieldLink RX0 25 "OffsetRows$ArcList" "count" "I", .fieldLink RX0 9 "OffsetRows$ArcList" "from" "[I", .fieldLink RX0 15 "OffsetRows$ArcList" "to" "[I", .fieldLink RX0 18 "OffsetRows$ArcList" "state" "[I", .fieldLink RX0 21 "OffsetRows$ArcList" "taken" "[Z"] ++ wsX00)
def wsX0_settle : List Cond := .code yX0_settle cX0_settle 4 (some .int) :: ([.fieldLink RX0 25 "OffsetRows$ArcList" "count" "I", .fieldLink RX0 21 "OffsetRows$ArcList" "taken" "[Z", .fieldLink RX0 18 "OffsetRows$ArcList" "state" "[I"] ++ wsX00)
def wsX0_renumber : List Cond := .code yX0_renumber cX0_renumber 5 none :: ([.fieldLink RX0 25 "OffsetRows$ArcList" "count" "I", .fieldLink RX0 18 "OffsetRows$ArcList" "state" "[I", .fieldLink RX0 9 "OffsetRows$ArcList" "from" "[I", .fieldLink RX0 15 "OffsetRows$ArcList" "to" "[I", .methodLink RX0 33 yX0_append, .instanceMethod yX0_append, .selects RX0 yX0_append yX0_append, .initialized RX0, .code yX0_append cX0_append 5 (some .int), .fieldLink RX0 21 "OffsetRows$ArcList" "taken" "[Z"] ++ wsX00)
def wsX0_countInState : List Cond := .code yX0_countInState cX0_countInState 4 (some .int) :: ([.fieldLink RX0 25 "OffsetRows$ArcList" "count" "I", .fieldLink RX0 18 "OffsetRows$ArcList" "state" "[I"] ++ wsX00)
def wsX0_countLive : List Cond := .code yX0_countLive cX0_countLive 3 (some .int) :: ([.fieldLink RX0 25 "OffsetRows$ArcList" "count" "I", .methodLink RX0 37 yX0_isLive, .instanceMethod yX0_isLive, .selects RX0 yX0_isLive yX0_isLive, .initialized RX0, .code yX0_isLive cX0_isLive 2 (some .boolean), .fieldLink RX0 18 "OffsetRows$ArcList" "state" "[I", .fieldLink RX0 21 "OffsetRows$ArcList" "taken" "[Z", .methodLink RX0 29 yX0_has, .instanceMethod yX0_has, .selects RX0 yX0_has yX0_has, .code yX0_has cX0_has 2 (some .boolean)] ++ wsX00)
def wsX0_countLiveBetween : List Cond := .code yX0_countLiveBetween cX0_countLiveBetween 5 (some .int) :: ([.fieldLink RX0 25 "OffsetRows$ArcList" "count" "I", .fieldLink RX0 9 "OffsetRows$ArcList" "from" "[I", .fieldLink RX0 15 "OffsetRows$ArcList" "to" "[I", .methodLink RX0 37 yX0_isLive, .instanceMethod yX0_isLive, .selects RX0 yX0_isLive yX0_isLive, .initialized RX0, .code yX0_isLive cX0_isLive 2 (some .boolean), .fieldLink RX0 18 "OffsetRows$ArcList" "state" "[I", .fieldLink RX0 21 "OffsetRows$ArcList" "taken" "[Z", .methodLink RX0 29 yX0_has, .instanceMethod yX0_has, .selects RX0 yX0_has yX0_has, .code yX0_has cX0_has 2 (some .boolean)] ++ wsX00)
def wsX1_init : List Cond := .code yX1_init cX1_init 1 none :: ([.methodLink RX1 3 objectInit, .instanceMethod objectInit, .code objectInit ⟨#[0xb1]⟩ 1 none, .arrayClass .int, .fieldLink RX1 9 "OffsetRows$Given" "offsets" "[I", .fieldLink RX1 15 "OffsetRows$Given" "targets" "[I"] ++ wsX10)
def wsX1_isOffsetRight : List Cond := .code yX1_isOffsetRight cX1_isOffsetRight 7 (some .boolean) :: ([.fieldLink RX1 9 "OffsetRows$Given" "offsets" "[I"] ++ wsX10)
def wsX1_firstFault : List Cond := .code yX1_firstFault cX1_firstFault 4 (some .int) :: ([.fieldLink RX1 15 "OffsetRows$Given" "targets" "[I", .methodLink RX1 18 yX1_isOffsetRight, .instanceMethod yX1_isOffsetRight, .selects RX1 yX1_isOffsetRight yX1_isOffsetRight, .initialized RX1, .code yX1_isOffsetRight cX1_isOffsetRight 7 (some .boolean), .fieldLink RX1 9 "OffsetRows$Given" "offsets" "[I"] ++ wsX10)
def wsX1_fill : List Cond := .code yX1_fill cX1_fill 5 none :: ([.fieldLink RX1 22 "OffsetRows$ArcList" "count" "I", .fieldLink RX1 9 "OffsetRows$Given" "offsets" "[I", .fieldLink RX1 15 "OffsetRows$Given" "targets" "[I", .methodLink RX1 28 yX0_append, .instanceMethod yX0_append, .selects RX0 yX0_append yX0_append, .initialized RX0, .code yX0_append cX0_append 5 (some .int), .fieldLink RX0 25 "OffsetRows$ArcList" "count" "I", .fieldLink RX0 9 "OffsetRows$ArcList" "from" "[I", .fieldLink RX0 15 "OffsetRows$ArcList" "to" "[I", .fieldLink RX0 18 "OffsetRows$ArcList" "state" "[I", .fieldLink RX0 21 "OffsetRows$ArcList" "taken" "[Z"] ++ wsX00 ++ wsX10)
def wsX2_init : List Cond := .code yX2_init cX2_init 1 none :: ([.methodLink RX2 3 objectInit, .instanceMethod objectInit, .code objectInit ⟨#[0xb1]⟩ 1 none, .arrayClass .boolean, .fieldLink RX2 9 "OffsetRows$Iterators" "isOpen" "[Z", .fieldLink RX2 15 "OffsetRows$Iterators" "isStale" "[Z", .fieldLink RX2 18 "OffsetRows$Iterators" "ofIn" "[Z", .arrayClass .int, .fieldLink RX2 21 "OffsetRows$Iterators" "node" "[I", .fieldLink RX2 25 "OffsetRows$Iterators" "lastPlace" "[I", .fieldLink RX2 28 "OffsetRows$Iterators" "arcsTold" "[I"] ++ wsX20)
def wsX2_has : List Cond := .code yX2_has cX2_has 2 (some .boolean) :: ([.fieldLink RX2 9 "OffsetRows$Iterators" "isOpen" "[Z"] ++ wsX20)
def wsX2_leastFree : List Cond := .code yX2_leastFree cX2_leastFree 2 (some .int) :: ([.fieldLink RX2 9 "OffsetRows$Iterators" "isOpen" "[Z"] ++ wsX20)
def wsX2_start : List Cond := .code yX2_start cX2_start 4 none :: ([.fieldLink RX2 9 "OffsetRows$Iterators" "isOpen" "[Z", .fieldLink RX2 15 "OffsetRows$Iterators" "isStale" "[Z", .fieldLink RX2 18 "OffsetRows$Iterators" "ofIn" "[Z", .fieldLink RX2 21 "OffsetRows$Iterators" "node" "[I", .fieldLink RX2 25 "OffsetRows$Iterators" "lastPlace" "[I", .fieldLink RX2 28 "OffsetRows$Iterators" "arcsTold" "[I"] ++ wsX20)
def wsX2_moveTo : List Cond := .code yX2_moveTo cX2_moveTo 3 none :: ([.fieldLink RX2 25 "OffsetRows$Iterators" "lastPlace" "[I", .fieldLink RX2 28 "OffsetRows$Iterators" "arcsTold" "[I"] ++ wsX20)
def wsX2_makeStale : List Cond := .code yX2_makeStale cX2_makeStale 2 none :: ([.fieldLink RX2 15 "OffsetRows$Iterators" "isStale" "[Z"] ++ wsX20)
def wsX2_countOpen : List Cond := .code yX2_countOpen cX2_countOpen 3 (some .int) :: ([.fieldLink RX2 9 "OffsetRows$Iterators" "isOpen" "[Z"] ++ wsX20)
def wsX3_init : List Cond := .code yX3_init cX3_init 5 none :: ([.methodLink RX3 3 objectInit, .instanceMethod objectInit, .code objectInit ⟨#[0xb1]⟩ 1 none, .arrayClass .int, .fieldLink RX3 9 "OffsetRows$Side" "row" "[I", .fieldLink RX3 15 "OffsetRows$Side" "numbers" "[I", .fieldLink RX3 18 "OffsetRows$Side" "byFarEnd" "[I", .fieldLink RX3 21 "OffsetRows$Side" "arcs" "LOffsetRows$ArcList;", .fieldLink RX3 25 "OffsetRows$Side" "ownEnd" "[I", .fieldLink RX3 28 "OffsetRows$Side" "farEnd" "[I", .fieldLink RX3 31 "OffsetRows$Side" "offsets" "[I", .fieldLink RX3 34 "OffsetRows$Side" "free" "[I"] ++ wsX30)
def wsX3_listBuilt : List Cond := .code yX3_listBuilt cX3_listBuilt 3 (some .int) :: ([.fieldLink RX3 21 "OffsetRows$Side" "arcs" "LOffsetRows$ArcList;", .fieldLink RX3 45 "OffsetRows$ArcList" "count" "I", .fieldLink RX3 51 "OffsetRows$ArcList" "state" "[I", .fieldLink RX3 15 "OffsetRows$Side" "numbers" "[I"] ++ wsX30 ++ wsX00)
def wsJ7_fill_53178 : List Cond := .code yJ7_fill_53178 cJ7_fill_53178 4 none :: ([])
def wsX3_sortByCounting : List Cond := .code yX3_sortByCounting cX3_sortByCounting 7 none :: ([.fieldLink RX3 31 "OffsetRows$Side" "offsets" "[I", .fieldLink RX3 34 "OffsetRows$Side" "free" "[I", .methodLink RX3 60 arraycopyName, .native arraycopyName, .static arraycopyName, .initialized "java/lang/System", .methodLink RX3 54 yJ7_fill_53178, .static yJ7_fill_53178, .initialized RJ7, .code yJ7_fill_53178 cJ7_fill_53178 4 none] ++ wsX30)
def wsX3_build_r1 : List Cond := [Cond.fieldLink RX3 15 "OffsetRows$Side" "numbers" "[I", Cond.fieldLink RX3 28 "OffsetRows$Side" "farEnd" "[I", Cond.fieldLink RX3 18 "OffsetRows$Side" "byFarEnd" "[I", Cond.fieldLink RX3 25 "OffsetRows$Side" "ownEnd" "[I", Cond.fieldLink RX3 9 "OffsetRows$Side" "row" "[I", Cond.methodLink RX3 37 yX3_listBuilt, Cond.instanceMethod yX3_listBuilt, Cond.selects RX3 yX3_listBuilt yX3_listBuilt, Cond.initialized RX3, Cond.code yX3_listBuilt cX3_listBuilt 3 (some .int), Cond.fieldLink RX3 21 "OffsetRows$Side" "arcs" "LOffsetRows$ArcList;", Cond.fieldLink RX3 45 "OffsetRows$ArcList" "count" "I", Cond.fieldLink RX3 51 "OffsetRows$ArcList" "state" "[I", Cond.methodLink RX3 41 yX3_sortByCounting, Cond.instanceMethod yX3_sortByCounting, Cond.selects RX3 yX3_sortByCounting yX3_sortByCounting, Cond.code yX3_sortByCounting cX3_sortByCounting 7 none, Cond.fieldLink RX3 31 "OffsetRows$Side" "offsets" "[I", Cond.fieldLink RX3 34 "OffsetRows$Side" "free" "[I", Cond.methodLink RX3 60 arraycopyName, Cond.native arraycopyName, Cond.static arraycopyName, Cond.initialized "java/lang/System", Cond.methodLink RX3 54 yJ7_fill_53178]
def wsX3_build_r2 : List Cond := [Cond.static yJ7_fill_53178, Cond.initialized RJ7, Cond.code yJ7_fill_53178 cJ7_fill_53178 4 none]
def wsX3_build : List Cond := .code yX3_build cX3_build 2 none :: ((wsX3_build_r1 ++ wsX3_build_r2) ++ wsX30 ++ wsX00)
def wsX3_rowLength : List Cond := .code yX3_rowLength cX3_rowLength 2 (some .int) :: ([.fieldLink RX3 31 "OffsetRows$Side" "offsets" "[I"] ++ wsX30)
def wsX3_countPlaces : List Cond := .code yX3_countPlaces cX3_countPlaces 2 (some .int) :: ([.fieldLink RX3 21 "OffsetRows$Side" "arcs" "LOffsetRows$ArcList;", .fieldLink RX3 45 "OffsetRows$ArcList" "count" "I", .methodLink RX3 66 yX3_rowLength, .instanceMethod yX3_rowLength, .selects RX3 yX3_rowLength yX3_rowLength, .initialized RX3, .code yX3_rowLength cX3_rowLength 2 (some .int), .fieldLink RX3 31 "OffsetRows$Side" "offsets" "[I"] ++ wsX30 ++ wsX00)
def wsX3_arcAt : List Cond := .code yX3_arcAt cX3_arcAt 5 (some .int) :: ([.fieldLink RX3 9 "OffsetRows$Side" "row" "[I", .fieldLink RX3 31 "OffsetRows$Side" "offsets" "[I", .fieldLink RX3 21 "OffsetRows$Side" "arcs" "LOffsetRows$ArcList;", .fieldLink RX3 25 "OffsetRows$Side" "ownEnd" "[I", .methodLink RX3 66 yX3_rowLength, .instanceMethod yX3_rowLength, .selects RX3 yX3_rowLength yX3_rowLength, .initialized RX3, .code yX3_rowLength cX3_rowLength 2 (some .int), .methodLink RX3 70 yX0_isWaiting, .instanceMethod yX0_isWaiting, .selects RX0 yX0_isWaiting yX0_isWaiting, .initialized RX0, .code yX0_isWaiting cX0_isWaiting 2 (some .boolean), .fieldLink RX0 18 "OffsetRows$ArcList" "state" "[I", .methodLink RX0 29 yX0_has, .instanceMethod yX0_has, .selects RX0 yX0_has yX0_has, .code yX0_has cX0_has 2 (some .boolean), .fieldLink RX0 25 "OffsetRows$ArcList" "count" "I"] ++ wsX30 ++ wsX00)
def wsX3_livePlaceFrom_r1 : List Cond := [Cond.fieldLink RX3 21 "OffsetRows$Side" "arcs" "LOffsetRows$ArcList;", Cond.methodLink RX3 74 yX3_countPlaces, Cond.instanceMethod yX3_countPlaces, Cond.selects RX3 yX3_countPlaces yX3_countPlaces, Cond.initialized RX3, Cond.code yX3_countPlaces cX3_countPlaces 2 (some .int), Cond.fieldLink RX3 45 "OffsetRows$ArcList" "count" "I", Cond.methodLink RX3 66 yX3_rowLength, Cond.instanceMethod yX3_rowLength, Cond.selects RX3 yX3_rowLength yX3_rowLength, Cond.code yX3_rowLength cX3_rowLength 2 (some .int), Cond.fieldLink RX3 31 "OffsetRows$Side" "offsets" "[I", Cond.methodLink RX3 77 yX3_arcAt, Cond.instanceMethod yX3_arcAt, Cond.selects RX3 yX3_arcAt yX3_arcAt, Cond.code yX3_arcAt cX3_arcAt 5 (some .int), Cond.fieldLink RX3 9 "OffsetRows$Side" "row" "[I", Cond.fieldLink RX3 25 "OffsetRows$Side" "ownEnd" "[I", Cond.methodLink RX3 70 yX0_isWaiting, Cond.instanceMethod yX0_isWaiting, Cond.selects RX0 yX0_isWaiting yX0_isWaiting, Cond.initialized RX0, Cond.code yX0_isWaiting cX0_isWaiting 2 (some .boolean), Cond.fieldLink RX0 18 "OffsetRows$ArcList" "state" "[I"]
def wsX3_livePlaceFrom_r2 : List Cond := [Cond.methodLink RX0 29 yX0_has, Cond.instanceMethod yX0_has, Cond.selects RX0 yX0_has yX0_has, Cond.code yX0_has cX0_has 2 (some .boolean), Cond.fieldLink RX0 25 "OffsetRows$ArcList" "count" "I", Cond.methodLink RX3 81 yX0_isLive, Cond.instanceMethod yX0_isLive, Cond.selects RX0 yX0_isLive yX0_isLive, Cond.code yX0_isLive cX0_isLive 2 (some .boolean), Cond.fieldLink RX0 21 "OffsetRows$ArcList" "taken" "[Z"]
def wsX3_livePlaceFrom : List Cond := .code yX3_livePlaceFrom cX3_livePlaceFrom 5 (some .int) :: ((wsX3_livePlaceFrom_r1 ++ wsX3_livePlaceFrom_r2) ++ wsX30 ++ wsX00)
def wsX3_countLive_r1 : List Cond := [Cond.fieldLink RX3 21 "OffsetRows$Side" "arcs" "LOffsetRows$ArcList;", Cond.methodLink RX3 74 yX3_countPlaces, Cond.instanceMethod yX3_countPlaces, Cond.selects RX3 yX3_countPlaces yX3_countPlaces, Cond.initialized RX3, Cond.code yX3_countPlaces cX3_countPlaces 2 (some .int), Cond.fieldLink RX3 45 "OffsetRows$ArcList" "count" "I", Cond.methodLink RX3 66 yX3_rowLength, Cond.instanceMethod yX3_rowLength, Cond.selects RX3 yX3_rowLength yX3_rowLength, Cond.code yX3_rowLength cX3_rowLength 2 (some .int), Cond.fieldLink RX3 31 "OffsetRows$Side" "offsets" "[I", Cond.methodLink RX3 77 yX3_arcAt, Cond.instanceMethod yX3_arcAt, Cond.selects RX3 yX3_arcAt yX3_arcAt, Cond.code yX3_arcAt cX3_arcAt 5 (some .int), Cond.fieldLink RX3 9 "OffsetRows$Side" "row" "[I", Cond.fieldLink RX3 25 "OffsetRows$Side" "ownEnd" "[I", Cond.methodLink RX3 70 yX0_isWaiting, Cond.instanceMethod yX0_isWaiting, Cond.selects RX0 yX0_isWaiting yX0_isWaiting, Cond.initialized RX0, Cond.code yX0_isWaiting cX0_isWaiting 2 (some .boolean), Cond.fieldLink RX0 18 "OffsetRows$ArcList" "state" "[I"]
def wsX3_countLive_r2 : List Cond := [Cond.methodLink RX0 29 yX0_has, Cond.instanceMethod yX0_has, Cond.selects RX0 yX0_has yX0_has, Cond.code yX0_has cX0_has 2 (some .boolean), Cond.fieldLink RX0 25 "OffsetRows$ArcList" "count" "I", Cond.methodLink RX3 81 yX0_isLive, Cond.instanceMethod yX0_isLive, Cond.selects RX0 yX0_isLive yX0_isLive, Cond.code yX0_isLive cX0_isLive 2 (some .boolean), Cond.fieldLink RX0 21 "OffsetRows$ArcList" "taken" "[Z"]
def wsX3_countLive : List Cond := .code yX3_countLive cX3_countLive 5 (some .int) :: ((wsX3_countLive_r1 ++ wsX3_countLive_r2) ++ wsX30 ++ wsX00)
def wsX3_liveArc_r1 : List Cond := [Cond.fieldLink RX3 21 "OffsetRows$Side" "arcs" "LOffsetRows$ArcList;", Cond.methodLink RX3 74 yX3_countPlaces, Cond.instanceMethod yX3_countPlaces, Cond.selects RX3 yX3_countPlaces yX3_countPlaces, Cond.initialized RX3, Cond.code yX3_countPlaces cX3_countPlaces 2 (some .int), Cond.fieldLink RX3 45 "OffsetRows$ArcList" "count" "I", Cond.methodLink RX3 66 yX3_rowLength, Cond.instanceMethod yX3_rowLength, Cond.selects RX3 yX3_rowLength yX3_rowLength, Cond.code yX3_rowLength cX3_rowLength 2 (some .int), Cond.fieldLink RX3 31 "OffsetRows$Side" "offsets" "[I", Cond.methodLink RX3 77 yX3_arcAt, Cond.instanceMethod yX3_arcAt, Cond.selects RX3 yX3_arcAt yX3_arcAt, Cond.code yX3_arcAt cX3_arcAt 5 (some .int), Cond.fieldLink RX3 9 "OffsetRows$Side" "row" "[I", Cond.fieldLink RX3 25 "OffsetRows$Side" "ownEnd" "[I", Cond.methodLink RX3 70 yX0_isWaiting, Cond.instanceMethod yX0_isWaiting, Cond.selects RX0 yX0_isWaiting yX0_isWaiting, Cond.initialized RX0, Cond.code yX0_isWaiting cX0_isWaiting 2 (some .boolean), Cond.fieldLink RX0 18 "OffsetRows$ArcList" "state" "[I"]
def wsX3_liveArc_r2 : List Cond := [Cond.methodLink RX0 29 yX0_has, Cond.instanceMethod yX0_has, Cond.selects RX0 yX0_has yX0_has, Cond.code yX0_has cX0_has 2 (some .boolean), Cond.fieldLink RX0 25 "OffsetRows$ArcList" "count" "I", Cond.methodLink RX3 81 yX0_isLive, Cond.instanceMethod yX0_isLive, Cond.selects RX0 yX0_isLive yX0_isLive, Cond.code yX0_isLive cX0_isLive 2 (some .boolean), Cond.fieldLink RX0 21 "OffsetRows$ArcList" "taken" "[Z"]
def wsX3_liveArc : List Cond := .code yX3_liveArc cX3_liveArc 7 (some .int) :: ((wsX3_liveArc_r1 ++ wsX3_liveArc_r2) ++ wsX30 ++ wsX00)
def wsX4_init_r1 : List Cond := [Cond.methodLink RX4 1 objectInit, Cond.instanceMethod objectInit, Cond.code objectInit ⟨#[0xb1]⟩ 1 none, Cond.methodLink RX4 9 Lib.Math.min.name, Cond.static Lib.Math.min.name, Cond.initialized "java/lang/Math", Cond.code Lib.Math.min.name Lib.Math.min.code 2 (some .int), Cond.methodLink RX4 15 Lib.Math.max.name, Cond.static Lib.Math.max.name, Cond.code Lib.Math.max.name Lib.Math.max.code 2 (some .int), Cond.fieldLink RX4 18 "OffsetRows" "nodes" "I", Cond.classLink RX4 22 RX0, Cond.instantiable RX0 5, Cond.initialized RX0, Cond.fieldLink RX4 25 "OffsetRows" "arcs" "LOffsetRows$ArcList;", Cond.classLink RX4 29 RX3, Cond.instantiable RX3 8, Cond.initialized RX3, Cond.fieldLink RX4 31 "OffsetRows$ArcList" "from" "[I", Cond.fieldLink RX4 35 "OffsetRows$ArcList" "to" "[I", Cond.fieldLink RX4 41 "OffsetRows" "outSide" "LOffsetRows$Side;", Cond.fieldLink RX4 45 "OffsetRows" "inSide" "LOffsetRows$Side;", Cond.classLink RX4 48 RX2, Cond.instantiable RX2 6]
def wsX4_init_r2 : List Cond := [Cond.initialized RX2, Cond.fieldLink RX4 51 "OffsetRows" "iterators" "LOffsetRows$Iterators;", Cond.classLink RX4 55 RX1, Cond.instantiable RX1 2, Cond.initialized RX1, Cond.fieldLink RX4 58 "OffsetRows" "given" "LOffsetRows$Given;", Cond.arrayClass .int, Cond.fieldLink RX4 62 "OffsetRows" "turnRow" "[I", Cond.fieldLink RX4 65 "OffsetRows" "turnedNumbers" "I", Cond.fieldLink RX4 68 "OffsetRows" "steps" "[I", Cond.arrayClass .long, Cond.fieldLink RX4 71 "OffsetRows" "waysHere" "[J", Cond.fieldLink RX4 75 "OffsetRows" "waysOnward" "[J", Cond.instanceMethod yX0_init, Cond.code yX0_init cX0_init 1 none, Cond.methodLink RX0 3 objectInit, Cond.fieldLink RX0 9 "OffsetRows$ArcList" "from" "[I", Cond.fieldLink RX0 15 "OffsetRows$ArcList" "to" "[I", Cond.fieldLink RX0 18 "OffsetRows$ArcList" "state" "[I", Cond.arrayClass .boolean, Cond.fieldLink RX0 21 "OffsetRows$ArcList" "taken" "[Z", Cond.fieldLink RX0 25 "OffsetRows$ArcList" "count" "I", Cond.methodLink RX4 38 yX3_init, Cond.instanceMethod yX3_init]
def wsX4_init_r3 : List Cond := [Cond.code yX3_init cX3_init 5 none, Cond.methodLink RX3 3 objectInit, Cond.fieldLink RX3 9 "OffsetRows$Side" "row" "[I", Cond.fieldLink RX3 15 "OffsetRows$Side" "numbers" "[I", Cond.fieldLink RX3 18 "OffsetRows$Side" "byFarEnd" "[I", Cond.fieldLink RX3 21 "OffsetRows$Side" "arcs" "LOffsetRows$ArcList;", Cond.fieldLink RX3 25 "OffsetRows$Side" "ownEnd" "[I", Cond.fieldLink RX3 28 "OffsetRows$Side" "farEnd" "[I", Cond.fieldLink RX3 31 "OffsetRows$Side" "offsets" "[I", Cond.fieldLink RX3 34 "OffsetRows$Side" "free" "[I", Cond.instanceMethod yX2_init, Cond.code yX2_init cX2_init 1 none, Cond.methodLink RX2 3 objectInit, Cond.fieldLink RX2 9 "OffsetRows$Iterators" "isOpen" "[Z", Cond.fieldLink RX2 15 "OffsetRows$Iterators" "isStale" "[Z", Cond.fieldLink RX2 18 "OffsetRows$Iterators" "ofIn" "[Z", Cond.fieldLink RX2 21 "OffsetRows$Iterators" "node" "[I", Cond.fieldLink RX2 25 "OffsetRows$Iterators" "lastPlace" "[I", Cond.fieldLink RX2 28 "OffsetRows$Iterators" "arcsTold" "[I", Cond.instanceMethod yX1_init, Cond.code yX1_init cX1_init 1 none, Cond.methodLink RX1 3 objectInit, Cond.fieldLink RX1 9 "OffsetRows$Given" "offsets" "[I", Cond.fieldLink RX1 15 "OffsetRows$Given" "targets" "[I"]
def wsX4_init : List Cond := .code yX4_init cX4_init 2 none :: ((wsX4_init_r1 ++ (wsX4_init_r2 ++ wsX4_init_r3)) ++ wsX40 ++ wsX00 ++ wsX30 ++ wsX20 ++ wsX10)
def wsX4_isNode : List Cond := .code yX4_isNode cX4_isNode 2 (some .boolean) :: ([.fieldLink RX4 18 "OffsetRows" "nodes" "I"] ++ wsX40)
def wsX4_arc : List Cond := .code yX4_arc cX4_arc 3 (some .int) :: ([.fieldLink RX4 25 "OffsetRows" "arcs" "LOffsetRows$ArcList;", .methodLink RX4 78 yX4_isNode, .instanceMethod yX4_isNode, .selects RX4 yX4_isNode yX4_isNode, .initialized RX4, .code yX4_isNode cX4_isNode 2 (some .boolean), .fieldLink RX4 18 "OffsetRows" "nodes" "I", .methodLink RX4 82 yX0_append, .instanceMethod yX0_append, .selects RX0 yX0_append yX0_append, .initialized RX0, .code yX0_append cX0_append 5 (some .int), .fieldLink RX0 25 "OffsetRows$ArcList" "count" "I", .fieldLink RX0 9 "OffsetRows$ArcList" "from" "[I", .fieldLink RX0 15 "OffsetRows$ArcList" "to" "[I", .fieldLink RX0 18 "OffsetRows$ArcList" "state" "[I", .fieldLink RX0 21 "OffsetRows$ArcList" "taken" "[Z"] ++ wsX40 ++ wsX00)
def wsX4_mark : List Cond := .code yX4_mark cX4_mark 3 (some .int) :: ([.fieldLink RX4 25 "OffsetRows" "arcs" "LOffsetRows$ArcList;", .fieldLink RX4 118 "OffsetRows$ArcList" "state" "[I", .fieldLink RX4 121 "OffsetRows$ArcList" "taken" "[Z", .methodLink RX4 115 yX0_has, .instanceMethod yX0_has, .selects RX0 yX0_has yX0_has, .initialized RX0, .code yX0_has cX0_has 2 (some .boolean), .fieldLink RX0 25 "OffsetRows$ArcList" "count" "I"] ++ wsX40 ++ wsX00)
def wsX4_take : List Cond := .code yX4_take cX4_take 2 (some .int) :: ([.methodLink RX4 86 yX4_mark, .instanceMethod yX4_mark, .selects RX4 yX4_mark yX4_mark, .initialized RX4, .code yX4_mark cX4_mark 3 (some .int), .fieldLink RX4 25 "OffsetRows" "arcs" "LOffsetRows$ArcList;", .fieldLink RX4 118 "OffsetRows$ArcList" "state" "[I", .fieldLink RX4 121 "OffsetRows$ArcList" "taken" "[Z", .methodLink RX4 115 yX0_has, .instanceMethod yX0_has, .selects RX0 yX0_has yX0_has, .initialized RX0, .code yX0_has cX0_has 2 (some .boolean), .fieldLink RX0 25 "OffsetRows$ArcList" "count" "I"] ++ wsX40 ++ wsX00)
def wsX4_untake : List Cond := .code yX4_untake cX4_untake 2 (some .int) :: ([.methodLink RX4 86 yX4_mark, .instanceMethod yX4_mark, .selects RX4 yX4_mark yX4_mark, .initialized RX4, .code yX4_mark cX4_mark 3 (some .int), .fieldLink RX4 25 "OffsetRows" "arcs" "LOffsetRows$ArcList;", .fieldLink RX4 118 "OffsetRows$ArcList" "state" "[I", .fieldLink RX4 121 "OffsetRows$ArcList" "taken" "[Z", .methodLink RX4 115 yX0_has, .instanceMethod yX0_has, .selects RX0 yX0_has yX0_has, .initialized RX0, .code yX0_has cX0_has 2 (some .boolean), .fieldLink RX0 25 "OffsetRows$ArcList" "count" "I"] ++ wsX40 ++ wsX00)
def wsX4_buildRows_r1 : List Cond := [Cond.fieldLink RX4 41 "OffsetRows" "outSide" "LOffsetRows$Side;", Cond.fieldLink RX4 45 "OffsetRows" "inSide" "LOffsetRows$Side;", Cond.methodLink RX4 215 yX3_build, Cond.instanceMethod yX3_build, Cond.selects RX3 yX3_build yX3_build, Cond.initialized RX3, Cond.code yX3_build cX3_build 2 none, Cond.fieldLink RX3 15 "OffsetRows$Side" "numbers" "[I", Cond.fieldLink RX3 28 "OffsetRows$Side" "farEnd" "[I", Cond.fieldLink RX3 18 "OffsetRows$Side" "byFarEnd" "[I", Cond.fieldLink RX3 25 "OffsetRows$Side" "ownEnd" "[I", Cond.fieldLink RX3 9 "OffsetRows$Side" "row" "[I", Cond.methodLink RX3 37 yX3_listBuilt, Cond.instanceMethod yX3_listBuilt, Cond.selects RX3 yX3_listBuilt yX3_listBuilt, Cond.code yX3_listBuilt cX3_listBuilt 3 (some .int), Cond.fieldLink RX3 21 "OffsetRows$Side" "arcs" "LOffsetRows$ArcList;", Cond.fieldLink RX3 45 "OffsetRows$ArcList" "count" "I", Cond.fieldLink RX3 51 "OffsetRows$ArcList" "state" "[I", Cond.methodLink RX3 41 yX3_sortByCounting, Cond.instanceMethod yX3_sortByCounting, Cond.selects RX3 yX3_sortByCounting yX3_sortByCounting, Cond.code yX3_sortByCounting cX3_sortByCounting 7 none, Cond.fieldLink RX3 31 "OffsetRows$Side" "offsets" "[I"]
def wsX4_buildRows_r2 : List Cond := [Cond.fieldLink RX3 34 "OffsetRows$Side" "free" "[I", Cond.methodLink RX3 60 arraycopyName, Cond.native arraycopyName, Cond.static arraycopyName, Cond.initialized "java/lang/System", Cond.methodLink RX3 54 yJ7_fill_53178, Cond.static yJ7_fill_53178, Cond.initialized RJ7, Cond.code yJ7_fill_53178 cJ7_fill_53178 4 none]
def wsX4_buildRows : List Cond := .code yX4_buildRows cX4_buildRows 1 none :: ((wsX4_buildRows_r1 ++ wsX4_buildRows_r2) ++ wsX40 ++ wsX30 ++ wsX00)
def wsX4_buildAnew_r1 : List Cond := [Cond.fieldLink RX4 25 "OffsetRows" "arcs" "LOffsetRows$ArcList;", Cond.fieldLink RX4 51 "OffsetRows" "iterators" "LOffsetRows$Iterators;", Cond.methodLink RX4 212 yX0_settle, Cond.instanceMethod yX0_settle, Cond.selects RX0 yX0_settle yX0_settle, Cond.initialized RX0, Cond.code yX0_settle cX0_settle 4 (some .int), Cond.fieldLink RX0 25 "OffsetRows$ArcList" "count" "I", Cond.fieldLink RX0 21 "OffsetRows$ArcList" "taken" "[Z", Cond.fieldLink RX0 18 "OffsetRows$ArcList" "state" "[I", Cond.methodLink RX4 101 yX4_buildRows, Cond.instanceMethod yX4_buildRows, Cond.selects RX4 yX4_buildRows yX4_buildRows, Cond.initialized RX4, Cond.code yX4_buildRows cX4_buildRows 1 none, Cond.fieldLink RX4 41 "OffsetRows" "outSide" "LOffsetRows$Side;", Cond.fieldLink RX4 45 "OffsetRows" "inSide" "LOffsetRows$Side;", Cond.methodLink RX4 215 yX3_build, Cond.instanceMethod yX3_build, Cond.selects RX3 yX3_build yX3_build, Cond.initialized RX3, Cond.code yX3_build cX3_build 2 none, Cond.fieldLink RX3 15 "OffsetRows$Side" "numbers" "[I", Cond.fieldLink RX3 28 "OffsetRows$Side" "farEnd" "[I"]
def wsX4_buildAnew_r2 : List Cond := [Cond.fieldLink RX3 18 "OffsetRows$Side" "byFarEnd" "[I", Cond.fieldLink RX3 25 "OffsetRows$Side" "ownEnd" "[I", Cond.fieldLink RX3 9 "OffsetRows$Side" "row" "[I", Cond.methodLink RX3 37 yX3_listBuilt, Cond.instanceMethod yX3_listBuilt, Cond.selects RX3 yX3_listBuilt yX3_listBuilt, Cond.code yX3_listBuilt cX3_listBuilt 3 (some .int), Cond.fieldLink RX3 21 "OffsetRows$Side" "arcs" "LOffsetRows$ArcList;", Cond.fieldLink RX3 45 "OffsetRows$ArcList" "count" "I", Cond.fieldLink RX3 51 "OffsetRows$ArcList" "state" "[I", Cond.methodLink RX3 41 yX3_sortByCounting, Cond.instanceMethod yX3_sortByCounting, Cond.selects RX3 yX3_sortByCounting yX3_sortByCounting, Cond.code yX3_sortByCounting cX3_sortByCounting 7 none, Cond.fieldLink RX3 31 "OffsetRows$Side" "offsets" "[I", Cond.fieldLink RX3 34 "OffsetRows$Side" "free" "[I", Cond.methodLink RX3 60 arraycopyName, Cond.native arraycopyName, Cond.static arraycopyName, Cond.initialized "java/lang/System", Cond.methodLink RX3 54 yJ7_fill_53178, Cond.static yJ7_fill_53178, Cond.initialized RJ7, Cond.code yJ7_fill_53178 cJ7_fill_53178 4 none]
def wsX4_buildAnew_r3 : List Cond := [Cond.methodLink RX4 201 yX2_makeStale, Cond.instanceMethod yX2_makeStale, Cond.selects RX2 yX2_makeStale yX2_makeStale, Cond.initialized RX2, Cond.code yX2_makeStale cX2_makeStale 2 none, Cond.fieldLink RX2 15 "OffsetRows$Iterators" "isStale" "[Z"]
def wsX4_buildAnew : List Cond := .code yX4_buildAnew cX4_buildAnew 2 (some .int) :: ((wsX4_buildAnew_r1 ++ (wsX4_buildAnew_r2 ++ wsX4_buildAnew_r3)) ++ wsX40 ++ wsX00 ++ wsX30 ++ wsX20)
def wsX4_merge_r1 : List Cond := [Cond.methodLink RX4 90 yX4_buildAnew, Cond.instanceMethod yX4_buildAnew, Cond.selects RX4 yX4_buildAnew yX4_buildAnew, Cond.initialized RX4, Cond.code yX4_buildAnew cX4_buildAnew 2 (some .int), Cond.fieldLink RX4 25 "OffsetRows" "arcs" "LOffsetRows$ArcList;", Cond.fieldLink RX4 51 "OffsetRows" "iterators" "LOffsetRows$Iterators;", Cond.methodLink RX4 212 yX0_settle, Cond.instanceMethod yX0_settle, Cond.selects RX0 yX0_settle yX0_settle, Cond.initialized RX0, Cond.code yX0_settle cX0_settle 4 (some .int), Cond.fieldLink RX0 25 "OffsetRows$ArcList" "count" "I", Cond.fieldLink RX0 21 "OffsetRows$ArcList" "taken" "[Z", Cond.fieldLink RX0 18 "OffsetRows$ArcList" "state" "[I", Cond.methodLink RX4 101 yX4_buildRows, Cond.instanceMethod yX4_buildRows, Cond.selects RX4 yX4_buildRows yX4_buildRows, Cond.code yX4_buildRows cX4_buildRows 1 none, Cond.fieldLink RX4 41 "OffsetRows" "outSide" "LOffsetRows$Side;", Cond.fieldLink RX4 45 "OffsetRows" "inSide" "LOffsetRows$Side;", Cond.methodLink RX4 215 yX3_build, Cond.instanceMethod yX3_build, Cond.selects RX3 yX3_build yX3_build]
def wsX4_merge_r2 : List Cond := [Cond.initialized RX3, Cond.code yX3_build cX3_build 2 none, Cond.fieldLink RX3 15 "OffsetRows$Side" "numbers" "[I", Cond.fieldLink RX3 28 "OffsetRows$Side" "farEnd" "[I", Cond.fieldLink RX3 18 "OffsetRows$Side" "byFarEnd" "[I", Cond.fieldLink RX3 25 "OffsetRows$Side" "ownEnd" "[I", Cond.fieldLink RX3 9 "OffsetRows$Side" "row" "[I", Cond.methodLink RX3 37 yX3_listBuilt, Cond.instanceMethod yX3_listBuilt, Cond.selects RX3 yX3_listBuilt yX3_listBuilt, Cond.code yX3_listBuilt cX3_listBuilt 3 (some .int), Cond.fieldLink RX3 21 "OffsetRows$Side" "arcs" "LOffsetRows$ArcList;", Cond.fieldLink RX3 45 "OffsetRows$ArcList" "count" "I", Cond.fieldLink RX3 51 "OffsetRows$ArcList" "state" "[I", Cond.methodLink RX3 41 yX3_sortByCounting, Cond.instanceMethod yX3_sortByCounting, Cond.selects RX3 yX3_sortByCounting yX3_sortByCounting, Cond.code yX3_sortByCounting cX3_sortByCounting 7 none, Cond.fieldLink RX3 31 "OffsetRows$Side" "offsets" "[I", Cond.fieldLink RX3 34 "OffsetRows$Side" "free" "[I", Cond.methodLink RX3 60 arraycopyName, Cond.native arraycopyName, Cond.static arraycopyName, Cond.initialized "java/lang/System"]
def wsX4_merge_r3 : List Cond := [Cond.methodLink RX3 54 yJ7_fill_53178, Cond.static yJ7_fill_53178, Cond.initialized RJ7, Cond.code yJ7_fill_53178 cJ7_fill_53178 4 none, Cond.methodLink RX4 201 yX2_makeStale, Cond.instanceMethod yX2_makeStale, Cond.selects RX2 yX2_makeStale yX2_makeStale, Cond.initialized RX2, Cond.code yX2_makeStale cX2_makeStale 2 none, Cond.fieldLink RX2 15 "OffsetRows$Iterators" "isStale" "[Z"]
def wsX4_merge : List Cond := .code yX4_merge cX4_merge 1 (some .int) :: ((wsX4_merge_r1 ++ (wsX4_merge_r2 ++ wsX4_merge_r3)) ++ wsX40 ++ wsX00 ++ wsX30 ++ wsX20)
def wsX4_pack_r1 : List Cond := [Cond.fieldLink RX4 25 "OffsetRows" "arcs" "LOffsetRows$ArcList;", Cond.fieldLink RX4 94 "OffsetRows$ArcList" "count" "I", Cond.fieldLink RX4 65 "OffsetRows" "turnedNumbers" "I", Cond.fieldLink RX4 62 "OffsetRows" "turnRow" "[I", Cond.methodLink RX4 90 yX4_buildAnew, Cond.instanceMethod yX4_buildAnew, Cond.selects RX4 yX4_buildAnew yX4_buildAnew, Cond.initialized RX4, Cond.code yX4_buildAnew cX4_buildAnew 2 (some .int), Cond.fieldLink RX4 51 "OffsetRows" "iterators" "LOffsetRows$Iterators;", Cond.methodLink RX4 212 yX0_settle, Cond.instanceMethod yX0_settle, Cond.selects RX0 yX0_settle yX0_settle, Cond.initialized RX0, Cond.code yX0_settle cX0_settle 4 (some .int), Cond.fieldLink RX0 25 "OffsetRows$ArcList" "count" "I", Cond.fieldLink RX0 21 "OffsetRows$ArcList" "taken" "[Z", Cond.fieldLink RX0 18 "OffsetRows$ArcList" "state" "[I", Cond.methodLink RX4 101 yX4_buildRows, Cond.instanceMethod yX4_buildRows, Cond.selects RX4 yX4_buildRows yX4_buildRows, Cond.code yX4_buildRows cX4_buildRows 1 none, Cond.fieldLink RX4 41 "OffsetRows" "outSide" "LOffsetRows$Side;", Cond.fieldLink RX4 45 "OffsetRows" "inSide" "LOffsetRows$Side;"]
def wsX4_pack_r2 : List Cond := [Cond.methodLink RX4 215 yX3_build, Cond.instanceMethod yX3_build, Cond.selects RX3 yX3_build yX3_build, Cond.initialized RX3, Cond.code yX3_build cX3_build 2 none, Cond.fieldLink RX3 15 "OffsetRows$Side" "numbers" "[I", Cond.fieldLink RX3 28 "OffsetRows$Side" "farEnd" "[I", Cond.fieldLink RX3 18 "OffsetRows$Side" "byFarEnd" "[I", Cond.fieldLink RX3 25 "OffsetRows$Side" "ownEnd" "[I", Cond.fieldLink RX3 9 "OffsetRows$Side" "row" "[I", Cond.methodLink RX3 37 yX3_listBuilt, Cond.instanceMethod yX3_listBuilt, Cond.selects RX3 yX3_listBuilt yX3_listBuilt, Cond.code yX3_listBuilt cX3_listBuilt 3 (some .int), Cond.fieldLink RX3 21 "OffsetRows$Side" "arcs" "LOffsetRows$ArcList;", Cond.fieldLink RX3 45 "OffsetRows$ArcList" "count" "I", Cond.fieldLink RX3 51 "OffsetRows$ArcList" "state" "[I", Cond.methodLink RX3 41 yX3_sortByCounting, Cond.instanceMethod yX3_sortByCounting, Cond.selects RX3 yX3_sortByCounting yX3_sortByCounting, Cond.code yX3_sortByCounting cX3_sortByCounting 7 none, Cond.fieldLink RX3 31 "OffsetRows$Side" "offsets" "[I", Cond.fieldLink RX3 34 "OffsetRows$Side" "free" "[I", Cond.methodLink RX3 60 arraycopyName]
def wsX4_pack_r3 : List Cond := [Cond.native arraycopyName, Cond.static arraycopyName, Cond.initialized "java/lang/System", Cond.methodLink RX3 54 yJ7_fill_53178, Cond.static yJ7_fill_53178, Cond.initialized RJ7, Cond.code yJ7_fill_53178 cJ7_fill_53178 4 none, Cond.methodLink RX4 201 yX2_makeStale, Cond.instanceMethod yX2_makeStale, Cond.selects RX2 yX2_makeStale yX2_makeStale, Cond.initialized RX2, Cond.code yX2_makeStale cX2_makeStale 2 none, Cond.fieldLink RX2 15 "OffsetRows$Iterators" "isStale" "[Z", Cond.methodLink RX4 97 yX0_renumber, Cond.instanceMethod yX0_renumber, Cond.selects RX0 yX0_renumber yX0_renumber, Cond.code yX0_renumber cX0_renumber 5 none, Cond.fieldLink RX0 9 "OffsetRows$ArcList" "from" "[I", Cond.fieldLink RX0 15 "OffsetRows$ArcList" "to" "[I", Cond.methodLink RX0 33 yX0_append, Cond.instanceMethod yX0_append, Cond.selects RX0 yX0_append yX0_append, Cond.code yX0_append cX0_append 5 (some .int)]
def wsX4_pack : List Cond := .code yX4_pack cX4_pack 1 (some .int) :: ((wsX4_pack_r1 ++ (wsX4_pack_r2 ++ wsX4_pack_r3)) ++ wsX40 ++ wsX00 ++ wsX30 ++ wsX20)
def wsX4_turned : List Cond := .code yX4_turned cX4_turned 2 (some .int) :: ([.fieldLink RX4 65 "OffsetRows" "turnedNumbers" "I", .fieldLink RX4 62 "OffsetRows" "turnRow" "[I"] ++ wsX40)
def wsX4_arcInRow_r1 : List Cond := [Cond.classLink RX4 218 "java/lang/IndexOutOfBoundsException", Cond.initialized "java/lang/IndexOutOfBoundsException", Cond.methodLink RX4 78 yX4_isNode, Cond.instanceMethod yX4_isNode, Cond.selects RX4 yX4_isNode yX4_isNode, Cond.initialized RX4, Cond.code yX4_isNode cX4_isNode 2 (some .boolean), Cond.fieldLink RX4 18 "OffsetRows" "nodes" "I", Cond.methodLink RX4 225 yX3_rowLength, Cond.instanceMethod yX3_rowLength, Cond.selects RX3 yX3_rowLength yX3_rowLength, Cond.initialized RX3, Cond.code yX3_rowLength cX3_rowLength 2 (some .int), Cond.fieldLink RX3 31 "OffsetRows$Side" "offsets" "[I", Cond.methodLink RX4 182 yX3_arcAt, Cond.instanceMethod yX3_arcAt, Cond.selects RX3 yX3_arcAt yX3_arcAt, Cond.code yX3_arcAt cX3_arcAt 5 (some .int), Cond.fieldLink RX3 9 "OffsetRows$Side" "row" "[I", Cond.fieldLink RX3 21 "OffsetRows$Side" "arcs" "LOffsetRows$ArcList;", Cond.fieldLink RX3 25 "OffsetRows$Side" "ownEnd" "[I", Cond.methodLink RX3 66 yX3_rowLength, Cond.methodLink RX3 70 yX0_isWaiting, Cond.instanceMethod yX0_isWaiting]
def wsX4_arcInRow_r2 : List Cond := [Cond.selects RX0 yX0_isWaiting yX0_isWaiting, Cond.initialized RX0, Cond.code yX0_isWaiting cX0_isWaiting 2 (some .boolean), Cond.fieldLink RX0 18 "OffsetRows$ArcList" "state" "[I", Cond.methodLink RX0 29 yX0_has, Cond.instanceMethod yX0_has, Cond.selects RX0 yX0_has yX0_has, Cond.code yX0_has cX0_has 2 (some .boolean), Cond.fieldLink RX0 25 "OffsetRows$ArcList" "count" "I"]
def wsX4_arcInRow : List Cond := .code yX4_arcInRow cX4_arcInRow 4 (some .int) :: ((wsX4_arcInRow_r1 ++ wsX4_arcInRow_r2) ++ wsX40 ++ wsX30 ++ wsX00 ++ (vx_atS RX4 222 "java/lang/IndexOutOfBoundsException" ["java/lang/RuntimeException", "java/lang/Exception"]).filter goodWord)
def wsX4_out_r1 : List Cond := [Cond.fieldLink RX4 41 "OffsetRows" "outSide" "LOffsetRows$Side;", Cond.methodLink RX4 104 yX4_arcInRow, Cond.instanceMethod yX4_arcInRow, Cond.selects RX4 yX4_arcInRow yX4_arcInRow, Cond.initialized RX4, Cond.code yX4_arcInRow cX4_arcInRow 4 (some .int), Cond.classLink RX4 218 "java/lang/IndexOutOfBoundsException", Cond.initialized "java/lang/IndexOutOfBoundsException", Cond.methodLink RX4 78 yX4_isNode, Cond.instanceMethod yX4_isNode, Cond.selects RX4 yX4_isNode yX4_isNode, Cond.code yX4_isNode cX4_isNode 2 (some .boolean), Cond.fieldLink RX4 18 "OffsetRows" "nodes" "I", Cond.methodLink RX4 225 yX3_rowLength, Cond.instanceMethod yX3_rowLength, Cond.selects RX3 yX3_rowLength yX3_rowLength, Cond.initialized RX3, Cond.code yX3_rowLength cX3_rowLength 2 (some .int), Cond.fieldLink RX3 31 "OffsetRows$Side" "offsets" "[I", Cond.methodLink RX4 182 yX3_arcAt, Cond.instanceMethod yX3_arcAt, Cond.selects RX3 yX3_arcAt yX3_arcAt, Cond.code yX3_arcAt cX3_arcAt 5 (some .int), Cond.fieldLink RX3 9 "OffsetRows$Side" "row" "[I"]
def wsX4_out_r2 : List Cond := [Cond.fieldLink RX3 21 "OffsetRows$Side" "arcs" "LOffsetRows$ArcList;", Cond.fieldLink RX3 25 "OffsetRows$Side" "ownEnd" "[I", Cond.methodLink RX3 66 yX3_rowLength, Cond.methodLink RX3 70 yX0_isWaiting, Cond.instanceMethod yX0_isWaiting, Cond.selects RX0 yX0_isWaiting yX0_isWaiting, Cond.initialized RX0, Cond.code yX0_isWaiting cX0_isWaiting 2 (some .boolean), Cond.fieldLink RX0 18 "OffsetRows$ArcList" "state" "[I", Cond.methodLink RX0 29 yX0_has, Cond.instanceMethod yX0_has, Cond.selects RX0 yX0_has yX0_has, Cond.code yX0_has cX0_has 2 (some .boolean), Cond.fieldLink RX0 25 "OffsetRows$ArcList" "count" "I"]
def wsX4_out : List Cond := .code yX4_out cX4_out 3 (some .int) :: ((wsX4_out_r1 ++ wsX4_out_r2) ++ wsX40 ++ wsX30 ++ wsX00 ++ (vx_atS RX4 222 "java/lang/IndexOutOfBoundsException" ["java/lang/RuntimeException", "java/lang/Exception"]).filter goodWord)
def wsX4_in_r1 : List Cond := [Cond.fieldLink RX4 45 "OffsetRows" "inSide" "LOffsetRows$Side;", Cond.methodLink RX4 104 yX4_arcInRow, Cond.instanceMethod yX4_arcInRow, Cond.selects RX4 yX4_arcInRow yX4_arcInRow, Cond.initialized RX4, Cond.code yX4_arcInRow cX4_arcInRow 4 (some .int), Cond.classLink RX4 218 "java/lang/IndexOutOfBoundsException", Cond.initialized "java/lang/IndexOutOfBoundsException", Cond.methodLink RX4 78 yX4_isNode, Cond.instanceMethod yX4_isNode, Cond.selects RX4 yX4_isNode yX4_isNode, Cond.code yX4_isNode cX4_isNode 2 (some .boolean), Cond.fieldLink RX4 18 "OffsetRows" "nodes" "I", Cond.methodLink RX4 225 yX3_rowLength, Cond.instanceMethod yX3_rowLength, Cond.selects RX3 yX3_rowLength yX3_rowLength, Cond.initialized RX3, Cond.code yX3_rowLength cX3_rowLength 2 (some .int), Cond.fieldLink RX3 31 "OffsetRows$Side" "offsets" "[I", Cond.methodLink RX4 182 yX3_arcAt, Cond.instanceMethod yX3_arcAt, Cond.selects RX3 yX3_arcAt yX3_arcAt, Cond.code yX3_arcAt cX3_arcAt 5 (some .int), Cond.fieldLink RX3 9 "OffsetRows$Side" "row" "[I"]
def wsX4_in_r2 : List Cond := [Cond.fieldLink RX3 21 "OffsetRows$Side" "arcs" "LOffsetRows$ArcList;", Cond.fieldLink RX3 25 "OffsetRows$Side" "ownEnd" "[I", Cond.methodLink RX3 66 yX3_rowLength, Cond.methodLink RX3 70 yX0_isWaiting, Cond.instanceMethod yX0_isWaiting, Cond.selects RX0 yX0_isWaiting yX0_isWaiting, Cond.initialized RX0, Cond.code yX0_isWaiting cX0_isWaiting 2 (some .boolean), Cond.fieldLink RX0 18 "OffsetRows$ArcList" "state" "[I", Cond.methodLink RX0 29 yX0_has, Cond.instanceMethod yX0_has, Cond.selects RX0 yX0_has yX0_has, Cond.code yX0_has cX0_has 2 (some .boolean), Cond.fieldLink RX0 25 "OffsetRows$ArcList" "count" "I"]
def wsX4_in : List Cond := .code yX4_in cX4_in 3 (some .int) :: ((wsX4_in_r1 ++ wsX4_in_r2) ++ wsX40 ++ wsX30 ++ wsX00 ++ (vx_atS RX4 222 "java/lang/IndexOutOfBoundsException" ["java/lang/RuntimeException", "java/lang/Exception"]).filter goodWord)
def wsX4_side : List Cond := .code yX4_side cX4_side 2 (some (.object "OffsetRows$Side")) :: ([.fieldLink RX4 45 "OffsetRows" "inSide" "LOffsetRows$Side;", .fieldLink RX4 41 "OffsetRows" "outSide" "LOffsetRows$Side;"] ++ wsX40)
def wsX4_offset : List Cond := .code yX4_offset cX4_offset 3 (some .int) :: ([.fieldLink RX4 18 "OffsetRows" "nodes" "I", .fieldLink RX4 112 "OffsetRows$Side" "offsets" "[I", .methodLink RX4 78 yX4_isNode, .instanceMethod yX4_isNode, .selects RX4 yX4_isNode yX4_isNode, .initialized RX4, .code yX4_isNode cX4_isNode 2 (some .boolean), .methodLink RX4 108 yX4_side, .instanceMethod yX4_side, .selects RX4 yX4_side yX4_side, .code yX4_side cX4_side 2 (some (.object "OffsetRows$Side")), .fieldLink RX4 45 "OffsetRows" "inSide" "LOffsetRows$Side;", .fieldLink RX4 41 "OffsetRows" "outSide" "LOffsetRows$Side;"] ++ wsX40 ++ wsX30)
def wsX4_told : List Cond := .code yX4_told cX4_told 3 (some .int) :: ([.fieldLink RX4 25 "OffsetRows" "arcs" "LOffsetRows$ArcList;", .fieldLink RX4 31 "OffsetRows$ArcList" "from" "[I", .fieldLink RX4 35 "OffsetRows$ArcList" "to" "[I", .fieldLink RX4 118 "OffsetRows$ArcList" "state" "[I", .fieldLink RX4 121 "OffsetRows$ArcList" "taken" "[Z", .methodLink RX4 115 yX0_has, .instanceMethod yX0_has, .selects RX0 yX0_has yX0_has, .initialized RX0, .code yX0_has cX0_has 2 (some .boolean), .fieldLink RX0 25 "OffsetRows$ArcList" "count" "I"] ++ wsX40 ++ wsX00)
def wsX4_degree_r1 : List Cond := [Cond.methodLink RX4 78 yX4_isNode, Cond.instanceMethod yX4_isNode, Cond.selects RX4 yX4_isNode yX4_isNode, Cond.initialized RX4, Cond.code yX4_isNode cX4_isNode 2 (some .boolean), Cond.fieldLink RX4 18 "OffsetRows" "nodes" "I", Cond.methodLink RX4 108 yX4_side, Cond.instanceMethod yX4_side, Cond.selects RX4 yX4_side yX4_side, Cond.code yX4_side cX4_side 2 (some (.object "OffsetRows$Side")), Cond.fieldLink RX4 45 "OffsetRows" "inSide" "LOffsetRows$Side;", Cond.fieldLink RX4 41 "OffsetRows" "outSide" "LOffsetRows$Side;", Cond.methodLink RX4 125 yX3_countLive, Cond.instanceMethod yX3_countLive, Cond.selects RX3 yX3_countLive yX3_countLive, Cond.initialized RX3, Cond.code yX3_countLive cX3_countLive 5 (some .int), Cond.fieldLink RX3 21 "OffsetRows$Side" "arcs" "LOffsetRows$ArcList;", Cond.methodLink RX3 74 yX3_countPlaces, Cond.instanceMethod yX3_countPlaces, Cond.selects RX3 yX3_countPlaces yX3_countPlaces, Cond.code yX3_countPlaces cX3_countPlaces 2 (some .int), Cond.fieldLink RX3 45 "OffsetRows$ArcList" "count" "I", Cond.methodLink RX3 66 yX3_rowLength]
def wsX4_degree_r2 : List Cond := [Cond.instanceMethod yX3_rowLength, Cond.selects RX3 yX3_rowLength yX3_rowLength, Cond.code yX3_rowLength cX3_rowLength 2 (some .int), Cond.fieldLink RX3 31 "OffsetRows$Side" "offsets" "[I", Cond.methodLink RX3 77 yX3_arcAt, Cond.instanceMethod yX3_arcAt, Cond.selects RX3 yX3_arcAt yX3_arcAt, Cond.code yX3_arcAt cX3_arcAt 5 (some .int), Cond.fieldLink RX3 9 "OffsetRows$Side" "row" "[I", Cond.fieldLink RX3 25 "OffsetRows$Side" "ownEnd" "[I", Cond.methodLink RX3 70 yX0_isWaiting, Cond.instanceMethod yX0_isWaiting, Cond.selects RX0 yX0_isWaiting yX0_isWaiting, Cond.initialized RX0, Cond.code yX0_isWaiting cX0_isWaiting 2 (some .boolean), Cond.fieldLink RX0 18 "OffsetRows$ArcList" "state" "[I", Cond.methodLink RX0 29 yX0_has, Cond.instanceMethod yX0_has, Cond.selects RX0 yX0_has yX0_has, Cond.code yX0_has cX0_has 2 (some .boolean), Cond.fieldLink RX0 25 "OffsetRows$ArcList" "count" "I", Cond.methodLink RX3 81 yX0_isLive, Cond.instanceMethod yX0_isLive, Cond.selects RX0 yX0_isLive yX0_isLive]
def wsX4_degree_r3 : List Cond := [Cond.code yX0_isLive cX0_isLive 2 (some .boolean), Cond.fieldLink RX0 21 "OffsetRows$ArcList" "taken" "[Z"]
def wsX4_degree : List Cond := .code yX4_degree cX4_degree 3 (some .int) :: ((wsX4_degree_r1 ++ (wsX4_degree_r2 ++ wsX4_degree_r3)) ++ wsX40 ++ wsX30 ++ wsX00)
def wsX4_live_r1 : List Cond := [Cond.methodLink RX4 78 yX4_isNode, Cond.instanceMethod yX4_isNode, Cond.selects RX4 yX4_isNode yX4_isNode, Cond.initialized RX4, Cond.code yX4_isNode cX4_isNode 2 (some .boolean), Cond.fieldLink RX4 18 "OffsetRows" "nodes" "I", Cond.methodLink RX4 108 yX4_side, Cond.instanceMethod yX4_side, Cond.selects RX4 yX4_side yX4_side, Cond.code yX4_side cX4_side 2 (some (.object "OffsetRows$Side")), Cond.fieldLink RX4 45 "OffsetRows" "inSide" "LOffsetRows$Side;", Cond.fieldLink RX4 41 "OffsetRows" "outSide" "LOffsetRows$Side;", Cond.methodLink RX4 129 yX3_liveArc, Cond.instanceMethod yX3_liveArc, Cond.selects RX3 yX3_liveArc yX3_liveArc, Cond.initialized RX3, Cond.code yX3_liveArc cX3_liveArc 7 (some .int), Cond.fieldLink RX3 21 "OffsetRows$Side" "arcs" "LOffsetRows$ArcList;", Cond.methodLink RX3 74 yX3_countPlaces, Cond.instanceMethod yX3_countPlaces, Cond.selects RX3 yX3_countPlaces yX3_countPlaces, Cond.code yX3_countPlaces cX3_countPlaces 2 (some .int), Cond.fieldLink RX3 45 "OffsetRows$ArcList" "count" "I", Cond.methodLink RX3 66 yX3_rowLength]
def wsX4_live_r2 : List Cond := [Cond.instanceMethod yX3_rowLength, Cond.selects RX3 yX3_rowLength yX3_rowLength, Cond.code yX3_rowLength cX3_rowLength 2 (some .int), Cond.fieldLink RX3 31 "OffsetRows$Side" "offsets" "[I", Cond.methodLink RX3 77 yX3_arcAt, Cond.instanceMethod yX3_arcAt, Cond.selects RX3 yX3_arcAt yX3_arcAt, Cond.code yX3_arcAt cX3_arcAt 5 (some .int), Cond.fieldLink RX3 9 "OffsetRows$Side" "row" "[I", Cond.fieldLink RX3 25 "OffsetRows$Side" "ownEnd" "[I", Cond.methodLink RX3 70 yX0_isWaiting, Cond.instanceMethod yX0_isWaiting, Cond.selects RX0 yX0_isWaiting yX0_isWaiting, Cond.initialized RX0, Cond.code yX0_isWaiting cX0_isWaiting 2 (some .boolean), Cond.fieldLink RX0 18 "OffsetRows$ArcList" "state" "[I", Cond.methodLink RX0 29 yX0_has, Cond.instanceMethod yX0_has, Cond.selects RX0 yX0_has yX0_has, Cond.code yX0_has cX0_has 2 (some .boolean), Cond.fieldLink RX0 25 "OffsetRows$ArcList" "count" "I", Cond.methodLink RX3 81 yX0_isLive, Cond.instanceMethod yX0_isLive, Cond.selects RX0 yX0_isLive yX0_isLive]
def wsX4_live_r3 : List Cond := [Cond.code yX0_isLive cX0_isLive 2 (some .boolean), Cond.fieldLink RX0 21 "OffsetRows$ArcList" "taken" "[Z"]
def wsX4_live : List Cond := .code yX4_live cX4_live 4 (some .int) :: ((wsX4_live_r1 ++ (wsX4_live_r2 ++ wsX4_live_r3)) ++ wsX40 ++ wsX30 ++ wsX00)
def wsX4_between_r1 : List Cond := [Cond.fieldLink RX4 25 "OffsetRows" "arcs" "LOffsetRows$ArcList;", Cond.methodLink RX4 78 yX4_isNode, Cond.instanceMethod yX4_isNode, Cond.selects RX4 yX4_isNode yX4_isNode, Cond.initialized RX4, Cond.code yX4_isNode cX4_isNode 2 (some .boolean), Cond.fieldLink RX4 18 "OffsetRows" "nodes" "I", Cond.methodLink RX4 132 yX0_countLiveBetween, Cond.instanceMethod yX0_countLiveBetween, Cond.selects RX0 yX0_countLiveBetween yX0_countLiveBetween, Cond.initialized RX0, Cond.code yX0_countLiveBetween cX0_countLiveBetween 5 (some .int), Cond.fieldLink RX0 25 "OffsetRows$ArcList" "count" "I", Cond.fieldLink RX0 9 "OffsetRows$ArcList" "from" "[I", Cond.fieldLink RX0 15 "OffsetRows$ArcList" "to" "[I", Cond.methodLink RX0 37 yX0_isLive, Cond.instanceMethod yX0_isLive, Cond.selects RX0 yX0_isLive yX0_isLive, Cond.code yX0_isLive cX0_isLive 2 (some .boolean), Cond.fieldLink RX0 18 "OffsetRows$ArcList" "state" "[I", Cond.fieldLink RX0 21 "OffsetRows$ArcList" "taken" "[Z", Cond.methodLink RX0 29 yX0_has, Cond.instanceMethod yX0_has, Cond.selects RX0 yX0_has yX0_has]
def wsX4_between_r2 : List Cond := [Cond.code yX0_has cX0_has 2 (some .boolean)]
def wsX4_between : List Cond := .code yX4_between cX4_between 3 (some .int) :: ((wsX4_between_r1 ++ wsX4_between_r2) ++ wsX40 ++ wsX00)
def wsX4_stepOnFrom : List Cond := .code yX4_stepOnFrom cX4_stepOnFrom 4 none :: ([.fieldLink RX4 25 "OffsetRows" "arcs" "LOffsetRows$ArcList;", .fieldLink RX4 94 "OffsetRows$ArcList" "count" "I", .fieldLink RX4 35 "OffsetRows$ArcList" "to" "[I", .fieldLink RX4 68 "OffsetRows" "steps" "[I", .fieldLink RX4 31 "OffsetRows$ArcList" "from" "[I", .methodLink RX4 230 yX0_isLive, .instanceMethod yX0_isLive, .selects RX0 yX0_isLive yX0_isLive, .initialized RX0, .code yX0_isLive cX0_isLive 2 (some .boolean), .fieldLink RX0 18 "OffsetRows$ArcList" "state" "[I", .fieldLink RX0 21 "OffsetRows$ArcList" "taken" "[Z", .methodLink RX0 29 yX0_has, .instanceMethod yX0_has, .selects RX0 yX0_has yX0_has, .code yX0_has cX0_has 2 (some .boolean), .fieldLink RX0 25 "OffsetRows$ArcList" "count" "I"] ++ wsX40 ++ wsX00)
def wsX4_near_r1 : List Cond := [Cond.fieldLink RX4 68 "OffsetRows" "steps" "[I", Cond.fieldLink RX4 18 "OffsetRows" "nodes" "I", Cond.methodLink RX4 78 yX4_isNode, Cond.instanceMethod yX4_isNode, Cond.selects RX4 yX4_isNode yX4_isNode, Cond.initialized RX4, Cond.code yX4_isNode cX4_isNode 2 (some .boolean), Cond.methodLink RX4 135 yJ7_fill_53178, Cond.static yJ7_fill_53178, Cond.initialized RJ7, Cond.code yJ7_fill_53178 cJ7_fill_53178 4 none, Cond.methodLink RX4 141 yX4_stepOnFrom, Cond.instanceMethod yX4_stepOnFrom, Cond.selects RX4 yX4_stepOnFrom yX4_stepOnFrom, Cond.code yX4_stepOnFrom cX4_stepOnFrom 4 none, Cond.fieldLink RX4 25 "OffsetRows" "arcs" "LOffsetRows$ArcList;", Cond.fieldLink RX4 94 "OffsetRows$ArcList" "count" "I", Cond.fieldLink RX4 35 "OffsetRows$ArcList" "to" "[I", Cond.fieldLink RX4 31 "OffsetRows$ArcList" "from" "[I", Cond.methodLink RX4 230 yX0_isLive, Cond.instanceMethod yX0_isLive, Cond.selects RX0 yX0_isLive yX0_isLive, Cond.initialized RX0, Cond.code yX0_isLive cX0_isLive 2 (some .boolean)]
def wsX4_near_r2 : List Cond := [Cond.fieldLink RX0 18 "OffsetRows$ArcList" "state" "[I", Cond.fieldLink RX0 21 "OffsetRows$ArcList" "taken" "[Z", Cond.methodLink RX0 29 yX0_has, Cond.instanceMethod yX0_has, Cond.selects RX0 yX0_has yX0_has, Cond.code yX0_has cX0_has 2 (some .boolean), Cond.fieldLink RX0 25 "OffsetRows$ArcList" "count" "I"]
def wsX4_near : List Cond := .code yX4_near cX4_near 4 (some .int) :: ((wsX4_near_r1 ++ wsX4_near_r2) ++ wsX40 ++ wsX00)
def wsJ7_fill_d0a16 : List Cond := .code yJ7_fill_d0a16 cJ7_fill_d0a16 5 none :: ([])
def wsX4_lengthenWays_r1 : List Cond := [Cond.fieldLink RX4 75 "OffsetRows" "waysOnward" "[J", Cond.fieldLink RX4 25 "OffsetRows" "arcs" "LOffsetRows$ArcList;", Cond.fieldLink RX4 94 "OffsetRows$ArcList" "count" "I", Cond.fieldLink RX4 35 "OffsetRows$ArcList" "to" "[I", Cond.fieldLink RX4 71 "OffsetRows" "waysHere" "[J", Cond.fieldLink RX4 31 "OffsetRows$ArcList" "from" "[I", Cond.fieldLink RX4 18 "OffsetRows" "nodes" "I", Cond.methodLink RX4 233 arraycopyName, Cond.native arraycopyName, Cond.static arraycopyName, Cond.initialized "java/lang/System", Cond.methodLink RX4 149 yJ7_fill_d0a16, Cond.static yJ7_fill_d0a16, Cond.initialized RJ7, Cond.code yJ7_fill_d0a16 cJ7_fill_d0a16 5 none, Cond.methodLink RX4 230 yX0_isLive, Cond.instanceMethod yX0_isLive, Cond.selects RX0 yX0_isLive yX0_isLive, Cond.initialized RX0, Cond.code yX0_isLive cX0_isLive 2 (some .boolean), Cond.fieldLink RX0 18 "OffsetRows$ArcList" "state" "[I", Cond.fieldLink RX0 21 "OffsetRows$ArcList" "taken" "[Z", Cond.methodLink RX0 29 yX0_has, Cond.instanceMethod yX0_has]
def wsX4_lengthenWays_r2 : List Cond := [Cond.selects RX0 yX0_has yX0_has, Cond.code yX0_has cX0_has 2 (some .boolean), Cond.fieldLink RX0 25 "OffsetRows$ArcList" "count" "I"]
def wsX4_lengthenWays : List Cond := .code yX4_lengthenWays cX4_lengthenWays 2 none :: ((wsX4_lengthenWays_r1 ++ wsX4_lengthenWays_r2) ++ wsX40 ++ wsX00)
def wsX4_ways_r1 : List Cond := [Cond.constantLong RX4 145 (-2), Cond.constantLong RX4 147 (-3), Cond.fieldLink RX4 71 "OffsetRows" "waysHere" "[J", Cond.methodLink RX4 78 yX4_isNode, Cond.instanceMethod yX4_isNode, Cond.selects RX4 yX4_isNode yX4_isNode, Cond.initialized RX4, Cond.code yX4_isNode cX4_isNode 2 (some .boolean), Cond.fieldLink RX4 18 "OffsetRows" "nodes" "I", Cond.methodLink RX4 149 yJ7_fill_d0a16, Cond.static yJ7_fill_d0a16, Cond.initialized RJ7, Cond.code yJ7_fill_d0a16 cJ7_fill_d0a16 5 none, Cond.methodLink RX4 152 yX4_lengthenWays, Cond.instanceMethod yX4_lengthenWays, Cond.selects RX4 yX4_lengthenWays yX4_lengthenWays, Cond.code yX4_lengthenWays cX4_lengthenWays 2 none, Cond.fieldLink RX4 75 "OffsetRows" "waysOnward" "[J", Cond.fieldLink RX4 25 "OffsetRows" "arcs" "LOffsetRows$ArcList;", Cond.fieldLink RX4 94 "OffsetRows$ArcList" "count" "I", Cond.fieldLink RX4 35 "OffsetRows$ArcList" "to" "[I", Cond.fieldLink RX4 31 "OffsetRows$ArcList" "from" "[I", Cond.methodLink RX4 233 arraycopyName, Cond.native arraycopyName]
def wsX4_ways_r2 : List Cond := [Cond.static arraycopyName, Cond.initialized "java/lang/System", Cond.methodLink RX4 230 yX0_isLive, Cond.instanceMethod yX0_isLive, Cond.selects RX0 yX0_isLive yX0_isLive, Cond.initialized RX0, Cond.code yX0_isLive cX0_isLive 2 (some .boolean), Cond.fieldLink RX0 18 "OffsetRows$ArcList" "state" "[I", Cond.fieldLink RX0 21 "OffsetRows$ArcList" "taken" "[Z", Cond.methodLink RX0 29 yX0_has, Cond.instanceMethod yX0_has, Cond.selects RX0 yX0_has yX0_has, Cond.code yX0_has cX0_has 2 (some .boolean), Cond.fieldLink RX0 25 "OffsetRows$ArcList" "count" "I"]
def wsX4_ways : List Cond := .code yX4_ways cX4_ways 5 (some .long) :: ((wsX4_ways_r1 ++ wsX4_ways_r2) ++ wsX40 ++ wsX00)
def wsX4_open : List Cond := .code yX4_open cX4_open 4 (some .int) :: ([.fieldLink RX4 51 "OffsetRows" "iterators" "LOffsetRows$Iterators;", .methodLink RX4 78 yX4_isNode, .instanceMethod yX4_isNode, .selects RX4 yX4_isNode yX4_isNode, .initialized RX4, .code yX4_isNode cX4_isNode 2 (some .boolean), .fieldLink RX4 18 "OffsetRows" "nodes" "I", .methodLink RX4 155 yX2_leastFree, .instanceMethod yX2_leastFree, .selects RX2 yX2_leastFree yX2_leastFree, .initialized RX2, .code yX2_leastFree cX2_leastFree 2 (some .int), .fieldLink RX2 9 "OffsetRows$Iterators" "isOpen" "[Z", .methodLink RX4 158 yX2_start, .instanceMethod yX2_start, .selects RX2 yX2_start yX2_start, .code yX2_start cX2_start 4 none, .fieldLink RX2 15 "OffsetRows$Iterators" "isStale" "[Z", .fieldLink RX2 18 "OffsetRows$Iterators" "ofIn" "[Z", .fieldLink RX2 21 "OffsetRows$Iterators" "node" "[I", .fieldLink RX2 25 "OffsetRows$Iterators" "lastPlace" "[I", .fieldLink RX2 28 "OffsetRows$Iterators" "arcsTold" "[I"] ++ wsX40 ++ wsX20)
def wsX4_next_r1 : List Cond := [Cond.fieldLink RX4 51 "OffsetRows" "iterators" "LOffsetRows$Iterators;", Cond.fieldLink RX4 163 "OffsetRows$Iterators" "isStale" "[Z", Cond.fieldLink RX4 166 "OffsetRows$Iterators" "node" "[I", Cond.fieldLink RX4 169 "OffsetRows$Iterators" "ofIn" "[Z", Cond.fieldLink RX4 172 "OffsetRows$Iterators" "lastPlace" "[I", Cond.methodLink RX4 162 yX2_has, Cond.instanceMethod yX2_has, Cond.selects RX2 yX2_has yX2_has, Cond.initialized RX2, Cond.code yX2_has cX2_has 2 (some .boolean), Cond.fieldLink RX2 9 "OffsetRows$Iterators" "isOpen" "[Z", Cond.methodLink RX4 108 yX4_side, Cond.instanceMethod yX4_side, Cond.selects RX4 yX4_side yX4_side, Cond.initialized RX4, Cond.code yX4_side cX4_side 2 (some (.object "OffsetRows$Side")), Cond.fieldLink RX4 45 "OffsetRows" "inSide" "LOffsetRows$Side;", Cond.fieldLink RX4 41 "OffsetRows" "outSide" "LOffsetRows$Side;", Cond.methodLink RX4 175 yX3_livePlaceFrom, Cond.instanceMethod yX3_livePlaceFrom, Cond.selects RX3 yX3_livePlaceFrom yX3_livePlaceFrom, Cond.initialized RX3, Cond.code yX3_livePlaceFrom cX3_livePlaceFrom 5 (some .int), Cond.fieldLink RX3 21 "OffsetRows$Side" "arcs" "LOffsetRows$ArcList;"]
def wsX4_next_r2 : List Cond := [Cond.methodLink RX3 74 yX3_countPlaces, Cond.instanceMethod yX3_countPlaces, Cond.selects RX3 yX3_countPlaces yX3_countPlaces, Cond.code yX3_countPlaces cX3_countPlaces 2 (some .int), Cond.fieldLink RX3 45 "OffsetRows$ArcList" "count" "I", Cond.methodLink RX3 66 yX3_rowLength, Cond.instanceMethod yX3_rowLength, Cond.selects RX3 yX3_rowLength yX3_rowLength, Cond.code yX3_rowLength cX3_rowLength 2 (some .int), Cond.fieldLink RX3 31 "OffsetRows$Side" "offsets" "[I", Cond.methodLink RX3 77 yX3_arcAt, Cond.instanceMethod yX3_arcAt, Cond.selects RX3 yX3_arcAt yX3_arcAt, Cond.code yX3_arcAt cX3_arcAt 5 (some .int), Cond.fieldLink RX3 9 "OffsetRows$Side" "row" "[I", Cond.fieldLink RX3 25 "OffsetRows$Side" "ownEnd" "[I", Cond.methodLink RX3 70 yX0_isWaiting, Cond.instanceMethod yX0_isWaiting, Cond.selects RX0 yX0_isWaiting yX0_isWaiting, Cond.initialized RX0, Cond.code yX0_isWaiting cX0_isWaiting 2 (some .boolean), Cond.fieldLink RX0 18 "OffsetRows$ArcList" "state" "[I", Cond.methodLink RX0 29 yX0_has, Cond.instanceMethod yX0_has]
def wsX4_next_r3 : List Cond := [Cond.selects RX0 yX0_has yX0_has, Cond.code yX0_has cX0_has 2 (some .boolean), Cond.fieldLink RX0 25 "OffsetRows$ArcList" "count" "I", Cond.methodLink RX3 81 yX0_isLive, Cond.instanceMethod yX0_isLive, Cond.selects RX0 yX0_isLive yX0_isLive, Cond.code yX0_isLive cX0_isLive 2 (some .boolean), Cond.fieldLink RX0 21 "OffsetRows$ArcList" "taken" "[Z", Cond.methodLink RX4 178 yX2_moveTo, Cond.instanceMethod yX2_moveTo, Cond.selects RX2 yX2_moveTo yX2_moveTo, Cond.code yX2_moveTo cX2_moveTo 3 none, Cond.fieldLink RX2 25 "OffsetRows$Iterators" "lastPlace" "[I", Cond.fieldLink RX2 28 "OffsetRows$Iterators" "arcsTold" "[I", Cond.methodLink RX4 182 yX3_arcAt]
def wsX4_next : List Cond := .code yX4_next cX4_next 5 (some .int) :: ((wsX4_next_r1 ++ (wsX4_next_r2 ++ wsX4_next_r3)) ++ wsX40 ++ wsX20 ++ wsX30 ++ wsX00)
def wsX4_close : List Cond := .code yX4_close cX4_close 2 (some .int) :: ([.fieldLink RX4 51 "OffsetRows" "iterators" "LOffsetRows$Iterators;", .fieldLink RX4 185 "OffsetRows$Iterators" "isOpen" "[Z", .fieldLink RX4 188 "OffsetRows$Iterators" "arcsTold" "[I", .methodLink RX4 162 yX2_has, .instanceMethod yX2_has, .selects RX2 yX2_has yX2_has, .initialized RX2, .code yX2_has cX2_has 2 (some .boolean), .fieldLink RX2 9 "OffsetRows$Iterators" "isOpen" "[Z"] ++ wsX40 ++ wsX20)
def wsX4_give : List Cond := .code yX4_give cX4_give 6 (some .int) :: ([.fieldLink RX4 58 "OffsetRows" "given" "LOffsetRows$Given;", .fieldLink RX4 191 "OffsetRows$Given" "targets" "[I", .fieldLink RX4 194 "OffsetRows$Given" "offsets" "[I"] ++ wsX40 ++ wsX10)
def wsX4_load_r1 : List Cond := [Cond.fieldLink RX4 58 "OffsetRows" "given" "LOffsetRows$Given;", Cond.fieldLink RX4 18 "OffsetRows" "nodes" "I", Cond.fieldLink RX4 25 "OffsetRows" "arcs" "LOffsetRows$ArcList;", Cond.fieldLink RX4 51 "OffsetRows" "iterators" "LOffsetRows$Iterators;", Cond.fieldLink RX4 65 "OffsetRows" "turnedNumbers" "I", Cond.methodLink RX4 195 yX1_firstFault, Cond.instanceMethod yX1_firstFault, Cond.selects RX1 yX1_firstFault yX1_firstFault, Cond.initialized RX1, Cond.code yX1_firstFault cX1_firstFault 4 (some .int), Cond.fieldLink RX1 15 "OffsetRows$Given" "targets" "[I", Cond.methodLink RX1 18 yX1_isOffsetRight, Cond.instanceMethod yX1_isOffsetRight, Cond.selects RX1 yX1_isOffsetRight yX1_isOffsetRight, Cond.code yX1_isOffsetRight cX1_isOffsetRight 7 (some .boolean), Cond.fieldLink RX1 9 "OffsetRows$Given" "offsets" "[I", Cond.methodLink RX4 198 yX1_fill, Cond.instanceMethod yX1_fill, Cond.selects RX1 yX1_fill yX1_fill, Cond.code yX1_fill cX1_fill 5 none, Cond.fieldLink RX1 22 "OffsetRows$ArcList" "count" "I", Cond.methodLink RX1 28 yX0_append, Cond.instanceMethod yX0_append, Cond.selects RX0 yX0_append yX0_append]
def wsX4_load_r2 : List Cond := [Cond.initialized RX0, Cond.code yX0_append cX0_append 5 (some .int), Cond.fieldLink RX0 25 "OffsetRows$ArcList" "count" "I", Cond.fieldLink RX0 9 "OffsetRows$ArcList" "from" "[I", Cond.fieldLink RX0 15 "OffsetRows$ArcList" "to" "[I", Cond.fieldLink RX0 18 "OffsetRows$ArcList" "state" "[I", Cond.fieldLink RX0 21 "OffsetRows$ArcList" "taken" "[Z", Cond.methodLink RX4 101 yX4_buildRows, Cond.instanceMethod yX4_buildRows, Cond.selects RX4 yX4_buildRows yX4_buildRows, Cond.initialized RX4, Cond.code yX4_buildRows cX4_buildRows 1 none, Cond.fieldLink RX4 41 "OffsetRows" "outSide" "LOffsetRows$Side;", Cond.fieldLink RX4 45 "OffsetRows" "inSide" "LOffsetRows$Side;", Cond.methodLink RX4 215 yX3_build, Cond.instanceMethod yX3_build, Cond.selects RX3 yX3_build yX3_build, Cond.initialized RX3, Cond.code yX3_build cX3_build 2 none, Cond.fieldLink RX3 15 "OffsetRows$Side" "numbers" "[I", Cond.fieldLink RX3 28 "OffsetRows$Side" "farEnd" "[I", Cond.fieldLink RX3 18 "OffsetRows$Side" "byFarEnd" "[I", Cond.fieldLink RX3 25 "OffsetRows$Side" "ownEnd" "[I", Cond.fieldLink RX3 9 "OffsetRows$Side" "row" "[I"]
def wsX4_load_r3 : List Cond := [Cond.methodLink RX3 37 yX3_listBuilt, Cond.instanceMethod yX3_listBuilt, Cond.selects RX3 yX3_listBuilt yX3_listBuilt, Cond.code yX3_listBuilt cX3_listBuilt 3 (some .int), Cond.fieldLink RX3 21 "OffsetRows$Side" "arcs" "LOffsetRows$ArcList;", Cond.fieldLink RX3 45 "OffsetRows$ArcList" "count" "I", Cond.fieldLink RX3 51 "OffsetRows$ArcList" "state" "[I", Cond.methodLink RX3 41 yX3_sortByCounting, Cond.instanceMethod yX3_sortByCounting, Cond.selects RX3 yX3_sortByCounting yX3_sortByCounting, Cond.code yX3_sortByCounting cX3_sortByCounting 7 none, Cond.fieldLink RX3 31 "OffsetRows$Side" "offsets" "[I", Cond.fieldLink RX3 34 "OffsetRows$Side" "free" "[I", Cond.methodLink RX3 60 arraycopyName, Cond.native arraycopyName, Cond.static arraycopyName, Cond.initialized "java/lang/System", Cond.methodLink RX3 54 yJ7_fill_53178, Cond.static yJ7_fill_53178, Cond.initialized RJ7, Cond.code yJ7_fill_53178 cJ7_fill_53178 4 none, Cond.methodLink RX4 201 yX2_makeStale, Cond.instanceMethod yX2_makeStale, Cond.selects RX2 yX2_makeStale yX2_makeStale]
def wsX4_load_r4 : List Cond := [Cond.initialized RX2, Cond.code yX2_makeStale cX2_makeStale 2 none, Cond.fieldLink RX2 15 "OffsetRows$Iterators" "isStale" "[Z"]
def wsX4_load : List Cond := .code yX4_load cX4_load 3 (some .int) :: ((wsX4_load_r1 ++ (wsX4_load_r2 ++ (wsX4_load_r3 ++ wsX4_load_r4))) ++ wsX40 ++ wsX10 ++ wsX00 ++ wsX30 ++ wsX20)
def wsX4_about_r1 : List Cond := [Cond.fieldLink RX4 18 "OffsetRows" "nodes" "I", Cond.fieldLink RX4 25 "OffsetRows" "arcs" "LOffsetRows$ArcList;", Cond.fieldLink RX4 94 "OffsetRows$ArcList" "count" "I", Cond.fieldLink RX4 51 "OffsetRows" "iterators" "LOffsetRows$Iterators;", Cond.methodLink RX4 204 yX0_countInState, Cond.instanceMethod yX0_countInState, Cond.selects RX0 yX0_countInState yX0_countInState, Cond.initialized RX0, Cond.code yX0_countInState cX0_countInState 4 (some .int), Cond.fieldLink RX0 25 "OffsetRows$ArcList" "count" "I", Cond.fieldLink RX0 18 "OffsetRows$ArcList" "state" "[I", Cond.methodLink RX4 207 yX0_countLive, Cond.instanceMethod yX0_countLive, Cond.selects RX0 yX0_countLive yX0_countLive, Cond.code yX0_countLive cX0_countLive 3 (some .int), Cond.methodLink RX0 37 yX0_isLive, Cond.instanceMethod yX0_isLive, Cond.selects RX0 yX0_isLive yX0_isLive, Cond.code yX0_isLive cX0_isLive 2 (some .boolean), Cond.fieldLink RX0 21 "OffsetRows$ArcList" "taken" "[Z", Cond.methodLink RX0 29 yX0_has, Cond.instanceMethod yX0_has, Cond.selects RX0 yX0_has yX0_has, Cond.code yX0_has cX0_has 2 (some .boolean)]
def wsX4_about_r2 : List Cond := [Cond.methodLink RX4 209 yX2_countOpen, Cond.instanceMethod yX2_countOpen, Cond.selects RX2 yX2_countOpen yX2_countOpen, Cond.initialized RX2, Cond.code yX2_countOpen cX2_countOpen 3 (some .int), Cond.fieldLink RX2 9 "OffsetRows$Iterators" "isOpen" "[Z"]
def wsX4_about : List Cond := .code yX4_about cX4_about 2 (some .int) :: ((wsX4_about_r1 ++ wsX4_about_r2) ++ wsX40 ++ wsX00 ++ wsX20)
def wsX5_thrown : List Cond := .code yX5_thrown cX5_thrown 1 (some .int) :: ([.fieldLink RX5 1 "OffsetRowsModel" "thrown" "I"] ++ wsX50)
def wsX5_init : List Cond := .code yX5_init cX5_init 2 none :: ([.methodLink RX5 7 objectInit, .instanceMethod objectInit, .code objectInit ⟨#[0xb1]⟩ 1 none, .arrayClass .int, .fieldLink RX5 13 "OffsetRowsModel" "from" "[I", .fieldLink RX5 17 "OffsetRowsModel" "to" "[I", .fieldLink RX5 20 "OffsetRowsModel" "state" "[I", .arrayClass .boolean, .fieldLink RX5 23 "OffsetRowsModel" "isTaken" "[Z", .fieldLink RX5 27 "OffsetRowsModel" "turn" "[I", .fieldLink RX5 30 "OffsetRowsModel" "isOpen" "[Z", .fieldLink RX5 33 "OffsetRowsModel" "isStale" "[Z", .fieldLink RX5 36 "OffsetRowsModel" "itNode" "[I", .fieldLink RX5 39 "OffsetRowsModel" "itIn" "[Z", .fieldLink RX5 42 "OffsetRowsModel" "itLast" "[I", .fieldLink RX5 45 "OffsetRowsModel" "itTold" "[I", .fieldLink RX5 48 "OffsetRowsModel" "givenOffset" "[I", .fieldLink RX5 51 "OffsetRowsModel" "givenTarget" "[I", .fieldLink RX5 54 "OffsetRowsModel" "far" "[I", .arrayClass .long, .fieldLink RX5 57 "OffsetRowsModel" "many" "[J", .fieldLink RX5 61 "OffsetRowsModel" "next" "[J", .fieldLink RX5 64 "OffsetRowsModel" "nodes" "I"] ++ wsX50)
def wsX5_isNode : List Cond := .code yX5_isNode cX5_isNode 2 (some .boolean) :: ([.fieldLink RX5 64 "OffsetRowsModel" "nodes" "I"] ++ wsX50)
def wsX5_isArc : List Cond := .code yX5_isArc cX5_isArc 2 (some .boolean) :: ([.fieldLink RX5 67 "OffsetRowsModel" "arcs" "I"] ++ wsX50)
def wsX5_arc : List Cond := .code yX5_arc cX5_arc 3 (some .int) :: ([.fieldLink RX5 1 "OffsetRowsModel" "thrown" "I", .fieldLink RX5 67 "OffsetRowsModel" "arcs" "I", .fieldLink RX5 13 "OffsetRowsModel" "from" "[I", .fieldLink RX5 17 "OffsetRowsModel" "to" "[I", .fieldLink RX5 20 "OffsetRowsModel" "state" "[I", .fieldLink RX5 23 "OffsetRowsModel" "isTaken" "[Z", .methodLink RX5 70 yX5_isNode, .instanceMethod yX5_isNode, .selects RX5 yX5_isNode yX5_isNode, .initialized RX5, .code yX5_isNode cX5_isNode 2 (some .boolean), .fieldLink RX5 64 "OffsetRowsModel" "nodes" "I"] ++ wsX50)
def wsX5_take : List Cond := .code yX5_take cX5_take 3 (some .int) :: ([.fieldLink RX5 1 "OffsetRowsModel" "thrown" "I", .fieldLink RX5 20 "OffsetRowsModel" "state" "[I", .fieldLink RX5 23 "OffsetRowsModel" "isTaken" "[Z", .methodLink RX5 74 yX5_isArc, .instanceMethod yX5_isArc, .selects RX5 yX5_isArc yX5_isArc, .initialized RX5, .code yX5_isArc cX5_isArc 2 (some .boolean), .fieldLink RX5 67 "OffsetRowsModel" "arcs" "I"] ++ wsX50)
def wsX5_untake : List Cond := .code yX5_untake cX5_untake 3 (some .int) :: ([.fieldLink RX5 1 "OffsetRowsModel" "thrown" "I", .fieldLink RX5 20 "OffsetRowsModel" "state" "[I", .fieldLink RX5 23 "OffsetRowsModel" "isTaken" "[Z", .methodLink RX5 74 yX5_isArc, .instanceMethod yX5_isArc, .selects RX5 yX5_isArc yX5_isArc, .initialized RX5, .code yX5_isArc cX5_isArc 2 (some .boolean), .fieldLink RX5 67 "OffsetRowsModel" "arcs" "I"] ++ wsX50)
def wsX5_stale : List Cond := .code yX5_stale cX5_stale 2 none :: ([.fieldLink RX5 33 "OffsetRowsModel" "isStale" "[Z"] ++ wsX50)
def wsX5_merge : List Cond := .code yX5_merge cX5_merge 4 (some .int) :: ([.fieldLink RX5 1 "OffsetRowsModel" "thrown" "I", .fieldLink RX5 67 "OffsetRowsModel" "arcs" "I", .fieldLink RX5 20 "OffsetRowsModel" "state" "[I", .fieldLink RX5 23 "OffsetRowsModel" "isTaken" "[Z", .methodLink RX5 77 yX5_stale, .instanceMethod yX5_stale, .selects RX5 yX5_stale yX5_stale, .initialized RX5, .code yX5_stale cX5_stale 2 none, .fieldLink RX5 33 "OffsetRowsModel" "isStale" "[Z"] ++ wsX50)
def wsX5_pack : List Cond := .code yX5_pack cX5_pack 3 (some .int) :: ([.fieldLink RX5 1 "OffsetRowsModel" "thrown" "I", .fieldLink RX5 67 "OffsetRowsModel" "arcs" "I", .fieldLink RX5 27 "OffsetRowsModel" "turn" "[I", .fieldLink RX5 20 "OffsetRowsModel" "state" "[I", .fieldLink RX5 13 "OffsetRowsModel" "from" "[I", .fieldLink RX5 17 "OffsetRowsModel" "to" "[I", .fieldLink RX5 23 "OffsetRowsModel" "isTaken" "[Z", .fieldLink RX5 84 "OffsetRowsModel" "turns" "I", .methodLink RX5 80 yX5_merge, .instanceMethod yX5_merge, .selects RX5 yX5_merge yX5_merge, .initialized RX5, .code yX5_merge cX5_merge 4 (some .int), .methodLink RX5 77 yX5_stale, .instanceMethod yX5_stale, .selects RX5 yX5_stale yX5_stale, .code yX5_stale cX5_stale 2 none, .fieldLink RX5 33 "OffsetRowsModel" "isStale" "[Z"] ++ wsX50)
def wsX5_turned : List Cond := .code yX5_turned cX5_turned 2 (some .int) :: ([.fieldLink RX5 1 "OffsetRowsModel" "thrown" "I", .fieldLink RX5 84 "OffsetRowsModel" "turns" "I", .fieldLink RX5 27 "OffsetRowsModel" "turn" "[I"] ++ wsX50)
def wsX5_own : List Cond := .code yX5_own cX5_own 3 (some .int) :: ([.fieldLink RX5 17 "OffsetRowsModel" "to" "[I", .fieldLink RX5 13 "OffsetRowsModel" "from" "[I"] ++ wsX50)
def wsX5_other : List Cond := .code yX5_other cX5_other 3 (some .int) :: ([.fieldLink RX5 13 "OffsetRowsModel" "from" "[I", .fieldLink RX5 17 "OffsetRowsModel" "to" "[I"] ++ wsX50)
def wsX5_isAhead : List Cond := .code yX5_isAhead cX5_isAhead 4 (some .boolean) :: ([.fieldLink RX5 20 "OffsetRowsModel" "state" "[I", .methodLink RX5 87 yX5_other, .instanceMethod yX5_other, .selects RX5 yX5_other yX5_other, .initialized RX5, .code yX5_other cX5_other 3 (some .int), .fieldLink RX5 13 "OffsetRowsModel" "from" "[I", .fieldLink RX5 17 "OffsetRowsModel" "to" "[I"] ++ wsX50)
def wsX5_isOf : List Cond := .code yX5_isOf cX5_isOf 5 (some .boolean) :: ([.fieldLink RX5 20 "OffsetRowsModel" "state" "[I", .fieldLink RX5 23 "OffsetRowsModel" "isTaken" "[Z", .methodLink RX5 91 yX5_own, .instanceMethod yX5_own, .selects RX5 yX5_own yX5_own, .initialized RX5, .code yX5_own cX5_own 3 (some .int), .fieldLink RX5 17 "OffsetRowsModel" "to" "[I", .fieldLink RX5 13 "OffsetRowsModel" "from" "[I"] ++ wsX50)
def wsX5_place : List Cond := .code yX5_place cX5_place 8 (some .int) :: ([.fieldLink RX5 67 "OffsetRowsModel" "arcs" "I", .methodLink RX5 94 yX5_isOf, .instanceMethod yX5_isOf, .selects RX5 yX5_isOf yX5_isOf, .initialized RX5, .code yX5_isOf cX5_isOf 5 (some .boolean), .fieldLink RX5 20 "OffsetRowsModel" "state" "[I", .fieldLink RX5 23 "OffsetRowsModel" "isTaken" "[Z", .methodLink RX5 91 yX5_own, .instanceMethod yX5_own, .selects RX5 yX5_own yX5_own, .code yX5_own cX5_own 3 (some .int), .fieldLink RX5 17 "OffsetRowsModel" "to" "[I", .fieldLink RX5 13 "OffsetRowsModel" "from" "[I", .methodLink RX5 98 yX5_isAhead, .instanceMethod yX5_isAhead, .selects RX5 yX5_isAhead yX5_isAhead, .code yX5_isAhead cX5_isAhead 4 (some .boolean), .methodLink RX5 87 yX5_other, .instanceMethod yX5_other, .selects RX5 yX5_other yX5_other, .code yX5_other cX5_other 3 (some .int)] ++ wsX50)
def wsX5_inRow_r1 : List Cond := [Cond.fieldLink RX5 1 "OffsetRowsModel" "thrown" "I", Cond.methodLink RX5 70 yX5_isNode, Cond.instanceMethod yX5_isNode, Cond.selects RX5 yX5_isNode yX5_isNode, Cond.initialized RX5, Cond.code yX5_isNode cX5_isNode 2 (some .boolean), Cond.fieldLink RX5 64 "OffsetRowsModel" "nodes" "I", Cond.methodLink RX5 102 yX5_place, Cond.instanceMethod yX5_place, Cond.selects RX5 yX5_place yX5_place, Cond.code yX5_place cX5_place 8 (some .int), Cond.fieldLink RX5 67 "OffsetRowsModel" "arcs" "I", Cond.methodLink RX5 94 yX5_isOf, Cond.instanceMethod yX5_isOf, Cond.selects RX5 yX5_isOf yX5_isOf, Cond.code yX5_isOf cX5_isOf 5 (some .boolean), Cond.fieldLink RX5 20 "OffsetRowsModel" "state" "[I", Cond.fieldLink RX5 23 "OffsetRowsModel" "isTaken" "[Z", Cond.methodLink RX5 91 yX5_own, Cond.instanceMethod yX5_own, Cond.selects RX5 yX5_own yX5_own, Cond.code yX5_own cX5_own 3 (some .int), Cond.fieldLink RX5 17 "OffsetRowsModel" "to" "[I", Cond.fieldLink RX5 13 "OffsetRowsModel" "from" "[I"]
def wsX5_inRow_r2 : List Cond := [Cond.methodLink RX5 98 yX5_isAhead, Cond.instanceMethod yX5_isAhead, Cond.selects RX5 yX5_isAhead yX5_isAhead, Cond.code yX5_isAhead cX5_isAhead 4 (some .boolean), Cond.methodLink RX5 87 yX5_other, Cond.instanceMethod yX5_other, Cond.selects RX5 yX5_other yX5_other, Cond.code yX5_other cX5_other 3 (some .int)]
def wsX5_inRow : List Cond := .code yX5_inRow cX5_inRow 5 (some .int) :: ((wsX5_inRow_r1 ++ wsX5_inRow_r2) ++ wsX50)
def wsX5_out_r1 : List Cond := [Cond.fieldLink RX5 1 "OffsetRowsModel" "thrown" "I", Cond.methodLink RX5 106 yX5_inRow, Cond.instanceMethod yX5_inRow, Cond.selects RX5 yX5_inRow yX5_inRow, Cond.initialized RX5, Cond.code yX5_inRow cX5_inRow 5 (some .int), Cond.methodLink RX5 70 yX5_isNode, Cond.instanceMethod yX5_isNode, Cond.selects RX5 yX5_isNode yX5_isNode, Cond.code yX5_isNode cX5_isNode 2 (some .boolean), Cond.fieldLink RX5 64 "OffsetRowsModel" "nodes" "I", Cond.methodLink RX5 102 yX5_place, Cond.instanceMethod yX5_place, Cond.selects RX5 yX5_place yX5_place, Cond.code yX5_place cX5_place 8 (some .int), Cond.fieldLink RX5 67 "OffsetRowsModel" "arcs" "I", Cond.methodLink RX5 94 yX5_isOf, Cond.instanceMethod yX5_isOf, Cond.selects RX5 yX5_isOf yX5_isOf, Cond.code yX5_isOf cX5_isOf 5 (some .boolean), Cond.fieldLink RX5 20 "OffsetRowsModel" "state" "[I", Cond.fieldLink RX5 23 "OffsetRowsModel" "isTaken" "[Z", Cond.methodLink RX5 91 yX5_own, Cond.instanceMethod yX5_own]
def wsX5_out_r2 : List Cond := [Cond.selects RX5 yX5_own yX5_own, Cond.code yX5_own cX5_own 3 (some .int), Cond.fieldLink RX5 17 "OffsetRowsModel" "to" "[I", Cond.fieldLink RX5 13 "OffsetRowsModel" "from" "[I", Cond.methodLink RX5 98 yX5_isAhead, Cond.instanceMethod yX5_isAhead, Cond.selects RX5 yX5_isAhead yX5_isAhead, Cond.code yX5_isAhead cX5_isAhead 4 (some .boolean), Cond.methodLink RX5 87 yX5_other, Cond.instanceMethod yX5_other, Cond.selects RX5 yX5_other yX5_other, Cond.code yX5_other cX5_other 3 (some .int)]
def wsX5_out : List Cond := .code yX5_out cX5_out 3 (some .int) :: ((wsX5_out_r1 ++ wsX5_out_r2) ++ wsX50)
def wsX5_in_r1 : List Cond := [Cond.fieldLink RX5 1 "OffsetRowsModel" "thrown" "I", Cond.methodLink RX5 106 yX5_inRow, Cond.instanceMethod yX5_inRow, Cond.selects RX5 yX5_inRow yX5_inRow, Cond.initialized RX5, Cond.code yX5_inRow cX5_inRow 5 (some .int), Cond.methodLink RX5 70 yX5_isNode, Cond.instanceMethod yX5_isNode, Cond.selects RX5 yX5_isNode yX5_isNode, Cond.code yX5_isNode cX5_isNode 2 (some .boolean), Cond.fieldLink RX5 64 "OffsetRowsModel" "nodes" "I", Cond.methodLink RX5 102 yX5_place, Cond.instanceMethod yX5_place, Cond.selects RX5 yX5_place yX5_place, Cond.code yX5_place cX5_place 8 (some .int), Cond.fieldLink RX5 67 "OffsetRowsModel" "arcs" "I", Cond.methodLink RX5 94 yX5_isOf, Cond.instanceMethod yX5_isOf, Cond.selects RX5 yX5_isOf yX5_isOf, Cond.code yX5_isOf cX5_isOf 5 (some .boolean), Cond.fieldLink RX5 20 "OffsetRowsModel" "state" "[I", Cond.fieldLink RX5 23 "OffsetRowsModel" "isTaken" "[Z", Cond.methodLink RX5 91 yX5_own, Cond.instanceMethod yX5_own]
def wsX5_in_r2 : List Cond := [Cond.selects RX5 yX5_own yX5_own, Cond.code yX5_own cX5_own 3 (some .int), Cond.fieldLink RX5 17 "OffsetRowsModel" "to" "[I", Cond.fieldLink RX5 13 "OffsetRowsModel" "from" "[I", Cond.methodLink RX5 98 yX5_isAhead, Cond.instanceMethod yX5_isAhead, Cond.selects RX5 yX5_isAhead yX5_isAhead, Cond.code yX5_isAhead cX5_isAhead 4 (some .boolean), Cond.methodLink RX5 87 yX5_other, Cond.instanceMethod yX5_other, Cond.selects RX5 yX5_other yX5_other, Cond.code yX5_other cX5_other 3 (some .int)]
def wsX5_in : List Cond := .code yX5_in cX5_in 3 (some .int) :: ((wsX5_in_r1 ++ wsX5_in_r2) ++ wsX50)
def wsX5_offset : List Cond := .code yX5_offset cX5_offset 5 (some .int) :: ([.fieldLink RX5 1 "OffsetRowsModel" "thrown" "I", .fieldLink RX5 64 "OffsetRowsModel" "nodes" "I", .fieldLink RX5 67 "OffsetRowsModel" "arcs" "I", .fieldLink RX5 20 "OffsetRowsModel" "state" "[I", .methodLink RX5 91 yX5_own, .instanceMethod yX5_own, .selects RX5 yX5_own yX5_own, .initialized RX5, .code yX5_own cX5_own 3 (some .int), .fieldLink RX5 17 "OffsetRowsModel" "to" "[I", .fieldLink RX5 13 "OffsetRowsModel" "from" "[I"] ++ wsX50)
def wsX5_told : List Cond := .code yX5_told cX5_told 3 (some .int) :: ([.fieldLink RX5 1 "OffsetRowsModel" "thrown" "I", .fieldLink RX5 13 "OffsetRowsModel" "from" "[I", .fieldLink RX5 17 "OffsetRowsModel" "to" "[I", .fieldLink RX5 20 "OffsetRowsModel" "state" "[I", .fieldLink RX5 23 "OffsetRowsModel" "isTaken" "[Z", .methodLink RX5 74 yX5_isArc, .instanceMethod yX5_isArc, .selects RX5 yX5_isArc yX5_isArc, .initialized RX5, .code yX5_isArc cX5_isArc 2 (some .boolean), .fieldLink RX5 67 "OffsetRowsModel" "arcs" "I"] ++ wsX50)
def wsX5_degree : List Cond := .code yX5_degree cX5_degree 5 (some .int) :: ([.fieldLink RX5 1 "OffsetRowsModel" "thrown" "I", .fieldLink RX5 67 "OffsetRowsModel" "arcs" "I", .methodLink RX5 70 yX5_isNode, .instanceMethod yX5_isNode, .selects RX5 yX5_isNode yX5_isNode, .initialized RX5, .code yX5_isNode cX5_isNode 2 (some .boolean), .fieldLink RX5 64 "OffsetRowsModel" "nodes" "I", .methodLink RX5 94 yX5_isOf, .instanceMethod yX5_isOf, .selects RX5 yX5_isOf yX5_isOf, .code yX5_isOf cX5_isOf 5 (some .boolean), .fieldLink RX5 20 "OffsetRowsModel" "state" "[I", .fieldLink RX5 23 "OffsetRowsModel" "isTaken" "[Z", .methodLink RX5 91 yX5_own, .instanceMethod yX5_own, .selects RX5 yX5_own yX5_own, .code yX5_own cX5_own 3 (some .int), .fieldLink RX5 17 "OffsetRowsModel" "to" "[I", .fieldLink RX5 13 "OffsetRowsModel" "from" "[I"] ++ wsX50)
def wsX5_live_r1 : List Cond := [Cond.fieldLink RX5 1 "OffsetRowsModel" "thrown" "I", Cond.methodLink RX5 70 yX5_isNode, Cond.instanceMethod yX5_isNode, Cond.selects RX5 yX5_isNode yX5_isNode, Cond.initialized RX5, Cond.code yX5_isNode cX5_isNode 2 (some .boolean), Cond.fieldLink RX5 64 "OffsetRowsModel" "nodes" "I", Cond.methodLink RX5 102 yX5_place, Cond.instanceMethod yX5_place, Cond.selects RX5 yX5_place yX5_place, Cond.code yX5_place cX5_place 8 (some .int), Cond.fieldLink RX5 67 "OffsetRowsModel" "arcs" "I", Cond.methodLink RX5 94 yX5_isOf, Cond.instanceMethod yX5_isOf, Cond.selects RX5 yX5_isOf yX5_isOf, Cond.code yX5_isOf cX5_isOf 5 (some .boolean), Cond.fieldLink RX5 20 "OffsetRowsModel" "state" "[I", Cond.fieldLink RX5 23 "OffsetRowsModel" "isTaken" "[Z", Cond.methodLink RX5 91 yX5_own, Cond.instanceMethod yX5_own, Cond.selects RX5 yX5_own yX5_own, Cond.code yX5_own cX5_own 3 (some .int), Cond.fieldLink RX5 17 "OffsetRowsModel" "to" "[I", Cond.fieldLink RX5 13 "OffsetRowsModel" "from" "[I"]
def wsX5_live_r2 : List Cond := [Cond.methodLink RX5 98 yX5_isAhead, Cond.instanceMethod yX5_isAhead, Cond.selects RX5 yX5_isAhead yX5_isAhead, Cond.code yX5_isAhead cX5_isAhead 4 (some .boolean), Cond.methodLink RX5 87 yX5_other, Cond.instanceMethod yX5_other, Cond.selects RX5 yX5_other yX5_other, Cond.code yX5_other cX5_other 3 (some .int)]
def wsX5_live : List Cond := .code yX5_live cX5_live 4 (some .int) :: ((wsX5_live_r1 ++ wsX5_live_r2) ++ wsX50)
def wsX5_lead : List Cond := .code yX5_lead cX5_lead 5 (some .int) :: ([.fieldLink RX5 67 "OffsetRowsModel" "arcs" "I", .fieldLink RX5 17 "OffsetRowsModel" "to" "[I", .methodLink RX5 94 yX5_isOf, .instanceMethod yX5_isOf, .selects RX5 yX5_isOf yX5_isOf, .initialized RX5, .code yX5_isOf cX5_isOf 5 (some .boolean), .fieldLink RX5 20 "OffsetRowsModel" "state" "[I", .fieldLink RX5 23 "OffsetRowsModel" "isTaken" "[Z", .methodLink RX5 91 yX5_own, .instanceMethod yX5_own, .selects RX5 yX5_own yX5_own, .code yX5_own cX5_own 3 (some .int), .fieldLink RX5 13 "OffsetRowsModel" "from" "[I"] ++ wsX50)
def wsX5_between : List Cond := .code yX5_between cX5_between 3 (some .int) :: ([.fieldLink RX5 1 "OffsetRowsModel" "thrown" "I", .methodLink RX5 70 yX5_isNode, .instanceMethod yX5_isNode, .selects RX5 yX5_isNode yX5_isNode, .initialized RX5, .code yX5_isNode cX5_isNode 2 (some .boolean), .fieldLink RX5 64 "OffsetRowsModel" "nodes" "I", .methodLink RX5 110 yX5_lead, .instanceMethod yX5_lead, .selects RX5 yX5_lead yX5_lead, .code yX5_lead cX5_lead 5 (some .int), .fieldLink RX5 67 "OffsetRowsModel" "arcs" "I", .fieldLink RX5 17 "OffsetRowsModel" "to" "[I", .methodLink RX5 94 yX5_isOf, .instanceMethod yX5_isOf, .selects RX5 yX5_isOf yX5_isOf, .code yX5_isOf cX5_isOf 5 (some .boolean), .fieldLink RX5 20 "OffsetRowsModel" "state" "[I", .fieldLink RX5 23 "OffsetRowsModel" "isTaken" "[Z", .methodLink RX5 91 yX5_own, .instanceMethod yX5_own, .selects RX5 yX5_own yX5_own, .code yX5_own cX5_own 3 (some .int), .fieldLink RX5 13 "OffsetRowsModel" "from" "[I"] ++ wsX50)
def wsX5_near : List Cond := .code yX5_near cX5_near 5 (some .int) :: ([.fieldLink RX5 1 "OffsetRowsModel" "thrown" "I", .fieldLink RX5 64 "OffsetRowsModel" "nodes" "I", .fieldLink RX5 54 "OffsetRowsModel" "far" "[I", .fieldLink RX5 67 "OffsetRowsModel" "arcs" "I", .fieldLink RX5 13 "OffsetRowsModel" "from" "[I", .fieldLink RX5 17 "OffsetRowsModel" "to" "[I", .methodLink RX5 70 yX5_isNode, .instanceMethod yX5_isNode, .selects RX5 yX5_isNode yX5_isNode, .initialized RX5, .code yX5_isNode cX5_isNode 2 (some .boolean), .methodLink RX5 94 yX5_isOf, .instanceMethod yX5_isOf, .selects RX5 yX5_isOf yX5_isOf, .code yX5_isOf cX5_isOf 5 (some .boolean), .fieldLink RX5 20 "OffsetRowsModel" "state" "[I", .fieldLink RX5 23 "OffsetRowsModel" "isTaken" "[Z", .methodLink RX5 91 yX5_own, .instanceMethod yX5_own, .selects RX5 yX5_own yX5_own, .code yX5_own cX5_own 3 (some .int)] ++ wsX50)
def wsX5_ways : List Cond := .code yX5_ways cX5_ways 6 (some .long) :: ([.fieldLink RX5 1 "OffsetRowsModel" "thrown" "I", .constantLong RX5 114 (-2), .constantLong RX5 116 (-3), .fieldLink RX5 64 "OffsetRowsModel" "nodes" "I", .fieldLink RX5 57 "OffsetRowsModel" "many" "[J", .fieldLink RX5 61 "OffsetRowsModel" "next" "[J", .fieldLink RX5 67 "OffsetRowsModel" "arcs" "I", .fieldLink RX5 17 "OffsetRowsModel" "to" "[I", .fieldLink RX5 13 "OffsetRowsModel" "from" "[I", .methodLink RX5 70 yX5_isNode, .instanceMethod yX5_isNode, .selects RX5 yX5_isNode yX5_isNode, .initialized RX5, .code yX5_isNode cX5_isNode 2 (some .boolean), .methodLink RX5 94 yX5_isOf, .instanceMethod yX5_isOf, .selects RX5 yX5_isOf yX5_isOf, .code yX5_isOf cX5_isOf 5 (some .boolean), .fieldLink RX5 20 "OffsetRowsModel" "state" "[I", .fieldLink RX5 23 "OffsetRowsModel" "isTaken" "[Z", .methodLink RX5 91 yX5_own, .instanceMethod yX5_own, .selects RX5 yX5_own yX5_own, .code yX5_own cX5_own 3 (some .int)] ++ wsX50)
def wsX5_open : List Cond := .code yX5_open cX5_open 4 (some .int) :: ([.fieldLink RX5 1 "OffsetRowsModel" "thrown" "I", .fieldLink RX5 30 "OffsetRowsModel" "isOpen" "[Z", .fieldLink RX5 33 "OffsetRowsModel" "isStale" "[Z", .fieldLink RX5 36 "OffsetRowsModel" "itNode" "[I", .fieldLink RX5 39 "OffsetRowsModel" "itIn" "[Z", .fieldLink RX5 42 "OffsetRowsModel" "itLast" "[I", .fieldLink RX5 45 "OffsetRowsModel" "itTold" "[I", .methodLink RX5 70 yX5_isNode, .instanceMethod yX5_isNode, .selects RX5 yX5_isNode yX5_isNode, .initialized RX5, .code yX5_isNode cX5_isNode 2 (some .boolean), .fieldLink RX5 64 "OffsetRowsModel" "nodes" "I"] ++ wsX50)
def wsX5_isIterator : List Cond := .code yX5_isIterator cX5_isIterator 2 (some .boolean) :: ([.fieldLink RX5 30 "OffsetRowsModel" "isOpen" "[Z"] ++ wsX50)
def wsX5_next_r1 : List Cond := [Cond.fieldLink RX5 1 "OffsetRowsModel" "thrown" "I", Cond.fieldLink RX5 33 "OffsetRowsModel" "isStale" "[Z", Cond.fieldLink RX5 67 "OffsetRowsModel" "arcs" "I", Cond.fieldLink RX5 36 "OffsetRowsModel" "itNode" "[I", Cond.fieldLink RX5 39 "OffsetRowsModel" "itIn" "[Z", Cond.fieldLink RX5 42 "OffsetRowsModel" "itLast" "[I", Cond.fieldLink RX5 45 "OffsetRowsModel" "itTold" "[I", Cond.methodLink RX5 118 yX5_isIterator, Cond.instanceMethod yX5_isIterator, Cond.selects RX5 yX5_isIterator yX5_isIterator, Cond.initialized RX5, Cond.code yX5_isIterator cX5_isIterator 2 (some .boolean), Cond.fieldLink RX5 30 "OffsetRowsModel" "isOpen" "[Z", Cond.methodLink RX5 94 yX5_isOf, Cond.instanceMethod yX5_isOf, Cond.selects RX5 yX5_isOf yX5_isOf, Cond.code yX5_isOf cX5_isOf 5 (some .boolean), Cond.fieldLink RX5 20 "OffsetRowsModel" "state" "[I", Cond.fieldLink RX5 23 "OffsetRowsModel" "isTaken" "[Z", Cond.methodLink RX5 91 yX5_own, Cond.instanceMethod yX5_own, Cond.selects RX5 yX5_own yX5_own, Cond.code yX5_own cX5_own 3 (some .int), Cond.fieldLink RX5 17 "OffsetRowsModel" "to" "[I"]
def wsX5_next_r2 : List Cond := [Cond.fieldLink RX5 13 "OffsetRowsModel" "from" "[I", Cond.methodLink RX5 98 yX5_isAhead, Cond.instanceMethod yX5_isAhead, Cond.selects RX5 yX5_isAhead yX5_isAhead, Cond.code yX5_isAhead cX5_isAhead 4 (some .boolean), Cond.methodLink RX5 87 yX5_other, Cond.instanceMethod yX5_other, Cond.selects RX5 yX5_other yX5_other, Cond.code yX5_other cX5_other 3 (some .int)]
def wsX5_next : List Cond := .code yX5_next cX5_next 5 (some .int) :: ((wsX5_next_r1 ++ wsX5_next_r2) ++ wsX50)
def wsX5_close : List Cond := .code yX5_close cX5_close 2 (some .int) :: ([.fieldLink RX5 1 "OffsetRowsModel" "thrown" "I", .fieldLink RX5 30 "OffsetRowsModel" "isOpen" "[Z", .fieldLink RX5 45 "OffsetRowsModel" "itTold" "[I", .methodLink RX5 118 yX5_isIterator, .instanceMethod yX5_isIterator, .selects RX5 yX5_isIterator yX5_isIterator, .initialized RX5, .code yX5_isIterator cX5_isIterator 2 (some .boolean)] ++ wsX50)
def wsX5_give : List Cond := .code yX5_give cX5_give 5 (some .int) :: ([.fieldLink RX5 1 "OffsetRowsModel" "thrown" "I", .fieldLink RX5 51 "OffsetRowsModel" "givenTarget" "[I", .fieldLink RX5 48 "OffsetRowsModel" "givenOffset" "[I"] ++ wsX50)
def wsX5_judged : List Cond := .code yX5_judged cX5_judged 5 (some .int) :: ([.fieldLink RX5 64 "OffsetRowsModel" "nodes" "I", .fieldLink RX5 48 "OffsetRowsModel" "givenOffset" "[I", .fieldLink RX5 51 "OffsetRowsModel" "givenTarget" "[I", .methodLink RX5 70 yX5_isNode, .instanceMethod yX5_isNode, .selects RX5 yX5_isNode yX5_isNode, .initialized RX5, .code yX5_isNode cX5_isNode 2 (some .boolean)] ++ wsX50)
def wsX5_load : List Cond := .code yX5_load cX5_load 5 (some .int) :: ([.fieldLink RX5 1 "OffsetRowsModel" "thrown" "I", .fieldLink RX5 48 "OffsetRowsModel" "givenOffset" "[I", .fieldLink RX5 13 "OffsetRowsModel" "from" "[I", .fieldLink RX5 17 "OffsetRowsModel" "to" "[I", .fieldLink RX5 51 "OffsetRowsModel" "givenTarget" "[I", .fieldLink RX5 20 "OffsetRowsModel" "state" "[I", .fieldLink RX5 23 "OffsetRowsModel" "isTaken" "[Z", .fieldLink RX5 67 "OffsetRowsModel" "arcs" "I", .fieldLink RX5 84 "OffsetRowsModel" "turns" "I", .methodLink RX5 121 yX5_judged, .instanceMethod yX5_judged, .selects RX5 yX5_judged yX5_judged, .initialized RX5, .code yX5_judged cX5_judged 5 (some .int), .fieldLink RX5 64 "OffsetRowsModel" "nodes" "I", .methodLink RX5 70 yX5_isNode, .instanceMethod yX5_isNode, .selects RX5 yX5_isNode yX5_isNode, .code yX5_isNode cX5_isNode 2 (some .boolean), .methodLink RX5 77 yX5_stale, .instanceMethod yX5_stale, .selects RX5 yX5_stale yX5_stale, .code yX5_stale cX5_stale 2 none, .fieldLink RX5 33 "OffsetRowsModel" "isStale" "[Z"] ++ wsX50)
def wsX5_about : List Cond := .code yX5_about cX5_about 4 (some .int) :: ([.fieldLink RX5 1 "OffsetRowsModel" "thrown" "I", .fieldLink RX5 64 "OffsetRowsModel" "nodes" "I", .fieldLink RX5 67 "OffsetRowsModel" "arcs" "I", .fieldLink RX5 30 "OffsetRowsModel" "isOpen" "[Z", .fieldLink RX5 20 "OffsetRowsModel" "state" "[I", .fieldLink RX5 23 "OffsetRowsModel" "isTaken" "[Z"] ++ wsX50)
def wsJ9_max_7cf53 : List Cond := .code yJ9_max_7cf53 cJ9_max_7cf53 2 (some .int) :: ([])
def wsJ9_min_7cf53 : List Cond := .code yJ9_min_7cf53 cJ9_min_7cf53 2 (some .int) :: ([])
def wsL_cell : List Cond := .code yL_cell cL_cell 2 (some .int) :: ([])
def wsL_out_r1 : List Cond := [Cond.classLink RL 13 "java/lang/IndexOutOfBoundsException", Cond.methodLink RL 7 yX4_out, Cond.instanceMethod yX4_out, Cond.selects RX4 yX4_out yX4_out, Cond.initialized RX4, Cond.code yX4_out cX4_out 3 (some .int), Cond.fieldLink RX4 41 "OffsetRows" "outSide" "LOffsetRows$Side;", Cond.methodLink RX4 104 yX4_arcInRow, Cond.instanceMethod yX4_arcInRow, Cond.selects RX4 yX4_arcInRow yX4_arcInRow, Cond.code yX4_arcInRow cX4_arcInRow 4 (some .int), Cond.classLink RX4 218 "java/lang/IndexOutOfBoundsException", Cond.initialized "java/lang/IndexOutOfBoundsException", Cond.methodLink RX4 78 yX4_isNode, Cond.instanceMethod yX4_isNode, Cond.selects RX4 yX4_isNode yX4_isNode, Cond.code yX4_isNode cX4_isNode 2 (some .boolean), Cond.fieldLink RX4 18 "OffsetRows" "nodes" "I", Cond.methodLink RX4 225 yX3_rowLength, Cond.instanceMethod yX3_rowLength, Cond.selects RX3 yX3_rowLength yX3_rowLength, Cond.initialized RX3, Cond.code yX3_rowLength cX3_rowLength 2 (some .int), Cond.fieldLink RX3 31 "OffsetRows$Side" "offsets" "[I"]
def wsL_out_r2 : List Cond := [Cond.methodLink RX4 182 yX3_arcAt, Cond.instanceMethod yX3_arcAt, Cond.selects RX3 yX3_arcAt yX3_arcAt, Cond.code yX3_arcAt cX3_arcAt 5 (some .int), Cond.fieldLink RX3 9 "OffsetRows$Side" "row" "[I", Cond.fieldLink RX3 21 "OffsetRows$Side" "arcs" "LOffsetRows$ArcList;", Cond.fieldLink RX3 25 "OffsetRows$Side" "ownEnd" "[I", Cond.methodLink RX3 66 yX3_rowLength, Cond.methodLink RX3 70 yX0_isWaiting, Cond.instanceMethod yX0_isWaiting, Cond.selects RX0 yX0_isWaiting yX0_isWaiting, Cond.initialized RX0, Cond.code yX0_isWaiting cX0_isWaiting 2 (some .boolean), Cond.fieldLink RX0 18 "OffsetRows$ArcList" "state" "[I", Cond.methodLink RX0 29 yX0_has, Cond.instanceMethod yX0_has, Cond.selects RX0 yX0_has yX0_has, Cond.code yX0_has cX0_has 2 (some .boolean), Cond.fieldLink RX0 25 "OffsetRows$ArcList" "count" "I"]
def wsL_out : List Cond := .codeWith yL_out cL_out 5 (some .int) [(0, 10, 13, 13)] :: ((wsL_out_r1 ++ wsL_out_r2) ++ wsX40 ++ wsX30 ++ wsX00 ++ (vx_atS RX4 222 "java/lang/IndexOutOfBoundsException" ["java/lang/RuntimeException", "java/lang/Exception"]).filter goodWord)
def wsL_in_r1 : List Cond := [Cond.classLink RL 13 "java/lang/IndexOutOfBoundsException", Cond.methodLink RL 15 yX4_in, Cond.instanceMethod yX4_in, Cond.selects RX4 yX4_in yX4_in, Cond.initialized RX4, Cond.code yX4_in cX4_in 3 (some .int), Cond.fieldLink RX4 45 "OffsetRows" "inSide" "LOffsetRows$Side;", Cond.methodLink RX4 104 yX4_arcInRow, Cond.instanceMethod yX4_arcInRow, Cond.selects RX4 yX4_arcInRow yX4_arcInRow, Cond.code yX4_arcInRow cX4_arcInRow 4 (some .int), Cond.classLink RX4 218 "java/lang/IndexOutOfBoundsException", Cond.initialized "java/lang/IndexOutOfBoundsException", Cond.methodLink RX4 78 yX4_isNode, Cond.instanceMethod yX4_isNode, Cond.selects RX4 yX4_isNode yX4_isNode, Cond.code yX4_isNode cX4_isNode 2 (some .boolean), Cond.fieldLink RX4 18 "OffsetRows" "nodes" "I", Cond.methodLink RX4 225 yX3_rowLength, Cond.instanceMethod yX3_rowLength, Cond.selects RX3 yX3_rowLength yX3_rowLength, Cond.initialized RX3, Cond.code yX3_rowLength cX3_rowLength 2 (some .int), Cond.fieldLink RX3 31 "OffsetRows$Side" "offsets" "[I"]
def wsL_in_r2 : List Cond := [Cond.methodLink RX4 182 yX3_arcAt, Cond.instanceMethod yX3_arcAt, Cond.selects RX3 yX3_arcAt yX3_arcAt, Cond.code yX3_arcAt cX3_arcAt 5 (some .int), Cond.fieldLink RX3 9 "OffsetRows$Side" "row" "[I", Cond.fieldLink RX3 21 "OffsetRows$Side" "arcs" "LOffsetRows$ArcList;", Cond.fieldLink RX3 25 "OffsetRows$Side" "ownEnd" "[I", Cond.methodLink RX3 66 yX3_rowLength, Cond.methodLink RX3 70 yX0_isWaiting, Cond.instanceMethod yX0_isWaiting, Cond.selects RX0 yX0_isWaiting yX0_isWaiting, Cond.initialized RX0, Cond.code yX0_isWaiting cX0_isWaiting 2 (some .boolean), Cond.fieldLink RX0 18 "OffsetRows$ArcList" "state" "[I", Cond.methodLink RX0 29 yX0_has, Cond.instanceMethod yX0_has, Cond.selects RX0 yX0_has yX0_has, Cond.code yX0_has cX0_has 2 (some .boolean), Cond.fieldLink RX0 25 "OffsetRows$ArcList" "count" "I"]
def wsL_in : List Cond := .codeWith yL_in cL_in 5 (some .int) [(0, 10, 13, 13)] :: ((wsL_in_r1 ++ wsL_in_r2) ++ wsX40 ++ wsX30 ++ wsX00 ++ (vx_atS RX4 222 "java/lang/IndexOutOfBoundsException" ["java/lang/RuntimeException", "java/lang/Exception"]).filter goodWord)
def wsL_law0_r1 : List Cond := [Cond.classLink RL 8 RX4, Cond.instantiable RX4 11, Cond.initialized RX4, Cond.classLink RL 27 RX5, Cond.instantiable RX5 20, Cond.initialized RX5, Cond.arrayClass .long, Cond.methodLink RL 18 yL_cell, Cond.static yL_cell, Cond.initialized RL, Cond.code yL_cell cL_cell 2 (some .int), Cond.methodLink RL 24 yX4_init, Cond.instanceMethod yX4_init, Cond.code yX4_init cX4_init 2 none, Cond.methodLink RX4 1 objectInit, Cond.instanceMethod objectInit, Cond.code objectInit ⟨#[0xb1]⟩ 1 none, Cond.methodLink RX4 9 Lib.Math.min.name, Cond.static Lib.Math.min.name, Cond.initialized "java/lang/Math", Cond.code Lib.Math.min.name Lib.Math.min.code 2 (some .int), Cond.methodLink RX4 15 Lib.Math.max.name, Cond.static Lib.Math.max.name, Cond.code Lib.Math.max.name Lib.Math.max.code 2 (some .int)]
def wsL_law0_r2 : List Cond := [Cond.fieldLink RX4 18 "OffsetRows" "nodes" "I", Cond.classLink RX4 22 RX0, Cond.instantiable RX0 5, Cond.initialized RX0, Cond.fieldLink RX4 25 "OffsetRows" "arcs" "LOffsetRows$ArcList;", Cond.classLink RX4 29 RX3, Cond.instantiable RX3 8, Cond.initialized RX3, Cond.fieldLink RX4 31 "OffsetRows$ArcList" "from" "[I", Cond.fieldLink RX4 35 "OffsetRows$ArcList" "to" "[I", Cond.fieldLink RX4 41 "OffsetRows" "outSide" "LOffsetRows$Side;", Cond.fieldLink RX4 45 "OffsetRows" "inSide" "LOffsetRows$Side;", Cond.classLink RX4 48 RX2, Cond.instantiable RX2 6, Cond.initialized RX2, Cond.fieldLink RX4 51 "OffsetRows" "iterators" "LOffsetRows$Iterators;", Cond.classLink RX4 55 RX1, Cond.instantiable RX1 2, Cond.initialized RX1, Cond.fieldLink RX4 58 "OffsetRows" "given" "LOffsetRows$Given;", Cond.arrayClass .int, Cond.fieldLink RX4 62 "OffsetRows" "turnRow" "[I", Cond.fieldLink RX4 65 "OffsetRows" "turnedNumbers" "I", Cond.fieldLink RX4 68 "OffsetRows" "steps" "[I"]
def wsL_law0_r3 : List Cond := [Cond.fieldLink RX4 71 "OffsetRows" "waysHere" "[J", Cond.fieldLink RX4 75 "OffsetRows" "waysOnward" "[J", Cond.instanceMethod yX0_init, Cond.code yX0_init cX0_init 1 none, Cond.methodLink RX0 3 objectInit, Cond.fieldLink RX0 9 "OffsetRows$ArcList" "from" "[I", Cond.fieldLink RX0 15 "OffsetRows$ArcList" "to" "[I", Cond.fieldLink RX0 18 "OffsetRows$ArcList" "state" "[I", Cond.arrayClass .boolean, Cond.fieldLink RX0 21 "OffsetRows$ArcList" "taken" "[Z", Cond.fieldLink RX0 25 "OffsetRows$ArcList" "count" "I", Cond.methodLink RX4 38 yX3_init, Cond.instanceMethod yX3_init, Cond.code yX3_init cX3_init 5 none, Cond.methodLink RX3 3 objectInit, Cond.fieldLink RX3 9 "OffsetRows$Side" "row" "[I", Cond.fieldLink RX3 15 "OffsetRows$Side" "numbers" "[I", Cond.fieldLink RX3 18 "OffsetRows$Side" "byFarEnd" "[I", Cond.fieldLink RX3 21 "OffsetRows$Side" "arcs" "LOffsetRows$ArcList;", Cond.fieldLink RX3 25 "OffsetRows$Side" "ownEnd" "[I", Cond.fieldLink RX3 28 "OffsetRows$Side" "farEnd" "[I", Cond.fieldLink RX3 31 "OffsetRows$Side" "offsets" "[I", Cond.fieldLink RX3 34 "OffsetRows$Side" "free" "[I", Cond.instanceMethod yX2_init]
def wsL_law0_r4 : List Cond := [Cond.code yX2_init cX2_init 1 none, Cond.methodLink RX2 3 objectInit, Cond.fieldLink RX2 9 "OffsetRows$Iterators" "isOpen" "[Z", Cond.fieldLink RX2 15 "OffsetRows$Iterators" "isStale" "[Z", Cond.fieldLink RX2 18 "OffsetRows$Iterators" "ofIn" "[Z", Cond.fieldLink RX2 21 "OffsetRows$Iterators" "node" "[I", Cond.fieldLink RX2 25 "OffsetRows$Iterators" "lastPlace" "[I", Cond.fieldLink RX2 28 "OffsetRows$Iterators" "arcsTold" "[I", Cond.instanceMethod yX1_init, Cond.code yX1_init cX1_init 1 none, Cond.methodLink RX1 3 objectInit, Cond.fieldLink RX1 9 "OffsetRows$Given" "offsets" "[I", Cond.fieldLink RX1 15 "OffsetRows$Given" "targets" "[I", Cond.methodLink RL 29 yX5_init, Cond.instanceMethod yX5_init, Cond.code yX5_init cX5_init 2 none, Cond.methodLink RX5 7 objectInit, Cond.fieldLink RX5 13 "OffsetRowsModel" "from" "[I", Cond.fieldLink RX5 17 "OffsetRowsModel" "to" "[I", Cond.fieldLink RX5 20 "OffsetRowsModel" "state" "[I", Cond.fieldLink RX5 23 "OffsetRowsModel" "isTaken" "[Z", Cond.fieldLink RX5 27 "OffsetRowsModel" "turn" "[I", Cond.fieldLink RX5 30 "OffsetRowsModel" "isOpen" "[Z", Cond.fieldLink RX5 33 "OffsetRowsModel" "isStale" "[Z"]
def wsL_law0_r5 : List Cond := [Cond.fieldLink RX5 36 "OffsetRowsModel" "itNode" "[I", Cond.fieldLink RX5 39 "OffsetRowsModel" "itIn" "[Z", Cond.fieldLink RX5 42 "OffsetRowsModel" "itLast" "[I", Cond.fieldLink RX5 45 "OffsetRowsModel" "itTold" "[I", Cond.fieldLink RX5 48 "OffsetRowsModel" "givenOffset" "[I", Cond.fieldLink RX5 51 "OffsetRowsModel" "givenTarget" "[I", Cond.fieldLink RX5 54 "OffsetRowsModel" "far" "[I", Cond.fieldLink RX5 57 "OffsetRowsModel" "many" "[J", Cond.fieldLink RX5 61 "OffsetRowsModel" "next" "[J", Cond.fieldLink RX5 64 "OffsetRowsModel" "nodes" "I", Cond.methodLink RL 30 yX4_arc, Cond.instanceMethod yX4_arc, Cond.selects RX4 yX4_arc yX4_arc, Cond.code yX4_arc cX4_arc 3 (some .int), Cond.methodLink RX4 78 yX4_isNode, Cond.instanceMethod yX4_isNode, Cond.selects RX4 yX4_isNode yX4_isNode, Cond.code yX4_isNode cX4_isNode 2 (some .boolean), Cond.methodLink RX4 82 yX0_append, Cond.instanceMethod yX0_append, Cond.selects RX0 yX0_append yX0_append, Cond.code yX0_append cX0_append 5 (some .int), Cond.methodLink RL 33 yX5_arc, Cond.instanceMethod yX5_arc]
def wsL_law0_r6 : List Cond := [Cond.selects RX5 yX5_arc yX5_arc, Cond.code yX5_arc cX5_arc 3 (some .int), Cond.fieldLink RX5 1 "OffsetRowsModel" "thrown" "I", Cond.fieldLink RX5 67 "OffsetRowsModel" "arcs" "I", Cond.methodLink RX5 70 yX5_isNode, Cond.instanceMethod yX5_isNode, Cond.selects RX5 yX5_isNode yX5_isNode, Cond.code yX5_isNode cX5_isNode 2 (some .boolean), Cond.methodLink RL 34 yX4_take, Cond.instanceMethod yX4_take, Cond.selects RX4 yX4_take yX4_take, Cond.code yX4_take cX4_take 2 (some .int), Cond.methodLink RX4 86 yX4_mark, Cond.instanceMethod yX4_mark, Cond.selects RX4 yX4_mark yX4_mark, Cond.code yX4_mark cX4_mark 3 (some .int), Cond.fieldLink RX4 118 "OffsetRows$ArcList" "state" "[I", Cond.fieldLink RX4 121 "OffsetRows$ArcList" "taken" "[Z", Cond.methodLink RX4 115 yX0_has, Cond.instanceMethod yX0_has, Cond.selects RX0 yX0_has yX0_has, Cond.code yX0_has cX0_has 2 (some .boolean), Cond.methodLink RL 38 yX5_take, Cond.instanceMethod yX5_take]
def wsL_law0_r7 : List Cond := [Cond.selects RX5 yX5_take yX5_take, Cond.code yX5_take cX5_take 3 (some .int), Cond.methodLink RX5 74 yX5_isArc, Cond.instanceMethod yX5_isArc, Cond.selects RX5 yX5_isArc yX5_isArc, Cond.code yX5_isArc cX5_isArc 2 (some .boolean), Cond.methodLink RL 39 yX4_untake, Cond.instanceMethod yX4_untake, Cond.selects RX4 yX4_untake yX4_untake, Cond.code yX4_untake cX4_untake 2 (some .int), Cond.methodLink RL 42 yX5_untake, Cond.instanceMethod yX5_untake, Cond.selects RX5 yX5_untake yX5_untake, Cond.code yX5_untake cX5_untake 3 (some .int), Cond.methodLink RL 43 yX4_merge, Cond.instanceMethod yX4_merge, Cond.selects RX4 yX4_merge yX4_merge, Cond.code yX4_merge cX4_merge 1 (some .int), Cond.methodLink RX4 90 yX4_buildAnew, Cond.instanceMethod yX4_buildAnew, Cond.selects RX4 yX4_buildAnew yX4_buildAnew, Cond.code yX4_buildAnew cX4_buildAnew 2 (some .int), Cond.methodLink RX4 212 yX0_settle, Cond.instanceMethod yX0_settle]
def wsL_law0_r8 : List Cond := [Cond.selects RX0 yX0_settle yX0_settle, Cond.code yX0_settle cX0_settle 4 (some .int), Cond.methodLink RX4 101 yX4_buildRows, Cond.instanceMethod yX4_buildRows, Cond.selects RX4 yX4_buildRows yX4_buildRows, Cond.code yX4_buildRows cX4_buildRows 1 none, Cond.methodLink RX4 215 yX3_build, Cond.instanceMethod yX3_build, Cond.selects RX3 yX3_build yX3_build, Cond.code yX3_build cX3_build 2 none, Cond.methodLink RX3 37 yX3_listBuilt, Cond.instanceMethod yX3_listBuilt, Cond.selects RX3 yX3_listBuilt yX3_listBuilt, Cond.code yX3_listBuilt cX3_listBuilt 3 (some .int), Cond.fieldLink RX3 45 "OffsetRows$ArcList" "count" "I", Cond.fieldLink RX3 51 "OffsetRows$ArcList" "state" "[I", Cond.methodLink RX3 41 yX3_sortByCounting, Cond.instanceMethod yX3_sortByCounting, Cond.selects RX3 yX3_sortByCounting yX3_sortByCounting, Cond.code yX3_sortByCounting cX3_sortByCounting 7 none, Cond.methodLink RX3 60 arraycopyName, Cond.native arraycopyName, Cond.static arraycopyName, Cond.initialized "java/lang/System"]
def wsL_law0_r9 : List Cond := [Cond.methodLink RX3 54 yJ7_fill_53178, Cond.static yJ7_fill_53178, Cond.initialized RJ7, Cond.code yJ7_fill_53178 cJ7_fill_53178 4 none, Cond.methodLink RX4 201 yX2_makeStale, Cond.instanceMethod yX2_makeStale, Cond.selects RX2 yX2_makeStale yX2_makeStale, Cond.code yX2_makeStale cX2_makeStale 2 none, Cond.methodLink RL 47 yX5_merge, Cond.instanceMethod yX5_merge, Cond.selects RX5 yX5_merge yX5_merge, Cond.code yX5_merge cX5_merge 4 (some .int), Cond.methodLink RX5 77 yX5_stale, Cond.instanceMethod yX5_stale, Cond.selects RX5 yX5_stale yX5_stale, Cond.code yX5_stale cX5_stale 2 none, Cond.methodLink RL 48 yX4_pack, Cond.instanceMethod yX4_pack, Cond.selects RX4 yX4_pack yX4_pack, Cond.code yX4_pack cX4_pack 1 (some .int), Cond.fieldLink RX4 94 "OffsetRows$ArcList" "count" "I", Cond.methodLink RX4 97 yX0_renumber, Cond.instanceMethod yX0_renumber, Cond.selects RX0 yX0_renumber yX0_renumber]
def wsL_law0_r10 : List Cond := [Cond.code yX0_renumber cX0_renumber 5 none, Cond.methodLink RX0 33 yX0_append, Cond.methodLink RL 51 yX5_pack, Cond.instanceMethod yX5_pack, Cond.selects RX5 yX5_pack yX5_pack, Cond.code yX5_pack cX5_pack 3 (some .int), Cond.fieldLink RX5 84 "OffsetRowsModel" "turns" "I", Cond.methodLink RX5 80 yX5_merge, Cond.methodLink RL 52 yX4_turned, Cond.instanceMethod yX4_turned, Cond.selects RX4 yX4_turned yX4_turned, Cond.code yX4_turned cX4_turned 2 (some .int), Cond.methodLink RL 55 yX5_turned, Cond.instanceMethod yX5_turned, Cond.selects RX5 yX5_turned yX5_turned, Cond.code yX5_turned cX5_turned 2 (some .int), Cond.methodLink RL 56 yL_out, Cond.static yL_out, Cond.codeWith yL_out cL_out 5 (some .int) [(0, 10, 13, 13)], Cond.classLink RL 13 "java/lang/IndexOutOfBoundsException", Cond.methodLink RL 7 yX4_out, Cond.instanceMethod yX4_out, Cond.selects RX4 yX4_out yX4_out, Cond.code yX4_out cX4_out 3 (some .int)]
def wsL_law0_r11 : List Cond := [Cond.methodLink RX4 104 yX4_arcInRow, Cond.instanceMethod yX4_arcInRow, Cond.selects RX4 yX4_arcInRow yX4_arcInRow, Cond.code yX4_arcInRow cX4_arcInRow 4 (some .int), Cond.classLink RX4 218 "java/lang/IndexOutOfBoundsException", Cond.initialized "java/lang/IndexOutOfBoundsException", Cond.methodLink RX4 225 yX3_rowLength, Cond.instanceMethod yX3_rowLength, Cond.selects RX3 yX3_rowLength yX3_rowLength, Cond.code yX3_rowLength cX3_rowLength 2 (some .int), Cond.methodLink RX4 182 yX3_arcAt, Cond.instanceMethod yX3_arcAt, Cond.selects RX3 yX3_arcAt yX3_arcAt, Cond.code yX3_arcAt cX3_arcAt 5 (some .int), Cond.methodLink RX3 66 yX3_rowLength, Cond.methodLink RX3 70 yX0_isWaiting, Cond.instanceMethod yX0_isWaiting, Cond.selects RX0 yX0_isWaiting yX0_isWaiting, Cond.code yX0_isWaiting cX0_isWaiting 2 (some .boolean), Cond.methodLink RX0 29 yX0_has, Cond.methodLink RL 59 yX5_out, Cond.instanceMethod yX5_out, Cond.selects RX5 yX5_out yX5_out, Cond.code yX5_out cX5_out 3 (some .int)]
def wsL_law0_r12 : List Cond := [Cond.methodLink RX5 106 yX5_inRow, Cond.instanceMethod yX5_inRow, Cond.selects RX5 yX5_inRow yX5_inRow, Cond.code yX5_inRow cX5_inRow 5 (some .int), Cond.methodLink RX5 102 yX5_place, Cond.instanceMethod yX5_place, Cond.selects RX5 yX5_place yX5_place, Cond.code yX5_place cX5_place 8 (some .int), Cond.methodLink RX5 94 yX5_isOf, Cond.instanceMethod yX5_isOf, Cond.selects RX5 yX5_isOf yX5_isOf, Cond.code yX5_isOf cX5_isOf 5 (some .boolean), Cond.methodLink RX5 91 yX5_own, Cond.instanceMethod yX5_own, Cond.selects RX5 yX5_own yX5_own, Cond.code yX5_own cX5_own 3 (some .int), Cond.methodLink RX5 98 yX5_isAhead, Cond.instanceMethod yX5_isAhead, Cond.selects RX5 yX5_isAhead yX5_isAhead, Cond.code yX5_isAhead cX5_isAhead 4 (some .boolean), Cond.methodLink RX5 87 yX5_other, Cond.instanceMethod yX5_other, Cond.selects RX5 yX5_other yX5_other, Cond.code yX5_other cX5_other 3 (some .int)]
def wsL_law0_r13 : List Cond := [Cond.methodLink RL 60 yX5_thrown, Cond.instanceMethod yX5_thrown, Cond.selects RX5 yX5_thrown yX5_thrown, Cond.code yX5_thrown cX5_thrown 1 (some .int), Cond.methodLink RL 63 yL_in, Cond.static yL_in, Cond.codeWith yL_in cL_in 5 (some .int) [(0, 10, 13, 13)], Cond.methodLink RL 15 yX4_in, Cond.instanceMethod yX4_in, Cond.selects RX4 yX4_in yX4_in, Cond.code yX4_in cX4_in 3 (some .int), Cond.methodLink RL 65 yX5_in, Cond.instanceMethod yX5_in, Cond.selects RX5 yX5_in yX5_in, Cond.code yX5_in cX5_in 3 (some .int), Cond.methodLink RL 66 yX4_offset, Cond.instanceMethod yX4_offset, Cond.selects RX4 yX4_offset yX4_offset, Cond.code yX4_offset cX4_offset 3 (some .int), Cond.fieldLink RX4 112 "OffsetRows$Side" "offsets" "[I", Cond.methodLink RX4 108 yX4_side, Cond.instanceMethod yX4_side, Cond.selects RX4 yX4_side yX4_side, Cond.code yX4_side cX4_side 2 (some (.object "OffsetRows$Side"))]
def wsL_law0_r14 : List Cond := [Cond.methodLink RL 70 yX5_offset, Cond.instanceMethod yX5_offset, Cond.selects RX5 yX5_offset yX5_offset, Cond.code yX5_offset cX5_offset 5 (some .int), Cond.methodLink RL 71 yX4_told, Cond.instanceMethod yX4_told, Cond.selects RX4 yX4_told yX4_told, Cond.code yX4_told cX4_told 3 (some .int), Cond.methodLink RL 74 yX5_told, Cond.instanceMethod yX5_told, Cond.selects RX5 yX5_told yX5_told, Cond.code yX5_told cX5_told 3 (some .int), Cond.methodLink RL 75 yX4_degree, Cond.instanceMethod yX4_degree, Cond.selects RX4 yX4_degree yX4_degree, Cond.code yX4_degree cX4_degree 3 (some .int), Cond.methodLink RX4 125 yX3_countLive, Cond.instanceMethod yX3_countLive, Cond.selects RX3 yX3_countLive yX3_countLive, Cond.code yX3_countLive cX3_countLive 5 (some .int), Cond.methodLink RX3 74 yX3_countPlaces, Cond.instanceMethod yX3_countPlaces, Cond.selects RX3 yX3_countPlaces yX3_countPlaces, Cond.code yX3_countPlaces cX3_countPlaces 2 (some .int)]
def wsL_law0_r15 : List Cond := [Cond.methodLink RX3 77 yX3_arcAt, Cond.methodLink RX3 81 yX0_isLive, Cond.instanceMethod yX0_isLive, Cond.selects RX0 yX0_isLive yX0_isLive, Cond.code yX0_isLive cX0_isLive 2 (some .boolean), Cond.methodLink RL 78 yX5_degree, Cond.instanceMethod yX5_degree, Cond.selects RX5 yX5_degree yX5_degree, Cond.code yX5_degree cX5_degree 5 (some .int), Cond.methodLink RL 79 yX4_live, Cond.instanceMethod yX4_live, Cond.selects RX4 yX4_live yX4_live, Cond.code yX4_live cX4_live 4 (some .int), Cond.methodLink RX4 129 yX3_liveArc, Cond.instanceMethod yX3_liveArc, Cond.selects RX3 yX3_liveArc yX3_liveArc, Cond.code yX3_liveArc cX3_liveArc 7 (some .int), Cond.methodLink RL 83 yX5_live, Cond.instanceMethod yX5_live, Cond.selects RX5 yX5_live yX5_live, Cond.code yX5_live cX5_live 4 (some .int), Cond.methodLink RL 84 yX4_between, Cond.instanceMethod yX4_between, Cond.selects RX4 yX4_between yX4_between]
def wsL_law0_r16 : List Cond := [Cond.code yX4_between cX4_between 3 (some .int), Cond.methodLink RX4 132 yX0_countLiveBetween, Cond.instanceMethod yX0_countLiveBetween, Cond.selects RX0 yX0_countLiveBetween yX0_countLiveBetween, Cond.code yX0_countLiveBetween cX0_countLiveBetween 5 (some .int), Cond.methodLink RX0 37 yX0_isLive, Cond.methodLink RL 87 yX5_between, Cond.instanceMethod yX5_between, Cond.selects RX5 yX5_between yX5_between, Cond.code yX5_between cX5_between 3 (some .int), Cond.methodLink RX5 110 yX5_lead, Cond.instanceMethod yX5_lead, Cond.selects RX5 yX5_lead yX5_lead, Cond.code yX5_lead cX5_lead 5 (some .int), Cond.methodLink RL 88 yX4_near, Cond.instanceMethod yX4_near, Cond.selects RX4 yX4_near yX4_near, Cond.code yX4_near cX4_near 4 (some .int), Cond.methodLink RX4 135 yJ7_fill_53178, Cond.methodLink RX4 141 yX4_stepOnFrom, Cond.instanceMethod yX4_stepOnFrom, Cond.selects RX4 yX4_stepOnFrom yX4_stepOnFrom, Cond.code yX4_stepOnFrom cX4_stepOnFrom 4 none, Cond.methodLink RX4 230 yX0_isLive]
def wsL_law0_r17 : List Cond := [Cond.methodLink RL 91 yX5_near, Cond.instanceMethod yX5_near, Cond.selects RX5 yX5_near yX5_near, Cond.code yX5_near cX5_near 5 (some .int), Cond.methodLink RL 92 yX4_ways, Cond.instanceMethod yX4_ways, Cond.selects RX4 yX4_ways yX4_ways, Cond.code yX4_ways cX4_ways 5 (some .long), Cond.constantLong RX4 145 (-2), Cond.constantLong RX4 147 (-3), Cond.methodLink RX4 149 yJ7_fill_d0a16, Cond.static yJ7_fill_d0a16, Cond.code yJ7_fill_d0a16 cJ7_fill_d0a16 5 none, Cond.methodLink RX4 152 yX4_lengthenWays, Cond.instanceMethod yX4_lengthenWays, Cond.selects RX4 yX4_lengthenWays yX4_lengthenWays, Cond.code yX4_lengthenWays cX4_lengthenWays 2 none, Cond.methodLink RX4 233 arraycopyName, Cond.methodLink RL 96 yX5_ways, Cond.instanceMethod yX5_ways, Cond.selects RX5 yX5_ways yX5_ways, Cond.code yX5_ways cX5_ways 6 (some .long), Cond.constantLong RX5 114 (-2), Cond.constantLong RX5 116 (-3)]
def wsL_law0_r18 : List Cond := [Cond.methodLink RL 97 yX4_open, Cond.instanceMethod yX4_open, Cond.selects RX4 yX4_open yX4_open, Cond.code yX4_open cX4_open 4 (some .int), Cond.methodLink RX4 155 yX2_leastFree, Cond.instanceMethod yX2_leastFree, Cond.selects RX2 yX2_leastFree yX2_leastFree, Cond.code yX2_leastFree cX2_leastFree 2 (some .int), Cond.methodLink RX4 158 yX2_start, Cond.instanceMethod yX2_start, Cond.selects RX2 yX2_start yX2_start, Cond.code yX2_start cX2_start 4 none, Cond.methodLink RL 100 yX5_open, Cond.instanceMethod yX5_open, Cond.selects RX5 yX5_open yX5_open, Cond.code yX5_open cX5_open 4 (some .int), Cond.methodLink RL 101 yX4_next, Cond.instanceMethod yX4_next, Cond.selects RX4 yX4_next yX4_next, Cond.code yX4_next cX4_next 5 (some .int), Cond.fieldLink RX4 163 "OffsetRows$Iterators" "isStale" "[Z", Cond.fieldLink RX4 166 "OffsetRows$Iterators" "node" "[I", Cond.fieldLink RX4 169 "OffsetRows$Iterators" "ofIn" "[Z", Cond.fieldLink RX4 172 "OffsetRows$Iterators" "lastPlace" "[I"]
def wsL_law0_r19 : List Cond := [Cond.methodLink RX4 162 yX2_has, Cond.instanceMethod yX2_has, Cond.selects RX2 yX2_has yX2_has, Cond.code yX2_has cX2_has 2 (some .boolean), Cond.methodLink RX4 175 yX3_livePlaceFrom, Cond.instanceMethod yX3_livePlaceFrom, Cond.selects RX3 yX3_livePlaceFrom yX3_livePlaceFrom, Cond.code yX3_livePlaceFrom cX3_livePlaceFrom 5 (some .int), Cond.methodLink RX4 178 yX2_moveTo, Cond.instanceMethod yX2_moveTo, Cond.selects RX2 yX2_moveTo yX2_moveTo, Cond.code yX2_moveTo cX2_moveTo 3 none, Cond.methodLink RL 104 yX5_next, Cond.instanceMethod yX5_next, Cond.selects RX5 yX5_next yX5_next, Cond.code yX5_next cX5_next 5 (some .int), Cond.methodLink RX5 118 yX5_isIterator, Cond.instanceMethod yX5_isIterator, Cond.selects RX5 yX5_isIterator yX5_isIterator, Cond.code yX5_isIterator cX5_isIterator 2 (some .boolean), Cond.methodLink RL 105 yX4_close, Cond.instanceMethod yX4_close, Cond.selects RX4 yX4_close yX4_close, Cond.code yX4_close cX4_close 2 (some .int)]
def wsL_law0_r20 : List Cond := [Cond.fieldLink RX4 185 "OffsetRows$Iterators" "isOpen" "[Z", Cond.fieldLink RX4 188 "OffsetRows$Iterators" "arcsTold" "[I", Cond.methodLink RL 108 yX5_close, Cond.instanceMethod yX5_close, Cond.selects RX5 yX5_close yX5_close, Cond.code yX5_close cX5_close 2 (some .int), Cond.methodLink RL 109 yX4_give, Cond.instanceMethod yX4_give, Cond.selects RX4 yX4_give yX4_give, Cond.code yX4_give cX4_give 6 (some .int), Cond.fieldLink RX4 191 "OffsetRows$Given" "targets" "[I", Cond.fieldLink RX4 194 "OffsetRows$Given" "offsets" "[I", Cond.methodLink RL 113 yX5_give, Cond.instanceMethod yX5_give, Cond.selects RX5 yX5_give yX5_give, Cond.code yX5_give cX5_give 5 (some .int), Cond.methodLink RL 114 yX4_load, Cond.instanceMethod yX4_load, Cond.selects RX4 yX4_load yX4_load, Cond.code yX4_load cX4_load 3 (some .int), Cond.methodLink RX4 195 yX1_firstFault, Cond.instanceMethod yX1_firstFault, Cond.selects RX1 yX1_firstFault yX1_firstFault, Cond.code yX1_firstFault cX1_firstFault 4 (some .int)]
def wsL_law0_r21 : List Cond := [Cond.methodLink RX1 18 yX1_isOffsetRight, Cond.instanceMethod yX1_isOffsetRight, Cond.selects RX1 yX1_isOffsetRight yX1_isOffsetRight, Cond.code yX1_isOffsetRight cX1_isOffsetRight 7 (some .boolean), Cond.methodLink RX4 198 yX1_fill, Cond.instanceMethod yX1_fill, Cond.selects RX1 yX1_fill yX1_fill, Cond.code yX1_fill cX1_fill 5 none, Cond.fieldLink RX1 22 "OffsetRows$ArcList" "count" "I", Cond.methodLink RX1 28 yX0_append, Cond.methodLink RL 117 yX5_load, Cond.instanceMethod yX5_load, Cond.selects RX5 yX5_load yX5_load, Cond.code yX5_load cX5_load 5 (some .int), Cond.methodLink RX5 121 yX5_judged, Cond.instanceMethod yX5_judged, Cond.selects RX5 yX5_judged yX5_judged, Cond.code yX5_judged cX5_judged 5 (some .int), Cond.methodLink RL 118 yX4_about, Cond.instanceMethod yX4_about, Cond.selects RX4 yX4_about yX4_about, Cond.code yX4_about cX4_about 2 (some .int), Cond.methodLink RX4 204 yX0_countInState, Cond.instanceMethod yX0_countInState]
def wsL_law0_r22 : List Cond := [Cond.selects RX0 yX0_countInState yX0_countInState, Cond.code yX0_countInState cX0_countInState 4 (some .int), Cond.methodLink RX4 207 yX0_countLive, Cond.instanceMethod yX0_countLive, Cond.selects RX0 yX0_countLive yX0_countLive, Cond.code yX0_countLive cX0_countLive 3 (some .int), Cond.methodLink RX4 209 yX2_countOpen, Cond.instanceMethod yX2_countOpen, Cond.selects RX2 yX2_countOpen yX2_countOpen, Cond.code yX2_countOpen cX2_countOpen 3 (some .int), Cond.methodLink RL 121 yX5_about, Cond.instanceMethod yX5_about, Cond.selects RX5 yX5_about yX5_about, Cond.code yX5_about cX5_about 4 (some .int)]
def wsL_law0 : List Cond := (wsL_law0_r1 ++ (wsL_law0_r2 ++ (wsL_law0_r3 ++ (wsL_law0_r4 ++ (wsL_law0_r5 ++ (wsL_law0_r6 ++ (wsL_law0_r7 ++ (wsL_law0_r8 ++ (wsL_law0_r9 ++ (wsL_law0_r10 ++ (wsL_law0_r11 ++ (wsL_law0_r12 ++ (wsL_law0_r13 ++ (wsL_law0_r14 ++ (wsL_law0_r15 ++ (wsL_law0_r16 ++ (wsL_law0_r17 ++ (wsL_law0_r18 ++ (wsL_law0_r19 ++ (wsL_law0_r20 ++ (wsL_law0_r21 ++ wsL_law0_r22))))))))))))))))))))) ++ wsX40 ++ wsX50 ++ wsX00 ++ wsX30 ++ wsX20 ++ wsX10 ++ ([] : List Cond)
def wsL_law : List Cond := wsL_law0 ++ (vx_atS RX4 222 "java/lang/IndexOutOfBoundsException" ["java/lang/RuntimeException", "java/lang/Exception"]).filter goodWord
abbrev vwCl : List vw_C := [(RX0, TX0, 5), (RX1, TX1, 2), (RX2, TX2, 6), (RX3, TX3, 8), (RX4, TX4, 11), (RX5, TX5, 20)]
end
section
theorem dX0_init_0 : decode cX0_init 0 = .ok (.aload_n 0, 1) := by decide +kernel
theorem dX0_init_1 : decode cX0_init 1 = .ok (.invokespecial 3, 3) := by decide +kernel
theorem dX0_init_4 : decode cX0_init 4 = .ok (.aload_n 0, 1) := by decide +kernel
theorem dX0_init_5 : decode cX0_init 5 = .ok (.sipush 160, 3) := by decide +kernel
theorem dX0_init_8 : decode cX0_init 8 = .ok (.newarray .int, 2) := by decide +kernel
theorem dX0_init_10 : decode cX0_init 10 = .ok (.putfield 9, 3) := by decide +kernel
theorem dX0_init_13 : decode cX0_init 13 = .ok (.aload_n 0, 1) := by decide +kernel
theorem dX0_init_14 : decode cX0_init 14 = .ok (.sipush 160, 3) := by decide +kernel
theorem dX0_init_17 : decode cX0_init 17 = .ok (.newarray .int, 2) := by decide +kernel
theorem dX0_init_19 : decode cX0_init 19 = .ok (.putfield 15, 3) := by decide +kernel
theorem dX0_init_22 : decode cX0_init 22 = .ok (.aload_n 0, 1) := by decide +kernel
theorem dX0_init_23 : decode cX0_init 23 = .ok (.sipush 160, 3) := by decide +kernel
theorem dX0_init_26 : decode cX0_init 26 = .ok (.newarray .int, 2) := by decide +kernel
theorem dX0_init_28 : decode cX0_init 28 = .ok (.putfield 18, 3) := by decide +kernel
theorem dX0_init_31 : decode cX0_init 31 = .ok (.aload_n 0, 1) := by decide +kernel
theorem dX0_init_32 : decode cX0_init 32 = .ok (.sipush 160, 3) := by decide +kernel
theorem dX0_init_35 : decode cX0_init 35 = .ok (.newarray .boolean, 2) := by decide +kernel
theorem dX0_init_37 : decode cX0_init 37 = .ok (.putfield 21, 3) := by decide +kernel
theorem dX0_init_40 : decode cX0_init 40 = .ok (.aload_n 0, 1) := by decide +kernel
theorem dX0_init_41 : decode cX0_init 41 = .ok (.iconst 0, 1) := by decide +kernel
theorem dX0_init_42 : decode cX0_init 42 = .ok (.putfield 25, 3) := by decide +kernel
theorem dX0_init_45 : decode cX0_init 45 = .ok (.return_, 1) := by decide +kernel
theorem dX0_has_0 : decode cX0_has 0 = .ok (.iload_n 1, 1) := by decide +kernel
theorem dX0_has_1 : decode cX0_has 1 = .ok (.ifCond .lt 15, 3) := by decide +kernel
theorem dX0_has_4 : decode cX0_has 4 = .ok (.iload_n 1, 1) := by decide +kernel
theorem dX0_has_5 : decode cX0_has 5 = .ok (.aload_n 0, 1) := by decide +kernel
theorem dX0_has_6 : decode cX0_has 6 = .ok (.getfield 25, 3) := by decide +kernel
theorem dX0_has_9 : decode cX0_has 9 = .ok (.if_icmp .ge 7, 3) := by decide +kernel
theorem dX0_has_12 : decode cX0_has 12 = .ok (.iconst 1, 1) := by decide +kernel
theorem dX0_has_13 : decode cX0_has 13 = .ok (.goto 4, 3) := by decide +kernel
theorem dX0_has_16 : decode cX0_has 16 = .ok (.iconst 0, 1) := by decide +kernel
theorem dX0_has_17 : decode cX0_has 17 = .ok (.ireturn, 1) := by decide +kernel
set_option maxRecDepth 20000 in
theorem ggX0_isLive_X0_has : GoodIn wsX0_isLive wsX0_has := goodIn_r _ [7, 8, 9, 10, 11, 12, 13] (by decide +kernel) (by decide +kernel)
set_option maxRecDepth 20000 in
theorem gX0_isLive_X0_has : GoodIn wsX0_isLive (wsV RX0 29 RX0 yX0_has wsX0_has) := goodIn_app (goodIn_of _ (by decide +kernel)) ggX0_isLive_X0_has
theorem dX0_isLive_0 : decode cX0_isLive 0 = .ok (.aload_n 0, 1) := by decide +kernel
theorem dX0_isLive_1 : decode cX0_isLive 1 = .ok (.iload_n 1, 1) := by decide +kernel
theorem dX0_isLive_2 : decode cX0_isLive 2 = .ok (.invokevirtual 29, 3) := by decide +kernel
theorem dX0_isLive_5 : decode cX0_isLive 5 = .ok (.ifCond .eq 26, 3) := by decide +kernel
theorem dX0_isLive_8 : decode cX0_isLive 8 = .ok (.aload_n 0, 1) := by decide +kernel
theorem dX0_isLive_9 : decode cX0_isLive 9 = .ok (.getfield 18, 3) := by decide +kernel
theorem dX0_isLive_12 : decode cX0_isLive 12 = .ok (.iload_n 1, 1) := by decide +kernel
theorem dX0_isLive_13 : decode cX0_isLive 13 = .ok (.iaload, 1) := by decide +kernel
theorem dX0_isLive_14 : decode cX0_isLive 14 = .ok (.iconst 2, 1) := by decide +kernel
theorem dX0_isLive_15 : decode cX0_isLive 15 = .ok (.if_icmp .eq 16, 3) := by decide +kernel
theorem dX0_isLive_18 : decode cX0_isLive 18 = .ok (.aload_n 0, 1) := by decide +kernel
theorem dX0_isLive_19 : decode cX0_isLive 19 = .ok (.getfield 21, 3) := by decide +kernel
theorem dX0_isLive_22 : decode cX0_isLive 22 = .ok (.iload_n 1, 1) := by decide +kernel
theorem dX0_isLive_23 : decode cX0_isLive 23 = .ok (.baload, 1) := by decide +kernel
theorem dX0_isLive_24 : decode cX0_isLive 24 = .ok (.ifCond .ne 7, 3) := by decide +kernel
theorem dX0_isLive_27 : decode cX0_isLive 27 = .ok (.iconst 1, 1) := by decide +kernel
theorem dX0_isLive_28 : decode cX0_isLive 28 = .ok (.goto 4, 3) := by decide +kernel
theorem dX0_isLive_31 : decode cX0_isLive 31 = .ok (.iconst 0, 1) := by decide +kernel
theorem dX0_isLive_32 : decode cX0_isLive 32 = .ok (.ireturn, 1) := by decide +kernel
set_option maxRecDepth 20000 in
theorem ggX0_isWaiting_X0_has : GoodIn wsX0_isWaiting wsX0_has := goodIn_r _ [6, 7, 8, 9, 10, 11, 12] (by decide +kernel) (by decide +kernel)
set_option maxRecDepth 20000 in
theorem gX0_isWaiting_X0_has : GoodIn wsX0_isWaiting (wsV RX0 29 RX0 yX0_has wsX0_has) := goodIn_app (goodIn_of _ (by decide +kernel)) ggX0_isWaiting_X0_has
theorem dX0_isWaiting_0 : decode cX0_isWaiting 0 = .ok (.aload_n 0, 1) := by decide +kernel
theorem dX0_isWaiting_1 : decode cX0_isWaiting 1 = .ok (.iload_n 1, 1) := by decide +kernel
theorem dX0_isWaiting_2 : decode cX0_isWaiting 2 = .ok (.invokevirtual 29, 3) := by decide +kernel
theorem dX0_isWaiting_5 : decode cX0_isWaiting 5 = .ok (.ifCond .eq 16, 3) := by decide +kernel
theorem dX0_isWaiting_8 : decode cX0_isWaiting 8 = .ok (.aload_n 0, 1) := by decide +kernel
theorem dX0_isWaiting_9 : decode cX0_isWaiting 9 = .ok (.getfield 18, 3) := by decide +kernel
theorem dX0_isWaiting_12 : decode cX0_isWaiting 12 = .ok (.iload_n 1, 1) := by decide +kernel
theorem dX0_isWaiting_13 : decode cX0_isWaiting 13 = .ok (.iaload, 1) := by decide +kernel
theorem dX0_isWaiting_14 : decode cX0_isWaiting 14 = .ok (.ifCond .ne 7, 3) := by decide +kernel
theorem dX0_isWaiting_17 : decode cX0_isWaiting 17 = .ok (.iconst 1, 1) := by decide +kernel
theorem dX0_isWaiting_18 : decode cX0_isWaiting 18 = .ok (.goto 4, 3) := by decide +kernel
theorem dX0_isWaiting_21 : decode cX0_isWaiting 21 = .ok (.iconst 0, 1) := by decide +kernel
theorem dX0_isWaiting_22 : decode cX0_isWaiting 22 = .ok (.ireturn, 1) := by decide +kernel
theorem dX0_append_0 : decode cX0_append 0 = .ok (.aload_n 0, 1) := by decide +kernel
theorem dX0_append_1 : decode cX0_append 1 = .ok (.getfield 25, 3) := by decide +kernel
theorem dX0_append_4 : decode cX0_append 4 = .ok (.sipush 160, 3) := by decide +kernel
theorem dX0_append_7 : decode cX0_append 7 = .ok (.if_icmp .lt 6, 3) := by decide +kernel
theorem dX0_append_10 : decode cX0_append 10 = .ok (.bipush (-6), 2) := by decide +kernel
theorem dX0_append_12 : decode cX0_append 12 = .ok (.ireturn, 1) := by decide +kernel
theorem dX0_append_13 : decode cX0_append 13 = .ok (.aload_n 0, 1) := by decide +kernel
theorem dX0_append_14 : decode cX0_append 14 = .ok (.getfield 25, 3) := by decide +kernel
theorem dX0_append_17 : decode cX0_append 17 = .ok (.istore 4, 2) := by decide +kernel
theorem dX0_append_19 : decode cX0_append 19 = .ok (.aload_n 0, 1) := by decide +kernel
theorem dX0_append_20 : decode cX0_append 20 = .ok (.getfield 9, 3) := by decide +kernel
theorem dX0_append_23 : decode cX0_append 23 = .ok (.iload 4, 2) := by decide +kernel
theorem dX0_append_25 : decode cX0_append 25 = .ok (.iload_n 1, 1) := by decide +kernel
theorem dX0_append_26 : decode cX0_append 26 = .ok (.iastore, 1) := by decide +kernel
theorem dX0_append_27 : decode cX0_append 27 = .ok (.aload_n 0, 1) := by decide +kernel
theorem dX0_append_28 : decode cX0_append 28 = .ok (.getfield 15, 3) := by decide +kernel
theorem dX0_append_31 : decode cX0_append 31 = .ok (.iload 4, 2) := by decide +kernel
theorem dX0_append_33 : decode cX0_append 33 = .ok (.iload_n 2, 1) := by decide +kernel
theorem dX0_append_34 : decode cX0_append 34 = .ok (.iastore, 1) := by decide +kernel
theorem dX0_append_35 : decode cX0_append 35 = .ok (.aload_n 0, 1) := by decide +kernel
theorem dX0_append_36 : decode cX0_append 36 = .ok (.getfield 18, 3) := by decide +kernel
theorem dX0_append_39 : decode cX0_append 39 = .ok (.iload 4, 2) := by decide +kernel
theorem dX0_append_41 : decode cX0_append 41 = .ok (.iload_n 3, 1) := by decide +kernel
theorem dX0_append_42 : decode cX0_append 42 = .ok (.iastore, 1) := by decide +kernel
theorem dX0_append_43 : decode cX0_append 43 = .ok (.aload_n 0, 1) := by decide +kernel
theorem dX0_append_44 : decode cX0_append 44 = .ok (.getfield 21, 3) := by decide +kernel
theorem dX0_append_47 : decode cX0_append 47 = .ok (.iload 4, 2) := by decide +kernel
theorem dX0_append_49 : decode cX0_append 49 = .ok (.iconst 0, 1) := by decide +kernel
theorem dX0_append_50 : decode cX0_append 50 = .ok (.bastore, 1) := by decide +kernel
theorem dX0_append_51 : decode cX0_append 51 = .ok (.aload_n 0, 1) := by decide +kernel
theorem dX0_append_52 : decode cX0_append 52 = .ok (.dup, 1) := by decide +kernel
theorem dX0_append_53 : decode cX0_append 53 = .ok (.getfield 25, 3) := by decide +kernel
theorem dX0_append_56 : decode cX0_append 56 = .ok (.iconst 1, 1) := by decide +kernel
theorem dX0_append_57 : decode cX0_append 57 = .ok (.iadd, 1) := by decide +kernel
theorem dX0_append_58 : decode cX0_append 58 = .ok (.putfield 25, 3) := by decide +kernel
theorem dX0_append_61 : decode cX0_append 61 = .ok (.iload 4, 2) := by decide +kernel
theorem dX0_append_63 : decode cX0_append 63 = .ok (.ireturn, 1) := by decide +kernel
theorem dX0_settle_0 : decode cX0_settle 0 = .ok (.iconst 0, 1) := by decide +kernel
theorem dX0_settle_1 : decode cX0_settle 1 = .ok (.istore_n 1, 1) := by decide +kernel
theorem dX0_settle_2 : decode cX0_settle 2 = .ok (.iconst 0, 1) := by decide +kernel
theorem dX0_settle_3 : decode cX0_settle 3 = .ok (.istore_n 2, 1) := by decide +kernel
theorem dX0_settle_4 : decode cX0_settle 4 = .ok (.iload_n 2, 1) := by decide +kernel
theorem dX0_settle_5 : decode cX0_settle 5 = .ok (.aload_n 0, 1) := by decide +kernel
theorem dX0_settle_6 : decode cX0_settle 6 = .ok (.getfield 25, 3) := by decide +kernel
theorem dX0_settle_9 : decode cX0_settle 9 = .ok (.if_icmp .ge 44, 3) := by decide +kernel
theorem dX0_settle_12 : decode cX0_settle 12 = .ok (.aload_n 0, 1) := by decide +kernel
theorem dX0_settle_13 : decode cX0_settle 13 = .ok (.getfield 21, 3) := by decide +kernel
theorem dX0_settle_16 : decode cX0_settle 16 = .ok (.iload_n 2, 1) := by decide +kernel
theorem dX0_settle_17 : decode cX0_settle 17 = .ok (.baload, 1) := by decide +kernel
theorem dX0_settle_18 : decode cX0_settle 18 = .ok (.ifCond .eq 7, 3) := by decide +kernel
theorem dX0_settle_21 : decode cX0_settle 21 = .ok (.iconst 2, 1) := by decide +kernel
theorem dX0_settle_22 : decode cX0_settle 22 = .ok (.goto 4, 3) := by decide +kernel
theorem dX0_settle_25 : decode cX0_settle 25 = .ok (.iconst 1, 1) := by decide +kernel
theorem dX0_settle_26 : decode cX0_settle 26 = .ok (.istore_n 3, 1) := by decide +kernel
theorem dX0_settle_27 : decode cX0_settle 27 = .ok (.aload_n 0, 1) := by decide +kernel
theorem dX0_settle_28 : decode cX0_settle 28 = .ok (.getfield 18, 3) := by decide +kernel
theorem dX0_settle_31 : decode cX0_settle 31 = .ok (.iload_n 2, 1) := by decide +kernel
theorem dX0_settle_32 : decode cX0_settle 32 = .ok (.iaload, 1) := by decide +kernel
theorem dX0_settle_33 : decode cX0_settle 33 = .ok (.iload_n 3, 1) := by decide +kernel
theorem dX0_settle_34 : decode cX0_settle 34 = .ok (.if_icmp .eq 13, 3) := by decide +kernel
theorem dX0_settle_37 : decode cX0_settle 37 = .ok (.aload_n 0, 1) := by decide +kernel
theorem dX0_settle_38 : decode cX0_settle 38 = .ok (.getfield 18, 3) := by decide +kernel
theorem dX0_settle_41 : decode cX0_settle 41 = .ok (.iload_n 2, 1) := by decide +kernel
theorem dX0_settle_42 : decode cX0_settle 42 = .ok (.iload_n 3, 1) := by decide +kernel
theorem dX0_settle_43 : decode cX0_settle 43 = .ok (.iastore, 1) := by decide +kernel
theorem dX0_settle_44 : decode cX0_settle 44 = .ok (.iinc 1 1, 3) := by decide +kernel
theorem dX0_settle_47 : decode cX0_settle 47 = .ok (.iinc 2 1, 3) := by decide +kernel
theorem dX0_settle_50 : decode cX0_settle 50 = .ok (.goto (-46), 3) := by decide +kernel
theorem dX0_settle_53 : decode cX0_settle 53 = .ok (.iload_n 1, 1) := by decide +kernel
theorem dX0_settle_54 : decode cX0_settle 54 = .ok (.ireturn, 1) := by decide +kernel
set_option maxRecDepth 20000 in
theorem ggX0_renumber_X0_append : GoodIn wsX0_renumber wsX0_append := goodIn_r _ [9, 1, 3, 4, 2, 10, 11, 12, 13, 14, 15] (by decide +kernel) (by decide +kernel)
set_option maxRecDepth 20000 in
theorem gX0_renumber_X0_append : GoodIn wsX0_renumber (wsV RX0 33 RX0 yX0_append wsX0_append) := goodIn_app (goodIn_of _ (by decide +kernel)) ggX0_renumber_X0_append
theorem dX0_renumber_0 : decode cX0_renumber 0 = .ok (.aload_n 0, 1) := by decide +kernel
theorem dX0_renumber_1 : decode cX0_renumber 1 = .ok (.getfield 25, 3) := by decide +kernel
theorem dX0_renumber_4 : decode cX0_renumber 4 = .ok (.istore_n 2, 1) := by decide +kernel
theorem dX0_renumber_5 : decode cX0_renumber 5 = .ok (.aload_n 0, 1) := by decide +kernel
theorem dX0_renumber_6 : decode cX0_renumber 6 = .ok (.iconst 0, 1) := by decide +kernel
theorem dX0_renumber_7 : decode cX0_renumber 7 = .ok (.putfield 25, 3) := by decide +kernel
theorem dX0_renumber_10 : decode cX0_renumber 10 = .ok (.iconst 0, 1) := by decide +kernel
theorem dX0_renumber_11 : decode cX0_renumber 11 = .ok (.istore_n 3, 1) := by decide +kernel
theorem dX0_renumber_12 : decode cX0_renumber 12 = .ok (.iload_n 3, 1) := by decide +kernel
theorem dX0_renumber_13 : decode cX0_renumber 13 = .ok (.iload_n 2, 1) := by decide +kernel
theorem dX0_renumber_14 : decode cX0_renumber 14 = .ok (.if_icmp .ge 60, 3) := by decide +kernel
theorem dX0_renumber_17 : decode cX0_renumber 17 = .ok (.aload_n 0, 1) := by decide +kernel
theorem dX0_renumber_18 : decode cX0_renumber 18 = .ok (.getfield 18, 3) := by decide +kernel
theorem dX0_renumber_21 : decode cX0_renumber 21 = .ok (.iload_n 3, 1) := by decide +kernel
theorem dX0_renumber_22 : decode cX0_renumber 22 = .ok (.iaload, 1) := by decide +kernel
theorem dX0_renumber_23 : decode cX0_renumber 23 = .ok (.iconst 2, 1) := by decide +kernel
theorem dX0_renumber_24 : decode cX0_renumber 24 = .ok (.if_icmp .eq 7, 3) := by decide +kernel
theorem dX0_renumber_27 : decode cX0_renumber 27 = .ok (.iconst 1, 1) := by decide +kernel
theorem dX0_renumber_28 : decode cX0_renumber 28 = .ok (.goto 4, 3) := by decide +kernel
theorem dX0_renumber_31 : decode cX0_renumber 31 = .ok (.iconst 0, 1) := by decide +kernel
theorem dX0_renumber_32 : decode cX0_renumber 32 = .ok (.istore 4, 2) := by decide +kernel
theorem dX0_renumber_34 : decode cX0_renumber 34 = .ok (.aload_n 1, 1) := by decide +kernel
theorem dX0_renumber_35 : decode cX0_renumber 35 = .ok (.iload_n 3, 1) := by decide +kernel
theorem dX0_renumber_36 : decode cX0_renumber 36 = .ok (.iload 4, 2) := by decide +kernel
theorem dX0_renumber_38 : decode cX0_renumber 38 = .ok (.ifCond .eq 28, 3) := by decide +kernel
theorem dX0_renumber_41 : decode cX0_renumber 41 = .ok (.aload_n 0, 1) := by decide +kernel
theorem dX0_renumber_42 : decode cX0_renumber 42 = .ok (.aload_n 0, 1) := by decide +kernel
theorem dX0_renumber_43 : decode cX0_renumber 43 = .ok (.getfield 9, 3) := by decide +kernel
theorem dX0_renumber_46 : decode cX0_renumber 46 = .ok (.iload_n 3, 1) := by decide +kernel
theorem dX0_renumber_47 : decode cX0_renumber 47 = .ok (.iaload, 1) := by decide +kernel
theorem dX0_renumber_48 : decode cX0_renumber 48 = .ok (.aload_n 0, 1) := by decide +kernel
theorem dX0_renumber_49 : decode cX0_renumber 49 = .ok (.getfield 15, 3) := by decide +kernel
theorem dX0_renumber_52 : decode cX0_renumber 52 = .ok (.iload_n 3, 1) := by decide +kernel
theorem dX0_renumber_53 : decode cX0_renumber 53 = .ok (.iaload, 1) := by decide +kernel
theorem dX0_renumber_54 : decode cX0_renumber 54 = .ok (.aload_n 0, 1) := by decide +kernel
theorem dX0_renumber_55 : decode cX0_renumber 55 = .ok (.getfield 18, 3) := by decide +kernel
theorem dX0_renumber_58 : decode cX0_renumber 58 = .ok (.iload_n 3, 1) := by decide +kernel
theorem dX0_renumber_59 : decode cX0_renumber 59 = .ok (.iaload, 1) := by decide +kernel
theorem dX0_renumber_60 : decode cX0_renumber 60 = .ok (.invokevirtual 33, 3) := by decide +kernel
theorem dX0_renumber_63 : decode cX0_renumber 63 = .ok (.goto 4, 3) := by decide +kernel
theorem dX0_renumber_66 : decode cX0_renumber 66 = .ok (.iconst (-1), 1) := by decide +kernel
theorem dX0_renumber_67 : decode cX0_renumber 67 = .ok (.iastore, 1) := by decide +kernel
theorem dX0_renumber_68 : decode cX0_renumber 68 = .ok (.iinc 3 1, 3) := by decide +kernel
theorem dX0_renumber_71 : decode cX0_renumber 71 = .ok (.goto (-59), 3) := by decide +kernel
theorem dX0_renumber_74 : decode cX0_renumber 74 = .ok (.return_, 1) := by decide +kernel
theorem dX0_countInState_0 : decode cX0_countInState 0 = .ok (.iconst 0, 1) := by decide +kernel
theorem dX0_countInState_1 : decode cX0_countInState 1 = .ok (.istore_n 2, 1) := by decide +kernel
theorem dX0_countInState_2 : decode cX0_countInState 2 = .ok (.iconst 0, 1) := by decide +kernel
theorem dX0_countInState_3 : decode cX0_countInState 3 = .ok (.istore_n 3, 1) := by decide +kernel
theorem dX0_countInState_4 : decode cX0_countInState 4 = .ok (.iload_n 3, 1) := by decide +kernel
theorem dX0_countInState_5 : decode cX0_countInState 5 = .ok (.aload_n 0, 1) := by decide +kernel
theorem dX0_countInState_6 : decode cX0_countInState 6 = .ok (.getfield 25, 3) := by decide +kernel
theorem dX0_countInState_9 : decode cX0_countInState 9 = .ok (.if_icmp .ge 22, 3) := by decide +kernel
theorem dX0_countInState_12 : decode cX0_countInState 12 = .ok (.aload_n 0, 1) := by decide +kernel
theorem dX0_countInState_13 : decode cX0_countInState 13 = .ok (.getfield 18, 3) := by decide +kernel
theorem dX0_countInState_16 : decode cX0_countInState 16 = .ok (.iload_n 3, 1) := by decide +kernel
theorem dX0_countInState_17 : decode cX0_countInState 17 = .ok (.iaload, 1) := by decide +kernel
theorem dX0_countInState_18 : decode cX0_countInState 18 = .ok (.iload_n 1, 1) := by decide +kernel
theorem dX0_countInState_19 : decode cX0_countInState 19 = .ok (.if_icmp .ne 6, 3) := by decide +kernel
theorem dX0_countInState_22 : decode cX0_countInState 22 = .ok (.iinc 2 1, 3) := by decide +kernel
theorem dX0_countInState_25 : decode cX0_countInState 25 = .ok (.iinc 3 1, 3) := by decide +kernel
theorem dX0_countInState_28 : decode cX0_countInState 28 = .ok (.goto (-24), 3) := by decide +kernel
theorem dX0_countInState_31 : decode cX0_countInState 31 = .ok (.iload_n 2, 1) := by decide +kernel
theorem dX0_countInState_32 : decode cX0_countInState 32 = .ok (.ireturn, 1) := by decide +kernel
set_option maxRecDepth 20000 in
theorem ggX0_countLive_X0_isLive : GoodIn wsX0_countLive wsX0_isLive := goodIn_r _ [6, 7, 8, 9, 10, 11, 5, 12, 1, 13, 14, 15, 16, 17] (by decide +kernel) (by decide +kernel)
set_option maxRecDepth 20000 in
theorem gX0_countLive_X0_isLive : GoodIn wsX0_countLive (wsV RX0 37 RX0 yX0_isLive wsX0_isLive) := goodIn_app (goodIn_of _ (by decide +kernel)) ggX0_countLive_X0_isLive
theorem dX0_countLive_0 : decode cX0_countLive 0 = .ok (.iconst 0, 1) := by decide +kernel
theorem dX0_countLive_1 : decode cX0_countLive 1 = .ok (.istore_n 1, 1) := by decide +kernel
theorem dX0_countLive_2 : decode cX0_countLive 2 = .ok (.iconst 0, 1) := by decide +kernel
theorem dX0_countLive_3 : decode cX0_countLive 3 = .ok (.istore_n 2, 1) := by decide +kernel
theorem dX0_countLive_4 : decode cX0_countLive 4 = .ok (.iload_n 2, 1) := by decide +kernel
theorem dX0_countLive_5 : decode cX0_countLive 5 = .ok (.aload_n 0, 1) := by decide +kernel
theorem dX0_countLive_6 : decode cX0_countLive 6 = .ok (.getfield 25, 3) := by decide +kernel
theorem dX0_countLive_9 : decode cX0_countLive 9 = .ok (.if_icmp .ge 20, 3) := by decide +kernel
theorem dX0_countLive_12 : decode cX0_countLive 12 = .ok (.aload_n 0, 1) := by decide +kernel
theorem dX0_countLive_13 : decode cX0_countLive 13 = .ok (.iload_n 2, 1) := by decide +kernel
theorem dX0_countLive_14 : decode cX0_countLive 14 = .ok (.invokevirtual 37, 3) := by decide +kernel
theorem dX0_countLive_17 : decode cX0_countLive 17 = .ok (.ifCond .eq 6, 3) := by decide +kernel
theorem dX0_countLive_20 : decode cX0_countLive 20 = .ok (.iinc 1 1, 3) := by decide +kernel
theorem dX0_countLive_23 : decode cX0_countLive 23 = .ok (.iinc 2 1, 3) := by decide +kernel
theorem dX0_countLive_26 : decode cX0_countLive 26 = .ok (.goto (-22), 3) := by decide +kernel
theorem dX0_countLive_29 : decode cX0_countLive 29 = .ok (.iload_n 1, 1) := by decide +kernel
theorem dX0_countLive_30 : decode cX0_countLive 30 = .ok (.ireturn, 1) := by decide +kernel
set_option maxRecDepth 20000 in
theorem ggX0_countLiveBetween_X0_isLive : GoodIn wsX0_countLiveBetween wsX0_isLive := goodIn_r _ [8, 9, 10, 11, 12, 13, 7, 14, 1, 15, 16, 17, 18, 19] (by decide +kernel) (by decide +kernel)
set_option maxRecDepth 20000 in
theorem gX0_countLiveBetween_X0_isLive : GoodIn wsX0_countLiveBetween (wsV RX0 37 RX0 yX0_isLive wsX0_isLive) := goodIn_app (goodIn_of _ (by decide +kernel)) ggX0_countLiveBetween_X0_isLive
theorem dX0_countLiveBetween_0 : decode cX0_countLiveBetween 0 = .ok (.iconst 0, 1) := by decide +kernel
theorem dX0_countLiveBetween_1 : decode cX0_countLiveBetween 1 = .ok (.istore_n 3, 1) := by decide +kernel
theorem dX0_countLiveBetween_2 : decode cX0_countLiveBetween 2 = .ok (.iconst 0, 1) := by decide +kernel
theorem dX0_countLiveBetween_3 : decode cX0_countLiveBetween 3 = .ok (.istore 4, 2) := by decide +kernel
theorem dX0_countLiveBetween_5 : decode cX0_countLiveBetween 5 = .ok (.iload 4, 2) := by decide +kernel
theorem dX0_countLiveBetween_7 : decode cX0_countLiveBetween 7 = .ok (.aload_n 0, 1) := by decide +kernel
theorem dX0_countLiveBetween_8 : decode cX0_countLiveBetween 8 = .ok (.getfield 25, 3) := by decide +kernel
theorem dX0_countLiveBetween_11 : decode cX0_countLiveBetween 11 = .ok (.if_icmp .ge 43, 3) := by decide +kernel
theorem dX0_countLiveBetween_14 : decode cX0_countLiveBetween 14 = .ok (.aload_n 0, 1) := by decide +kernel
theorem dX0_countLiveBetween_15 : decode cX0_countLiveBetween 15 = .ok (.iload 4, 2) := by decide +kernel
theorem dX0_countLiveBetween_17 : decode cX0_countLiveBetween 17 = .ok (.invokevirtual 37, 3) := by decide +kernel
theorem dX0_countLiveBetween_20 : decode cX0_countLiveBetween 20 = .ok (.ifCond .eq 28, 3) := by decide +kernel
theorem dX0_countLiveBetween_23 : decode cX0_countLiveBetween 23 = .ok (.aload_n 0, 1) := by decide +kernel
theorem dX0_countLiveBetween_24 : decode cX0_countLiveBetween 24 = .ok (.getfield 9, 3) := by decide +kernel
theorem dX0_countLiveBetween_27 : decode cX0_countLiveBetween 27 = .ok (.iload 4, 2) := by decide +kernel
theorem dX0_countLiveBetween_29 : decode cX0_countLiveBetween 29 = .ok (.iaload, 1) := by decide +kernel
theorem dX0_countLiveBetween_30 : decode cX0_countLiveBetween 30 = .ok (.iload_n 1, 1) := by decide +kernel
theorem dX0_countLiveBetween_31 : decode cX0_countLiveBetween 31 = .ok (.if_icmp .ne 17, 3) := by decide +kernel
theorem dX0_countLiveBetween_34 : decode cX0_countLiveBetween 34 = .ok (.aload_n 0, 1) := by decide +kernel
theorem dX0_countLiveBetween_35 : decode cX0_countLiveBetween 35 = .ok (.getfield 15, 3) := by decide +kernel
theorem dX0_countLiveBetween_38 : decode cX0_countLiveBetween 38 = .ok (.iload 4, 2) := by decide +kernel
theorem dX0_countLiveBetween_40 : decode cX0_countLiveBetween 40 = .ok (.iaload, 1) := by decide +kernel
theorem dX0_countLiveBetween_41 : decode cX0_countLiveBetween 41 = .ok (.iload_n 2, 1) := by decide +kernel
theorem dX0_countLiveBetween_42 : decode cX0_countLiveBetween 42 = .ok (.if_icmp .ne 6, 3) := by decide +kernel
theorem dX0_countLiveBetween_45 : decode cX0_countLiveBetween 45 = .ok (.iinc 3 1, 3) := by decide +kernel
theorem dX0_countLiveBetween_48 : decode cX0_countLiveBetween 48 = .ok (.iinc 4 1, 3) := by decide +kernel
theorem dX0_countLiveBetween_51 : decode cX0_countLiveBetween 51 = .ok (.goto (-46), 3) := by decide +kernel
theorem dX0_countLiveBetween_54 : decode cX0_countLiveBetween 54 = .ok (.iload_n 3, 1) := by decide +kernel
theorem dX0_countLiveBetween_55 : decode cX0_countLiveBetween 55 = .ok (.ireturn, 1) := by decide +kernel
theorem dX1_init_0 : decode cX1_init 0 = .ok (.aload_n 0, 1) := by decide +kernel
theorem dX1_init_1 : decode cX1_init 1 = .ok (.invokespecial 3, 3) := by decide +kernel
theorem dX1_init_4 : decode cX1_init 4 = .ok (.aload_n 0, 1) := by decide +kernel
theorem dX1_init_5 : decode cX1_init 5 = .ok (.bipush 25, 2) := by decide +kernel
theorem dX1_init_7 : decode cX1_init 7 = .ok (.newarray .int, 2) := by decide +kernel
theorem dX1_init_9 : decode cX1_init 9 = .ok (.putfield 9, 3) := by decide +kernel
theorem dX1_init_12 : decode cX1_init 12 = .ok (.aload_n 0, 1) := by decide +kernel
theorem dX1_init_13 : decode cX1_init 13 = .ok (.sipush 160, 3) := by decide +kernel
theorem dX1_init_16 : decode cX1_init 16 = .ok (.newarray .int, 2) := by decide +kernel
theorem dX1_init_18 : decode cX1_init 18 = .ok (.putfield 15, 3) := by decide +kernel
theorem dX1_init_21 : decode cX1_init 21 = .ok (.return_, 1) := by decide +kernel
set_option maxRecDepth 20000 in
theorem ggX1_firstFault_X1_isOffsetRight : GoodIn wsX1_firstFault wsX1_isOffsetRight := goodIn_r _ [6, 7, 8, 9] (by decide +kernel) (by decide +kernel)
set_option maxRecDepth 20000 in
theorem gX1_firstFault_X1_isOffsetRight : GoodIn wsX1_firstFault (wsV RX1 18 RX1 yX1_isOffsetRight wsX1_isOffsetRight) := goodIn_app (goodIn_of _ (by decide +kernel)) ggX1_firstFault_X1_isOffsetRight
theorem dX1_firstFault_0 : decode cX1_firstFault 0 = .ok (.iconst 0, 1) := by decide +kernel
theorem dX1_firstFault_1 : decode cX1_firstFault 1 = .ok (.istore_n 3, 1) := by decide +kernel
theorem dX1_firstFault_2 : decode cX1_firstFault 2 = .ok (.iload_n 3, 1) := by decide +kernel
theorem dX1_firstFault_3 : decode cX1_firstFault 3 = .ok (.iload_n 1, 1) := by decide +kernel
theorem dX1_firstFault_4 : decode cX1_firstFault 4 = .ok (.if_icmp .gt 23, 3) := by decide +kernel
theorem dX1_firstFault_7 : decode cX1_firstFault 7 = .ok (.aload_n 0, 1) := by decide +kernel
theorem dX1_firstFault_8 : decode cX1_firstFault 8 = .ok (.iload_n 3, 1) := by decide +kernel
theorem dX1_firstFault_9 : decode cX1_firstFault 9 = .ok (.iload_n 1, 1) := by decide +kernel
theorem dX1_firstFault_10 : decode cX1_firstFault 10 = .ok (.iload_n 2, 1) := by decide +kernel
theorem dX1_firstFault_11 : decode cX1_firstFault 11 = .ok (.invokevirtual 18, 3) := by decide +kernel
theorem dX1_firstFault_14 : decode cX1_firstFault 14 = .ok (.ifCond .ne 7, 3) := by decide +kernel
theorem dX1_firstFault_17 : decode cX1_firstFault 17 = .ok (.iconst 1, 1) := by decide +kernel
theorem dX1_firstFault_18 : decode cX1_firstFault 18 = .ok (.iload_n 3, 1) := by decide +kernel
theorem dX1_firstFault_19 : decode cX1_firstFault 19 = .ok (.iadd, 1) := by decide +kernel
theorem dX1_firstFault_20 : decode cX1_firstFault 20 = .ok (.ireturn, 1) := by decide +kernel
theorem dX1_firstFault_21 : decode cX1_firstFault 21 = .ok (.iinc 3 1, 3) := by decide +kernel
theorem dX1_firstFault_24 : decode cX1_firstFault 24 = .ok (.goto (-22), 3) := by decide +kernel
theorem dX1_firstFault_27 : decode cX1_firstFault 27 = .ok (.iconst 0, 1) := by decide +kernel
theorem dX1_firstFault_28 : decode cX1_firstFault 28 = .ok (.istore_n 3, 1) := by decide +kernel
theorem dX1_firstFault_29 : decode cX1_firstFault 29 = .ok (.iload_n 3, 1) := by decide +kernel
theorem dX1_firstFault_30 : decode cX1_firstFault 30 = .ok (.iload_n 2, 1) := by decide +kernel
theorem dX1_firstFault_31 : decode cX1_firstFault 31 = .ok (.if_icmp .ge 33, 3) := by decide +kernel
theorem dX1_firstFault_34 : decode cX1_firstFault 34 = .ok (.aload_n 0, 1) := by decide +kernel
theorem dX1_firstFault_35 : decode cX1_firstFault 35 = .ok (.getfield 15, 3) := by decide +kernel
theorem dX1_firstFault_38 : decode cX1_firstFault 38 = .ok (.iload_n 3, 1) := by decide +kernel
theorem dX1_firstFault_39 : decode cX1_firstFault 39 = .ok (.iaload, 1) := by decide +kernel
theorem dX1_firstFault_40 : decode cX1_firstFault 40 = .ok (.ifCond .lt 13, 3) := by decide +kernel
theorem dX1_firstFault_43 : decode cX1_firstFault 43 = .ok (.aload_n 0, 1) := by decide +kernel
theorem dX1_firstFault_44 : decode cX1_firstFault 44 = .ok (.getfield 15, 3) := by decide +kernel
theorem dX1_firstFault_47 : decode cX1_firstFault 47 = .ok (.iload_n 3, 1) := by decide +kernel
theorem dX1_firstFault_48 : decode cX1_firstFault 48 = .ok (.iaload, 1) := by decide +kernel
theorem dX1_firstFault_49 : decode cX1_firstFault 49 = .ok (.iload_n 1, 1) := by decide +kernel
theorem dX1_firstFault_50 : decode cX1_firstFault 50 = .ok (.if_icmp .lt 8, 3) := by decide +kernel
theorem dX1_firstFault_53 : decode cX1_firstFault 53 = .ok (.bipush 100, 2) := by decide +kernel
theorem dX1_firstFault_55 : decode cX1_firstFault 55 = .ok (.iload_n 3, 1) := by decide +kernel
theorem dX1_firstFault_56 : decode cX1_firstFault 56 = .ok (.iadd, 1) := by decide +kernel
theorem dX1_firstFault_57 : decode cX1_firstFault 57 = .ok (.ireturn, 1) := by decide +kernel
theorem dX1_firstFault_58 : decode cX1_firstFault 58 = .ok (.iinc 3 1, 3) := by decide +kernel
theorem dX1_firstFault_61 : decode cX1_firstFault 61 = .ok (.goto (-32), 3) := by decide +kernel
theorem dX1_firstFault_64 : decode cX1_firstFault 64 = .ok (.iconst 0, 1) := by decide +kernel
theorem dX1_firstFault_65 : decode cX1_firstFault 65 = .ok (.ireturn, 1) := by decide +kernel
theorem dX1_isOffsetRight_0 : decode cX1_isOffsetRight 0 = .ok (.iload_n 1, 1) := by decide +kernel
theorem dX1_isOffsetRight_1 : decode cX1_isOffsetRight 1 = .ok (.ifCond .ne 7, 3) := by decide +kernel
theorem dX1_isOffsetRight_4 : decode cX1_isOffsetRight 4 = .ok (.iconst 0, 1) := by decide +kernel
theorem dX1_isOffsetRight_5 : decode cX1_isOffsetRight 5 = .ok (.goto 11, 3) := by decide +kernel
theorem dX1_isOffsetRight_8 : decode cX1_isOffsetRight 8 = .ok (.aload_n 0, 1) := by decide +kernel
theorem dX1_isOffsetRight_9 : decode cX1_isOffsetRight 9 = .ok (.getfield 9, 3) := by decide +kernel
theorem dX1_isOffsetRight_12 : decode cX1_isOffsetRight 12 = .ok (.iload_n 1, 1) := by decide +kernel
theorem dX1_isOffsetRight_13 : decode cX1_isOffsetRight 13 = .ok (.iconst 1, 1) := by decide +kernel
theorem dX1_isOffsetRight_14 : decode cX1_isOffsetRight 14 = .ok (.isub, 1) := by decide +kernel
theorem dX1_isOffsetRight_15 : decode cX1_isOffsetRight 15 = .ok (.iaload, 1) := by decide +kernel
theorem dX1_isOffsetRight_16 : decode cX1_isOffsetRight 16 = .ok (.istore 4, 2) := by decide +kernel
theorem dX1_isOffsetRight_18 : decode cX1_isOffsetRight 18 = .ok (.iload_n 1, 1) := by decide +kernel
theorem dX1_isOffsetRight_19 : decode cX1_isOffsetRight 19 = .ok (.ifCond .ne 7, 3) := by decide +kernel
theorem dX1_isOffsetRight_22 : decode cX1_isOffsetRight 22 = .ok (.iconst 0, 1) := by decide +kernel
theorem dX1_isOffsetRight_23 : decode cX1_isOffsetRight 23 = .ok (.goto 4, 3) := by decide +kernel
theorem dX1_isOffsetRight_26 : decode cX1_isOffsetRight 26 = .ok (.iload_n 3, 1) := by decide +kernel
theorem dX1_isOffsetRight_27 : decode cX1_isOffsetRight 27 = .ok (.istore 5, 2) := by decide +kernel
theorem dX1_isOffsetRight_29 : decode cX1_isOffsetRight 29 = .ok (.aload_n 0, 1) := by decide +kernel
theorem dX1_isOffsetRight_30 : decode cX1_isOffsetRight 30 = .ok (.getfield 9, 3) := by decide +kernel
theorem dX1_isOffsetRight_33 : decode cX1_isOffsetRight 33 = .ok (.iload_n 1, 1) := by decide +kernel
theorem dX1_isOffsetRight_34 : decode cX1_isOffsetRight 34 = .ok (.iaload, 1) := by decide +kernel
theorem dX1_isOffsetRight_35 : decode cX1_isOffsetRight 35 = .ok (.iload 4, 2) := by decide +kernel
theorem dX1_isOffsetRight_37 : decode cX1_isOffsetRight 37 = .ok (.if_icmp .lt 18, 3) := by decide +kernel
theorem dX1_isOffsetRight_40 : decode cX1_isOffsetRight 40 = .ok (.aload_n 0, 1) := by decide +kernel
theorem dX1_isOffsetRight_41 : decode cX1_isOffsetRight 41 = .ok (.getfield 9, 3) := by decide +kernel
theorem dX1_isOffsetRight_44 : decode cX1_isOffsetRight 44 = .ok (.iload_n 1, 1) := by decide +kernel
theorem dX1_isOffsetRight_45 : decode cX1_isOffsetRight 45 = .ok (.iaload, 1) := by decide +kernel
theorem dX1_isOffsetRight_46 : decode cX1_isOffsetRight 46 = .ok (.iload 5, 2) := by decide +kernel
theorem dX1_isOffsetRight_48 : decode cX1_isOffsetRight 48 = .ok (.if_icmp .gt 7, 3) := by decide +kernel
theorem dX1_isOffsetRight_51 : decode cX1_isOffsetRight 51 = .ok (.iconst 1, 1) := by decide +kernel
theorem dX1_isOffsetRight_52 : decode cX1_isOffsetRight 52 = .ok (.goto 4, 3) := by decide +kernel
theorem dX1_isOffsetRight_55 : decode cX1_isOffsetRight 55 = .ok (.iconst 0, 1) := by decide +kernel
theorem dX1_isOffsetRight_56 : decode cX1_isOffsetRight 56 = .ok (.istore 6, 2) := by decide +kernel
theorem dX1_isOffsetRight_58 : decode cX1_isOffsetRight 58 = .ok (.iload 6, 2) := by decide +kernel
theorem dX1_isOffsetRight_60 : decode cX1_isOffsetRight 60 = .ok (.ifCond .eq 22, 3) := by decide +kernel
theorem dX1_isOffsetRight_63 : decode cX1_isOffsetRight 63 = .ok (.iload_n 1, 1) := by decide +kernel
theorem dX1_isOffsetRight_64 : decode cX1_isOffsetRight 64 = .ok (.iload_n 2, 1) := by decide +kernel
theorem dX1_isOffsetRight_65 : decode cX1_isOffsetRight 65 = .ok (.if_icmp .lt 13, 3) := by decide +kernel
theorem dX1_isOffsetRight_68 : decode cX1_isOffsetRight 68 = .ok (.aload_n 0, 1) := by decide +kernel
theorem dX1_isOffsetRight_69 : decode cX1_isOffsetRight 69 = .ok (.getfield 9, 3) := by decide +kernel
theorem dX1_isOffsetRight_72 : decode cX1_isOffsetRight 72 = .ok (.iload_n 1, 1) := by decide +kernel
theorem dX1_isOffsetRight_73 : decode cX1_isOffsetRight 73 = .ok (.iaload, 1) := by decide +kernel
theorem dX1_isOffsetRight_74 : decode cX1_isOffsetRight 74 = .ok (.iload_n 3, 1) := by decide +kernel
theorem dX1_isOffsetRight_75 : decode cX1_isOffsetRight 75 = .ok (.if_icmp .ne 7, 3) := by decide +kernel
theorem dX1_isOffsetRight_78 : decode cX1_isOffsetRight 78 = .ok (.iconst 1, 1) := by decide +kernel
theorem dX1_isOffsetRight_79 : decode cX1_isOffsetRight 79 = .ok (.goto 4, 3) := by decide +kernel
theorem dX1_isOffsetRight_82 : decode cX1_isOffsetRight 82 = .ok (.iconst 0, 1) := by decide +kernel
theorem dX1_isOffsetRight_83 : decode cX1_isOffsetRight 83 = .ok (.ireturn, 1) := by decide +kernel
set_option maxRecDepth 20000 in
theorem ggX1_fill_X0_append : GoodIn wsX1_fill wsX0_append := goodIn_r _ [8, 9, 10, 11, 12, 13, 14, 15, 16, 17, 18] (by decide +kernel) (by decide +kernel)
set_option maxRecDepth 20000 in
theorem gX1_fill_X0_append : GoodIn wsX1_fill (wsV RX1 28 RX0 yX0_append wsX0_append) := goodIn_app (goodIn_of _ (by decide +kernel)) ggX1_fill_X0_append
theorem dX1_fill_0 : decode cX1_fill 0 = .ok (.aload_n 1, 1) := by decide +kernel
theorem dX1_fill_1 : decode cX1_fill 1 = .ok (.iconst 0, 1) := by decide +kernel
theorem dX1_fill_2 : decode cX1_fill 2 = .ok (.putfield 22, 3) := by decide +kernel
theorem dX1_fill_5 : decode cX1_fill 5 = .ok (.iconst 0, 1) := by decide +kernel
theorem dX1_fill_6 : decode cX1_fill 6 = .ok (.istore_n 3, 1) := by decide +kernel
theorem dX1_fill_7 : decode cX1_fill 7 = .ok (.iload_n 3, 1) := by decide +kernel
theorem dX1_fill_8 : decode cX1_fill 8 = .ok (.iload_n 2, 1) := by decide +kernel
theorem dX1_fill_9 : decode cX1_fill 9 = .ok (.if_icmp .ge 50, 3) := by decide +kernel
theorem dX1_fill_12 : decode cX1_fill 12 = .ok (.aload_n 0, 1) := by decide +kernel
theorem dX1_fill_13 : decode cX1_fill 13 = .ok (.getfield 9, 3) := by decide +kernel
theorem dX1_fill_16 : decode cX1_fill 16 = .ok (.iload_n 3, 1) := by decide +kernel
theorem dX1_fill_17 : decode cX1_fill 17 = .ok (.iaload, 1) := by decide +kernel
theorem dX1_fill_18 : decode cX1_fill 18 = .ok (.istore 4, 2) := by decide +kernel
theorem dX1_fill_20 : decode cX1_fill 20 = .ok (.iload 4, 2) := by decide +kernel
theorem dX1_fill_22 : decode cX1_fill 22 = .ok (.aload_n 0, 1) := by decide +kernel
theorem dX1_fill_23 : decode cX1_fill 23 = .ok (.getfield 9, 3) := by decide +kernel
theorem dX1_fill_26 : decode cX1_fill 26 = .ok (.iload_n 3, 1) := by decide +kernel
theorem dX1_fill_27 : decode cX1_fill 27 = .ok (.iconst 1, 1) := by decide +kernel
theorem dX1_fill_28 : decode cX1_fill 28 = .ok (.iadd, 1) := by decide +kernel
theorem dX1_fill_29 : decode cX1_fill 29 = .ok (.iaload, 1) := by decide +kernel
theorem dX1_fill_30 : decode cX1_fill 30 = .ok (.if_icmp .ge 23, 3) := by decide +kernel
theorem dX1_fill_33 : decode cX1_fill 33 = .ok (.aload_n 1, 1) := by decide +kernel
theorem dX1_fill_34 : decode cX1_fill 34 = .ok (.iload_n 3, 1) := by decide +kernel
theorem dX1_fill_35 : decode cX1_fill 35 = .ok (.aload_n 0, 1) := by decide +kernel
theorem dX1_fill_36 : decode cX1_fill 36 = .ok (.getfield 15, 3) := by decide +kernel
theorem dX1_fill_39 : decode cX1_fill 39 = .ok (.iload 4, 2) := by decide +kernel
theorem dX1_fill_41 : decode cX1_fill 41 = .ok (.iaload, 1) := by decide +kernel
theorem dX1_fill_42 : decode cX1_fill 42 = .ok (.iconst 1, 1) := by decide +kernel
theorem dX1_fill_43 : decode cX1_fill 43 = .ok (.invokevirtual 28, 3) := by decide +kernel
theorem dX1_fill_46 : decode cX1_fill 46 = .ok (.pop, 1) := by decide +kernel
theorem dX1_fill_47 : decode cX1_fill 47 = .ok (.iinc 4 1, 3) := by decide +kernel
theorem dX1_fill_50 : decode cX1_fill 50 = .ok (.goto (-30), 3) := by decide +kernel
theorem dX1_fill_53 : decode cX1_fill 53 = .ok (.iinc 3 1, 3) := by decide +kernel
theorem dX1_fill_56 : decode cX1_fill 56 = .ok (.goto (-49), 3) := by decide +kernel
theorem dX1_fill_59 : decode cX1_fill 59 = .ok (.return_, 1) := by decide +kernel
theorem dX2_init_0 : decode cX2_init 0 = .ok (.aload_n 0, 1) := by decide +kernel
theorem dX2_init_1 : decode cX2_init 1 = .ok (.invokespecial 3, 3) := by decide +kernel
theorem dX2_init_4 : decode cX2_init 4 = .ok (.aload_n 0, 1) := by decide +kernel
theorem dX2_init_5 : decode cX2_init 5 = .ok (.bipush 8, 2) := by decide +kernel
theorem dX2_init_7 : decode cX2_init 7 = .ok (.newarray .boolean, 2) := by decide +kernel
theorem dX2_init_9 : decode cX2_init 9 = .ok (.putfield 9, 3) := by decide +kernel
theorem dX2_init_12 : decode cX2_init 12 = .ok (.aload_n 0, 1) := by decide +kernel
theorem dX2_init_13 : decode cX2_init 13 = .ok (.bipush 8, 2) := by decide +kernel
theorem dX2_init_15 : decode cX2_init 15 = .ok (.newarray .boolean, 2) := by decide +kernel
theorem dX2_init_17 : decode cX2_init 17 = .ok (.putfield 15, 3) := by decide +kernel
theorem dX2_init_20 : decode cX2_init 20 = .ok (.aload_n 0, 1) := by decide +kernel
theorem dX2_init_21 : decode cX2_init 21 = .ok (.bipush 8, 2) := by decide +kernel
theorem dX2_init_23 : decode cX2_init 23 = .ok (.newarray .boolean, 2) := by decide +kernel
theorem dX2_init_25 : decode cX2_init 25 = .ok (.putfield 18, 3) := by decide +kernel
theorem dX2_init_28 : decode cX2_init 28 = .ok (.aload_n 0, 1) := by decide +kernel
theorem dX2_init_29 : decode cX2_init 29 = .ok (.bipush 8, 2) := by decide +kernel
theorem dX2_init_31 : decode cX2_init 31 = .ok (.newarray .int, 2) := by decide +kernel
theorem dX2_init_33 : decode cX2_init 33 = .ok (.putfield 21, 3) := by decide +kernel
theorem dX2_init_36 : decode cX2_init 36 = .ok (.aload_n 0, 1) := by decide +kernel
theorem dX2_init_37 : decode cX2_init 37 = .ok (.bipush 8, 2) := by decide +kernel
theorem dX2_init_39 : decode cX2_init 39 = .ok (.newarray .int, 2) := by decide +kernel
theorem dX2_init_41 : decode cX2_init 41 = .ok (.putfield 25, 3) := by decide +kernel
theorem dX2_init_44 : decode cX2_init 44 = .ok (.aload_n 0, 1) := by decide +kernel
theorem dX2_init_45 : decode cX2_init 45 = .ok (.bipush 8, 2) := by decide +kernel
theorem dX2_init_47 : decode cX2_init 47 = .ok (.newarray .int, 2) := by decide +kernel
theorem dX2_init_49 : decode cX2_init 49 = .ok (.putfield 28, 3) := by decide +kernel
theorem dX2_init_52 : decode cX2_init 52 = .ok (.return_, 1) := by decide +kernel
theorem dX2_has_0 : decode cX2_has 0 = .ok (.iload_n 1, 1) := by decide +kernel
theorem dX2_has_1 : decode cX2_has 1 = .ok (.ifCond .lt 22, 3) := by decide +kernel
theorem dX2_has_4 : decode cX2_has 4 = .ok (.iload_n 1, 1) := by decide +kernel
theorem dX2_has_5 : decode cX2_has 5 = .ok (.bipush 8, 2) := by decide +kernel
theorem dX2_has_7 : decode cX2_has 7 = .ok (.if_icmp .ge 16, 3) := by decide +kernel
theorem dX2_has_10 : decode cX2_has 10 = .ok (.aload_n 0, 1) := by decide +kernel
theorem dX2_has_11 : decode cX2_has 11 = .ok (.getfield 9, 3) := by decide +kernel
theorem dX2_has_14 : decode cX2_has 14 = .ok (.iload_n 1, 1) := by decide +kernel
theorem dX2_has_15 : decode cX2_has 15 = .ok (.baload, 1) := by decide +kernel
theorem dX2_has_16 : decode cX2_has 16 = .ok (.ifCond .eq 7, 3) := by decide +kernel
theorem dX2_has_19 : decode cX2_has 19 = .ok (.iconst 1, 1) := by decide +kernel
theorem dX2_has_20 : decode cX2_has 20 = .ok (.goto 4, 3) := by decide +kernel
theorem dX2_has_23 : decode cX2_has 23 = .ok (.iconst 0, 1) := by decide +kernel
theorem dX2_has_24 : decode cX2_has 24 = .ok (.ireturn, 1) := by decide +kernel
theorem dX2_leastFree_0 : decode cX2_leastFree 0 = .ok (.iconst 0, 1) := by decide +kernel
theorem dX2_leastFree_1 : decode cX2_leastFree 1 = .ok (.istore_n 1, 1) := by decide +kernel
theorem dX2_leastFree_2 : decode cX2_leastFree 2 = .ok (.iload_n 1, 1) := by decide +kernel
theorem dX2_leastFree_3 : decode cX2_leastFree 3 = .ok (.bipush 8, 2) := by decide +kernel
theorem dX2_leastFree_5 : decode cX2_leastFree 5 = .ok (.if_icmp .ge 20, 3) := by decide +kernel
theorem dX2_leastFree_8 : decode cX2_leastFree 8 = .ok (.aload_n 0, 1) := by decide +kernel
theorem dX2_leastFree_9 : decode cX2_leastFree 9 = .ok (.getfield 9, 3) := by decide +kernel
theorem dX2_leastFree_12 : decode cX2_leastFree 12 = .ok (.iload_n 1, 1) := by decide +kernel
theorem dX2_leastFree_13 : decode cX2_leastFree 13 = .ok (.baload, 1) := by decide +kernel
theorem dX2_leastFree_14 : decode cX2_leastFree 14 = .ok (.ifCond .ne 5, 3) := by decide +kernel
theorem dX2_leastFree_17 : decode cX2_leastFree 17 = .ok (.iload_n 1, 1) := by decide +kernel
theorem dX2_leastFree_18 : decode cX2_leastFree 18 = .ok (.ireturn, 1) := by decide +kernel
theorem dX2_leastFree_19 : decode cX2_leastFree 19 = .ok (.iinc 1 1, 3) := by decide +kernel
theorem dX2_leastFree_22 : decode cX2_leastFree 22 = .ok (.goto (-20), 3) := by decide +kernel
theorem dX2_leastFree_25 : decode cX2_leastFree 25 = .ok (.iconst (-1), 1) := by decide +kernel
theorem dX2_leastFree_26 : decode cX2_leastFree 26 = .ok (.ireturn, 1) := by decide +kernel
theorem dX2_start_0 : decode cX2_start 0 = .ok (.aload_n 0, 1) := by decide +kernel
theorem dX2_start_1 : decode cX2_start 1 = .ok (.getfield 9, 3) := by decide +kernel
theorem dX2_start_4 : decode cX2_start 4 = .ok (.iload_n 1, 1) := by decide +kernel
theorem dX2_start_5 : decode cX2_start 5 = .ok (.iconst 1, 1) := by decide +kernel
theorem dX2_start_6 : decode cX2_start 6 = .ok (.bastore, 1) := by decide +kernel
theorem dX2_start_7 : decode cX2_start 7 = .ok (.aload_n 0, 1) := by decide +kernel
theorem dX2_start_8 : decode cX2_start 8 = .ok (.getfield 15, 3) := by decide +kernel
theorem dX2_start_11 : decode cX2_start 11 = .ok (.iload_n 1, 1) := by decide +kernel
theorem dX2_start_12 : decode cX2_start 12 = .ok (.iconst 0, 1) := by decide +kernel
theorem dX2_start_13 : decode cX2_start 13 = .ok (.bastore, 1) := by decide +kernel
theorem dX2_start_14 : decode cX2_start 14 = .ok (.aload_n 0, 1) := by decide +kernel
theorem dX2_start_15 : decode cX2_start 15 = .ok (.getfield 18, 3) := by decide +kernel
theorem dX2_start_18 : decode cX2_start 18 = .ok (.iload_n 1, 1) := by decide +kernel
theorem dX2_start_19 : decode cX2_start 19 = .ok (.iload_n 3, 1) := by decide +kernel
theorem dX2_start_20 : decode cX2_start 20 = .ok (.bastore, 1) := by decide +kernel
theorem dX2_start_21 : decode cX2_start 21 = .ok (.aload_n 0, 1) := by decide +kernel
theorem dX2_start_22 : decode cX2_start 22 = .ok (.getfield 21, 3) := by decide +kernel
theorem dX2_start_25 : decode cX2_start 25 = .ok (.iload_n 1, 1) := by decide +kernel
theorem dX2_start_26 : decode cX2_start 26 = .ok (.iload_n 2, 1) := by decide +kernel
theorem dX2_start_27 : decode cX2_start 27 = .ok (.iastore, 1) := by decide +kernel
theorem dX2_start_28 : decode cX2_start 28 = .ok (.aload_n 0, 1) := by decide +kernel
theorem dX2_start_29 : decode cX2_start 29 = .ok (.getfield 25, 3) := by decide +kernel
theorem dX2_start_32 : decode cX2_start 32 = .ok (.iload_n 1, 1) := by decide +kernel
theorem dX2_start_33 : decode cX2_start 33 = .ok (.iconst (-1), 1) := by decide +kernel
theorem dX2_start_34 : decode cX2_start 34 = .ok (.iastore, 1) := by decide +kernel
theorem dX2_start_35 : decode cX2_start 35 = .ok (.aload_n 0, 1) := by decide +kernel
theorem dX2_start_36 : decode cX2_start 36 = .ok (.getfield 28, 3) := by decide +kernel
theorem dX2_start_39 : decode cX2_start 39 = .ok (.iload_n 1, 1) := by decide +kernel
theorem dX2_start_40 : decode cX2_start 40 = .ok (.iconst 0, 1) := by decide +kernel
theorem dX2_start_41 : decode cX2_start 41 = .ok (.iastore, 1) := by decide +kernel
theorem dX2_start_42 : decode cX2_start 42 = .ok (.return_, 1) := by decide +kernel
theorem dX2_moveTo_0 : decode cX2_moveTo 0 = .ok (.aload_n 0, 1) := by decide +kernel
theorem dX2_moveTo_1 : decode cX2_moveTo 1 = .ok (.getfield 25, 3) := by decide +kernel
theorem dX2_moveTo_4 : decode cX2_moveTo 4 = .ok (.iload_n 1, 1) := by decide +kernel
theorem dX2_moveTo_5 : decode cX2_moveTo 5 = .ok (.iload_n 2, 1) := by decide +kernel
theorem dX2_moveTo_6 : decode cX2_moveTo 6 = .ok (.iastore, 1) := by decide +kernel
theorem dX2_moveTo_7 : decode cX2_moveTo 7 = .ok (.aload_n 0, 1) := by decide +kernel
theorem dX2_moveTo_8 : decode cX2_moveTo 8 = .ok (.getfield 28, 3) := by decide +kernel
theorem dX2_moveTo_11 : decode cX2_moveTo 11 = .ok (.iload_n 1, 1) := by decide +kernel
theorem dX2_moveTo_12 : decode cX2_moveTo 12 = .ok (.dup2, 1) := by decide +kernel
theorem dX2_moveTo_13 : decode cX2_moveTo 13 = .ok (.iaload, 1) := by decide +kernel
theorem dX2_moveTo_14 : decode cX2_moveTo 14 = .ok (.iconst 1, 1) := by decide +kernel
theorem dX2_moveTo_15 : decode cX2_moveTo 15 = .ok (.iadd, 1) := by decide +kernel
theorem dX2_moveTo_16 : decode cX2_moveTo 16 = .ok (.iastore, 1) := by decide +kernel
theorem dX2_moveTo_17 : decode cX2_moveTo 17 = .ok (.return_, 1) := by decide +kernel
theorem dX2_makeStale_0 : decode cX2_makeStale 0 = .ok (.iconst 0, 1) := by decide +kernel
theorem dX2_makeStale_1 : decode cX2_makeStale 1 = .ok (.istore_n 1, 1) := by decide +kernel
theorem dX2_makeStale_2 : decode cX2_makeStale 2 = .ok (.iload_n 1, 1) := by decide +kernel
theorem dX2_makeStale_3 : decode cX2_makeStale 3 = .ok (.bipush 8, 2) := by decide +kernel
theorem dX2_makeStale_5 : decode cX2_makeStale 5 = .ok (.if_icmp .ge 16, 3) := by decide +kernel
theorem dX2_makeStale_8 : decode cX2_makeStale 8 = .ok (.aload_n 0, 1) := by decide +kernel
theorem dX2_makeStale_9 : decode cX2_makeStale 9 = .ok (.getfield 15, 3) := by decide +kernel
theorem dX2_makeStale_12 : decode cX2_makeStale 12 = .ok (.iload_n 1, 1) := by decide +kernel
theorem dX2_makeStale_13 : decode cX2_makeStale 13 = .ok (.iconst 1, 1) := by decide +kernel
theorem dX2_makeStale_14 : decode cX2_makeStale 14 = .ok (.bastore, 1) := by decide +kernel
theorem dX2_makeStale_15 : decode cX2_makeStale 15 = .ok (.iinc 1 1, 3) := by decide +kernel
theorem dX2_makeStale_18 : decode cX2_makeStale 18 = .ok (.goto (-16), 3) := by decide +kernel
theorem dX2_makeStale_21 : decode cX2_makeStale 21 = .ok (.return_, 1) := by decide +kernel
theorem dX2_countOpen_0 : decode cX2_countOpen 0 = .ok (.iconst 0, 1) := by decide +kernel
theorem dX2_countOpen_1 : decode cX2_countOpen 1 = .ok (.istore_n 1, 1) := by decide +kernel
theorem dX2_countOpen_2 : decode cX2_countOpen 2 = .ok (.iconst 0, 1) := by decide +kernel
theorem dX2_countOpen_3 : decode cX2_countOpen 3 = .ok (.istore_n 2, 1) := by decide +kernel
theorem dX2_countOpen_4 : decode cX2_countOpen 4 = .ok (.iload_n 2, 1) := by decide +kernel
theorem dX2_countOpen_5 : decode cX2_countOpen 5 = .ok (.bipush 8, 2) := by decide +kernel
theorem dX2_countOpen_7 : decode cX2_countOpen 7 = .ok (.if_icmp .ge 21, 3) := by decide +kernel
theorem dX2_countOpen_10 : decode cX2_countOpen 10 = .ok (.aload_n 0, 1) := by decide +kernel
theorem dX2_countOpen_11 : decode cX2_countOpen 11 = .ok (.getfield 9, 3) := by decide +kernel
theorem dX2_countOpen_14 : decode cX2_countOpen 14 = .ok (.iload_n 2, 1) := by decide +kernel
theorem dX2_countOpen_15 : decode cX2_countOpen 15 = .ok (.baload, 1) := by decide +kernel
theorem dX2_countOpen_16 : decode cX2_countOpen 16 = .ok (.ifCond .eq 6, 3) := by decide +kernel
theorem dX2_countOpen_19 : decode cX2_countOpen 19 = .ok (.iinc 1 1, 3) := by decide +kernel
theorem dX2_countOpen_22 : decode cX2_countOpen 22 = .ok (.iinc 2 1, 3) := by decide +kernel
theorem dX2_countOpen_25 : decode cX2_countOpen 25 = .ok (.goto (-21), 3) := by decide +kernel
theorem dX2_countOpen_28 : decode cX2_countOpen 28 = .ok (.iload_n 1, 1) := by decide +kernel
theorem dX2_countOpen_29 : decode cX2_countOpen 29 = .ok (.ireturn, 1) := by decide +kernel
theorem dX3_init_0 : decode cX3_init 0 = .ok (.aload_n 0, 1) := by decide +kernel
theorem dX3_init_1 : decode cX3_init 1 = .ok (.invokespecial 3, 3) := by decide +kernel
theorem dX3_init_4 : decode cX3_init 4 = .ok (.aload_n 0, 1) := by decide +kernel
theorem dX3_init_5 : decode cX3_init 5 = .ok (.sipush 160, 3) := by decide +kernel
theorem dX3_init_8 : decode cX3_init 8 = .ok (.newarray .int, 2) := by decide +kernel
theorem dX3_init_10 : decode cX3_init 10 = .ok (.putfield 9, 3) := by decide +kernel
theorem dX3_init_13 : decode cX3_init 13 = .ok (.aload_n 0, 1) := by decide +kernel
theorem dX3_init_14 : decode cX3_init 14 = .ok (.sipush 160, 3) := by decide +kernel
theorem dX3_init_17 : decode cX3_init 17 = .ok (.newarray .int, 2) := by decide +kernel
theorem dX3_init_19 : decode cX3_init 19 = .ok (.putfield 15, 3) := by decide +kernel
theorem dX3_init_22 : decode cX3_init 22 = .ok (.aload_n 0, 1) := by decide +kernel
theorem dX3_init_23 : decode cX3_init 23 = .ok (.sipush 160, 3) := by decide +kernel
theorem dX3_init_26 : decode cX3_init 26 = .ok (.newarray .int, 2) := by decide +kernel
theorem dX3_init_28 : decode cX3_init 28 = .ok (.putfield 18, 3) := by decide +kernel
theorem dX3_init_31 : decode cX3_init 31 = .ok (.aload_n 0, 1) := by decide +kernel
theorem dX3_init_32 : decode cX3_init 32 = .ok (.aload_n 2, 1) := by decide +kernel
theorem dX3_init_33 : decode cX3_init 33 = .ok (.putfield 21, 3) := by decide +kernel
theorem dX3_init_36 : decode cX3_init 36 = .ok (.aload_n 0, 1) := by decide +kernel
theorem dX3_init_37 : decode cX3_init 37 = .ok (.aload_n 3, 1) := by decide +kernel
theorem dX3_init_38 : decode cX3_init 38 = .ok (.putfield 25, 3) := by decide +kernel
theorem dX3_init_41 : decode cX3_init 41 = .ok (.aload_n 0, 1) := by decide +kernel
theorem dX3_init_42 : decode cX3_init 42 = .ok (.aload 4, 2) := by decide +kernel
theorem dX3_init_44 : decode cX3_init 44 = .ok (.putfield 28, 3) := by decide +kernel
theorem dX3_init_47 : decode cX3_init 47 = .ok (.aload_n 0, 1) := by decide +kernel
theorem dX3_init_48 : decode cX3_init 48 = .ok (.iload_n 1, 1) := by decide +kernel
theorem dX3_init_49 : decode cX3_init 49 = .ok (.iconst 1, 1) := by decide +kernel
theorem dX3_init_50 : decode cX3_init 50 = .ok (.iadd, 1) := by decide +kernel
theorem dX3_init_51 : decode cX3_init 51 = .ok (.newarray .int, 2) := by decide +kernel
theorem dX3_init_53 : decode cX3_init 53 = .ok (.putfield 31, 3) := by decide +kernel
theorem dX3_init_56 : decode cX3_init 56 = .ok (.aload_n 0, 1) := by decide +kernel
theorem dX3_init_57 : decode cX3_init 57 = .ok (.iload_n 1, 1) := by decide +kernel
theorem dX3_init_58 : decode cX3_init 58 = .ok (.iconst 1, 1) := by decide +kernel
theorem dX3_init_59 : decode cX3_init 59 = .ok (.iadd, 1) := by decide +kernel
theorem dX3_init_60 : decode cX3_init 60 = .ok (.newarray .int, 2) := by decide +kernel
theorem dX3_init_62 : decode cX3_init 62 = .ok (.putfield 34, 3) := by decide +kernel
theorem dX3_init_65 : decode cX3_init 65 = .ok (.return_, 1) := by decide +kernel
set_option maxRecDepth 20000 in
theorem ggX3_build_X3_listBuilt : GoodIn wsX3_build wsX3_listBuilt := goodIn_r _ [10, 11, 12, 13, 1, 28, 29, 30, 31, 32, 33, 34, 35, 36, 37, 38, 39, 40] (by decide +kernel) (by decide +kernel)
set_option maxRecDepth 20000 in
theorem gX3_build_X3_listBuilt : GoodIn wsX3_build (wsV RX3 37 RX3 yX3_listBuilt wsX3_listBuilt) := goodIn_app (goodIn_of _ (by decide +kernel)) ggX3_build_X3_listBuilt
set_option maxRecDepth 20000 in
theorem ggX3_build_X3_sortByCounting : GoodIn wsX3_build wsX3_sortByCounting := goodIn_r _ [17, 18, 19, 20, 21, 22, 23, 24, 25, 26, 27, 28, 29, 30, 31, 32, 33, 34, 35] (by decide +kernel) (by decide +kernel)
set_option maxRecDepth 20000 in
theorem gX3_build_X3_sortByCounting : GoodIn wsX3_build (wsV RX3 41 RX3 yX3_sortByCounting wsX3_sortByCounting) := goodIn_app (goodIn_of _ (by decide +kernel)) ggX3_build_X3_sortByCounting
theorem dX3_build_0 : decode cX3_build 0 = .ok (.aload_n 0, 1) := by decide +kernel
theorem dX3_build_1 : decode cX3_build 1 = .ok (.invokevirtual 37, 3) := by decide +kernel
theorem dX3_build_4 : decode cX3_build 4 = .ok (.istore_n 1, 1) := by decide +kernel
theorem dX3_build_5 : decode cX3_build 5 = .ok (.aload_n 0, 1) := by decide +kernel
theorem dX3_build_6 : decode cX3_build 6 = .ok (.aload_n 0, 1) := by decide +kernel
theorem dX3_build_7 : decode cX3_build 7 = .ok (.getfield 15, 3) := by decide +kernel
theorem dX3_build_10 : decode cX3_build 10 = .ok (.iload_n 1, 1) := by decide +kernel
theorem dX3_build_11 : decode cX3_build 11 = .ok (.aload_n 0, 1) := by decide +kernel
theorem dX3_build_12 : decode cX3_build 12 = .ok (.getfield 28, 3) := by decide +kernel
theorem dX3_build_15 : decode cX3_build 15 = .ok (.aload_n 0, 1) := by decide +kernel
theorem dX3_build_16 : decode cX3_build 16 = .ok (.getfield 18, 3) := by decide +kernel
theorem dX3_build_19 : decode cX3_build 19 = .ok (.invokevirtual 41, 3) := by decide +kernel
theorem dX3_build_22 : decode cX3_build 22 = .ok (.aload_n 0, 1) := by decide +kernel
theorem dX3_build_23 : decode cX3_build 23 = .ok (.aload_n 0, 1) := by decide +kernel
theorem dX3_build_24 : decode cX3_build 24 = .ok (.getfield 18, 3) := by decide +kernel
theorem dX3_build_27 : decode cX3_build 27 = .ok (.iload_n 1, 1) := by decide +kernel
theorem dX3_build_28 : decode cX3_build 28 = .ok (.aload_n 0, 1) := by decide +kernel
theorem dX3_build_29 : decode cX3_build 29 = .ok (.getfield 25, 3) := by decide +kernel
theorem dX3_build_32 : decode cX3_build 32 = .ok (.aload_n 0, 1) := by decide +kernel
theorem dX3_build_33 : decode cX3_build 33 = .ok (.getfield 9, 3) := by decide +kernel
theorem dX3_build_36 : decode cX3_build 36 = .ok (.invokevirtual 41, 3) := by decide +kernel
theorem dX3_build_39 : decode cX3_build 39 = .ok (.return_, 1) := by decide +kernel
theorem dX3_listBuilt_0 : decode cX3_listBuilt 0 = .ok (.iconst 0, 1) := by decide +kernel
theorem dX3_listBuilt_1 : decode cX3_listBuilt 1 = .ok (.istore_n 1, 1) := by decide +kernel
theorem dX3_listBuilt_2 : decode cX3_listBuilt 2 = .ok (.iconst 0, 1) := by decide +kernel
theorem dX3_listBuilt_3 : decode cX3_listBuilt 3 = .ok (.istore_n 2, 1) := by decide +kernel
theorem dX3_listBuilt_4 : decode cX3_listBuilt 4 = .ok (.iload_n 2, 1) := by decide +kernel
theorem dX3_listBuilt_5 : decode cX3_listBuilt 5 = .ok (.aload_n 0, 1) := by decide +kernel
theorem dX3_listBuilt_6 : decode cX3_listBuilt 6 = .ok (.getfield 21, 3) := by decide +kernel
theorem dX3_listBuilt_9 : decode cX3_listBuilt 9 = .ok (.getfield 45, 3) := by decide +kernel
theorem dX3_listBuilt_12 : decode cX3_listBuilt 12 = .ok (.if_icmp .ge 32, 3) := by decide +kernel
theorem dX3_listBuilt_15 : decode cX3_listBuilt 15 = .ok (.aload_n 0, 1) := by decide +kernel
theorem dX3_listBuilt_16 : decode cX3_listBuilt 16 = .ok (.getfield 21, 3) := by decide +kernel
theorem dX3_listBuilt_19 : decode cX3_listBuilt 19 = .ok (.getfield 51, 3) := by decide +kernel
theorem dX3_listBuilt_22 : decode cX3_listBuilt 22 = .ok (.iload_n 2, 1) := by decide +kernel
theorem dX3_listBuilt_23 : decode cX3_listBuilt 23 = .ok (.iaload, 1) := by decide +kernel
theorem dX3_listBuilt_24 : decode cX3_listBuilt 24 = .ok (.iconst 1, 1) := by decide +kernel
theorem dX3_listBuilt_25 : decode cX3_listBuilt 25 = .ok (.if_icmp .ne 13, 3) := by decide +kernel
theorem dX3_listBuilt_28 : decode cX3_listBuilt 28 = .ok (.aload_n 0, 1) := by decide +kernel
theorem dX3_listBuilt_29 : decode cX3_listBuilt 29 = .ok (.getfield 15, 3) := by decide +kernel
theorem dX3_listBuilt_32 : decode cX3_listBuilt 32 = .ok (.iload_n 1, 1) := by decide +kernel
theorem dX3_listBuilt_33 : decode cX3_listBuilt 33 = .ok (.iload_n 2, 1) := by decide +kernel
theorem dX3_listBuilt_34 : decode cX3_listBuilt 34 = .ok (.iastore, 1) := by decide +kernel
theorem dX3_listBuilt_35 : decode cX3_listBuilt 35 = .ok (.iinc 1 1, 3) := by decide +kernel
theorem dX3_listBuilt_38 : decode cX3_listBuilt 38 = .ok (.iinc 2 1, 3) := by decide +kernel
theorem dX3_listBuilt_41 : decode cX3_listBuilt 41 = .ok (.goto (-37), 3) := by decide +kernel
theorem dX3_listBuilt_44 : decode cX3_listBuilt 44 = .ok (.iload_n 1, 1) := by decide +kernel
theorem dX3_listBuilt_45 : decode cX3_listBuilt 45 = .ok (.ireturn, 1) := by decide +kernel
set_option maxRecDepth 20000 in
theorem ggX3_sortByCounting_J7_fill_53178 : GoodIn wsX3_sortByCounting wsJ7_fill_53178 := goodIn_r _ [10] (by decide +kernel) (by decide +kernel)
set_option maxRecDepth 20000 in
theorem gX3_sortByCounting_J7_fill_53178 : GoodIn wsX3_sortByCounting (va_wsS RX3 54 yJ7_fill_53178 wsJ7_fill_53178) := goodIn_app (goodIn_of _ (by decide +kernel)) ggX3_sortByCounting_J7_fill_53178
theorem dX3_sortByCounting_0 : decode cX3_sortByCounting 0 = .ok (.aload_n 0, 1) := by decide +kernel
theorem dX3_sortByCounting_1 : decode cX3_sortByCounting 1 = .ok (.getfield 31, 3) := by decide +kernel
theorem dX3_sortByCounting_4 : decode cX3_sortByCounting 4 = .ok (.iconst 0, 1) := by decide +kernel
theorem dX3_sortByCounting_5 : decode cX3_sortByCounting 5 = .ok (.invokestatic 54, 3) := by decide +kernel
theorem dX3_sortByCounting_8 : decode cX3_sortByCounting 8 = .ok (.iconst 0, 1) := by decide +kernel
theorem dX3_sortByCounting_9 : decode cX3_sortByCounting 9 = .ok (.istore 5, 2) := by decide +kernel
theorem dX3_sortByCounting_11 : decode cX3_sortByCounting 11 = .ok (.iload 5, 2) := by decide +kernel
theorem dX3_sortByCounting_13 : decode cX3_sortByCounting 13 = .ok (.iload_n 2, 1) := by decide +kernel
theorem dX3_sortByCounting_14 : decode cX3_sortByCounting 14 = .ok (.if_icmp .ge 26, 3) := by decide +kernel
theorem dX3_sortByCounting_17 : decode cX3_sortByCounting 17 = .ok (.aload_n 0, 1) := by decide +kernel
theorem dX3_sortByCounting_18 : decode cX3_sortByCounting 18 = .ok (.getfield 31, 3) := by decide +kernel
theorem dX3_sortByCounting_21 : decode cX3_sortByCounting 21 = .ok (.aload_n 3, 1) := by decide +kernel
theorem dX3_sortByCounting_22 : decode cX3_sortByCounting 22 = .ok (.aload_n 1, 1) := by decide +kernel
theorem dX3_sortByCounting_23 : decode cX3_sortByCounting 23 = .ok (.iload 5, 2) := by decide +kernel
theorem dX3_sortByCounting_25 : decode cX3_sortByCounting 25 = .ok (.iaload, 1) := by decide +kernel
theorem dX3_sortByCounting_26 : decode cX3_sortByCounting 26 = .ok (.iaload, 1) := by decide +kernel
theorem dX3_sortByCounting_27 : decode cX3_sortByCounting 27 = .ok (.iconst 1, 1) := by decide +kernel
theorem dX3_sortByCounting_28 : decode cX3_sortByCounting 28 = .ok (.iadd, 1) := by decide +kernel
theorem dX3_sortByCounting_29 : decode cX3_sortByCounting 29 = .ok (.dup2, 1) := by decide +kernel
theorem dX3_sortByCounting_30 : decode cX3_sortByCounting 30 = .ok (.iaload, 1) := by decide +kernel
theorem dX3_sortByCounting_31 : decode cX3_sortByCounting 31 = .ok (.iconst 1, 1) := by decide +kernel
theorem dX3_sortByCounting_32 : decode cX3_sortByCounting 32 = .ok (.iadd, 1) := by decide +kernel
theorem dX3_sortByCounting_33 : decode cX3_sortByCounting 33 = .ok (.iastore, 1) := by decide +kernel
theorem dX3_sortByCounting_34 : decode cX3_sortByCounting 34 = .ok (.iinc 5 1, 3) := by decide +kernel
theorem dX3_sortByCounting_37 : decode cX3_sortByCounting 37 = .ok (.goto (-26), 3) := by decide +kernel
theorem dX3_sortByCounting_40 : decode cX3_sortByCounting 40 = .ok (.iconst 1, 1) := by decide +kernel
theorem dX3_sortByCounting_41 : decode cX3_sortByCounting 41 = .ok (.istore 5, 2) := by decide +kernel
theorem dX3_sortByCounting_43 : decode cX3_sortByCounting 43 = .ok (.iload 5, 2) := by decide +kernel
theorem dX3_sortByCounting_45 : decode cX3_sortByCounting 45 = .ok (.aload_n 0, 1) := by decide +kernel
theorem dX3_sortByCounting_46 : decode cX3_sortByCounting 46 = .ok (.getfield 31, 3) := by decide +kernel
theorem dX3_sortByCounting_49 : decode cX3_sortByCounting 49 = .ok (.arraylength, 1) := by decide +kernel
theorem dX3_sortByCounting_50 : decode cX3_sortByCounting 50 = .ok (.if_icmp .ge 28, 3) := by decide +kernel
theorem dX3_sortByCounting_53 : decode cX3_sortByCounting 53 = .ok (.aload_n 0, 1) := by decide +kernel
theorem dX3_sortByCounting_54 : decode cX3_sortByCounting 54 = .ok (.getfield 31, 3) := by decide +kernel
theorem dX3_sortByCounting_57 : decode cX3_sortByCounting 57 = .ok (.iload 5, 2) := by decide +kernel
theorem dX3_sortByCounting_59 : decode cX3_sortByCounting 59 = .ok (.dup2, 1) := by decide +kernel
theorem dX3_sortByCounting_60 : decode cX3_sortByCounting 60 = .ok (.iaload, 1) := by decide +kernel
theorem dX3_sortByCounting_61 : decode cX3_sortByCounting 61 = .ok (.aload_n 0, 1) := by decide +kernel
theorem dX3_sortByCounting_62 : decode cX3_sortByCounting 62 = .ok (.getfield 31, 3) := by decide +kernel
theorem dX3_sortByCounting_65 : decode cX3_sortByCounting 65 = .ok (.iload 5, 2) := by decide +kernel
theorem dX3_sortByCounting_67 : decode cX3_sortByCounting 67 = .ok (.iconst 1, 1) := by decide +kernel
theorem dX3_sortByCounting_68 : decode cX3_sortByCounting 68 = .ok (.isub, 1) := by decide +kernel
theorem dX3_sortByCounting_69 : decode cX3_sortByCounting 69 = .ok (.iaload, 1) := by decide +kernel
theorem dX3_sortByCounting_70 : decode cX3_sortByCounting 70 = .ok (.iadd, 1) := by decide +kernel
theorem dX3_sortByCounting_71 : decode cX3_sortByCounting 71 = .ok (.iastore, 1) := by decide +kernel
theorem dX3_sortByCounting_72 : decode cX3_sortByCounting 72 = .ok (.iinc 5 1, 3) := by decide +kernel
theorem dX3_sortByCounting_75 : decode cX3_sortByCounting 75 = .ok (.goto (-32), 3) := by decide +kernel
theorem dX3_sortByCounting_78 : decode cX3_sortByCounting 78 = .ok (.aload_n 0, 1) := by decide +kernel
theorem dX3_sortByCounting_79 : decode cX3_sortByCounting 79 = .ok (.getfield 31, 3) := by decide +kernel
theorem dX3_sortByCounting_82 : decode cX3_sortByCounting 82 = .ok (.iconst 0, 1) := by decide +kernel
theorem dX3_sortByCounting_83 : decode cX3_sortByCounting 83 = .ok (.aload_n 0, 1) := by decide +kernel
theorem dX3_sortByCounting_84 : decode cX3_sortByCounting 84 = .ok (.getfield 34, 3) := by decide +kernel
theorem dX3_sortByCounting_87 : decode cX3_sortByCounting 87 = .ok (.iconst 0, 1) := by decide +kernel
theorem dX3_sortByCounting_88 : decode cX3_sortByCounting 88 = .ok (.aload_n 0, 1) := by decide +kernel
theorem dX3_sortByCounting_89 : decode cX3_sortByCounting 89 = .ok (.getfield 31, 3) := by decide +kernel
theorem dX3_sortByCounting_92 : decode cX3_sortByCounting 92 = .ok (.arraylength, 1) := by decide +kernel
theorem dX3_sortByCounting_93 : decode cX3_sortByCounting 93 = .ok (.invokestatic 60, 3) := by decide +kernel
theorem dX3_sortByCounting_96 : decode cX3_sortByCounting 96 = .ok (.iconst 0, 1) := by decide +kernel
theorem dX3_sortByCounting_97 : decode cX3_sortByCounting 97 = .ok (.istore 5, 2) := by decide +kernel
theorem dX3_sortByCounting_99 : decode cX3_sortByCounting 99 = .ok (.iload 5, 2) := by decide +kernel
theorem dX3_sortByCounting_101 : decode cX3_sortByCounting 101 = .ok (.iload_n 2, 1) := by decide +kernel
theorem dX3_sortByCounting_102 : decode cX3_sortByCounting 102 = .ok (.if_icmp .ge 42, 3) := by decide +kernel
theorem dX3_sortByCounting_105 : decode cX3_sortByCounting 105 = .ok (.aload_n 3, 1) := by decide +kernel
theorem dX3_sortByCounting_106 : decode cX3_sortByCounting 106 = .ok (.aload_n 1, 1) := by decide +kernel
theorem dX3_sortByCounting_107 : decode cX3_sortByCounting 107 = .ok (.iload 5, 2) := by decide +kernel
theorem dX3_sortByCounting_109 : decode cX3_sortByCounting 109 = .ok (.iaload, 1) := by decide +kernel
theorem dX3_sortByCounting_110 : decode cX3_sortByCounting 110 = .ok (.iaload, 1) := by decide +kernel
theorem dX3_sortByCounting_111 : decode cX3_sortByCounting 111 = .ok (.istore 6, 2) := by decide +kernel
theorem dX3_sortByCounting_113 : decode cX3_sortByCounting 113 = .ok (.aload 4, 2) := by decide +kernel
theorem dX3_sortByCounting_115 : decode cX3_sortByCounting 115 = .ok (.aload_n 0, 1) := by decide +kernel
theorem dX3_sortByCounting_116 : decode cX3_sortByCounting 116 = .ok (.getfield 34, 3) := by decide +kernel
theorem dX3_sortByCounting_119 : decode cX3_sortByCounting 119 = .ok (.iload 6, 2) := by decide +kernel
theorem dX3_sortByCounting_121 : decode cX3_sortByCounting 121 = .ok (.iaload, 1) := by decide +kernel
theorem dX3_sortByCounting_122 : decode cX3_sortByCounting 122 = .ok (.aload_n 1, 1) := by decide +kernel
theorem dX3_sortByCounting_123 : decode cX3_sortByCounting 123 = .ok (.iload 5, 2) := by decide +kernel
theorem dX3_sortByCounting_125 : decode cX3_sortByCounting 125 = .ok (.iaload, 1) := by decide +kernel
theorem dX3_sortByCounting_126 : decode cX3_sortByCounting 126 = .ok (.iastore, 1) := by decide +kernel
theorem dX3_sortByCounting_127 : decode cX3_sortByCounting 127 = .ok (.aload_n 0, 1) := by decide +kernel
theorem dX3_sortByCounting_128 : decode cX3_sortByCounting 128 = .ok (.getfield 34, 3) := by decide +kernel
theorem dX3_sortByCounting_131 : decode cX3_sortByCounting 131 = .ok (.iload 6, 2) := by decide +kernel
theorem dX3_sortByCounting_133 : decode cX3_sortByCounting 133 = .ok (.dup2, 1) := by decide +kernel
theorem dX3_sortByCounting_134 : decode cX3_sortByCounting 134 = .ok (.iaload, 1) := by decide +kernel
theorem dX3_sortByCounting_135 : decode cX3_sortByCounting 135 = .ok (.iconst 1, 1) := by decide +kernel
theorem dX3_sortByCounting_136 : decode cX3_sortByCounting 136 = .ok (.iadd, 1) := by decide +kernel
theorem dX3_sortByCounting_137 : decode cX3_sortByCounting 137 = .ok (.iastore, 1) := by decide +kernel
theorem dX3_sortByCounting_138 : decode cX3_sortByCounting 138 = .ok (.iinc 5 1, 3) := by decide +kernel
theorem dX3_sortByCounting_141 : decode cX3_sortByCounting 141 = .ok (.goto (-42), 3) := by decide +kernel
theorem dX3_sortByCounting_144 : decode cX3_sortByCounting 144 = .ok (.return_, 1) := by decide +kernel
theorem dX3_rowLength_0 : decode cX3_rowLength 0 = .ok (.aload_n 0, 1) := by decide +kernel
theorem dX3_rowLength_1 : decode cX3_rowLength 1 = .ok (.getfield 31, 3) := by decide +kernel
theorem dX3_rowLength_4 : decode cX3_rowLength 4 = .ok (.iload_n 1, 1) := by decide +kernel
theorem dX3_rowLength_5 : decode cX3_rowLength 5 = .ok (.iconst 1, 1) := by decide +kernel
theorem dX3_rowLength_6 : decode cX3_rowLength 6 = .ok (.iadd, 1) := by decide +kernel
theorem dX3_rowLength_7 : decode cX3_rowLength 7 = .ok (.iaload, 1) := by decide +kernel
theorem dX3_rowLength_8 : decode cX3_rowLength 8 = .ok (.aload_n 0, 1) := by decide +kernel
theorem dX3_rowLength_9 : decode cX3_rowLength 9 = .ok (.getfield 31, 3) := by decide +kernel
theorem dX3_rowLength_12 : decode cX3_rowLength 12 = .ok (.iload_n 1, 1) := by decide +kernel
theorem dX3_rowLength_13 : decode cX3_rowLength 13 = .ok (.iaload, 1) := by decide +kernel
theorem dX3_rowLength_14 : decode cX3_rowLength 14 = .ok (.isub, 1) := by decide +kernel
theorem dX3_rowLength_15 : decode cX3_rowLength 15 = .ok (.ireturn, 1) := by decide +kernel
set_option maxRecDepth 20000 in
theorem ggX3_countPlaces_X3_rowLength : GoodIn wsX3_countPlaces wsX3_rowLength := goodIn_r _ [7, 8, 9, 10, 11, 12, 13, 14, 15, 16] (by decide +kernel) (by decide +kernel)
set_option maxRecDepth 20000 in
theorem gX3_countPlaces_X3_rowLength : GoodIn wsX3_countPlaces (wsV RX3 66 RX3 yX3_rowLength wsX3_rowLength) := goodIn_app (goodIn_of _ (by decide +kernel)) ggX3_countPlaces_X3_rowLength
theorem dX3_countPlaces_0 : decode cX3_countPlaces 0 = .ok (.aload_n 0, 1) := by decide +kernel
theorem dX3_countPlaces_1 : decode cX3_countPlaces 1 = .ok (.iload_n 1, 1) := by decide +kernel
theorem dX3_countPlaces_2 : decode cX3_countPlaces 2 = .ok (.invokevirtual 66, 3) := by decide +kernel
theorem dX3_countPlaces_5 : decode cX3_countPlaces 5 = .ok (.aload_n 0, 1) := by decide +kernel
theorem dX3_countPlaces_6 : decode cX3_countPlaces 6 = .ok (.getfield 21, 3) := by decide +kernel
theorem dX3_countPlaces_9 : decode cX3_countPlaces 9 = .ok (.getfield 45, 3) := by decide +kernel
theorem dX3_countPlaces_12 : decode cX3_countPlaces 12 = .ok (.iadd, 1) := by decide +kernel
theorem dX3_countPlaces_13 : decode cX3_countPlaces 13 = .ok (.ireturn, 1) := by decide +kernel
set_option maxRecDepth 20000 in
theorem ggX3_arcAt_X3_rowLength : GoodIn wsX3_arcAt wsX3_rowLength := goodIn_r _ [9, 2, 21, 22, 23, 24, 25, 26, 27, 28] (by decide +kernel) (by decide +kernel)
set_option maxRecDepth 20000 in
theorem gX3_arcAt_X3_rowLength : GoodIn wsX3_arcAt (wsV RX3 66 RX3 yX3_rowLength wsX3_rowLength) := goodIn_app (goodIn_of _ (by decide +kernel)) ggX3_arcAt_X3_rowLength
set_option maxRecDepth 20000 in
theorem ggX3_arcAt_X0_isWaiting : GoodIn wsX3_arcAt wsX0_isWaiting := goodIn_r _ [14, 15, 16, 17, 18, 13, 19, 20, 29, 30, 31, 32, 33] (by decide +kernel) (by decide +kernel)
set_option maxRecDepth 20000 in
theorem gX3_arcAt_X0_isWaiting : GoodIn wsX3_arcAt (wsV RX3 70 RX0 yX0_isWaiting wsX0_isWaiting) := goodIn_app (goodIn_of _ (by decide +kernel)) ggX3_arcAt_X0_isWaiting
theorem dX3_arcAt_0 : decode cX3_arcAt 0 = .ok (.aload_n 0, 1) := by decide +kernel
theorem dX3_arcAt_1 : decode cX3_arcAt 1 = .ok (.iload_n 1, 1) := by decide +kernel
theorem dX3_arcAt_2 : decode cX3_arcAt 2 = .ok (.invokevirtual 66, 3) := by decide +kernel
theorem dX3_arcAt_5 : decode cX3_arcAt 5 = .ok (.istore_n 3, 1) := by decide +kernel
theorem dX3_arcAt_6 : decode cX3_arcAt 6 = .ok (.iload_n 2, 1) := by decide +kernel
theorem dX3_arcAt_7 : decode cX3_arcAt 7 = .ok (.iload_n 3, 1) := by decide +kernel
theorem dX3_arcAt_8 : decode cX3_arcAt 8 = .ok (.if_icmp .ge 17, 3) := by decide +kernel
theorem dX3_arcAt_11 : decode cX3_arcAt 11 = .ok (.aload_n 0, 1) := by decide +kernel
theorem dX3_arcAt_12 : decode cX3_arcAt 12 = .ok (.getfield 9, 3) := by decide +kernel
theorem dX3_arcAt_15 : decode cX3_arcAt 15 = .ok (.aload_n 0, 1) := by decide +kernel
theorem dX3_arcAt_16 : decode cX3_arcAt 16 = .ok (.getfield 31, 3) := by decide +kernel
theorem dX3_arcAt_19 : decode cX3_arcAt 19 = .ok (.iload_n 1, 1) := by decide +kernel
theorem dX3_arcAt_20 : decode cX3_arcAt 20 = .ok (.iaload, 1) := by decide +kernel
theorem dX3_arcAt_21 : decode cX3_arcAt 21 = .ok (.iload_n 2, 1) := by decide +kernel
theorem dX3_arcAt_22 : decode cX3_arcAt 22 = .ok (.iadd, 1) := by decide +kernel
theorem dX3_arcAt_23 : decode cX3_arcAt 23 = .ok (.iaload, 1) := by decide +kernel
theorem dX3_arcAt_24 : decode cX3_arcAt 24 = .ok (.ireturn, 1) := by decide +kernel
theorem dX3_arcAt_25 : decode cX3_arcAt 25 = .ok (.iload_n 2, 1) := by decide +kernel
theorem dX3_arcAt_26 : decode cX3_arcAt 26 = .ok (.iload_n 3, 1) := by decide +kernel
theorem dX3_arcAt_27 : decode cX3_arcAt 27 = .ok (.isub, 1) := by decide +kernel
theorem dX3_arcAt_28 : decode cX3_arcAt 28 = .ok (.istore 4, 2) := by decide +kernel
theorem dX3_arcAt_30 : decode cX3_arcAt 30 = .ok (.aload_n 0, 1) := by decide +kernel
theorem dX3_arcAt_31 : decode cX3_arcAt 31 = .ok (.getfield 21, 3) := by decide +kernel
theorem dX3_arcAt_34 : decode cX3_arcAt 34 = .ok (.iload 4, 2) := by decide +kernel
theorem dX3_arcAt_36 : decode cX3_arcAt 36 = .ok (.invokevirtual 70, 3) := by decide +kernel
theorem dX3_arcAt_39 : decode cX3_arcAt 39 = .ok (.ifCond .eq 19, 3) := by decide +kernel
theorem dX3_arcAt_42 : decode cX3_arcAt 42 = .ok (.aload_n 0, 1) := by decide +kernel
theorem dX3_arcAt_43 : decode cX3_arcAt 43 = .ok (.getfield 25, 3) := by decide +kernel
theorem dX3_arcAt_46 : decode cX3_arcAt 46 = .ok (.iload 4, 2) := by decide +kernel
theorem dX3_arcAt_48 : decode cX3_arcAt 48 = .ok (.iaload, 1) := by decide +kernel
theorem dX3_arcAt_49 : decode cX3_arcAt 49 = .ok (.iload_n 1, 1) := by decide +kernel
theorem dX3_arcAt_50 : decode cX3_arcAt 50 = .ok (.if_icmp .ne 8, 3) := by decide +kernel
theorem dX3_arcAt_53 : decode cX3_arcAt 53 = .ok (.iload 4, 2) := by decide +kernel
theorem dX3_arcAt_55 : decode cX3_arcAt 55 = .ok (.goto 4, 3) := by decide +kernel
theorem dX3_arcAt_58 : decode cX3_arcAt 58 = .ok (.iconst (-1), 1) := by decide +kernel
theorem dX3_arcAt_59 : decode cX3_arcAt 59 = .ok (.ireturn, 1) := by decide +kernel
set_option maxRecDepth 20000 in
theorem ggX3_livePlaceFrom_X3_countPlaces : GoodIn wsX3_livePlaceFrom wsX3_countPlaces := goodIn_r _ [6, 1, 7, 8, 9, 10, 5, 11, 12, 35, 36, 37, 38, 39, 40, 41, 42, 43, 44, 45, 46, 47] (by decide +kernel) (by decide +kernel)
set_option maxRecDepth 20000 in
theorem gX3_livePlaceFrom_X3_countPlaces : GoodIn wsX3_livePlaceFrom (wsV RX3 74 RX3 yX3_countPlaces wsX3_countPlaces) := goodIn_app (goodIn_of _ (by decide +kernel)) ggX3_livePlaceFrom_X3_countPlaces
set_option maxRecDepth 20000 in
theorem ggX3_livePlaceFrom_X3_arcAt : GoodIn wsX3_livePlaceFrom wsX3_arcAt := goodIn_r _ [16, 17, 12, 1, 18, 8, 9, 10, 5, 11, 19, 20, 21, 22, 23, 24, 25, 26, 27, 28, 29, 35, 36, 37, 38, 39, 40, 41, 42, 43, 44, 45, 46, 47] (by decide +kernel) (by decide +kernel)
set_option maxRecDepth 20000 in
theorem gX3_livePlaceFrom_X3_arcAt : GoodIn wsX3_livePlaceFrom (wsV RX3 77 RX3 yX3_arcAt wsX3_arcAt) := goodIn_app (goodIn_of _ (by decide +kernel)) ggX3_livePlaceFrom_X3_arcAt
set_option maxRecDepth 20000 in
theorem ggX3_livePlaceFrom_X0_isLive : GoodIn wsX3_livePlaceFrom wsX0_isLive := goodIn_r _ [33, 24, 34, 25, 26, 27, 22, 28, 29, 43, 44, 45, 46, 47] (by decide +kernel) (by decide +kernel)
set_option maxRecDepth 20000 in
theorem gX3_livePlaceFrom_X0_isLive : GoodIn wsX3_livePlaceFrom (wsV RX3 81 RX0 yX0_isLive wsX0_isLive) := goodIn_app (goodIn_of _ (by decide +kernel)) ggX3_livePlaceFrom_X0_isLive
theorem dX3_livePlaceFrom_0 : decode cX3_livePlaceFrom 0 = .ok (.aload_n 0, 1) := by decide +kernel
theorem dX3_livePlaceFrom_1 : decode cX3_livePlaceFrom 1 = .ok (.iload_n 1, 1) := by decide +kernel
theorem dX3_livePlaceFrom_2 : decode cX3_livePlaceFrom 2 = .ok (.invokevirtual 74, 3) := by decide +kernel
theorem dX3_livePlaceFrom_5 : decode cX3_livePlaceFrom 5 = .ok (.istore_n 3, 1) := by decide +kernel
theorem dX3_livePlaceFrom_6 : decode cX3_livePlaceFrom 6 = .ok (.iload_n 2, 1) := by decide +kernel
theorem dX3_livePlaceFrom_7 : decode cX3_livePlaceFrom 7 = .ok (.istore 4, 2) := by decide +kernel
theorem dX3_livePlaceFrom_9 : decode cX3_livePlaceFrom 9 = .ok (.iload 4, 2) := by decide +kernel
theorem dX3_livePlaceFrom_11 : decode cX3_livePlaceFrom 11 = .ok (.iload_n 3, 1) := by decide +kernel
theorem dX3_livePlaceFrom_12 : decode cX3_livePlaceFrom 12 = .ok (.if_icmp .ge 29, 3) := by decide +kernel
theorem dX3_livePlaceFrom_15 : decode cX3_livePlaceFrom 15 = .ok (.aload_n 0, 1) := by decide +kernel
theorem dX3_livePlaceFrom_16 : decode cX3_livePlaceFrom 16 = .ok (.getfield 21, 3) := by decide +kernel
theorem dX3_livePlaceFrom_19 : decode cX3_livePlaceFrom 19 = .ok (.aload_n 0, 1) := by decide +kernel
theorem dX3_livePlaceFrom_20 : decode cX3_livePlaceFrom 20 = .ok (.iload_n 1, 1) := by decide +kernel
theorem dX3_livePlaceFrom_21 : decode cX3_livePlaceFrom 21 = .ok (.iload 4, 2) := by decide +kernel
theorem dX3_livePlaceFrom_23 : decode cX3_livePlaceFrom 23 = .ok (.invokevirtual 77, 3) := by decide +kernel
theorem dX3_livePlaceFrom_26 : decode cX3_livePlaceFrom 26 = .ok (.invokevirtual 81, 3) := by decide +kernel
theorem dX3_livePlaceFrom_29 : decode cX3_livePlaceFrom 29 = .ok (.ifCond .eq 6, 3) := by decide +kernel
theorem dX3_livePlaceFrom_32 : decode cX3_livePlaceFrom 32 = .ok (.iload 4, 2) := by decide +kernel
theorem dX3_livePlaceFrom_34 : decode cX3_livePlaceFrom 34 = .ok (.ireturn, 1) := by decide +kernel
theorem dX3_livePlaceFrom_35 : decode cX3_livePlaceFrom 35 = .ok (.iinc 4 1, 3) := by decide +kernel
theorem dX3_livePlaceFrom_38 : decode cX3_livePlaceFrom 38 = .ok (.goto (-29), 3) := by decide +kernel
theorem dX3_livePlaceFrom_41 : decode cX3_livePlaceFrom 41 = .ok (.iconst (-1), 1) := by decide +kernel
theorem dX3_livePlaceFrom_42 : decode cX3_livePlaceFrom 42 = .ok (.ireturn, 1) := by decide +kernel
set_option maxRecDepth 20000 in
theorem ggX3_countLive_X3_countPlaces : GoodIn wsX3_countLive wsX3_countPlaces := goodIn_r _ [6, 1, 7, 8, 9, 10, 5, 11, 12, 35, 36, 37, 38, 39, 40, 41, 42, 43, 44, 45, 46, 47] (by decide +kernel) (by decide +kernel)
set_option maxRecDepth 20000 in
theorem gX3_countLive_X3_countPlaces : GoodIn wsX3_countLive (wsV RX3 74 RX3 yX3_countPlaces wsX3_countPlaces) := goodIn_app (goodIn_of _ (by decide +kernel)) ggX3_countLive_X3_countPlaces
set_option maxRecDepth 20000 in
theorem ggX3_countLive_X3_arcAt : GoodIn wsX3_countLive wsX3_arcAt := goodIn_r _ [16, 17, 12, 1, 18, 8, 9, 10, 5, 11, 19, 20, 21, 22, 23, 24, 25, 26, 27, 28, 29, 35, 36, 37, 38, 39, 40, 41, 42, 43, 44, 45, 46, 47] (by decide +kernel) (by decide +kernel)
set_option maxRecDepth 20000 in
theorem gX3_countLive_X3_arcAt : GoodIn wsX3_countLive (wsV RX3 77 RX3 yX3_arcAt wsX3_arcAt) := goodIn_app (goodIn_of _ (by decide +kernel)) ggX3_countLive_X3_arcAt
set_option maxRecDepth 20000 in
theorem ggX3_countLive_X0_isLive : GoodIn wsX3_countLive wsX0_isLive := goodIn_r _ [33, 24, 34, 25, 26, 27, 22, 28, 29, 43, 44, 45, 46, 47] (by decide +kernel) (by decide +kernel)
set_option maxRecDepth 20000 in
theorem gX3_countLive_X0_isLive : GoodIn wsX3_countLive (wsV RX3 81 RX0 yX0_isLive wsX0_isLive) := goodIn_app (goodIn_of _ (by decide +kernel)) ggX3_countLive_X0_isLive
theorem dX3_countLive_0 : decode cX3_countLive 0 = .ok (.aload_n 0, 1) := by decide +kernel
theorem dX3_countLive_1 : decode cX3_countLive 1 = .ok (.iload_n 1, 1) := by decide +kernel
theorem dX3_countLive_2 : decode cX3_countLive 2 = .ok (.invokevirtual 74, 3) := by decide +kernel
theorem dX3_countLive_5 : decode cX3_countLive 5 = .ok (.istore_n 2, 1) := by decide +kernel
theorem dX3_countLive_6 : decode cX3_countLive 6 = .ok (.iconst 0, 1) := by decide +kernel
theorem dX3_countLive_7 : decode cX3_countLive 7 = .ok (.istore_n 3, 1) := by decide +kernel
theorem dX3_countLive_8 : decode cX3_countLive 8 = .ok (.iconst 0, 1) := by decide +kernel
theorem dX3_countLive_9 : decode cX3_countLive 9 = .ok (.istore 4, 2) := by decide +kernel
theorem dX3_countLive_11 : decode cX3_countLive 11 = .ok (.iload 4, 2) := by decide +kernel
theorem dX3_countLive_13 : decode cX3_countLive 13 = .ok (.iload_n 2, 1) := by decide +kernel
theorem dX3_countLive_14 : decode cX3_countLive 14 = .ok (.if_icmp .ge 29, 3) := by decide +kernel
theorem dX3_countLive_17 : decode cX3_countLive 17 = .ok (.aload_n 0, 1) := by decide +kernel
theorem dX3_countLive_18 : decode cX3_countLive 18 = .ok (.getfield 21, 3) := by decide +kernel
theorem dX3_countLive_21 : decode cX3_countLive 21 = .ok (.aload_n 0, 1) := by decide +kernel
theorem dX3_countLive_22 : decode cX3_countLive 22 = .ok (.iload_n 1, 1) := by decide +kernel
theorem dX3_countLive_23 : decode cX3_countLive 23 = .ok (.iload 4, 2) := by decide +kernel
theorem dX3_countLive_25 : decode cX3_countLive 25 = .ok (.invokevirtual 77, 3) := by decide +kernel
theorem dX3_countLive_28 : decode cX3_countLive 28 = .ok (.invokevirtual 81, 3) := by decide +kernel
theorem dX3_countLive_31 : decode cX3_countLive 31 = .ok (.ifCond .eq 6, 3) := by decide +kernel
theorem dX3_countLive_34 : decode cX3_countLive 34 = .ok (.iinc 3 1, 3) := by decide +kernel
theorem dX3_countLive_37 : decode cX3_countLive 37 = .ok (.iinc 4 1, 3) := by decide +kernel
theorem dX3_countLive_40 : decode cX3_countLive 40 = .ok (.goto (-29), 3) := by decide +kernel
theorem dX3_countLive_43 : decode cX3_countLive 43 = .ok (.iload_n 3, 1) := by decide +kernel
theorem dX3_countLive_44 : decode cX3_countLive 44 = .ok (.ireturn, 1) := by decide +kernel
set_option maxRecDepth 20000 in
theorem ggX3_liveArc_X3_countPlaces : GoodIn wsX3_liveArc wsX3_countPlaces := goodIn_r _ [6, 1, 7, 8, 9, 10, 5, 11, 12, 35, 36, 37, 38, 39, 40, 41, 42, 43, 44, 45, 46, 47] (by decide +kernel) (by decide +kernel)
set_option maxRecDepth 20000 in
theorem gX3_liveArc_X3_countPlaces : GoodIn wsX3_liveArc (wsV RX3 74 RX3 yX3_countPlaces wsX3_countPlaces) := goodIn_app (goodIn_of _ (by decide +kernel)) ggX3_liveArc_X3_countPlaces
set_option maxRecDepth 20000 in
theorem ggX3_liveArc_X3_arcAt : GoodIn wsX3_liveArc wsX3_arcAt := goodIn_r _ [16, 17, 12, 1, 18, 8, 9, 10, 5, 11, 19, 20, 21, 22, 23, 24, 25, 26, 27, 28, 29, 35, 36, 37, 38, 39, 40, 41, 42, 43, 44, 45, 46, 47] (by decide +kernel) (by decide +kernel)
set_option maxRecDepth 20000 in
theorem gX3_liveArc_X3_arcAt : GoodIn wsX3_liveArc (wsV RX3 77 RX3 yX3_arcAt wsX3_arcAt) := goodIn_app (goodIn_of _ (by decide +kernel)) ggX3_liveArc_X3_arcAt
set_option maxRecDepth 20000 in
theorem ggX3_liveArc_X0_isLive : GoodIn wsX3_liveArc wsX0_isLive := goodIn_r _ [33, 24, 34, 25, 26, 27, 22, 28, 29, 43, 44, 45, 46, 47] (by decide +kernel) (by decide +kernel)
set_option maxRecDepth 20000 in
theorem gX3_liveArc_X0_isLive : GoodIn wsX3_liveArc (wsV RX3 81 RX0 yX0_isLive wsX0_isLive) := goodIn_app (goodIn_of _ (by decide +kernel)) ggX3_liveArc_X0_isLive
theorem dX3_liveArc_0 : decode cX3_liveArc 0 = .ok (.aload_n 0, 1) := by decide +kernel
theorem dX3_liveArc_1 : decode cX3_liveArc 1 = .ok (.iload_n 1, 1) := by decide +kernel
theorem dX3_liveArc_2 : decode cX3_liveArc 2 = .ok (.invokevirtual 74, 3) := by decide +kernel
theorem dX3_liveArc_5 : decode cX3_liveArc 5 = .ok (.istore_n 3, 1) := by decide +kernel
theorem dX3_liveArc_6 : decode cX3_liveArc 6 = .ok (.iconst 0, 1) := by decide +kernel
theorem dX3_liveArc_7 : decode cX3_liveArc 7 = .ok (.istore 4, 2) := by decide +kernel
theorem dX3_liveArc_9 : decode cX3_liveArc 9 = .ok (.iconst 0, 1) := by decide +kernel
theorem dX3_liveArc_10 : decode cX3_liveArc 10 = .ok (.istore 5, 2) := by decide +kernel
theorem dX3_liveArc_12 : decode cX3_liveArc 12 = .ok (.iload 5, 2) := by decide +kernel
theorem dX3_liveArc_14 : decode cX3_liveArc 14 = .ok (.iload_n 3, 1) := by decide +kernel
theorem dX3_liveArc_15 : decode cX3_liveArc 15 = .ok (.if_icmp .ge 42, 3) := by decide +kernel
theorem dX3_liveArc_18 : decode cX3_liveArc 18 = .ok (.aload_n 0, 1) := by decide +kernel
theorem dX3_liveArc_19 : decode cX3_liveArc 19 = .ok (.iload_n 1, 1) := by decide +kernel
theorem dX3_liveArc_20 : decode cX3_liveArc 20 = .ok (.iload 5, 2) := by decide +kernel
theorem dX3_liveArc_22 : decode cX3_liveArc 22 = .ok (.invokevirtual 77, 3) := by decide +kernel
theorem dX3_liveArc_25 : decode cX3_liveArc 25 = .ok (.istore 6, 2) := by decide +kernel
theorem dX3_liveArc_27 : decode cX3_liveArc 27 = .ok (.aload_n 0, 1) := by decide +kernel
theorem dX3_liveArc_28 : decode cX3_liveArc 28 = .ok (.getfield 21, 3) := by decide +kernel
theorem dX3_liveArc_31 : decode cX3_liveArc 31 = .ok (.iload 6, 2) := by decide +kernel
theorem dX3_liveArc_33 : decode cX3_liveArc 33 = .ok (.invokevirtual 81, 3) := by decide +kernel
theorem dX3_liveArc_36 : decode cX3_liveArc 36 = .ok (.ifCond .eq 15, 3) := by decide +kernel
theorem dX3_liveArc_39 : decode cX3_liveArc 39 = .ok (.iload 4, 2) := by decide +kernel
theorem dX3_liveArc_41 : decode cX3_liveArc 41 = .ok (.iload_n 2, 1) := by decide +kernel
theorem dX3_liveArc_42 : decode cX3_liveArc 42 = .ok (.if_icmp .ne 6, 3) := by decide +kernel
theorem dX3_liveArc_45 : decode cX3_liveArc 45 = .ok (.iload 6, 2) := by decide +kernel
theorem dX3_liveArc_47 : decode cX3_liveArc 47 = .ok (.ireturn, 1) := by decide +kernel
theorem dX3_liveArc_48 : decode cX3_liveArc 48 = .ok (.iinc 4 1, 3) := by decide +kernel
theorem dX3_liveArc_51 : decode cX3_liveArc 51 = .ok (.iinc 5 1, 3) := by decide +kernel
theorem dX3_liveArc_54 : decode cX3_liveArc 54 = .ok (.goto (-42), 3) := by decide +kernel
theorem dX3_liveArc_57 : decode cX3_liveArc 57 = .ok (.iconst (-1), 1) := by decide +kernel
theorem dX3_liveArc_58 : decode cX3_liveArc 58 = .ok (.ireturn, 1) := by decide +kernel
set_option maxRecDepth 20000 in
theorem ggX4_init_X0_init : GoodIn wsX4_init wsX0_init := goodIn_r _ [39, 40, 2, 3, 31, 41, 42, 43, 44, 45, 46, 84, 85, 86, 87, 88] (by decide +kernel) (by decide +kernel)
set_option maxRecDepth 20000 in
theorem gX4_init_X0_init_n24 : GoodIn wsX4_init (wsX0_init) := ggX4_init_X0_init
set_option maxRecDepth 20000 in
theorem ggX4_init_X3_init : GoodIn wsX4_init wsX3_init := goodIn_r _ [49, 50, 2, 3, 31, 51, 52, 53, 54, 55, 56, 57, 58, 89, 90, 91, 92, 93, 94, 95, 96] (by decide +kernel) (by decide +kernel)
set_option maxRecDepth 20000 in
theorem gX4_init_X3_init : GoodIn wsX4_init (wsX3_init) := ggX4_init_X3_init
set_option maxRecDepth 20000 in
theorem ggX4_init_X2_init : GoodIn wsX4_init wsX2_init := goodIn_r _ [60, 61, 2, 3, 44, 62, 63, 64, 31, 65, 66, 67, 97, 98, 99, 100, 101, 102] (by decide +kernel) (by decide +kernel)
set_option maxRecDepth 20000 in
theorem gX4_init_X2_init_n50 : GoodIn wsX4_init (wsX2_init) := ggX4_init_X2_init
set_option maxRecDepth 20000 in
theorem ggX4_init_X1_init : GoodIn wsX4_init wsX1_init := goodIn_r _ [69, 70, 2, 3, 31, 71, 72, 103, 104] (by decide +kernel) (by decide +kernel)
set_option maxRecDepth 20000 in
theorem gX4_init_X1_init_n57 : GoodIn wsX4_init (wsX1_init) := ggX4_init_X1_init
theorem dX4_init_0 : decode cX4_init 0 = .ok (.aload_n 0, 1) := by decide +kernel
theorem dX4_init_1 : decode cX4_init 1 = .ok (.invokespecial 1, 3) := by decide +kernel
theorem dX4_init_4 : decode cX4_init 4 = .ok (.aload_n 0, 1) := by decide +kernel
theorem dX4_init_5 : decode cX4_init 5 = .ok (.iconst 1, 1) := by decide +kernel
theorem dX4_init_6 : decode cX4_init 6 = .ok (.bipush 24, 2) := by decide +kernel
theorem dX4_init_8 : decode cX4_init 8 = .ok (.iload_n 1, 1) := by decide +kernel
theorem dX4_init_9 : decode cX4_init 9 = .ok (.invokestatic 9, 3) := by decide +kernel
theorem dX4_init_12 : decode cX4_init 12 = .ok (.invokestatic 15, 3) := by decide +kernel
theorem dX4_init_15 : decode cX4_init 15 = .ok (.putfield 18, 3) := by decide +kernel
theorem dX4_init_18 : decode cX4_init 18 = .ok (.aload_n 0, 1) := by decide +kernel
theorem dX4_init_19 : decode cX4_init 19 = .ok (.new 22, 3) := by decide +kernel
theorem dX4_init_22 : decode cX4_init 22 = .ok (.dup, 1) := by decide +kernel
theorem dX4_init_23 : decode cX4_init 23 = .ok (.invokespecial 24, 3) := by decide +kernel
theorem dX4_init_26 : decode cX4_init 26 = .ok (.putfield 25, 3) := by decide +kernel
theorem dX4_init_29 : decode cX4_init 29 = .ok (.aload_n 0, 1) := by decide +kernel
theorem dX4_init_30 : decode cX4_init 30 = .ok (.new 29, 3) := by decide +kernel
theorem dX4_init_33 : decode cX4_init 33 = .ok (.dup, 1) := by decide +kernel
theorem dX4_init_34 : decode cX4_init 34 = .ok (.aload_n 0, 1) := by decide +kernel
theorem dX4_init_35 : decode cX4_init 35 = .ok (.getfield 18, 3) := by decide +kernel
theorem dX4_init_38 : decode cX4_init 38 = .ok (.aload_n 0, 1) := by decide +kernel
theorem dX4_init_39 : decode cX4_init 39 = .ok (.getfield 25, 3) := by decide +kernel
theorem dX4_init_42 : decode cX4_init 42 = .ok (.aload_n 0, 1) := by decide +kernel
theorem dX4_init_43 : decode cX4_init 43 = .ok (.getfield 25, 3) := by decide +kernel
theorem dX4_init_46 : decode cX4_init 46 = .ok (.getfield 31, 3) := by decide +kernel
theorem dX4_init_49 : decode cX4_init 49 = .ok (.aload_n 0, 1) := by decide +kernel
theorem dX4_init_50 : decode cX4_init 50 = .ok (.getfield 25, 3) := by decide +kernel
theorem dX4_init_53 : decode cX4_init 53 = .ok (.getfield 35, 3) := by decide +kernel
theorem dX4_init_56 : decode cX4_init 56 = .ok (.invokespecial 38, 3) := by decide +kernel
theorem dX4_init_59 : decode cX4_init 59 = .ok (.putfield 41, 3) := by decide +kernel
theorem dX4_init_62 : decode cX4_init 62 = .ok (.aload_n 0, 1) := by decide +kernel
theorem dX4_init_63 : decode cX4_init 63 = .ok (.new 29, 3) := by decide +kernel
theorem dX4_init_66 : decode cX4_init 66 = .ok (.dup, 1) := by decide +kernel
theorem dX4_init_67 : decode cX4_init 67 = .ok (.aload_n 0, 1) := by decide +kernel
theorem dX4_init_68 : decode cX4_init 68 = .ok (.getfield 18, 3) := by decide +kernel
theorem dX4_init_71 : decode cX4_init 71 = .ok (.aload_n 0, 1) := by decide +kernel
theorem dX4_init_72 : decode cX4_init 72 = .ok (.getfield 25, 3) := by decide +kernel
theorem dX4_init_75 : decode cX4_init 75 = .ok (.aload_n 0, 1) := by decide +kernel
theorem dX4_init_76 : decode cX4_init 76 = .ok (.getfield 25, 3) := by decide +kernel
theorem dX4_init_79 : decode cX4_init 79 = .ok (.getfield 35, 3) := by decide +kernel
theorem dX4_init_82 : decode cX4_init 82 = .ok (.aload_n 0, 1) := by decide +kernel
theorem dX4_init_83 : decode cX4_init 83 = .ok (.getfield 25, 3) := by decide +kernel
theorem dX4_init_86 : decode cX4_init 86 = .ok (.getfield 31, 3) := by decide +kernel
theorem dX4_init_89 : decode cX4_init 89 = .ok (.invokespecial 38, 3) := by decide +kernel
theorem dX4_init_92 : decode cX4_init 92 = .ok (.putfield 45, 3) := by decide +kernel
theorem dX4_init_95 : decode cX4_init 95 = .ok (.aload_n 0, 1) := by decide +kernel
theorem dX4_init_96 : decode cX4_init 96 = .ok (.new 48, 3) := by decide +kernel
theorem dX4_init_99 : decode cX4_init 99 = .ok (.dup, 1) := by decide +kernel
theorem dX4_init_100 : decode cX4_init 100 = .ok (.invokespecial 50, 3) := by decide +kernel
theorem dX4_init_103 : decode cX4_init 103 = .ok (.putfield 51, 3) := by decide +kernel
theorem dX4_init_106 : decode cX4_init 106 = .ok (.aload_n 0, 1) := by decide +kernel
theorem dX4_init_107 : decode cX4_init 107 = .ok (.new 55, 3) := by decide +kernel
theorem dX4_init_110 : decode cX4_init 110 = .ok (.dup, 1) := by decide +kernel
theorem dX4_init_111 : decode cX4_init 111 = .ok (.invokespecial 57, 3) := by decide +kernel
theorem dX4_init_114 : decode cX4_init 114 = .ok (.putfield 58, 3) := by decide +kernel
theorem dX4_init_117 : decode cX4_init 117 = .ok (.aload_n 0, 1) := by decide +kernel
theorem dX4_init_118 : decode cX4_init 118 = .ok (.sipush 160, 3) := by decide +kernel
theorem dX4_init_121 : decode cX4_init 121 = .ok (.newarray .int, 2) := by decide +kernel
theorem dX4_init_123 : decode cX4_init 123 = .ok (.putfield 62, 3) := by decide +kernel
theorem dX4_init_126 : decode cX4_init 126 = .ok (.aload_n 0, 1) := by decide +kernel
theorem dX4_init_127 : decode cX4_init 127 = .ok (.iconst 0, 1) := by decide +kernel
theorem dX4_init_128 : decode cX4_init 128 = .ok (.putfield 65, 3) := by decide +kernel
theorem dX4_init_131 : decode cX4_init 131 = .ok (.aload_n 0, 1) := by decide +kernel
theorem dX4_init_132 : decode cX4_init 132 = .ok (.aload_n 0, 1) := by decide +kernel
theorem dX4_init_133 : decode cX4_init 133 = .ok (.getfield 18, 3) := by decide +kernel
theorem dX4_init_136 : decode cX4_init 136 = .ok (.newarray .int, 2) := by decide +kernel
theorem dX4_init_138 : decode cX4_init 138 = .ok (.putfield 68, 3) := by decide +kernel
theorem dX4_init_141 : decode cX4_init 141 = .ok (.aload_n 0, 1) := by decide +kernel
theorem dX4_init_142 : decode cX4_init 142 = .ok (.aload_n 0, 1) := by decide +kernel
theorem dX4_init_143 : decode cX4_init 143 = .ok (.getfield 18, 3) := by decide +kernel
theorem dX4_init_146 : decode cX4_init 146 = .ok (.newarray .long, 2) := by decide +kernel
theorem dX4_init_148 : decode cX4_init 148 = .ok (.putfield 71, 3) := by decide +kernel
theorem dX4_init_151 : decode cX4_init 151 = .ok (.aload_n 0, 1) := by decide +kernel
theorem dX4_init_152 : decode cX4_init 152 = .ok (.aload_n 0, 1) := by decide +kernel
theorem dX4_init_153 : decode cX4_init 153 = .ok (.getfield 18, 3) := by decide +kernel
theorem dX4_init_156 : decode cX4_init 156 = .ok (.newarray .long, 2) := by decide +kernel
theorem dX4_init_158 : decode cX4_init 158 = .ok (.putfield 75, 3) := by decide +kernel
theorem dX4_init_161 : decode cX4_init 161 = .ok (.return_, 1) := by decide +kernel
set_option maxRecDepth 20000 in
theorem ggX4_arc_X4_isNode : GoodIn wsX4_arc wsX4_isNode := goodIn_r _ [6, 7, 18, 19, 20, 21, 22, 23, 24, 25, 26, 27, 28] (by decide +kernel) (by decide +kernel)
set_option maxRecDepth 20000 in
theorem gX4_arc_X4_isNode : GoodIn wsX4_arc (wsV RX4 78 RX4 yX4_isNode wsX4_isNode) := goodIn_app (goodIn_of _ (by decide +kernel)) ggX4_arc_X4_isNode
set_option maxRecDepth 20000 in
theorem ggX4_arc_X0_append : GoodIn wsX4_arc wsX0_append := goodIn_r _ [12, 13, 14, 15, 16, 17, 29, 30, 31, 32, 33] (by decide +kernel) (by decide +kernel)
set_option maxRecDepth 20000 in
theorem gX4_arc_X0_append : GoodIn wsX4_arc (wsV RX4 82 RX0 yX0_append wsX0_append) := goodIn_app (goodIn_of _ (by decide +kernel)) ggX4_arc_X0_append
theorem dX4_arc_0 : decode cX4_arc 0 = .ok (.aload_n 0, 1) := by decide +kernel
theorem dX4_arc_1 : decode cX4_arc 1 = .ok (.iload_n 1, 1) := by decide +kernel
theorem dX4_arc_2 : decode cX4_arc 2 = .ok (.invokevirtual 78, 3) := by decide +kernel
theorem dX4_arc_5 : decode cX4_arc 5 = .ok (.ifCond .eq 11, 3) := by decide +kernel
theorem dX4_arc_8 : decode cX4_arc 8 = .ok (.aload_n 0, 1) := by decide +kernel
theorem dX4_arc_9 : decode cX4_arc 9 = .ok (.iload_n 2, 1) := by decide +kernel
theorem dX4_arc_10 : decode cX4_arc 10 = .ok (.invokevirtual 78, 3) := by decide +kernel
theorem dX4_arc_13 : decode cX4_arc 13 = .ok (.ifCond .ne 6, 3) := by decide +kernel
theorem dX4_arc_16 : decode cX4_arc 16 = .ok (.bipush (-2), 2) := by decide +kernel
theorem dX4_arc_18 : decode cX4_arc 18 = .ok (.ireturn, 1) := by decide +kernel
theorem dX4_arc_19 : decode cX4_arc 19 = .ok (.aload_n 0, 1) := by decide +kernel
theorem dX4_arc_20 : decode cX4_arc 20 = .ok (.getfield 25, 3) := by decide +kernel
theorem dX4_arc_23 : decode cX4_arc 23 = .ok (.iload_n 1, 1) := by decide +kernel
theorem dX4_arc_24 : decode cX4_arc 24 = .ok (.iload_n 2, 1) := by decide +kernel
theorem dX4_arc_25 : decode cX4_arc 25 = .ok (.iconst 0, 1) := by decide +kernel
theorem dX4_arc_26 : decode cX4_arc 26 = .ok (.invokevirtual 82, 3) := by decide +kernel
theorem dX4_arc_29 : decode cX4_arc 29 = .ok (.ireturn, 1) := by decide +kernel
set_option maxRecDepth 20000 in
theorem ggX4_take_X4_mark : GoodIn wsX4_take wsX4_mark := goodIn_r _ [5, 6, 7, 8, 9, 10, 11, 12, 13, 14, 15, 16, 17, 18, 19, 20, 21, 22, 23, 24, 25, 26, 27, 28, 29, 30] (by decide +kernel) (by decide +kernel)
set_option maxRecDepth 20000 in
theorem gX4_take_X4_mark : GoodIn wsX4_take (wsV RX4 86 RX4 yX4_mark wsX4_mark) := goodIn_app (goodIn_of _ (by decide +kernel)) ggX4_take_X4_mark
theorem dX4_take_0 : decode cX4_take 0 = .ok (.aload_n 0, 1) := by decide +kernel
theorem dX4_take_1 : decode cX4_take 1 = .ok (.iload_n 1, 1) := by decide +kernel
theorem dX4_take_2 : decode cX4_take 2 = .ok (.iconst 1, 1) := by decide +kernel
theorem dX4_take_3 : decode cX4_take 3 = .ok (.invokevirtual 86, 3) := by decide +kernel
theorem dX4_take_6 : decode cX4_take 6 = .ok (.ireturn, 1) := by decide +kernel
set_option maxRecDepth 20000 in
theorem ggX4_untake_X4_mark : GoodIn wsX4_untake wsX4_mark := goodIn_r _ [5, 6, 7, 8, 9, 10, 11, 12, 13, 14, 15, 16, 17, 18, 19, 20, 21, 22, 23, 24, 25, 26, 27, 28, 29, 30] (by decide +kernel) (by decide +kernel)
set_option maxRecDepth 20000 in
theorem gX4_untake_X4_mark : GoodIn wsX4_untake (wsV RX4 86 RX4 yX4_mark wsX4_mark) := goodIn_app (goodIn_of _ (by decide +kernel)) ggX4_untake_X4_mark
theorem dX4_untake_0 : decode cX4_untake 0 = .ok (.aload_n 0, 1) := by decide +kernel
theorem dX4_untake_1 : decode cX4_untake 1 = .ok (.iload_n 1, 1) := by decide +kernel
theorem dX4_untake_2 : decode cX4_untake 2 = .ok (.iconst 0, 1) := by decide +kernel
theorem dX4_untake_3 : decode cX4_untake 3 = .ok (.invokevirtual 86, 3) := by decide +kernel
theorem dX4_untake_6 : decode cX4_untake 6 = .ok (.ireturn, 1) := by decide +kernel
set_option maxRecDepth 20000 in
theorem ggX4_merge_X4_buildAnew : GoodIn wsX4_merge wsX4_buildAnew := goodIn_r _ [5, 6, 7, 8, 9, 10, 11, 12, 13, 14, 15, 16, 17, 18, 4, 19, 20, 21, 22, 23, 24, 25, 26, 27, 28, 29, 30, 31, 32, 33, 34, 35, 36, 37, 38, 39, 40, 41, 42, 43, 44, 45, 46, 47, 48, 49, 50, 51, 52, 53, 54, 55, 56, 57, 58, 59, 60, 61, 62, 63, 64, 65, 66, 67, 68, 69, 70, 71, 72, 73, 74, 75, 76, 77, 78, 79, 80, 81, 82, 83, 84, 85, 86, 87, 88] (by decide +kernel) (by decide +kernel)
set_option maxRecDepth 20000 in
theorem gX4_merge_X4_buildAnew : GoodIn wsX4_merge (wsV RX4 90 RX4 yX4_buildAnew wsX4_buildAnew) := goodIn_app (goodIn_of _ (by decide +kernel)) ggX4_merge_X4_buildAnew
theorem dX4_merge_0 : decode cX4_merge 0 = .ok (.aload_n 0, 1) := by decide +kernel
theorem dX4_merge_1 : decode cX4_merge 1 = .ok (.invokevirtual 90, 3) := by decide +kernel
theorem dX4_merge_4 : decode cX4_merge 4 = .ok (.ireturn, 1) := by decide +kernel
set_option maxRecDepth 20000 in
theorem ggX4_pack_X4_buildAnew : GoodIn wsX4_pack wsX4_buildAnew := goodIn_r _ [9, 1, 10, 11, 12, 13, 14, 15, 16, 17, 18, 19, 20, 21, 8, 22, 23, 24, 25, 26, 27, 28, 29, 30, 31, 32, 33, 34, 35, 36, 37, 38, 39, 40, 41, 42, 43, 44, 45, 46, 47, 48, 49, 50, 51, 52, 53, 54, 55, 56, 57, 58, 59, 60, 61, 72, 73, 74, 75, 76, 77, 78, 79, 80, 81, 82, 83, 84, 85, 86, 87, 88, 89, 90, 91, 92, 93, 94, 95, 96, 97, 98, 99, 100, 101] (by decide +kernel) (by decide +kernel)
set_option maxRecDepth 20000 in
theorem gX4_pack_X4_buildAnew : GoodIn wsX4_pack (wsV RX4 90 RX4 yX4_buildAnew wsX4_buildAnew) := goodIn_app (goodIn_of _ (by decide +kernel)) ggX4_pack_X4_buildAnew
set_option maxRecDepth 20000 in
theorem ggX4_pack_X0_renumber : GoodIn wsX4_pack wsX0_renumber := goodIn_r _ [65, 16, 18, 66, 67, 68, 69, 70, 14, 71, 17, 83, 84, 85, 86, 87] (by decide +kernel) (by decide +kernel)
set_option maxRecDepth 20000 in
theorem gX4_pack_X0_renumber : GoodIn wsX4_pack (wsV RX4 97 RX0 yX0_renumber wsX0_renumber) := goodIn_app (goodIn_of _ (by decide +kernel)) ggX4_pack_X0_renumber
set_option maxRecDepth 20000 in
theorem ggX4_pack_X4_buildRows : GoodIn wsX4_pack wsX4_buildRows := goodIn_r _ [22, 23, 24, 25, 26, 27, 28, 29, 30, 31, 32, 33, 34, 35, 36, 37, 38, 39, 40, 41, 42, 43, 44, 45, 46, 47, 48, 49, 50, 51, 52, 53, 54, 55, 72, 73, 74, 75, 76, 77, 78, 79, 80, 81, 82, 88, 89, 90, 91, 92, 93, 94, 95, 83, 84, 85, 86, 87] (by decide +kernel) (by decide +kernel)
set_option maxRecDepth 20000 in
theorem gX4_pack_X4_buildRows : GoodIn wsX4_pack (wsV RX4 101 RX4 yX4_buildRows wsX4_buildRows) := goodIn_app (goodIn_of _ (by decide +kernel)) ggX4_pack_X4_buildRows
theorem dX4_pack_0 : decode cX4_pack 0 = .ok (.aload_n 0, 1) := by decide +kernel
theorem dX4_pack_1 : decode cX4_pack 1 = .ok (.invokevirtual 90, 3) := by decide +kernel
theorem dX4_pack_4 : decode cX4_pack 4 = .ok (.pop, 1) := by decide +kernel
theorem dX4_pack_5 : decode cX4_pack 5 = .ok (.aload_n 0, 1) := by decide +kernel
theorem dX4_pack_6 : decode cX4_pack 6 = .ok (.aload_n 0, 1) := by decide +kernel
theorem dX4_pack_7 : decode cX4_pack 7 = .ok (.getfield 25, 3) := by decide +kernel
theorem dX4_pack_10 : decode cX4_pack 10 = .ok (.getfield 94, 3) := by decide +kernel
theorem dX4_pack_13 : decode cX4_pack 13 = .ok (.putfield 65, 3) := by decide +kernel
theorem dX4_pack_16 : decode cX4_pack 16 = .ok (.aload_n 0, 1) := by decide +kernel
theorem dX4_pack_17 : decode cX4_pack 17 = .ok (.getfield 25, 3) := by decide +kernel
theorem dX4_pack_20 : decode cX4_pack 20 = .ok (.aload_n 0, 1) := by decide +kernel
theorem dX4_pack_21 : decode cX4_pack 21 = .ok (.getfield 62, 3) := by decide +kernel
theorem dX4_pack_24 : decode cX4_pack 24 = .ok (.invokevirtual 97, 3) := by decide +kernel
theorem dX4_pack_27 : decode cX4_pack 27 = .ok (.aload_n 0, 1) := by decide +kernel
theorem dX4_pack_28 : decode cX4_pack 28 = .ok (.invokevirtual 101, 3) := by decide +kernel
theorem dX4_pack_31 : decode cX4_pack 31 = .ok (.aload_n 0, 1) := by decide +kernel
theorem dX4_pack_32 : decode cX4_pack 32 = .ok (.getfield 25, 3) := by decide +kernel
theorem dX4_pack_35 : decode cX4_pack 35 = .ok (.getfield 94, 3) := by decide +kernel
theorem dX4_pack_38 : decode cX4_pack 38 = .ok (.ireturn, 1) := by decide +kernel
theorem dX4_turned_0 : decode cX4_turned 0 = .ok (.iload_n 1, 1) := by decide +kernel
theorem dX4_turned_1 : decode cX4_turned 1 = .ok (.ifCond .lt 11, 3) := by decide +kernel
theorem dX4_turned_4 : decode cX4_turned 4 = .ok (.iload_n 1, 1) := by decide +kernel
theorem dX4_turned_5 : decode cX4_turned 5 = .ok (.aload_n 0, 1) := by decide +kernel
theorem dX4_turned_6 : decode cX4_turned 6 = .ok (.getfield 65, 3) := by decide +kernel
theorem dX4_turned_9 : decode cX4_turned 9 = .ok (.if_icmp .lt 6, 3) := by decide +kernel
theorem dX4_turned_12 : decode cX4_turned 12 = .ok (.bipush (-2), 2) := by decide +kernel
theorem dX4_turned_14 : decode cX4_turned 14 = .ok (.ireturn, 1) := by decide +kernel
theorem dX4_turned_15 : decode cX4_turned 15 = .ok (.aload_n 0, 1) := by decide +kernel
theorem dX4_turned_16 : decode cX4_turned 16 = .ok (.getfield 62, 3) := by decide +kernel
theorem dX4_turned_19 : decode cX4_turned 19 = .ok (.iload_n 1, 1) := by decide +kernel
theorem dX4_turned_20 : decode cX4_turned 20 = .ok (.iaload, 1) := by decide +kernel
theorem dX4_turned_21 : decode cX4_turned 21 = .ok (.ireturn, 1) := by decide +kernel
set_option maxRecDepth 20000 in
theorem ggX4_out_X4_arcInRow : GoodIn wsX4_out wsX4_arcInRow := goodIn_ca (goodIn_r _ [6, 7, 8, 9, 10, 11, 5, 12, 13, 14, 15, 16, 17, 18, 19, 20, 21, 22, 23, 24, 25, 26, 27, 28, 29, 30, 31, 32, 33, 34, 35, 36, 37, 38, 39, 40, 41, 42, 43, 44, 45, 46, 47, 48, 49, 50, 51, 52, 53, 54, 55, 56, 57, 58, 59, 60, 61, 62] (by decide +kernel) (by decide +kernel)) (goodIn_sub (fun _ h => List.mem_cons_of_mem _ (List.mem_append_right _ h)) (by decide +kernel))
set_option maxRecDepth 20000 in
theorem gX4_out_X4_arcInRow : GoodIn wsX4_out (wsV RX4 104 RX4 yX4_arcInRow wsX4_arcInRow) := goodIn_app (goodIn_of _ (by decide +kernel)) ggX4_out_X4_arcInRow
theorem dX4_out_0 : decode cX4_out 0 = .ok (.aload_n 0, 1) := by decide +kernel
theorem dX4_out_1 : decode cX4_out 1 = .ok (.aload_n 0, 1) := by decide +kernel
theorem dX4_out_2 : decode cX4_out 2 = .ok (.getfield 41, 3) := by decide +kernel
theorem dX4_out_5 : decode cX4_out 5 = .ok (.iload_n 1, 1) := by decide +kernel
theorem dX4_out_6 : decode cX4_out 6 = .ok (.iload_n 2, 1) := by decide +kernel
theorem dX4_out_7 : decode cX4_out 7 = .ok (.invokevirtual 104, 3) := by decide +kernel
theorem dX4_out_10 : decode cX4_out 10 = .ok (.ireturn, 1) := by decide +kernel
set_option maxRecDepth 20000 in
theorem ggX4_in_X4_arcInRow : GoodIn wsX4_in wsX4_arcInRow := goodIn_ca (goodIn_r _ [6, 7, 8, 9, 10, 11, 5, 12, 13, 14, 15, 16, 17, 18, 19, 20, 21, 22, 23, 24, 25, 26, 27, 28, 29, 30, 31, 32, 33, 34, 35, 36, 37, 38, 39, 40, 41, 42, 43, 44, 45, 46, 47, 48, 49, 50, 51, 52, 53, 54, 55, 56, 57, 58, 59, 60, 61, 62] (by decide +kernel) (by decide +kernel)) (goodIn_sub (fun _ h => List.mem_cons_of_mem _ (List.mem_append_right _ h)) (by decide +kernel))
set_option maxRecDepth 20000 in
theorem gX4_in_X4_arcInRow : GoodIn wsX4_in (wsV RX4 104 RX4 yX4_arcInRow wsX4_arcInRow) := goodIn_app (goodIn_of _ (by decide +kernel)) ggX4_in_X4_arcInRow
theorem dX4_in_0 : decode cX4_in 0 = .ok (.aload_n 0, 1) := by decide +kernel
theorem dX4_in_1 : decode cX4_in 1 = .ok (.aload_n 0, 1) := by decide +kernel
theorem dX4_in_2 : decode cX4_in 2 = .ok (.getfield 45, 3) := by decide +kernel
theorem dX4_in_5 : decode cX4_in 5 = .ok (.iload_n 1, 1) := by decide +kernel
theorem dX4_in_6 : decode cX4_in 6 = .ok (.iload_n 2, 1) := by decide +kernel
theorem dX4_in_7 : decode cX4_in 7 = .ok (.invokevirtual 104, 3) := by decide +kernel
theorem dX4_in_10 : decode cX4_in 10 = .ok (.ireturn, 1) := by decide +kernel
set_option maxRecDepth 20000 in
theorem ggX4_offset_X4_isNode : GoodIn wsX4_offset wsX4_isNode := goodIn_r _ [7, 1, 14, 15, 16, 17, 18, 19, 20, 21, 22, 23, 24] (by decide +kernel) (by decide +kernel)
set_option maxRecDepth 20000 in
theorem gX4_offset_X4_isNode : GoodIn wsX4_offset (wsV RX4 78 RX4 yX4_isNode wsX4_isNode) := goodIn_app (goodIn_of _ (by decide +kernel)) ggX4_offset_X4_isNode
set_option maxRecDepth 20000 in
theorem ggX4_offset_X4_side : GoodIn wsX4_offset wsX4_side := goodIn_r _ [11, 12, 13, 14, 15, 16, 17, 18, 19, 20, 21, 22, 23, 24] (by decide +kernel) (by decide +kernel)
set_option maxRecDepth 20000 in
theorem gX4_offset_X4_side : GoodIn wsX4_offset (wsV RX4 108 RX4 yX4_side wsX4_side) := goodIn_app (goodIn_of _ (by decide +kernel)) ggX4_offset_X4_side
theorem dX4_offset_0 : decode cX4_offset 0 = .ok (.iload_n 1, 1) := by decide +kernel
theorem dX4_offset_1 : decode cX4_offset 1 = .ok (.aload_n 0, 1) := by decide +kernel
theorem dX4_offset_2 : decode cX4_offset 2 = .ok (.getfield 18, 3) := by decide +kernel
theorem dX4_offset_5 : decode cX4_offset 5 = .ok (.if_icmp .eq 14, 3) := by decide +kernel
theorem dX4_offset_8 : decode cX4_offset 8 = .ok (.aload_n 0, 1) := by decide +kernel
theorem dX4_offset_9 : decode cX4_offset 9 = .ok (.iload_n 1, 1) := by decide +kernel
theorem dX4_offset_10 : decode cX4_offset 10 = .ok (.invokevirtual 78, 3) := by decide +kernel
theorem dX4_offset_13 : decode cX4_offset 13 = .ok (.ifCond .ne 6, 3) := by decide +kernel
theorem dX4_offset_16 : decode cX4_offset 16 = .ok (.bipush (-2), 2) := by decide +kernel
theorem dX4_offset_18 : decode cX4_offset 18 = .ok (.ireturn, 1) := by decide +kernel
theorem dX4_offset_19 : decode cX4_offset 19 = .ok (.aload_n 0, 1) := by decide +kernel
theorem dX4_offset_20 : decode cX4_offset 20 = .ok (.iload_n 2, 1) := by decide +kernel
theorem dX4_offset_21 : decode cX4_offset 21 = .ok (.invokevirtual 108, 3) := by decide +kernel
theorem dX4_offset_24 : decode cX4_offset 24 = .ok (.getfield 112, 3) := by decide +kernel
theorem dX4_offset_27 : decode cX4_offset 27 = .ok (.iload_n 1, 1) := by decide +kernel
theorem dX4_offset_28 : decode cX4_offset 28 = .ok (.iaload, 1) := by decide +kernel
theorem dX4_offset_29 : decode cX4_offset 29 = .ok (.ireturn, 1) := by decide +kernel
set_option maxRecDepth 20000 in
theorem ggX4_told_X0_has : GoodIn wsX4_told wsX0_has := goodIn_r _ [10, 11, 23, 24, 25, 26, 27] (by decide +kernel) (by decide +kernel)
set_option maxRecDepth 20000 in
theorem gX4_told_X0_has : GoodIn wsX4_told (wsV RX4 115 RX0 yX0_has wsX0_has) := goodIn_app (goodIn_of _ (by decide +kernel)) ggX4_told_X0_has
theorem dX4_told_0 : decode cX4_told 0 = .ok (.aload_n 0, 1) := by decide +kernel
theorem dX4_told_1 : decode cX4_told 1 = .ok (.getfield 25, 3) := by decide +kernel
theorem dX4_told_4 : decode cX4_told 4 = .ok (.iload_n 1, 1) := by decide +kernel
theorem dX4_told_5 : decode cX4_told 5 = .ok (.invokevirtual 115, 3) := by decide +kernel
theorem dX4_told_8 : decode cX4_told 8 = .ok (.ifCond .ne 6, 3) := by decide +kernel
theorem dX4_told_11 : decode cX4_told 11 = .ok (.bipush (-2), 2) := by decide +kernel
theorem dX4_told_13 : decode cX4_told 13 = .ok (.ireturn, 1) := by decide +kernel
theorem dX4_told_14 : decode cX4_told 14 = .ok (.iload_n 2, 1) := by decide +kernel
theorem dX4_told_15 : decode cX4_told 15 = .ok (.tableswitch 109 0 4 #[33, 43, 53, 72, 90], 33) := by decide +kernel
theorem dX4_told_48 : decode cX4_told 48 = .ok (.aload_n 0, 1) := by decide +kernel
theorem dX4_told_49 : decode cX4_told 49 = .ok (.getfield 25, 3) := by decide +kernel
theorem dX4_told_52 : decode cX4_told 52 = .ok (.getfield 31, 3) := by decide +kernel
theorem dX4_told_55 : decode cX4_told 55 = .ok (.iload_n 1, 1) := by decide +kernel
theorem dX4_told_56 : decode cX4_told 56 = .ok (.iaload, 1) := by decide +kernel
theorem dX4_told_57 : decode cX4_told 57 = .ok (.ireturn, 1) := by decide +kernel
theorem dX4_told_58 : decode cX4_told 58 = .ok (.aload_n 0, 1) := by decide +kernel
theorem dX4_told_59 : decode cX4_told 59 = .ok (.getfield 25, 3) := by decide +kernel
theorem dX4_told_62 : decode cX4_told 62 = .ok (.getfield 35, 3) := by decide +kernel
theorem dX4_told_65 : decode cX4_told 65 = .ok (.iload_n 1, 1) := by decide +kernel
theorem dX4_told_66 : decode cX4_told 66 = .ok (.iaload, 1) := by decide +kernel
theorem dX4_told_67 : decode cX4_told 67 = .ok (.ireturn, 1) := by decide +kernel
theorem dX4_told_68 : decode cX4_told 68 = .ok (.aload_n 0, 1) := by decide +kernel
theorem dX4_told_69 : decode cX4_told 69 = .ok (.getfield 25, 3) := by decide +kernel
theorem dX4_told_72 : decode cX4_told 72 = .ok (.getfield 118, 3) := by decide +kernel
theorem dX4_told_75 : decode cX4_told 75 = .ok (.iload_n 1, 1) := by decide +kernel
theorem dX4_told_76 : decode cX4_told 76 = .ok (.iaload, 1) := by decide +kernel
theorem dX4_told_77 : decode cX4_told 77 = .ok (.iconst 1, 1) := by decide +kernel
theorem dX4_told_78 : decode cX4_told 78 = .ok (.if_icmp .ne 7, 3) := by decide +kernel
theorem dX4_told_81 : decode cX4_told 81 = .ok (.iconst 1, 1) := by decide +kernel
theorem dX4_told_82 : decode cX4_told 82 = .ok (.goto 4, 3) := by decide +kernel
theorem dX4_told_85 : decode cX4_told 85 = .ok (.iconst 0, 1) := by decide +kernel
theorem dX4_told_86 : decode cX4_told 86 = .ok (.ireturn, 1) := by decide +kernel
theorem dX4_told_87 : decode cX4_told 87 = .ok (.aload_n 0, 1) := by decide +kernel
theorem dX4_told_88 : decode cX4_told 88 = .ok (.getfield 25, 3) := by decide +kernel
theorem dX4_told_91 : decode cX4_told 91 = .ok (.getfield 121, 3) := by decide +kernel
theorem dX4_told_94 : decode cX4_told 94 = .ok (.iload_n 1, 1) := by decide +kernel
theorem dX4_told_95 : decode cX4_told 95 = .ok (.baload, 1) := by decide +kernel
theorem dX4_told_96 : decode cX4_told 96 = .ok (.ifCond .eq 7, 3) := by decide +kernel
theorem dX4_told_99 : decode cX4_told 99 = .ok (.iconst 1, 1) := by decide +kernel
theorem dX4_told_100 : decode cX4_told 100 = .ok (.goto 4, 3) := by decide +kernel
theorem dX4_told_103 : decode cX4_told 103 = .ok (.iconst 0, 1) := by decide +kernel
theorem dX4_told_104 : decode cX4_told 104 = .ok (.ireturn, 1) := by decide +kernel
theorem dX4_told_105 : decode cX4_told 105 = .ok (.aload_n 0, 1) := by decide +kernel
theorem dX4_told_106 : decode cX4_told 106 = .ok (.getfield 25, 3) := by decide +kernel
theorem dX4_told_109 : decode cX4_told 109 = .ok (.getfield 118, 3) := by decide +kernel
theorem dX4_told_112 : decode cX4_told 112 = .ok (.iload_n 1, 1) := by decide +kernel
theorem dX4_told_113 : decode cX4_told 113 = .ok (.iaload, 1) := by decide +kernel
theorem dX4_told_114 : decode cX4_told 114 = .ok (.iconst 2, 1) := by decide +kernel
theorem dX4_told_115 : decode cX4_told 115 = .ok (.if_icmp .ne 7, 3) := by decide +kernel
theorem dX4_told_118 : decode cX4_told 118 = .ok (.iconst 1, 1) := by decide +kernel
theorem dX4_told_119 : decode cX4_told 119 = .ok (.goto 4, 3) := by decide +kernel
theorem dX4_told_122 : decode cX4_told 122 = .ok (.iconst 0, 1) := by decide +kernel
theorem dX4_told_123 : decode cX4_told 123 = .ok (.ireturn, 1) := by decide +kernel
theorem dX4_told_124 : decode cX4_told 124 = .ok (.bipush (-3), 2) := by decide +kernel
theorem dX4_told_126 : decode cX4_told 126 = .ok (.ireturn, 1) := by decide +kernel
set_option maxRecDepth 20000 in
theorem ggX4_degree_X4_isNode : GoodIn wsX4_degree wsX4_isNode := goodIn_r _ [5, 6, 51, 52, 53, 54, 55, 56, 57, 58, 59, 60, 61] (by decide +kernel) (by decide +kernel)
set_option maxRecDepth 20000 in
theorem gX4_degree_X4_isNode : GoodIn wsX4_degree (wsV RX4 78 RX4 yX4_isNode wsX4_isNode) := goodIn_app (goodIn_of _ (by decide +kernel)) ggX4_degree_X4_isNode
set_option maxRecDepth 20000 in
theorem ggX4_degree_X4_side : GoodIn wsX4_degree wsX4_side := goodIn_r _ [10, 11, 12, 51, 52, 53, 54, 55, 56, 57, 58, 59, 60, 61] (by decide +kernel) (by decide +kernel)
set_option maxRecDepth 20000 in
theorem gX4_degree_X4_side : GoodIn wsX4_degree (wsV RX4 108 RX4 yX4_side wsX4_side) := goodIn_app (goodIn_of _ (by decide +kernel)) ggX4_degree_X4_side
set_option maxRecDepth 20000 in
theorem ggX4_degree_X3_countLive : GoodIn wsX4_degree wsX3_countLive := goodIn_r _ [17, 18, 19, 20, 21, 16, 22, 23, 24, 25, 26, 27, 28, 29, 30, 31, 32, 33, 34, 35, 36, 37, 38, 39, 40, 41, 42, 43, 44, 45, 46, 47, 48, 49, 50, 62, 63, 64, 65, 66, 67, 68, 69, 70, 71, 72, 73, 74] (by decide +kernel) (by decide +kernel)
set_option maxRecDepth 20000 in
theorem gX4_degree_X3_countLive : GoodIn wsX4_degree (wsV RX4 125 RX3 yX3_countLive wsX3_countLive) := goodIn_app (goodIn_of _ (by decide +kernel)) ggX4_degree_X3_countLive
theorem dX4_degree_0 : decode cX4_degree 0 = .ok (.aload_n 0, 1) := by decide +kernel
theorem dX4_degree_1 : decode cX4_degree 1 = .ok (.iload_n 1, 1) := by decide +kernel
theorem dX4_degree_2 : decode cX4_degree 2 = .ok (.invokevirtual 78, 3) := by decide +kernel
theorem dX4_degree_5 : decode cX4_degree 5 = .ok (.ifCond .ne 6, 3) := by decide +kernel
theorem dX4_degree_8 : decode cX4_degree 8 = .ok (.bipush (-2), 2) := by decide +kernel
theorem dX4_degree_10 : decode cX4_degree 10 = .ok (.ireturn, 1) := by decide +kernel
theorem dX4_degree_11 : decode cX4_degree 11 = .ok (.aload_n 0, 1) := by decide +kernel
theorem dX4_degree_12 : decode cX4_degree 12 = .ok (.iload_n 2, 1) := by decide +kernel
theorem dX4_degree_13 : decode cX4_degree 13 = .ok (.invokevirtual 108, 3) := by decide +kernel
theorem dX4_degree_16 : decode cX4_degree 16 = .ok (.iload_n 1, 1) := by decide +kernel
theorem dX4_degree_17 : decode cX4_degree 17 = .ok (.invokevirtual 125, 3) := by decide +kernel
theorem dX4_degree_20 : decode cX4_degree 20 = .ok (.ireturn, 1) := by decide +kernel
set_option maxRecDepth 20000 in
theorem ggX4_live_X4_isNode : GoodIn wsX4_live wsX4_isNode := goodIn_r _ [5, 6, 51, 52, 53, 54, 55, 56, 57, 58, 59, 60, 61] (by decide +kernel) (by decide +kernel)
set_option maxRecDepth 20000 in
theorem gX4_live_X4_isNode : GoodIn wsX4_live (wsV RX4 78 RX4 yX4_isNode wsX4_isNode) := goodIn_app (goodIn_of _ (by decide +kernel)) ggX4_live_X4_isNode
set_option maxRecDepth 20000 in
theorem ggX4_live_X4_side : GoodIn wsX4_live wsX4_side := goodIn_r _ [10, 11, 12, 51, 52, 53, 54, 55, 56, 57, 58, 59, 60, 61] (by decide +kernel) (by decide +kernel)
set_option maxRecDepth 20000 in
theorem gX4_live_X4_side : GoodIn wsX4_live (wsV RX4 108 RX4 yX4_side wsX4_side) := goodIn_app (goodIn_of _ (by decide +kernel)) ggX4_live_X4_side
set_option maxRecDepth 20000 in
theorem ggX4_live_X3_liveArc : GoodIn wsX4_live wsX3_liveArc := goodIn_r _ [17, 18, 19, 20, 21, 16, 22, 23, 24, 25, 26, 27, 28, 29, 30, 31, 32, 33, 34, 35, 36, 37, 38, 39, 40, 41, 42, 43, 44, 45, 46, 47, 48, 49, 50, 62, 63, 64, 65, 66, 67, 68, 69, 70, 71, 72, 73, 74] (by decide +kernel) (by decide +kernel)
set_option maxRecDepth 20000 in
theorem gX4_live_X3_liveArc : GoodIn wsX4_live (wsV RX4 129 RX3 yX3_liveArc wsX3_liveArc) := goodIn_app (goodIn_of _ (by decide +kernel)) ggX4_live_X3_liveArc
theorem dX4_live_0 : decode cX4_live 0 = .ok (.aload_n 0, 1) := by decide +kernel
theorem dX4_live_1 : decode cX4_live 1 = .ok (.iload_n 1, 1) := by decide +kernel
theorem dX4_live_2 : decode cX4_live 2 = .ok (.invokevirtual 78, 3) := by decide +kernel
theorem dX4_live_5 : decode cX4_live 5 = .ok (.ifCond .ne 6, 3) := by decide +kernel
theorem dX4_live_8 : decode cX4_live 8 = .ok (.bipush (-2), 2) := by decide +kernel
theorem dX4_live_10 : decode cX4_live 10 = .ok (.ireturn, 1) := by decide +kernel
theorem dX4_live_11 : decode cX4_live 11 = .ok (.iload_n 3, 1) := by decide +kernel
theorem dX4_live_12 : decode cX4_live 12 = .ok (.ifCond .ge 6, 3) := by decide +kernel
theorem dX4_live_15 : decode cX4_live 15 = .ok (.bipush (-3), 2) := by decide +kernel
theorem dX4_live_17 : decode cX4_live 17 = .ok (.ireturn, 1) := by decide +kernel
theorem dX4_live_18 : decode cX4_live 18 = .ok (.aload_n 0, 1) := by decide +kernel
theorem dX4_live_19 : decode cX4_live 19 = .ok (.iload_n 2, 1) := by decide +kernel
theorem dX4_live_20 : decode cX4_live 20 = .ok (.invokevirtual 108, 3) := by decide +kernel
theorem dX4_live_23 : decode cX4_live 23 = .ok (.iload_n 1, 1) := by decide +kernel
theorem dX4_live_24 : decode cX4_live 24 = .ok (.iload_n 3, 1) := by decide +kernel
theorem dX4_live_25 : decode cX4_live 25 = .ok (.invokevirtual 129, 3) := by decide +kernel
theorem dX4_live_28 : decode cX4_live 28 = .ok (.ireturn, 1) := by decide +kernel
set_option maxRecDepth 20000 in
theorem ggX4_between_X4_isNode : GoodIn wsX4_between wsX4_isNode := goodIn_r _ [6, 7, 26, 27, 28, 29, 30, 31, 32, 33, 34, 35, 36] (by decide +kernel) (by decide +kernel)
set_option maxRecDepth 20000 in
theorem gX4_between_X4_isNode : GoodIn wsX4_between (wsV RX4 78 RX4 yX4_isNode wsX4_isNode) := goodIn_app (goodIn_of _ (by decide +kernel)) ggX4_between_X4_isNode
set_option maxRecDepth 20000 in
theorem ggX4_between_X0_countLiveBetween : GoodIn wsX4_between wsX0_countLiveBetween := goodIn_r _ [12, 13, 14, 15, 16, 17, 18, 11, 19, 20, 21, 22, 23, 24, 25, 37, 38, 39, 40, 41] (by decide +kernel) (by decide +kernel)
set_option maxRecDepth 20000 in
theorem gX4_between_X0_countLiveBetween : GoodIn wsX4_between (wsV RX4 132 RX0 yX0_countLiveBetween wsX0_countLiveBetween) := goodIn_app (goodIn_of _ (by decide +kernel)) ggX4_between_X0_countLiveBetween
theorem dX4_between_0 : decode cX4_between 0 = .ok (.aload_n 0, 1) := by decide +kernel
theorem dX4_between_1 : decode cX4_between 1 = .ok (.iload_n 1, 1) := by decide +kernel
theorem dX4_between_2 : decode cX4_between 2 = .ok (.invokevirtual 78, 3) := by decide +kernel
theorem dX4_between_5 : decode cX4_between 5 = .ok (.ifCond .eq 11, 3) := by decide +kernel
theorem dX4_between_8 : decode cX4_between 8 = .ok (.aload_n 0, 1) := by decide +kernel
theorem dX4_between_9 : decode cX4_between 9 = .ok (.iload_n 2, 1) := by decide +kernel
theorem dX4_between_10 : decode cX4_between 10 = .ok (.invokevirtual 78, 3) := by decide +kernel
theorem dX4_between_13 : decode cX4_between 13 = .ok (.ifCond .ne 6, 3) := by decide +kernel
theorem dX4_between_16 : decode cX4_between 16 = .ok (.bipush (-2), 2) := by decide +kernel
theorem dX4_between_18 : decode cX4_between 18 = .ok (.ireturn, 1) := by decide +kernel
theorem dX4_between_19 : decode cX4_between 19 = .ok (.aload_n 0, 1) := by decide +kernel
theorem dX4_between_20 : decode cX4_between 20 = .ok (.getfield 25, 3) := by decide +kernel
theorem dX4_between_23 : decode cX4_between 23 = .ok (.iload_n 1, 1) := by decide +kernel
theorem dX4_between_24 : decode cX4_between 24 = .ok (.iload_n 2, 1) := by decide +kernel
theorem dX4_between_25 : decode cX4_between 25 = .ok (.invokevirtual 132, 3) := by decide +kernel
theorem dX4_between_28 : decode cX4_between 28 = .ok (.ireturn, 1) := by decide +kernel
set_option maxRecDepth 20000 in
theorem ggX4_near_X4_isNode : GoodIn wsX4_near wsX4_isNode := goodIn_r _ [7, 2, 32, 33, 34, 35, 36, 37, 38, 39, 40, 41, 42] (by decide +kernel) (by decide +kernel)
set_option maxRecDepth 20000 in
theorem gX4_near_X4_isNode : GoodIn wsX4_near (wsV RX4 78 RX4 yX4_isNode wsX4_isNode) := goodIn_app (goodIn_of _ (by decide +kernel)) ggX4_near_X4_isNode
set_option maxRecDepth 20000 in
theorem ggX4_near_J7_fill_53178 : GoodIn wsX4_near wsJ7_fill_53178 := goodIn_r _ [11] (by decide +kernel) (by decide +kernel)
set_option maxRecDepth 20000 in
theorem gX4_near_J7_fill_53178 : GoodIn wsX4_near (va_wsS RX4 135 yJ7_fill_53178 wsJ7_fill_53178) := goodIn_app (goodIn_of _ (by decide +kernel)) ggX4_near_J7_fill_53178
set_option maxRecDepth 20000 in
theorem ggX4_near_X4_stepOnFrom : GoodIn wsX4_near wsX4_stepOnFrom := goodIn_r _ [15, 16, 17, 18, 1, 19, 20, 21, 22, 23, 24, 25, 26, 27, 28, 29, 30, 31, 32, 33, 34, 35, 36, 37, 38, 39, 40, 41, 42, 43, 44, 45, 46, 47] (by decide +kernel) (by decide +kernel)
set_option maxRecDepth 20000 in
theorem gX4_near_X4_stepOnFrom : GoodIn wsX4_near (wsV RX4 141 RX4 yX4_stepOnFrom wsX4_stepOnFrom) := goodIn_app (goodIn_of _ (by decide +kernel)) ggX4_near_X4_stepOnFrom
theorem dX4_near_0 : decode cX4_near 0 = .ok (.aload_n 0, 1) := by decide +kernel
theorem dX4_near_1 : decode cX4_near 1 = .ok (.iload_n 1, 1) := by decide +kernel
theorem dX4_near_2 : decode cX4_near 2 = .ok (.invokevirtual 78, 3) := by decide +kernel
theorem dX4_near_5 : decode cX4_near 5 = .ok (.ifCond .eq 11, 3) := by decide +kernel
theorem dX4_near_8 : decode cX4_near 8 = .ok (.aload_n 0, 1) := by decide +kernel
theorem dX4_near_9 : decode cX4_near 9 = .ok (.iload_n 2, 1) := by decide +kernel
theorem dX4_near_10 : decode cX4_near 10 = .ok (.invokevirtual 78, 3) := by decide +kernel
theorem dX4_near_13 : decode cX4_near 13 = .ok (.ifCond .ne 6, 3) := by decide +kernel
theorem dX4_near_16 : decode cX4_near 16 = .ok (.bipush (-2), 2) := by decide +kernel
theorem dX4_near_18 : decode cX4_near 18 = .ok (.ireturn, 1) := by decide +kernel
theorem dX4_near_19 : decode cX4_near 19 = .ok (.aload_n 0, 1) := by decide +kernel
theorem dX4_near_20 : decode cX4_near 20 = .ok (.getfield 68, 3) := by decide +kernel
theorem dX4_near_23 : decode cX4_near 23 = .ok (.iconst (-1), 1) := by decide +kernel
theorem dX4_near_24 : decode cX4_near 24 = .ok (.invokestatic 135, 3) := by decide +kernel
theorem dX4_near_27 : decode cX4_near 27 = .ok (.aload_n 0, 1) := by decide +kernel
theorem dX4_near_28 : decode cX4_near 28 = .ok (.getfield 68, 3) := by decide +kernel
theorem dX4_near_31 : decode cX4_near 31 = .ok (.iload_n 1, 1) := by decide +kernel
theorem dX4_near_32 : decode cX4_near 32 = .ok (.iconst 0, 1) := by decide +kernel
theorem dX4_near_33 : decode cX4_near 33 = .ok (.iastore, 1) := by decide +kernel
theorem dX4_near_34 : decode cX4_near 34 = .ok (.iconst 0, 1) := by decide +kernel
theorem dX4_near_35 : decode cX4_near 35 = .ok (.istore_n 3, 1) := by decide +kernel
theorem dX4_near_36 : decode cX4_near 36 = .ok (.iload_n 3, 1) := by decide +kernel
theorem dX4_near_37 : decode cX4_near 37 = .ok (.aload_n 0, 1) := by decide +kernel
theorem dX4_near_38 : decode cX4_near 38 = .ok (.getfield 18, 3) := by decide +kernel
theorem dX4_near_41 : decode cX4_near 41 = .ok (.if_icmp .ge 24, 3) := by decide +kernel
theorem dX4_near_44 : decode cX4_near 44 = .ok (.aload_n 0, 1) := by decide +kernel
theorem dX4_near_45 : decode cX4_near 45 = .ok (.getfield 68, 3) := by decide +kernel
theorem dX4_near_48 : decode cX4_near 48 = .ok (.iload_n 2, 1) := by decide +kernel
theorem dX4_near_49 : decode cX4_near 49 = .ok (.iaload, 1) := by decide +kernel
theorem dX4_near_50 : decode cX4_near 50 = .ok (.iconst (-1), 1) := by decide +kernel
theorem dX4_near_51 : decode cX4_near 51 = .ok (.if_icmp .ne 14, 3) := by decide +kernel
theorem dX4_near_54 : decode cX4_near 54 = .ok (.aload_n 0, 1) := by decide +kernel
theorem dX4_near_55 : decode cX4_near 55 = .ok (.iload_n 3, 1) := by decide +kernel
theorem dX4_near_56 : decode cX4_near 56 = .ok (.invokevirtual 141, 3) := by decide +kernel
theorem dX4_near_59 : decode cX4_near 59 = .ok (.iinc 3 1, 3) := by decide +kernel
theorem dX4_near_62 : decode cX4_near 62 = .ok (.goto (-26), 3) := by decide +kernel
theorem dX4_near_65 : decode cX4_near 65 = .ok (.aload_n 0, 1) := by decide +kernel
theorem dX4_near_66 : decode cX4_near 66 = .ok (.getfield 68, 3) := by decide +kernel
theorem dX4_near_69 : decode cX4_near 69 = .ok (.iload_n 2, 1) := by decide +kernel
theorem dX4_near_70 : decode cX4_near 70 = .ok (.iaload, 1) := by decide +kernel
theorem dX4_near_71 : decode cX4_near 71 = .ok (.ireturn, 1) := by decide +kernel
set_option maxRecDepth 20000 in
theorem ggX4_ways_X4_isNode : GoodIn wsX4_ways wsX4_isNode := goodIn_r _ [8, 9, 39, 40, 41, 42, 43, 44, 45, 46, 47, 48, 49] (by decide +kernel) (by decide +kernel)
set_option maxRecDepth 20000 in
theorem gX4_ways_X4_isNode : GoodIn wsX4_ways (wsV RX4 78 RX4 yX4_isNode wsX4_isNode) := goodIn_app (goodIn_of _ (by decide +kernel)) ggX4_ways_X4_isNode
set_option maxRecDepth 20000 in
theorem ggX4_ways_J7_fill_d0a16 : GoodIn wsX4_ways wsJ7_fill_d0a16 := goodIn_r _ [13] (by decide +kernel) (by decide +kernel)
set_option maxRecDepth 20000 in
theorem gX4_ways_J7_fill_d0a16 : GoodIn wsX4_ways (va_wsS RX4 149 yJ7_fill_d0a16 wsJ7_fill_d0a16) := goodIn_app (goodIn_of _ (by decide +kernel)) ggX4_ways_J7_fill_d0a16
set_option maxRecDepth 20000 in
theorem ggX4_ways_X4_lengthenWays : GoodIn wsX4_ways wsX4_lengthenWays := goodIn_r _ [17, 18, 19, 20, 21, 3, 22, 9, 23, 24, 25, 26, 10, 11, 12, 13, 27, 28, 29, 30, 31, 32, 33, 34, 35, 36, 37, 38, 39, 40, 41, 42, 43, 44, 45, 46, 47, 48, 49, 50, 51, 52, 53, 54] (by decide +kernel) (by decide +kernel)
set_option maxRecDepth 20000 in
theorem gX4_ways_X4_lengthenWays : GoodIn wsX4_ways (wsV RX4 152 RX4 yX4_lengthenWays wsX4_lengthenWays) := goodIn_app (goodIn_of _ (by decide +kernel)) ggX4_ways_X4_lengthenWays
theorem dX4_ways_0 : decode cX4_ways 0 = .ok (.aload_n 0, 1) := by decide +kernel
theorem dX4_ways_1 : decode cX4_ways 1 = .ok (.iload_n 1, 1) := by decide +kernel
theorem dX4_ways_2 : decode cX4_ways 2 = .ok (.invokevirtual 78, 3) := by decide +kernel
theorem dX4_ways_5 : decode cX4_ways 5 = .ok (.ifCond .eq 11, 3) := by decide +kernel
theorem dX4_ways_8 : decode cX4_ways 8 = .ok (.aload_n 0, 1) := by decide +kernel
theorem dX4_ways_9 : decode cX4_ways 9 = .ok (.iload_n 2, 1) := by decide +kernel
theorem dX4_ways_10 : decode cX4_ways 10 = .ok (.invokevirtual 78, 3) := by decide +kernel
theorem dX4_ways_13 : decode cX4_ways 13 = .ok (.ifCond .ne 7, 3) := by decide +kernel
theorem dX4_ways_16 : decode cX4_ways 16 = .ok (.ldc2_w 145, 3) := by decide +kernel
theorem dX4_ways_19 : decode cX4_ways 19 = .ok (.lreturn, 1) := by decide +kernel
theorem dX4_ways_20 : decode cX4_ways 20 = .ok (.iload_n 3, 1) := by decide +kernel
theorem dX4_ways_21 : decode cX4_ways 21 = .ok (.ifCond .lt 9, 3) := by decide +kernel
theorem dX4_ways_24 : decode cX4_ways 24 = .ok (.iload_n 3, 1) := by decide +kernel
theorem dX4_ways_25 : decode cX4_ways 25 = .ok (.bipush 60, 2) := by decide +kernel
theorem dX4_ways_27 : decode cX4_ways 27 = .ok (.if_icmp .le 7, 3) := by decide +kernel
theorem dX4_ways_30 : decode cX4_ways 30 = .ok (.ldc2_w 147, 3) := by decide +kernel
theorem dX4_ways_33 : decode cX4_ways 33 = .ok (.lreturn, 1) := by decide +kernel
theorem dX4_ways_34 : decode cX4_ways 34 = .ok (.aload_n 0, 1) := by decide +kernel
theorem dX4_ways_35 : decode cX4_ways 35 = .ok (.getfield 71, 3) := by decide +kernel
theorem dX4_ways_38 : decode cX4_ways 38 = .ok (.lconst 0, 1) := by decide +kernel
theorem dX4_ways_39 : decode cX4_ways 39 = .ok (.invokestatic 149, 3) := by decide +kernel
theorem dX4_ways_42 : decode cX4_ways 42 = .ok (.aload_n 0, 1) := by decide +kernel
theorem dX4_ways_43 : decode cX4_ways 43 = .ok (.getfield 71, 3) := by decide +kernel
theorem dX4_ways_46 : decode cX4_ways 46 = .ok (.iload_n 1, 1) := by decide +kernel
theorem dX4_ways_47 : decode cX4_ways 47 = .ok (.lconst 1, 1) := by decide +kernel
theorem dX4_ways_48 : decode cX4_ways 48 = .ok (.lastore, 1) := by decide +kernel
theorem dX4_ways_49 : decode cX4_ways 49 = .ok (.iconst 0, 1) := by decide +kernel
theorem dX4_ways_50 : decode cX4_ways 50 = .ok (.istore 4, 2) := by decide +kernel
theorem dX4_ways_52 : decode cX4_ways 52 = .ok (.iload 4, 2) := by decide +kernel
theorem dX4_ways_54 : decode cX4_ways 54 = .ok (.iload_n 3, 1) := by decide +kernel
theorem dX4_ways_55 : decode cX4_ways 55 = .ok (.if_icmp .ge 13, 3) := by decide +kernel
theorem dX4_ways_58 : decode cX4_ways 58 = .ok (.aload_n 0, 1) := by decide +kernel
theorem dX4_ways_59 : decode cX4_ways 59 = .ok (.invokevirtual 152, 3) := by decide +kernel
theorem dX4_ways_62 : decode cX4_ways 62 = .ok (.iinc 4 1, 3) := by decide +kernel
theorem dX4_ways_65 : decode cX4_ways 65 = .ok (.goto (-13), 3) := by decide +kernel
theorem dX4_ways_68 : decode cX4_ways 68 = .ok (.aload_n 0, 1) := by decide +kernel
theorem dX4_ways_69 : decode cX4_ways 69 = .ok (.getfield 71, 3) := by decide +kernel
theorem dX4_ways_72 : decode cX4_ways 72 = .ok (.iload_n 2, 1) := by decide +kernel
theorem dX4_ways_73 : decode cX4_ways 73 = .ok (.laload, 1) := by decide +kernel
theorem dX4_ways_74 : decode cX4_ways 74 = .ok (.lreturn, 1) := by decide +kernel
set_option maxRecDepth 20000 in
theorem ggX4_open_X4_isNode : GoodIn wsX4_open wsX4_isNode := goodIn_r _ [6, 7, 23, 24, 25, 26, 27, 28, 29, 30, 31, 32, 33] (by decide +kernel) (by decide +kernel)
set_option maxRecDepth 20000 in
theorem gX4_open_X4_isNode : GoodIn wsX4_open (wsV RX4 78 RX4 yX4_isNode wsX4_isNode) := goodIn_app (goodIn_of _ (by decide +kernel)) ggX4_open_X4_isNode
set_option maxRecDepth 20000 in
theorem ggX4_open_X2_leastFree : GoodIn wsX4_open wsX2_leastFree := goodIn_r _ [12, 13, 34, 35, 36, 37, 38, 39] (by decide +kernel) (by decide +kernel)
set_option maxRecDepth 20000 in
theorem gX4_open_X2_leastFree : GoodIn wsX4_open (wsV RX4 155 RX2 yX2_leastFree wsX2_leastFree) := goodIn_app (goodIn_of _ (by decide +kernel)) ggX4_open_X2_leastFree
set_option maxRecDepth 20000 in
theorem ggX4_open_X2_start : GoodIn wsX4_open wsX2_start := goodIn_r _ [17, 13, 18, 19, 20, 21, 22, 34, 35, 36, 37, 38, 39] (by decide +kernel) (by decide +kernel)
set_option maxRecDepth 20000 in
theorem gX4_open_X2_start : GoodIn wsX4_open (wsV RX4 158 RX2 yX2_start wsX2_start) := goodIn_app (goodIn_of _ (by decide +kernel)) ggX4_open_X2_start
theorem dX4_open_0 : decode cX4_open 0 = .ok (.aload_n 0, 1) := by decide +kernel
theorem dX4_open_1 : decode cX4_open 1 = .ok (.iload_n 1, 1) := by decide +kernel
theorem dX4_open_2 : decode cX4_open 2 = .ok (.invokevirtual 78, 3) := by decide +kernel
theorem dX4_open_5 : decode cX4_open 5 = .ok (.ifCond .ne 6, 3) := by decide +kernel
theorem dX4_open_8 : decode cX4_open 8 = .ok (.bipush (-2), 2) := by decide +kernel
theorem dX4_open_10 : decode cX4_open 10 = .ok (.ireturn, 1) := by decide +kernel
theorem dX4_open_11 : decode cX4_open 11 = .ok (.aload_n 0, 1) := by decide +kernel
theorem dX4_open_12 : decode cX4_open 12 = .ok (.getfield 51, 3) := by decide +kernel
theorem dX4_open_15 : decode cX4_open 15 = .ok (.invokevirtual 155, 3) := by decide +kernel
theorem dX4_open_18 : decode cX4_open 18 = .ok (.istore_n 3, 1) := by decide +kernel
theorem dX4_open_19 : decode cX4_open 19 = .ok (.iload_n 3, 1) := by decide +kernel
theorem dX4_open_20 : decode cX4_open 20 = .ok (.iconst (-1), 1) := by decide +kernel
theorem dX4_open_21 : decode cX4_open 21 = .ok (.if_icmp .ne 6, 3) := by decide +kernel
theorem dX4_open_24 : decode cX4_open 24 = .ok (.bipush (-6), 2) := by decide +kernel
theorem dX4_open_26 : decode cX4_open 26 = .ok (.ireturn, 1) := by decide +kernel
theorem dX4_open_27 : decode cX4_open 27 = .ok (.aload_n 0, 1) := by decide +kernel
theorem dX4_open_28 : decode cX4_open 28 = .ok (.getfield 51, 3) := by decide +kernel
theorem dX4_open_31 : decode cX4_open 31 = .ok (.iload_n 3, 1) := by decide +kernel
theorem dX4_open_32 : decode cX4_open 32 = .ok (.iload_n 1, 1) := by decide +kernel
theorem dX4_open_33 : decode cX4_open 33 = .ok (.iload_n 2, 1) := by decide +kernel
theorem dX4_open_34 : decode cX4_open 34 = .ok (.invokevirtual 158, 3) := by decide +kernel
theorem dX4_open_37 : decode cX4_open 37 = .ok (.iload_n 3, 1) := by decide +kernel
theorem dX4_open_38 : decode cX4_open 38 = .ok (.ireturn, 1) := by decide +kernel
set_option maxRecDepth 20000 in
theorem ggX4_next_X2_has : GoodIn wsX4_next wsX2_has := goodIn_r _ [10, 11, 75, 76, 77, 78, 79, 80] (by decide +kernel) (by decide +kernel)
set_option maxRecDepth 20000 in
theorem gX4_next_X2_has : GoodIn wsX4_next (wsV RX4 162 RX2 yX2_has wsX2_has) := goodIn_app (goodIn_of _ (by decide +kernel)) ggX4_next_X2_has
set_option maxRecDepth 20000 in
theorem ggX4_next_X4_side : GoodIn wsX4_next wsX4_side := goodIn_r _ [16, 17, 18, 64, 65, 66, 67, 68, 69, 70, 71, 72, 73, 74] (by decide +kernel) (by decide +kernel)
set_option maxRecDepth 20000 in
theorem gX4_next_X4_side : GoodIn wsX4_next (wsV RX4 108 RX4 yX4_side wsX4_side) := goodIn_app (goodIn_of _ (by decide +kernel)) ggX4_next_X4_side
set_option maxRecDepth 20000 in
theorem ggX4_next_X3_livePlaceFrom : GoodIn wsX4_next wsX3_livePlaceFrom := goodIn_r _ [23, 24, 25, 26, 27, 22, 28, 29, 30, 31, 32, 33, 34, 35, 36, 37, 38, 39, 40, 41, 42, 43, 44, 45, 46, 47, 48, 49, 50, 51, 52, 53, 54, 55, 56, 81, 82, 83, 84, 85, 86, 87, 88, 89, 90, 91, 92, 93] (by decide +kernel) (by decide +kernel)
set_option maxRecDepth 20000 in
theorem gX4_next_X3_livePlaceFrom : GoodIn wsX4_next (wsV RX4 175 RX3 yX3_livePlaceFrom wsX3_livePlaceFrom) := goodIn_app (goodIn_of _ (by decide +kernel)) ggX4_next_X3_livePlaceFrom
set_option maxRecDepth 20000 in
theorem ggX4_next_X2_moveTo : GoodIn wsX4_next wsX2_moveTo := goodIn_r _ [60, 61, 62, 75, 76, 77, 78, 79, 80] (by decide +kernel) (by decide +kernel)
set_option maxRecDepth 20000 in
theorem gX4_next_X2_moveTo : GoodIn wsX4_next (wsV RX4 178 RX2 yX2_moveTo wsX2_moveTo) := goodIn_app (goodIn_of _ (by decide +kernel)) ggX4_next_X2_moveTo
set_option maxRecDepth 20000 in
theorem ggX4_next_X3_arcAt : GoodIn wsX4_next wsX3_arcAt := goodIn_r _ [38, 39, 34, 24, 40, 30, 31, 32, 22, 33, 41, 42, 43, 44, 45, 46, 47, 48, 49, 50, 51, 81, 82, 83, 84, 85, 86, 87, 88, 89, 90, 91, 92, 93] (by decide +kernel) (by decide +kernel)
set_option maxRecDepth 20000 in
theorem gX4_next_X3_arcAt : GoodIn wsX4_next (wsV RX4 182 RX3 yX3_arcAt wsX3_arcAt) := goodIn_app (goodIn_of _ (by decide +kernel)) ggX4_next_X3_arcAt
theorem dX4_next_0 : decode cX4_next 0 = .ok (.aload_n 0, 1) := by decide +kernel
theorem dX4_next_1 : decode cX4_next 1 = .ok (.getfield 51, 3) := by decide +kernel
theorem dX4_next_4 : decode cX4_next 4 = .ok (.iload_n 1, 1) := by decide +kernel
theorem dX4_next_5 : decode cX4_next 5 = .ok (.invokevirtual 162, 3) := by decide +kernel
theorem dX4_next_8 : decode cX4_next 8 = .ok (.ifCond .ne 6, 3) := by decide +kernel
theorem dX4_next_11 : decode cX4_next 11 = .ok (.bipush (-2), 2) := by decide +kernel
theorem dX4_next_13 : decode cX4_next 13 = .ok (.ireturn, 1) := by decide +kernel
theorem dX4_next_14 : decode cX4_next 14 = .ok (.aload_n 0, 1) := by decide +kernel
theorem dX4_next_15 : decode cX4_next 15 = .ok (.getfield 51, 3) := by decide +kernel
theorem dX4_next_18 : decode cX4_next 18 = .ok (.getfield 163, 3) := by decide +kernel
theorem dX4_next_21 : decode cX4_next 21 = .ok (.iload_n 1, 1) := by decide +kernel
theorem dX4_next_22 : decode cX4_next 22 = .ok (.baload, 1) := by decide +kernel
theorem dX4_next_23 : decode cX4_next 23 = .ok (.ifCond .eq 6, 3) := by decide +kernel
theorem dX4_next_26 : decode cX4_next 26 = .ok (.bipush (-4), 2) := by decide +kernel
theorem dX4_next_28 : decode cX4_next 28 = .ok (.ireturn, 1) := by decide +kernel
theorem dX4_next_29 : decode cX4_next 29 = .ok (.aload_n 0, 1) := by decide +kernel
theorem dX4_next_30 : decode cX4_next 30 = .ok (.getfield 51, 3) := by decide +kernel
theorem dX4_next_33 : decode cX4_next 33 = .ok (.getfield 166, 3) := by decide +kernel
theorem dX4_next_36 : decode cX4_next 36 = .ok (.iload_n 1, 1) := by decide +kernel
theorem dX4_next_37 : decode cX4_next 37 = .ok (.iaload, 1) := by decide +kernel
theorem dX4_next_38 : decode cX4_next 38 = .ok (.istore_n 2, 1) := by decide +kernel
theorem dX4_next_39 : decode cX4_next 39 = .ok (.aload_n 0, 1) := by decide +kernel
theorem dX4_next_40 : decode cX4_next 40 = .ok (.aload_n 0, 1) := by decide +kernel
theorem dX4_next_41 : decode cX4_next 41 = .ok (.getfield 51, 3) := by decide +kernel
theorem dX4_next_44 : decode cX4_next 44 = .ok (.getfield 169, 3) := by decide +kernel
theorem dX4_next_47 : decode cX4_next 47 = .ok (.iload_n 1, 1) := by decide +kernel
theorem dX4_next_48 : decode cX4_next 48 = .ok (.baload, 1) := by decide +kernel
theorem dX4_next_49 : decode cX4_next 49 = .ok (.invokevirtual 108, 3) := by decide +kernel
theorem dX4_next_52 : decode cX4_next 52 = .ok (.astore_n 3, 1) := by decide +kernel
theorem dX4_next_53 : decode cX4_next 53 = .ok (.aload_n 3, 1) := by decide +kernel
theorem dX4_next_54 : decode cX4_next 54 = .ok (.iload_n 2, 1) := by decide +kernel
theorem dX4_next_55 : decode cX4_next 55 = .ok (.aload_n 0, 1) := by decide +kernel
theorem dX4_next_56 : decode cX4_next 56 = .ok (.getfield 51, 3) := by decide +kernel
theorem dX4_next_59 : decode cX4_next 59 = .ok (.getfield 172, 3) := by decide +kernel
theorem dX4_next_62 : decode cX4_next 62 = .ok (.iload_n 1, 1) := by decide +kernel
theorem dX4_next_63 : decode cX4_next 63 = .ok (.iaload, 1) := by decide +kernel
theorem dX4_next_64 : decode cX4_next 64 = .ok (.iconst 1, 1) := by decide +kernel
theorem dX4_next_65 : decode cX4_next 65 = .ok (.iadd, 1) := by decide +kernel
theorem dX4_next_66 : decode cX4_next 66 = .ok (.invokevirtual 175, 3) := by decide +kernel
theorem dX4_next_69 : decode cX4_next 69 = .ok (.istore 4, 2) := by decide +kernel
theorem dX4_next_71 : decode cX4_next 71 = .ok (.iload 4, 2) := by decide +kernel
theorem dX4_next_73 : decode cX4_next 73 = .ok (.iconst (-1), 1) := by decide +kernel
theorem dX4_next_74 : decode cX4_next 74 = .ok (.if_icmp .ne 5, 3) := by decide +kernel
theorem dX4_next_77 : decode cX4_next 77 = .ok (.iconst (-1), 1) := by decide +kernel
theorem dX4_next_78 : decode cX4_next 78 = .ok (.ireturn, 1) := by decide +kernel
theorem dX4_next_79 : decode cX4_next 79 = .ok (.aload_n 0, 1) := by decide +kernel
theorem dX4_next_80 : decode cX4_next 80 = .ok (.getfield 51, 3) := by decide +kernel
theorem dX4_next_83 : decode cX4_next 83 = .ok (.iload_n 1, 1) := by decide +kernel
theorem dX4_next_84 : decode cX4_next 84 = .ok (.iload 4, 2) := by decide +kernel
theorem dX4_next_86 : decode cX4_next 86 = .ok (.invokevirtual 178, 3) := by decide +kernel
theorem dX4_next_89 : decode cX4_next 89 = .ok (.aload_n 3, 1) := by decide +kernel
theorem dX4_next_90 : decode cX4_next 90 = .ok (.iload_n 2, 1) := by decide +kernel
theorem dX4_next_91 : decode cX4_next 91 = .ok (.iload 4, 2) := by decide +kernel
theorem dX4_next_93 : decode cX4_next 93 = .ok (.invokevirtual 182, 3) := by decide +kernel
theorem dX4_next_96 : decode cX4_next 96 = .ok (.ireturn, 1) := by decide +kernel
set_option maxRecDepth 20000 in
theorem ggX4_close_X2_has : GoodIn wsX4_close wsX2_has := goodIn_r _ [8, 9, 21, 22, 23, 24, 25, 26] (by decide +kernel) (by decide +kernel)
set_option maxRecDepth 20000 in
theorem gX4_close_X2_has : GoodIn wsX4_close (wsV RX4 162 RX2 yX2_has wsX2_has) := goodIn_app (goodIn_of _ (by decide +kernel)) ggX4_close_X2_has
theorem dX4_close_0 : decode cX4_close 0 = .ok (.aload_n 0, 1) := by decide +kernel
theorem dX4_close_1 : decode cX4_close 1 = .ok (.getfield 51, 3) := by decide +kernel
theorem dX4_close_4 : decode cX4_close 4 = .ok (.iload_n 1, 1) := by decide +kernel
theorem dX4_close_5 : decode cX4_close 5 = .ok (.invokevirtual 162, 3) := by decide +kernel
theorem dX4_close_8 : decode cX4_close 8 = .ok (.ifCond .ne 6, 3) := by decide +kernel
theorem dX4_close_11 : decode cX4_close 11 = .ok (.bipush (-2), 2) := by decide +kernel
theorem dX4_close_13 : decode cX4_close 13 = .ok (.ireturn, 1) := by decide +kernel
theorem dX4_close_14 : decode cX4_close 14 = .ok (.aload_n 0, 1) := by decide +kernel
theorem dX4_close_15 : decode cX4_close 15 = .ok (.getfield 51, 3) := by decide +kernel
theorem dX4_close_18 : decode cX4_close 18 = .ok (.getfield 185, 3) := by decide +kernel
theorem dX4_close_21 : decode cX4_close 21 = .ok (.iload_n 1, 1) := by decide +kernel
theorem dX4_close_22 : decode cX4_close 22 = .ok (.iconst 0, 1) := by decide +kernel
theorem dX4_close_23 : decode cX4_close 23 = .ok (.bastore, 1) := by decide +kernel
theorem dX4_close_24 : decode cX4_close 24 = .ok (.aload_n 0, 1) := by decide +kernel
theorem dX4_close_25 : decode cX4_close 25 = .ok (.getfield 51, 3) := by decide +kernel
theorem dX4_close_28 : decode cX4_close 28 = .ok (.getfield 188, 3) := by decide +kernel
theorem dX4_close_31 : decode cX4_close 31 = .ok (.iload_n 1, 1) := by decide +kernel
theorem dX4_close_32 : decode cX4_close 32 = .ok (.iaload, 1) := by decide +kernel
theorem dX4_close_33 : decode cX4_close 33 = .ok (.ireturn, 1) := by decide +kernel
theorem dX4_give_0 : decode cX4_give 0 = .ok (.iload_n 1, 1) := by decide +kernel
theorem dX4_give_1 : decode cX4_give 1 = .ok (.ifCond .eq 13, 3) := by decide +kernel
theorem dX4_give_4 : decode cX4_give 4 = .ok (.aload_n 0, 1) := by decide +kernel
theorem dX4_give_5 : decode cX4_give 5 = .ok (.getfield 58, 3) := by decide +kernel
theorem dX4_give_8 : decode cX4_give 8 = .ok (.getfield 191, 3) := by decide +kernel
theorem dX4_give_11 : decode cX4_give 11 = .ok (.goto 10, 3) := by decide +kernel
theorem dX4_give_14 : decode cX4_give 14 = .ok (.aload_n 0, 1) := by decide +kernel
theorem dX4_give_15 : decode cX4_give 15 = .ok (.getfield 58, 3) := by decide +kernel
theorem dX4_give_18 : decode cX4_give 18 = .ok (.getfield 194, 3) := by decide +kernel
theorem dX4_give_21 : decode cX4_give 21 = .ok (.astore 4, 2) := by decide +kernel
theorem dX4_give_23 : decode cX4_give 23 = .ok (.iload_n 2, 1) := by decide +kernel
theorem dX4_give_24 : decode cX4_give 24 = .ok (.ifCond .lt 10, 3) := by decide +kernel
theorem dX4_give_27 : decode cX4_give 27 = .ok (.iload_n 2, 1) := by decide +kernel
theorem dX4_give_28 : decode cX4_give 28 = .ok (.aload 4, 2) := by decide +kernel
theorem dX4_give_30 : decode cX4_give 30 = .ok (.arraylength, 1) := by decide +kernel
theorem dX4_give_31 : decode cX4_give 31 = .ok (.if_icmp .lt 6, 3) := by decide +kernel
theorem dX4_give_34 : decode cX4_give 34 = .ok (.bipush (-3), 2) := by decide +kernel
theorem dX4_give_36 : decode cX4_give 36 = .ok (.ireturn, 1) := by decide +kernel
theorem dX4_give_37 : decode cX4_give 37 = .ok (.aload 4, 2) := by decide +kernel
theorem dX4_give_39 : decode cX4_give 39 = .ok (.iload_n 2, 1) := by decide +kernel
theorem dX4_give_40 : decode cX4_give 40 = .ok (.iaload, 1) := by decide +kernel
theorem dX4_give_41 : decode cX4_give 41 = .ok (.istore 5, 2) := by decide +kernel
theorem dX4_give_43 : decode cX4_give 43 = .ok (.aload 4, 2) := by decide +kernel
theorem dX4_give_45 : decode cX4_give 45 = .ok (.iload_n 2, 1) := by decide +kernel
theorem dX4_give_46 : decode cX4_give 46 = .ok (.iload_n 3, 1) := by decide +kernel
theorem dX4_give_47 : decode cX4_give 47 = .ok (.iastore, 1) := by decide +kernel
theorem dX4_give_48 : decode cX4_give 48 = .ok (.iload 5, 2) := by decide +kernel
theorem dX4_give_50 : decode cX4_give 50 = .ok (.ireturn, 1) := by decide +kernel
set_option maxRecDepth 20000 in
theorem ggX4_load_X1_firstFault : GoodIn wsX4_load wsX1_firstFault := goodIn_r _ [10, 11, 12, 13, 14, 9, 15, 16, 87, 88] (by decide +kernel) (by decide +kernel)
set_option maxRecDepth 20000 in
theorem gX4_load_X1_firstFault : GoodIn wsX4_load (wsV RX4 195 RX1 yX1_firstFault wsX1_firstFault) := goodIn_app (goodIn_of _ (by decide +kernel)) ggX4_load_X1_firstFault
set_option maxRecDepth 20000 in
theorem ggX4_load_X1_fill : GoodIn wsX4_load wsX1_fill := goodIn_r _ [20, 21, 16, 11, 22, 23, 24, 25, 26, 27, 28, 29, 30, 31, 89, 90, 91, 92, 93, 87, 88] (by decide +kernel) (by decide +kernel)
set_option maxRecDepth 20000 in
theorem gX4_load_X1_fill : GoodIn wsX4_load (wsV RX4 198 RX1 yX1_fill wsX1_fill) := goodIn_app (goodIn_of _ (by decide +kernel)) ggX4_load_X1_fill
set_option maxRecDepth 20000 in
theorem ggX4_load_X4_buildRows : GoodIn wsX4_load wsX4_buildRows := goodIn_r _ [36, 37, 38, 39, 40, 41, 42, 43, 44, 45, 46, 47, 48, 49, 50, 51, 52, 53, 54, 55, 56, 57, 58, 59, 60, 61, 62, 63, 64, 65, 66, 67, 68, 69, 76, 77, 78, 79, 80, 81, 82, 83, 84, 85, 86, 94, 95, 96, 97, 98, 99, 100, 101, 89, 90, 91, 92, 93] (by decide +kernel) (by decide +kernel)
set_option maxRecDepth 20000 in
theorem gX4_load_X4_buildRows : GoodIn wsX4_load (wsV RX4 101 RX4 yX4_buildRows wsX4_buildRows) := goodIn_app (goodIn_of _ (by decide +kernel)) ggX4_load_X4_buildRows
set_option maxRecDepth 20000 in
theorem ggX4_load_X2_makeStale : GoodIn wsX4_load wsX2_makeStale := goodIn_r _ [74, 75, 102, 103, 104, 105, 106, 107] (by decide +kernel) (by decide +kernel)
set_option maxRecDepth 20000 in
theorem gX4_load_X2_makeStale : GoodIn wsX4_load (wsV RX4 201 RX2 yX2_makeStale wsX2_makeStale) := goodIn_app (goodIn_of _ (by decide +kernel)) ggX4_load_X2_makeStale
theorem dX4_load_0 : decode cX4_load 0 = .ok (.iload_n 1, 1) := by decide +kernel
theorem dX4_load_1 : decode cX4_load 1 = .ok (.ifCond .lt 10, 3) := by decide +kernel
theorem dX4_load_4 : decode cX4_load 4 = .ok (.iload_n 1, 1) := by decide +kernel
theorem dX4_load_5 : decode cX4_load 5 = .ok (.sipush 160, 3) := by decide +kernel
theorem dX4_load_8 : decode cX4_load 8 = .ok (.if_icmp .le 6, 3) := by decide +kernel
theorem dX4_load_11 : decode cX4_load 11 = .ok (.bipush (-3), 2) := by decide +kernel
theorem dX4_load_13 : decode cX4_load 13 = .ok (.ireturn, 1) := by decide +kernel
theorem dX4_load_14 : decode cX4_load 14 = .ok (.aload_n 0, 1) := by decide +kernel
theorem dX4_load_15 : decode cX4_load 15 = .ok (.getfield 58, 3) := by decide +kernel
theorem dX4_load_18 : decode cX4_load 18 = .ok (.aload_n 0, 1) := by decide +kernel
theorem dX4_load_19 : decode cX4_load 19 = .ok (.getfield 18, 3) := by decide +kernel
theorem dX4_load_22 : decode cX4_load 22 = .ok (.iload_n 1, 1) := by decide +kernel
theorem dX4_load_23 : decode cX4_load 23 = .ok (.invokevirtual 195, 3) := by decide +kernel
theorem dX4_load_26 : decode cX4_load 26 = .ok (.istore_n 2, 1) := by decide +kernel
theorem dX4_load_27 : decode cX4_load 27 = .ok (.iload_n 2, 1) := by decide +kernel
theorem dX4_load_28 : decode cX4_load 28 = .ok (.ifCond .eq 5, 3) := by decide +kernel
theorem dX4_load_31 : decode cX4_load 31 = .ok (.iload_n 2, 1) := by decide +kernel
theorem dX4_load_32 : decode cX4_load 32 = .ok (.ireturn, 1) := by decide +kernel
theorem dX4_load_33 : decode cX4_load 33 = .ok (.aload_n 0, 1) := by decide +kernel
theorem dX4_load_34 : decode cX4_load 34 = .ok (.getfield 58, 3) := by decide +kernel
theorem dX4_load_37 : decode cX4_load 37 = .ok (.aload_n 0, 1) := by decide +kernel
theorem dX4_load_38 : decode cX4_load 38 = .ok (.getfield 25, 3) := by decide +kernel
theorem dX4_load_41 : decode cX4_load 41 = .ok (.aload_n 0, 1) := by decide +kernel
theorem dX4_load_42 : decode cX4_load 42 = .ok (.getfield 18, 3) := by decide +kernel
theorem dX4_load_45 : decode cX4_load 45 = .ok (.invokevirtual 198, 3) := by decide +kernel
theorem dX4_load_48 : decode cX4_load 48 = .ok (.aload_n 0, 1) := by decide +kernel
theorem dX4_load_49 : decode cX4_load 49 = .ok (.invokevirtual 101, 3) := by decide +kernel
theorem dX4_load_52 : decode cX4_load 52 = .ok (.aload_n 0, 1) := by decide +kernel
theorem dX4_load_53 : decode cX4_load 53 = .ok (.getfield 51, 3) := by decide +kernel
theorem dX4_load_56 : decode cX4_load 56 = .ok (.invokevirtual 201, 3) := by decide +kernel
theorem dX4_load_59 : decode cX4_load 59 = .ok (.aload_n 0, 1) := by decide +kernel
theorem dX4_load_60 : decode cX4_load 60 = .ok (.iconst 0, 1) := by decide +kernel
theorem dX4_load_61 : decode cX4_load 61 = .ok (.putfield 65, 3) := by decide +kernel
theorem dX4_load_64 : decode cX4_load 64 = .ok (.iconst 0, 1) := by decide +kernel
theorem dX4_load_65 : decode cX4_load 65 = .ok (.ireturn, 1) := by decide +kernel
set_option maxRecDepth 20000 in
theorem ggX4_about_X0_countInState : GoodIn wsX4_about wsX0_countInState := goodIn_r _ [9, 10, 11, 42, 43, 44, 45, 46] (by decide +kernel) (by decide +kernel)
set_option maxRecDepth 20000 in
theorem gX4_about_X0_countInState : GoodIn wsX4_about (wsV RX4 204 RX0 yX0_countInState wsX0_countInState) := goodIn_app (goodIn_of _ (by decide +kernel)) ggX4_about_X0_countInState
set_option maxRecDepth 20000 in
theorem ggX4_about_X0_countLive : GoodIn wsX4_about wsX0_countLive := goodIn_r _ [15, 10, 16, 17, 18, 8, 19, 11, 20, 21, 22, 23, 24, 42, 43, 44, 45, 46] (by decide +kernel) (by decide +kernel)
set_option maxRecDepth 20000 in
theorem gX4_about_X0_countLive : GoodIn wsX4_about (wsV RX4 207 RX0 yX0_countLive wsX0_countLive) := goodIn_app (goodIn_of _ (by decide +kernel)) ggX4_about_X0_countLive
set_option maxRecDepth 20000 in
theorem ggX4_about_X2_countOpen : GoodIn wsX4_about wsX2_countOpen := goodIn_r _ [29, 30, 47, 48, 49, 50, 51, 52] (by decide +kernel) (by decide +kernel)
set_option maxRecDepth 20000 in
theorem gX4_about_X2_countOpen : GoodIn wsX4_about (wsV RX4 209 RX2 yX2_countOpen wsX2_countOpen) := goodIn_app (goodIn_of _ (by decide +kernel)) ggX4_about_X2_countOpen
theorem dX4_about_0 : decode cX4_about 0 = .ok (.iload_n 1, 1) := by decide +kernel
theorem dX4_about_1 : decode cX4_about 1 = .ok (.tableswitch 86 0 5 #[39, 44, 52, 61, 70, 78], 39) := by decide +kernel
theorem dX4_about_40 : decode cX4_about 40 = .ok (.aload_n 0, 1) := by decide +kernel
theorem dX4_about_41 : decode cX4_about 41 = .ok (.getfield 18, 3) := by decide +kernel
theorem dX4_about_44 : decode cX4_about 44 = .ok (.ireturn, 1) := by decide +kernel
theorem dX4_about_45 : decode cX4_about 45 = .ok (.aload_n 0, 1) := by decide +kernel
theorem dX4_about_46 : decode cX4_about 46 = .ok (.getfield 25, 3) := by decide +kernel
theorem dX4_about_49 : decode cX4_about 49 = .ok (.getfield 94, 3) := by decide +kernel
theorem dX4_about_52 : decode cX4_about 52 = .ok (.ireturn, 1) := by decide +kernel
theorem dX4_about_53 : decode cX4_about 53 = .ok (.aload_n 0, 1) := by decide +kernel
theorem dX4_about_54 : decode cX4_about 54 = .ok (.getfield 25, 3) := by decide +kernel
theorem dX4_about_57 : decode cX4_about 57 = .ok (.iconst 1, 1) := by decide +kernel
theorem dX4_about_58 : decode cX4_about 58 = .ok (.invokevirtual 204, 3) := by decide +kernel
theorem dX4_about_61 : decode cX4_about 61 = .ok (.ireturn, 1) := by decide +kernel
theorem dX4_about_62 : decode cX4_about 62 = .ok (.aload_n 0, 1) := by decide +kernel
theorem dX4_about_63 : decode cX4_about 63 = .ok (.getfield 25, 3) := by decide +kernel
theorem dX4_about_66 : decode cX4_about 66 = .ok (.iconst 0, 1) := by decide +kernel
theorem dX4_about_67 : decode cX4_about 67 = .ok (.invokevirtual 204, 3) := by decide +kernel
theorem dX4_about_70 : decode cX4_about 70 = .ok (.ireturn, 1) := by decide +kernel
theorem dX4_about_71 : decode cX4_about 71 = .ok (.aload_n 0, 1) := by decide +kernel
theorem dX4_about_72 : decode cX4_about 72 = .ok (.getfield 25, 3) := by decide +kernel
theorem dX4_about_75 : decode cX4_about 75 = .ok (.invokevirtual 207, 3) := by decide +kernel
theorem dX4_about_78 : decode cX4_about 78 = .ok (.ireturn, 1) := by decide +kernel
theorem dX4_about_79 : decode cX4_about 79 = .ok (.aload_n 0, 1) := by decide +kernel
theorem dX4_about_80 : decode cX4_about 80 = .ok (.getfield 51, 3) := by decide +kernel
theorem dX4_about_83 : decode cX4_about 83 = .ok (.invokevirtual 209, 3) := by decide +kernel
theorem dX4_about_86 : decode cX4_about 86 = .ok (.ireturn, 1) := by decide +kernel
theorem dX4_about_87 : decode cX4_about 87 = .ok (.bipush (-3), 2) := by decide +kernel
theorem dX4_about_89 : decode cX4_about 89 = .ok (.ireturn, 1) := by decide +kernel
theorem dX4_isNode_0 : decode cX4_isNode 0 = .ok (.iload_n 1, 1) := by decide +kernel
theorem dX4_isNode_1 : decode cX4_isNode 1 = .ok (.ifCond .lt 15, 3) := by decide +kernel
theorem dX4_isNode_4 : decode cX4_isNode 4 = .ok (.iload_n 1, 1) := by decide +kernel
theorem dX4_isNode_5 : decode cX4_isNode 5 = .ok (.aload_n 0, 1) := by decide +kernel
theorem dX4_isNode_6 : decode cX4_isNode 6 = .ok (.getfield 18, 3) := by decide +kernel
theorem dX4_isNode_9 : decode cX4_isNode 9 = .ok (.if_icmp .ge 7, 3) := by decide +kernel
theorem dX4_isNode_12 : decode cX4_isNode 12 = .ok (.iconst 1, 1) := by decide +kernel
theorem dX4_isNode_13 : decode cX4_isNode 13 = .ok (.goto 4, 3) := by decide +kernel
theorem dX4_isNode_16 : decode cX4_isNode 16 = .ok (.iconst 0, 1) := by decide +kernel
theorem dX4_isNode_17 : decode cX4_isNode 17 = .ok (.ireturn, 1) := by decide +kernel
theorem dX4_side_0 : decode cX4_side 0 = .ok (.iload_n 1, 1) := by decide +kernel
theorem dX4_side_1 : decode cX4_side 1 = .ok (.ifCond .eq 10, 3) := by decide +kernel
theorem dX4_side_4 : decode cX4_side 4 = .ok (.aload_n 0, 1) := by decide +kernel
theorem dX4_side_5 : decode cX4_side 5 = .ok (.getfield 45, 3) := by decide +kernel
theorem dX4_side_8 : decode cX4_side 8 = .ok (.goto 7, 3) := by decide +kernel
theorem dX4_side_11 : decode cX4_side 11 = .ok (.aload_n 0, 1) := by decide +kernel
theorem dX4_side_12 : decode cX4_side 12 = .ok (.getfield 41, 3) := by decide +kernel
theorem dX4_side_15 : decode cX4_side 15 = .ok (.areturn, 1) := by decide +kernel
set_option maxRecDepth 20000 in
theorem ggX4_mark_X0_has : GoodIn wsX4_mark wsX0_has := goodIn_r _ [8, 9, 21, 22, 23, 24, 25] (by decide +kernel) (by decide +kernel)
set_option maxRecDepth 20000 in
theorem gX4_mark_X0_has : GoodIn wsX4_mark (wsV RX4 115 RX0 yX0_has wsX0_has) := goodIn_app (goodIn_of _ (by decide +kernel)) ggX4_mark_X0_has
theorem dX4_mark_0 : decode cX4_mark 0 = .ok (.aload_n 0, 1) := by decide +kernel
theorem dX4_mark_1 : decode cX4_mark 1 = .ok (.getfield 25, 3) := by decide +kernel
theorem dX4_mark_4 : decode cX4_mark 4 = .ok (.iload_n 1, 1) := by decide +kernel
theorem dX4_mark_5 : decode cX4_mark 5 = .ok (.invokevirtual 115, 3) := by decide +kernel
theorem dX4_mark_8 : decode cX4_mark 8 = .ok (.ifCond .ne 6, 3) := by decide +kernel
theorem dX4_mark_11 : decode cX4_mark 11 = .ok (.bipush (-2), 2) := by decide +kernel
theorem dX4_mark_13 : decode cX4_mark 13 = .ok (.ireturn, 1) := by decide +kernel
theorem dX4_mark_14 : decode cX4_mark 14 = .ok (.aload_n 0, 1) := by decide +kernel
theorem dX4_mark_15 : decode cX4_mark 15 = .ok (.getfield 25, 3) := by decide +kernel
theorem dX4_mark_18 : decode cX4_mark 18 = .ok (.getfield 118, 3) := by decide +kernel
theorem dX4_mark_21 : decode cX4_mark 21 = .ok (.iload_n 1, 1) := by decide +kernel
theorem dX4_mark_22 : decode cX4_mark 22 = .ok (.iaload, 1) := by decide +kernel
theorem dX4_mark_23 : decode cX4_mark 23 = .ok (.iconst 2, 1) := by decide +kernel
theorem dX4_mark_24 : decode cX4_mark 24 = .ok (.if_icmp .ne 6, 3) := by decide +kernel
theorem dX4_mark_27 : decode cX4_mark 27 = .ok (.bipush (-5), 2) := by decide +kernel
theorem dX4_mark_29 : decode cX4_mark 29 = .ok (.ireturn, 1) := by decide +kernel
theorem dX4_mark_30 : decode cX4_mark 30 = .ok (.aload_n 0, 1) := by decide +kernel
theorem dX4_mark_31 : decode cX4_mark 31 = .ok (.getfield 25, 3) := by decide +kernel
theorem dX4_mark_34 : decode cX4_mark 34 = .ok (.getfield 121, 3) := by decide +kernel
theorem dX4_mark_37 : decode cX4_mark 37 = .ok (.iload_n 1, 1) := by decide +kernel
theorem dX4_mark_38 : decode cX4_mark 38 = .ok (.baload, 1) := by decide +kernel
theorem dX4_mark_39 : decode cX4_mark 39 = .ok (.iload_n 2, 1) := by decide +kernel
theorem dX4_mark_40 : decode cX4_mark 40 = .ok (.if_icmp .ne 5, 3) := by decide +kernel
theorem dX4_mark_43 : decode cX4_mark 43 = .ok (.iconst 0, 1) := by decide +kernel
theorem dX4_mark_44 : decode cX4_mark 44 = .ok (.ireturn, 1) := by decide +kernel
theorem dX4_mark_45 : decode cX4_mark 45 = .ok (.aload_n 0, 1) := by decide +kernel
theorem dX4_mark_46 : decode cX4_mark 46 = .ok (.getfield 25, 3) := by decide +kernel
theorem dX4_mark_49 : decode cX4_mark 49 = .ok (.getfield 121, 3) := by decide +kernel
theorem dX4_mark_52 : decode cX4_mark 52 = .ok (.iload_n 1, 1) := by decide +kernel
theorem dX4_mark_53 : decode cX4_mark 53 = .ok (.iload_n 2, 1) := by decide +kernel
theorem dX4_mark_54 : decode cX4_mark 54 = .ok (.bastore, 1) := by decide +kernel
theorem dX4_mark_55 : decode cX4_mark 55 = .ok (.iconst 1, 1) := by decide +kernel
theorem dX4_mark_56 : decode cX4_mark 56 = .ok (.ireturn, 1) := by decide +kernel
set_option maxRecDepth 20000 in
theorem ggX4_buildAnew_X0_settle : GoodIn wsX4_buildAnew wsX0_settle := goodIn_r _ [7, 8, 9, 10, 66, 67, 68, 69, 70] (by decide +kernel) (by decide +kernel)
set_option maxRecDepth 20000 in
theorem gX4_buildAnew_X0_settle : GoodIn wsX4_buildAnew (wsV RX4 212 RX0 yX0_settle wsX0_settle) := goodIn_app (goodIn_of _ (by decide +kernel)) ggX4_buildAnew_X0_settle
set_option maxRecDepth 20000 in
theorem ggX4_buildAnew_X4_buildRows : GoodIn wsX4_buildAnew wsX4_buildRows := goodIn_r _ [15, 16, 17, 18, 19, 20, 21, 22, 23, 24, 25, 26, 27, 28, 29, 30, 31, 32, 33, 34, 35, 36, 37, 38, 39, 40, 41, 42, 43, 44, 45, 46, 47, 48, 55, 56, 57, 58, 59, 60, 61, 62, 63, 64, 65, 71, 72, 73, 74, 75, 76, 77, 78, 66, 67, 68, 69, 70] (by decide +kernel) (by decide +kernel)
set_option maxRecDepth 20000 in
theorem gX4_buildAnew_X4_buildRows : GoodIn wsX4_buildAnew (wsV RX4 101 RX4 yX4_buildRows wsX4_buildRows) := goodIn_app (goodIn_of _ (by decide +kernel)) ggX4_buildAnew_X4_buildRows
set_option maxRecDepth 20000 in
theorem ggX4_buildAnew_X2_makeStale : GoodIn wsX4_buildAnew wsX2_makeStale := goodIn_r _ [53, 54, 79, 80, 81, 82, 83, 84] (by decide +kernel) (by decide +kernel)
set_option maxRecDepth 20000 in
theorem gX4_buildAnew_X2_makeStale : GoodIn wsX4_buildAnew (wsV RX4 201 RX2 yX2_makeStale wsX2_makeStale) := goodIn_app (goodIn_of _ (by decide +kernel)) ggX4_buildAnew_X2_makeStale
theorem dX4_buildAnew_0 : decode cX4_buildAnew 0 = .ok (.aload_n 0, 1) := by decide +kernel
theorem dX4_buildAnew_1 : decode cX4_buildAnew 1 = .ok (.getfield 25, 3) := by decide +kernel
theorem dX4_buildAnew_4 : decode cX4_buildAnew 4 = .ok (.invokevirtual 212, 3) := by decide +kernel
theorem dX4_buildAnew_7 : decode cX4_buildAnew 7 = .ok (.istore_n 1, 1) := by decide +kernel
theorem dX4_buildAnew_8 : decode cX4_buildAnew 8 = .ok (.aload_n 0, 1) := by decide +kernel
theorem dX4_buildAnew_9 : decode cX4_buildAnew 9 = .ok (.invokevirtual 101, 3) := by decide +kernel
theorem dX4_buildAnew_12 : decode cX4_buildAnew 12 = .ok (.aload_n 0, 1) := by decide +kernel
theorem dX4_buildAnew_13 : decode cX4_buildAnew 13 = .ok (.getfield 51, 3) := by decide +kernel
theorem dX4_buildAnew_16 : decode cX4_buildAnew 16 = .ok (.invokevirtual 201, 3) := by decide +kernel
theorem dX4_buildAnew_19 : decode cX4_buildAnew 19 = .ok (.iload_n 1, 1) := by decide +kernel
theorem dX4_buildAnew_20 : decode cX4_buildAnew 20 = .ok (.ireturn, 1) := by decide +kernel
set_option maxRecDepth 20000 in
theorem ggX4_buildRows_X3_build : GoodIn wsX4_buildRows wsX3_build := goodIn_r _ [7, 8, 9, 10, 11, 12, 13, 14, 15, 6, 16, 17, 18, 19, 20, 21, 22, 23, 24, 25, 26, 27, 28, 29, 30, 31, 32, 33, 45, 46, 47, 48, 49, 50, 51, 52, 53, 54, 55, 56, 57] (by decide +kernel) (by decide +kernel)
set_option maxRecDepth 20000 in
theorem gX4_buildRows_X3_build : GoodIn wsX4_buildRows (wsV RX4 215 RX3 yX3_build wsX3_build) := goodIn_app (goodIn_of _ (by decide +kernel)) ggX4_buildRows_X3_build
theorem dX4_buildRows_0 : decode cX4_buildRows 0 = .ok (.aload_n 0, 1) := by decide +kernel
theorem dX4_buildRows_1 : decode cX4_buildRows 1 = .ok (.getfield 41, 3) := by decide +kernel
theorem dX4_buildRows_4 : decode cX4_buildRows 4 = .ok (.invokevirtual 215, 3) := by decide +kernel
theorem dX4_buildRows_7 : decode cX4_buildRows 7 = .ok (.aload_n 0, 1) := by decide +kernel
theorem dX4_buildRows_8 : decode cX4_buildRows 8 = .ok (.getfield 45, 3) := by decide +kernel
theorem dX4_buildRows_11 : decode cX4_buildRows 11 = .ok (.invokevirtual 215, 3) := by decide +kernel
theorem dX4_buildRows_14 : decode cX4_buildRows 14 = .ok (.return_, 1) := by decide +kernel
set_option maxRecDepth 20000 in
theorem ggX4_arcInRow_X4_isNode : GoodIn wsX4_arcInRow wsX4_isNode := goodIn_r _ [7, 8, 34, 35, 36, 37, 38, 39, 40, 41, 42, 43, 44] (by decide +kernel) (by decide +kernel)
set_option maxRecDepth 20000 in
theorem gX4_arcInRow_X4_isNode : GoodIn wsX4_arcInRow (wsV RX4 78 RX4 yX4_isNode wsX4_isNode) := goodIn_app (goodIn_of _ (by decide +kernel)) ggX4_arcInRow_X4_isNode
set_option maxRecDepth 20000 in
theorem ggX4_arcInRow_X3_rowLength : GoodIn wsX4_arcInRow wsX3_rowLength := goodIn_r _ [13, 14, 45, 46, 47, 48, 49, 50, 51, 52] (by decide +kernel) (by decide +kernel)
set_option maxRecDepth 20000 in
theorem gX4_arcInRow_X3_rowLength : GoodIn wsX4_arcInRow (wsV RX4 225 RX3 yX3_rowLength wsX3_rowLength) := goodIn_app (goodIn_of _ (by decide +kernel)) ggX4_arcInRow_X3_rowLength
set_option maxRecDepth 20000 in
theorem ggX4_arcInRow_X3_arcAt : GoodIn wsX4_arcInRow wsX3_arcAt := goodIn_r _ [18, 19, 14, 20, 21, 22, 10, 11, 12, 13, 23, 24, 25, 26, 27, 28, 29, 30, 31, 32, 33, 45, 46, 47, 48, 49, 50, 51, 52, 53, 54, 55, 56, 57] (by decide +kernel) (by decide +kernel)
set_option maxRecDepth 20000 in
theorem gX4_arcInRow_X3_arcAt : GoodIn wsX4_arcInRow (wsV RX4 182 RX3 yX3_arcAt wsX3_arcAt) := goodIn_app (goodIn_of _ (by decide +kernel)) ggX4_arcInRow_X3_arcAt
theorem dX4_arcInRow_0 : decode cX4_arcInRow 0 = .ok (.aload_n 0, 1) := by decide +kernel
theorem dX4_arcInRow_1 : decode cX4_arcInRow 1 = .ok (.iload_n 2, 1) := by decide +kernel
theorem dX4_arcInRow_2 : decode cX4_arcInRow 2 = .ok (.invokevirtual 78, 3) := by decide +kernel
theorem dX4_arcInRow_5 : decode cX4_arcInRow 5 = .ok (.ifCond .ne 13, 3) := by decide +kernel
theorem dX4_arcInRow_8 : decode cX4_arcInRow 8 = .ok (.new 218, 3) := by decide +kernel
theorem dX4_arcInRow_11 : decode cX4_arcInRow 11 = .ok (.dup, 1) := by decide +kernel
theorem dX4_arcInRow_12 : decode cX4_arcInRow 12 = .ok (.ldc 220, 2) := by decide +kernel
theorem dX4_arcInRow_14 : decode cX4_arcInRow 14 = .ok (.invokespecial 222, 3) := by decide +kernel
theorem dX4_arcInRow_17 : decode cX4_arcInRow 17 = .ok (.athrow, 1) := by decide +kernel
theorem dX4_arcInRow_18 : decode cX4_arcInRow 18 = .ok (.iload_n 3, 1) := by decide +kernel
theorem dX4_arcInRow_19 : decode cX4_arcInRow 19 = .ok (.ifCond .lt 12, 3) := by decide +kernel
theorem dX4_arcInRow_22 : decode cX4_arcInRow 22 = .ok (.iload_n 3, 1) := by decide +kernel
theorem dX4_arcInRow_23 : decode cX4_arcInRow 23 = .ok (.aload_n 1, 1) := by decide +kernel
theorem dX4_arcInRow_24 : decode cX4_arcInRow 24 = .ok (.iload_n 2, 1) := by decide +kernel
theorem dX4_arcInRow_25 : decode cX4_arcInRow 25 = .ok (.invokevirtual 225, 3) := by decide +kernel
theorem dX4_arcInRow_28 : decode cX4_arcInRow 28 = .ok (.if_icmp .lt 13, 3) := by decide +kernel
theorem dX4_arcInRow_31 : decode cX4_arcInRow 31 = .ok (.new 218, 3) := by decide +kernel
theorem dX4_arcInRow_34 : decode cX4_arcInRow 34 = .ok (.dup, 1) := by decide +kernel
theorem dX4_arcInRow_35 : decode cX4_arcInRow 35 = .ok (.ldc 228, 2) := by decide +kernel
theorem dX4_arcInRow_37 : decode cX4_arcInRow 37 = .ok (.invokespecial 222, 3) := by decide +kernel
theorem dX4_arcInRow_40 : decode cX4_arcInRow 40 = .ok (.athrow, 1) := by decide +kernel
theorem dX4_arcInRow_41 : decode cX4_arcInRow 41 = .ok (.aload_n 1, 1) := by decide +kernel
theorem dX4_arcInRow_42 : decode cX4_arcInRow 42 = .ok (.iload_n 2, 1) := by decide +kernel
theorem dX4_arcInRow_43 : decode cX4_arcInRow 43 = .ok (.iload_n 3, 1) := by decide +kernel
theorem dX4_arcInRow_44 : decode cX4_arcInRow 44 = .ok (.invokevirtual 182, 3) := by decide +kernel
theorem dX4_arcInRow_47 : decode cX4_arcInRow 47 = .ok (.ireturn, 1) := by decide +kernel
set_option maxRecDepth 20000 in
theorem ggX4_stepOnFrom_X0_isLive : GoodIn wsX4_stepOnFrom wsX0_isLive := goodIn_r _ [10, 11, 12, 13, 14, 15, 9, 16, 17, 29, 30, 31, 32, 33] (by decide +kernel) (by decide +kernel)
set_option maxRecDepth 20000 in
theorem gX4_stepOnFrom_X0_isLive : GoodIn wsX4_stepOnFrom (wsV RX4 230 RX0 yX0_isLive wsX0_isLive) := goodIn_app (goodIn_of _ (by decide +kernel)) ggX4_stepOnFrom_X0_isLive
theorem dX4_stepOnFrom_0 : decode cX4_stepOnFrom 0 = .ok (.iconst 0, 1) := by decide +kernel
theorem dX4_stepOnFrom_1 : decode cX4_stepOnFrom 1 = .ok (.istore_n 2, 1) := by decide +kernel
theorem dX4_stepOnFrom_2 : decode cX4_stepOnFrom 2 = .ok (.iload_n 2, 1) := by decide +kernel
theorem dX4_stepOnFrom_3 : decode cX4_stepOnFrom 3 = .ok (.aload_n 0, 1) := by decide +kernel
theorem dX4_stepOnFrom_4 : decode cX4_stepOnFrom 4 = .ok (.getfield 25, 3) := by decide +kernel
theorem dX4_stepOnFrom_7 : decode cX4_stepOnFrom 7 = .ok (.getfield 94, 3) := by decide +kernel
theorem dX4_stepOnFrom_10 : decode cX4_stepOnFrom 10 = .ok (.if_icmp .ge 67, 3) := by decide +kernel
theorem dX4_stepOnFrom_13 : decode cX4_stepOnFrom 13 = .ok (.aload_n 0, 1) := by decide +kernel
theorem dX4_stepOnFrom_14 : decode cX4_stepOnFrom 14 = .ok (.getfield 25, 3) := by decide +kernel
theorem dX4_stepOnFrom_17 : decode cX4_stepOnFrom 17 = .ok (.getfield 35, 3) := by decide +kernel
theorem dX4_stepOnFrom_20 : decode cX4_stepOnFrom 20 = .ok (.iload_n 2, 1) := by decide +kernel
theorem dX4_stepOnFrom_21 : decode cX4_stepOnFrom 21 = .ok (.iaload, 1) := by decide +kernel
theorem dX4_stepOnFrom_22 : decode cX4_stepOnFrom 22 = .ok (.istore_n 3, 1) := by decide +kernel
theorem dX4_stepOnFrom_23 : decode cX4_stepOnFrom 23 = .ok (.aload_n 0, 1) := by decide +kernel
theorem dX4_stepOnFrom_24 : decode cX4_stepOnFrom 24 = .ok (.getfield 25, 3) := by decide +kernel
theorem dX4_stepOnFrom_27 : decode cX4_stepOnFrom 27 = .ok (.iload_n 2, 1) := by decide +kernel
theorem dX4_stepOnFrom_28 : decode cX4_stepOnFrom 28 = .ok (.invokevirtual 230, 3) := by decide +kernel
theorem dX4_stepOnFrom_31 : decode cX4_stepOnFrom 31 = .ok (.ifCond .eq 40, 3) := by decide +kernel
theorem dX4_stepOnFrom_34 : decode cX4_stepOnFrom 34 = .ok (.aload_n 0, 1) := by decide +kernel
theorem dX4_stepOnFrom_35 : decode cX4_stepOnFrom 35 = .ok (.getfield 68, 3) := by decide +kernel
theorem dX4_stepOnFrom_38 : decode cX4_stepOnFrom 38 = .ok (.aload_n 0, 1) := by decide +kernel
theorem dX4_stepOnFrom_39 : decode cX4_stepOnFrom 39 = .ok (.getfield 25, 3) := by decide +kernel
theorem dX4_stepOnFrom_42 : decode cX4_stepOnFrom 42 = .ok (.getfield 31, 3) := by decide +kernel
theorem dX4_stepOnFrom_45 : decode cX4_stepOnFrom 45 = .ok (.iload_n 2, 1) := by decide +kernel
theorem dX4_stepOnFrom_46 : decode cX4_stepOnFrom 46 = .ok (.iaload, 1) := by decide +kernel
theorem dX4_stepOnFrom_47 : decode cX4_stepOnFrom 47 = .ok (.iaload, 1) := by decide +kernel
theorem dX4_stepOnFrom_48 : decode cX4_stepOnFrom 48 = .ok (.iload_n 1, 1) := by decide +kernel
theorem dX4_stepOnFrom_49 : decode cX4_stepOnFrom 49 = .ok (.if_icmp .ne 22, 3) := by decide +kernel
theorem dX4_stepOnFrom_52 : decode cX4_stepOnFrom 52 = .ok (.aload_n 0, 1) := by decide +kernel
theorem dX4_stepOnFrom_53 : decode cX4_stepOnFrom 53 = .ok (.getfield 68, 3) := by decide +kernel
theorem dX4_stepOnFrom_56 : decode cX4_stepOnFrom 56 = .ok (.iload_n 3, 1) := by decide +kernel
theorem dX4_stepOnFrom_57 : decode cX4_stepOnFrom 57 = .ok (.iaload, 1) := by decide +kernel
theorem dX4_stepOnFrom_58 : decode cX4_stepOnFrom 58 = .ok (.iconst (-1), 1) := by decide +kernel
theorem dX4_stepOnFrom_59 : decode cX4_stepOnFrom 59 = .ok (.if_icmp .ne 12, 3) := by decide +kernel
theorem dX4_stepOnFrom_62 : decode cX4_stepOnFrom 62 = .ok (.aload_n 0, 1) := by decide +kernel
theorem dX4_stepOnFrom_63 : decode cX4_stepOnFrom 63 = .ok (.getfield 68, 3) := by decide +kernel
theorem dX4_stepOnFrom_66 : decode cX4_stepOnFrom 66 = .ok (.iload_n 3, 1) := by decide +kernel
theorem dX4_stepOnFrom_67 : decode cX4_stepOnFrom 67 = .ok (.iload_n 1, 1) := by decide +kernel
theorem dX4_stepOnFrom_68 : decode cX4_stepOnFrom 68 = .ok (.iconst 1, 1) := by decide +kernel
theorem dX4_stepOnFrom_69 : decode cX4_stepOnFrom 69 = .ok (.iadd, 1) := by decide +kernel
theorem dX4_stepOnFrom_70 : decode cX4_stepOnFrom 70 = .ok (.iastore, 1) := by decide +kernel
theorem dX4_stepOnFrom_71 : decode cX4_stepOnFrom 71 = .ok (.iinc 2 1, 3) := by decide +kernel
theorem dX4_stepOnFrom_74 : decode cX4_stepOnFrom 74 = .ok (.goto (-72), 3) := by decide +kernel
theorem dX4_stepOnFrom_77 : decode cX4_stepOnFrom 77 = .ok (.return_, 1) := by decide +kernel
set_option maxRecDepth 20000 in
theorem ggX4_lengthenWays_J7_fill_d0a16 : GoodIn wsX4_lengthenWays wsJ7_fill_d0a16 := goodIn_r _ [15] (by decide +kernel) (by decide +kernel)
set_option maxRecDepth 20000 in
theorem gX4_lengthenWays_J7_fill_d0a16 : GoodIn wsX4_lengthenWays (va_wsS RX4 149 yJ7_fill_d0a16 wsJ7_fill_d0a16) := goodIn_app (goodIn_of _ (by decide +kernel)) ggX4_lengthenWays_J7_fill_d0a16
set_option maxRecDepth 20000 in
theorem ggX4_lengthenWays_X0_isLive : GoodIn wsX4_lengthenWays wsX0_isLive := goodIn_r _ [20, 21, 22, 23, 24, 25, 19, 26, 27, 39, 40, 41, 42, 43] (by decide +kernel) (by decide +kernel)
set_option maxRecDepth 20000 in
theorem gX4_lengthenWays_X0_isLive : GoodIn wsX4_lengthenWays (wsV RX4 230 RX0 yX0_isLive wsX0_isLive) := goodIn_app (goodIn_of _ (by decide +kernel)) ggX4_lengthenWays_X0_isLive
theorem dX4_lengthenWays_0 : decode cX4_lengthenWays 0 = .ok (.aload_n 0, 1) := by decide +kernel
theorem dX4_lengthenWays_1 : decode cX4_lengthenWays 1 = .ok (.getfield 75, 3) := by decide +kernel
theorem dX4_lengthenWays_4 : decode cX4_lengthenWays 4 = .ok (.lconst 0, 1) := by decide +kernel
theorem dX4_lengthenWays_5 : decode cX4_lengthenWays 5 = .ok (.invokestatic 149, 3) := by decide +kernel
theorem dX4_lengthenWays_8 : decode cX4_lengthenWays 8 = .ok (.iconst 0, 1) := by decide +kernel
theorem dX4_lengthenWays_9 : decode cX4_lengthenWays 9 = .ok (.istore_n 1, 1) := by decide +kernel
theorem dX4_lengthenWays_10 : decode cX4_lengthenWays 10 = .ok (.iload_n 1, 1) := by decide +kernel
theorem dX4_lengthenWays_11 : decode cX4_lengthenWays 11 = .ok (.aload_n 0, 1) := by decide +kernel
theorem dX4_lengthenWays_12 : decode cX4_lengthenWays 12 = .ok (.getfield 25, 3) := by decide +kernel
theorem dX4_lengthenWays_15 : decode cX4_lengthenWays 15 = .ok (.getfield 94, 3) := by decide +kernel
theorem dX4_lengthenWays_18 : decode cX4_lengthenWays 18 = .ok (.if_icmp .ge 51, 3) := by decide +kernel
theorem dX4_lengthenWays_21 : decode cX4_lengthenWays 21 = .ok (.aload_n 0, 1) := by decide +kernel
theorem dX4_lengthenWays_22 : decode cX4_lengthenWays 22 = .ok (.getfield 25, 3) := by decide +kernel
theorem dX4_lengthenWays_25 : decode cX4_lengthenWays 25 = .ok (.iload_n 1, 1) := by decide +kernel
theorem dX4_lengthenWays_26 : decode cX4_lengthenWays 26 = .ok (.invokevirtual 230, 3) := by decide +kernel
theorem dX4_lengthenWays_29 : decode cX4_lengthenWays 29 = .ok (.ifCond .eq 34, 3) := by decide +kernel
theorem dX4_lengthenWays_32 : decode cX4_lengthenWays 32 = .ok (.aload_n 0, 1) := by decide +kernel
theorem dX4_lengthenWays_33 : decode cX4_lengthenWays 33 = .ok (.getfield 75, 3) := by decide +kernel
theorem dX4_lengthenWays_36 : decode cX4_lengthenWays 36 = .ok (.aload_n 0, 1) := by decide +kernel
theorem dX4_lengthenWays_37 : decode cX4_lengthenWays 37 = .ok (.getfield 25, 3) := by decide +kernel
theorem dX4_lengthenWays_40 : decode cX4_lengthenWays 40 = .ok (.getfield 35, 3) := by decide +kernel
theorem dX4_lengthenWays_43 : decode cX4_lengthenWays 43 = .ok (.iload_n 1, 1) := by decide +kernel
theorem dX4_lengthenWays_44 : decode cX4_lengthenWays 44 = .ok (.iaload, 1) := by decide +kernel
theorem dX4_lengthenWays_45 : decode cX4_lengthenWays 45 = .ok (.dup2, 1) := by decide +kernel
theorem dX4_lengthenWays_46 : decode cX4_lengthenWays 46 = .ok (.laload, 1) := by decide +kernel
theorem dX4_lengthenWays_47 : decode cX4_lengthenWays 47 = .ok (.aload_n 0, 1) := by decide +kernel
theorem dX4_lengthenWays_48 : decode cX4_lengthenWays 48 = .ok (.getfield 71, 3) := by decide +kernel
theorem dX4_lengthenWays_51 : decode cX4_lengthenWays 51 = .ok (.aload_n 0, 1) := by decide +kernel
theorem dX4_lengthenWays_52 : decode cX4_lengthenWays 52 = .ok (.getfield 25, 3) := by decide +kernel
theorem dX4_lengthenWays_55 : decode cX4_lengthenWays 55 = .ok (.getfield 31, 3) := by decide +kernel
theorem dX4_lengthenWays_58 : decode cX4_lengthenWays 58 = .ok (.iload_n 1, 1) := by decide +kernel
theorem dX4_lengthenWays_59 : decode cX4_lengthenWays 59 = .ok (.iaload, 1) := by decide +kernel
theorem dX4_lengthenWays_60 : decode cX4_lengthenWays 60 = .ok (.laload, 1) := by decide +kernel
theorem dX4_lengthenWays_61 : decode cX4_lengthenWays 61 = .ok (.ladd, 1) := by decide +kernel
theorem dX4_lengthenWays_62 : decode cX4_lengthenWays 62 = .ok (.lastore, 1) := by decide +kernel
theorem dX4_lengthenWays_63 : decode cX4_lengthenWays 63 = .ok (.iinc 1 1, 3) := by decide +kernel
theorem dX4_lengthenWays_66 : decode cX4_lengthenWays 66 = .ok (.goto (-56), 3) := by decide +kernel
theorem dX4_lengthenWays_69 : decode cX4_lengthenWays 69 = .ok (.aload_n 0, 1) := by decide +kernel
theorem dX4_lengthenWays_70 : decode cX4_lengthenWays 70 = .ok (.getfield 75, 3) := by decide +kernel
theorem dX4_lengthenWays_73 : decode cX4_lengthenWays 73 = .ok (.iconst 0, 1) := by decide +kernel
theorem dX4_lengthenWays_74 : decode cX4_lengthenWays 74 = .ok (.aload_n 0, 1) := by decide +kernel
theorem dX4_lengthenWays_75 : decode cX4_lengthenWays 75 = .ok (.getfield 71, 3) := by decide +kernel
theorem dX4_lengthenWays_78 : decode cX4_lengthenWays 78 = .ok (.iconst 0, 1) := by decide +kernel
theorem dX4_lengthenWays_79 : decode cX4_lengthenWays 79 = .ok (.aload_n 0, 1) := by decide +kernel
theorem dX4_lengthenWays_80 : decode cX4_lengthenWays 80 = .ok (.getfield 18, 3) := by decide +kernel
theorem dX4_lengthenWays_83 : decode cX4_lengthenWays 83 = .ok (.invokestatic 233, 3) := by decide +kernel
theorem dX4_lengthenWays_86 : decode cX4_lengthenWays 86 = .ok (.return_, 1) := by decide +kernel
end
section
theorem dX5_thrown_0 : decode cX5_thrown 0 = .ok (.aload_n 0, 1) := by decide +kernel
theorem dX5_thrown_1 : decode cX5_thrown 1 = .ok (.getfield 1, 3) := by decide +kernel
theorem dX5_thrown_4 : decode cX5_thrown 4 = .ok (.ireturn, 1) := by decide +kernel
theorem dX5_init_0 : decode cX5_init 0 = .ok (.aload_n 0, 1) := by decide +kernel
theorem dX5_init_1 : decode cX5_init 1 = .ok (.invokespecial 7, 3) := by decide +kernel
theorem dX5_init_4 : decode cX5_init 4 = .ok (.aload_n 0, 1) := by decide +kernel
theorem dX5_init_5 : decode cX5_init 5 = .ok (.sipush 160, 3) := by decide +kernel
theorem dX5_init_8 : decode cX5_init 8 = .ok (.newarray .int, 2) := by decide +kernel
theorem dX5_init_10 : decode cX5_init 10 = .ok (.putfield 13, 3) := by decide +kernel
theorem dX5_init_13 : decode cX5_init 13 = .ok (.aload_n 0, 1) := by decide +kernel
theorem dX5_init_14 : decode cX5_init 14 = .ok (.sipush 160, 3) := by decide +kernel
theorem dX5_init_17 : decode cX5_init 17 = .ok (.newarray .int, 2) := by decide +kernel
theorem dX5_init_19 : decode cX5_init 19 = .ok (.putfield 17, 3) := by decide +kernel
theorem dX5_init_22 : decode cX5_init 22 = .ok (.aload_n 0, 1) := by decide +kernel
theorem dX5_init_23 : decode cX5_init 23 = .ok (.sipush 160, 3) := by decide +kernel
theorem dX5_init_26 : decode cX5_init 26 = .ok (.newarray .int, 2) := by decide +kernel
theorem dX5_init_28 : decode cX5_init 28 = .ok (.putfield 20, 3) := by decide +kernel
theorem dX5_init_31 : decode cX5_init 31 = .ok (.aload_n 0, 1) := by decide +kernel
theorem dX5_init_32 : decode cX5_init 32 = .ok (.sipush 160, 3) := by decide +kernel
theorem dX5_init_35 : decode cX5_init 35 = .ok (.newarray .boolean, 2) := by decide +kernel
theorem dX5_init_37 : decode cX5_init 37 = .ok (.putfield 23, 3) := by decide +kernel
theorem dX5_init_40 : decode cX5_init 40 = .ok (.aload_n 0, 1) := by decide +kernel
theorem dX5_init_41 : decode cX5_init 41 = .ok (.sipush 160, 3) := by decide +kernel
theorem dX5_init_44 : decode cX5_init 44 = .ok (.newarray .int, 2) := by decide +kernel
theorem dX5_init_46 : decode cX5_init 46 = .ok (.putfield 27, 3) := by decide +kernel
theorem dX5_init_49 : decode cX5_init 49 = .ok (.aload_n 0, 1) := by decide +kernel
theorem dX5_init_50 : decode cX5_init 50 = .ok (.bipush 8, 2) := by decide +kernel
theorem dX5_init_52 : decode cX5_init 52 = .ok (.newarray .boolean, 2) := by decide +kernel
theorem dX5_init_54 : decode cX5_init 54 = .ok (.putfield 30, 3) := by decide +kernel
theorem dX5_init_57 : decode cX5_init 57 = .ok (.aload_n 0, 1) := by decide +kernel
theorem dX5_init_58 : decode cX5_init 58 = .ok (.bipush 8, 2) := by decide +kernel
theorem dX5_init_60 : decode cX5_init 60 = .ok (.newarray .boolean, 2) := by decide +kernel
theorem dX5_init_62 : decode cX5_init 62 = .ok (.putfield 33, 3) := by decide +kernel
theorem dX5_init_65 : decode cX5_init 65 = .ok (.aload_n 0, 1) := by decide +kernel
theorem dX5_init_66 : decode cX5_init 66 = .ok (.bipush 8, 2) := by decide +kernel
theorem dX5_init_68 : decode cX5_init 68 = .ok (.newarray .int, 2) := by decide +kernel
theorem dX5_init_70 : decode cX5_init 70 = .ok (.putfield 36, 3) := by decide +kernel
theorem dX5_init_73 : decode cX5_init 73 = .ok (.aload_n 0, 1) := by decide +kernel
theorem dX5_init_74 : decode cX5_init 74 = .ok (.bipush 8, 2) := by decide +kernel
theorem dX5_init_76 : decode cX5_init 76 = .ok (.newarray .boolean, 2) := by decide +kernel
theorem dX5_init_78 : decode cX5_init 78 = .ok (.putfield 39, 3) := by decide +kernel
theorem dX5_init_81 : decode cX5_init 81 = .ok (.aload_n 0, 1) := by decide +kernel
theorem dX5_init_82 : decode cX5_init 82 = .ok (.bipush 8, 2) := by decide +kernel
theorem dX5_init_84 : decode cX5_init 84 = .ok (.newarray .int, 2) := by decide +kernel
theorem dX5_init_86 : decode cX5_init 86 = .ok (.putfield 42, 3) := by decide +kernel
theorem dX5_init_89 : decode cX5_init 89 = .ok (.aload_n 0, 1) := by decide +kernel
theorem dX5_init_90 : decode cX5_init 90 = .ok (.bipush 8, 2) := by decide +kernel
theorem dX5_init_92 : decode cX5_init 92 = .ok (.newarray .int, 2) := by decide +kernel
theorem dX5_init_94 : decode cX5_init 94 = .ok (.putfield 45, 3) := by decide +kernel
theorem dX5_init_97 : decode cX5_init 97 = .ok (.aload_n 0, 1) := by decide +kernel
theorem dX5_init_98 : decode cX5_init 98 = .ok (.bipush 25, 2) := by decide +kernel
theorem dX5_init_100 : decode cX5_init 100 = .ok (.newarray .int, 2) := by decide +kernel
theorem dX5_init_102 : decode cX5_init 102 = .ok (.putfield 48, 3) := by decide +kernel
theorem dX5_init_105 : decode cX5_init 105 = .ok (.aload_n 0, 1) := by decide +kernel
theorem dX5_init_106 : decode cX5_init 106 = .ok (.sipush 160, 3) := by decide +kernel
theorem dX5_init_109 : decode cX5_init 109 = .ok (.newarray .int, 2) := by decide +kernel
theorem dX5_init_111 : decode cX5_init 111 = .ok (.putfield 51, 3) := by decide +kernel
theorem dX5_init_114 : decode cX5_init 114 = .ok (.aload_n 0, 1) := by decide +kernel
theorem dX5_init_115 : decode cX5_init 115 = .ok (.bipush 24, 2) := by decide +kernel
theorem dX5_init_117 : decode cX5_init 117 = .ok (.newarray .int, 2) := by decide +kernel
theorem dX5_init_119 : decode cX5_init 119 = .ok (.putfield 54, 3) := by decide +kernel
theorem dX5_init_122 : decode cX5_init 122 = .ok (.aload_n 0, 1) := by decide +kernel
theorem dX5_init_123 : decode cX5_init 123 = .ok (.bipush 24, 2) := by decide +kernel
theorem dX5_init_125 : decode cX5_init 125 = .ok (.newarray .long, 2) := by decide +kernel
theorem dX5_init_127 : decode cX5_init 127 = .ok (.putfield 57, 3) := by decide +kernel
theorem dX5_init_130 : decode cX5_init 130 = .ok (.aload_n 0, 1) := by decide +kernel
theorem dX5_init_131 : decode cX5_init 131 = .ok (.bipush 24, 2) := by decide +kernel
theorem dX5_init_133 : decode cX5_init 133 = .ok (.newarray .long, 2) := by decide +kernel
theorem dX5_init_135 : decode cX5_init 135 = .ok (.putfield 61, 3) := by decide +kernel
theorem dX5_init_138 : decode cX5_init 138 = .ok (.aload_n 0, 1) := by decide +kernel
theorem dX5_init_139 : decode cX5_init 139 = .ok (.iload_n 1, 1) := by decide +kernel
theorem dX5_init_140 : decode cX5_init 140 = .ok (.iconst 1, 1) := by decide +kernel
theorem dX5_init_141 : decode cX5_init 141 = .ok (.if_icmp .ge 7, 3) := by decide +kernel
theorem dX5_init_144 : decode cX5_init 144 = .ok (.iconst 1, 1) := by decide +kernel
theorem dX5_init_145 : decode cX5_init 145 = .ok (.goto 15, 3) := by decide +kernel
theorem dX5_init_148 : decode cX5_init 148 = .ok (.iload_n 1, 1) := by decide +kernel
theorem dX5_init_149 : decode cX5_init 149 = .ok (.bipush 24, 2) := by decide +kernel
theorem dX5_init_151 : decode cX5_init 151 = .ok (.if_icmp .le 8, 3) := by decide +kernel
theorem dX5_init_154 : decode cX5_init 154 = .ok (.bipush 24, 2) := by decide +kernel
theorem dX5_init_156 : decode cX5_init 156 = .ok (.goto 4, 3) := by decide +kernel
theorem dX5_init_159 : decode cX5_init 159 = .ok (.iload_n 1, 1) := by decide +kernel
theorem dX5_init_160 : decode cX5_init 160 = .ok (.putfield 64, 3) := by decide +kernel
theorem dX5_init_163 : decode cX5_init 163 = .ok (.return_, 1) := by decide +kernel
theorem dX5_isNode_0 : decode cX5_isNode 0 = .ok (.iload_n 1, 1) := by decide +kernel
theorem dX5_isNode_1 : decode cX5_isNode 1 = .ok (.ifCond .lt 15, 3) := by decide +kernel
theorem dX5_isNode_4 : decode cX5_isNode 4 = .ok (.iload_n 1, 1) := by decide +kernel
theorem dX5_isNode_5 : decode cX5_isNode 5 = .ok (.aload_n 0, 1) := by decide +kernel
theorem dX5_isNode_6 : decode cX5_isNode 6 = .ok (.getfield 64, 3) := by decide +kernel
theorem dX5_isNode_9 : decode cX5_isNode 9 = .ok (.if_icmp .ge 7, 3) := by decide +kernel
theorem dX5_isNode_12 : decode cX5_isNode 12 = .ok (.iconst 1, 1) := by decide +kernel
theorem dX5_isNode_13 : decode cX5_isNode 13 = .ok (.goto 4, 3) := by decide +kernel
theorem dX5_isNode_16 : decode cX5_isNode 16 = .ok (.iconst 0, 1) := by decide +kernel
theorem dX5_isNode_17 : decode cX5_isNode 17 = .ok (.ireturn, 1) := by decide +kernel
theorem dX5_isArc_0 : decode cX5_isArc 0 = .ok (.iload_n 1, 1) := by decide +kernel
theorem dX5_isArc_1 : decode cX5_isArc 1 = .ok (.ifCond .lt 15, 3) := by decide +kernel
theorem dX5_isArc_4 : decode cX5_isArc 4 = .ok (.iload_n 1, 1) := by decide +kernel
theorem dX5_isArc_5 : decode cX5_isArc 5 = .ok (.aload_n 0, 1) := by decide +kernel
theorem dX5_isArc_6 : decode cX5_isArc 6 = .ok (.getfield 67, 3) := by decide +kernel
theorem dX5_isArc_9 : decode cX5_isArc 9 = .ok (.if_icmp .ge 7, 3) := by decide +kernel
theorem dX5_isArc_12 : decode cX5_isArc 12 = .ok (.iconst 1, 1) := by decide +kernel
theorem dX5_isArc_13 : decode cX5_isArc 13 = .ok (.goto 4, 3) := by decide +kernel
theorem dX5_isArc_16 : decode cX5_isArc 16 = .ok (.iconst 0, 1) := by decide +kernel
theorem dX5_isArc_17 : decode cX5_isArc 17 = .ok (.ireturn, 1) := by decide +kernel
set_option maxRecDepth 20000 in
theorem ggX5_arc_X5_isNode : GoodIn wsX5_arc wsX5_isNode := goodIn_r _ [11, 12, 13, 14, 15, 16, 17, 18, 19, 20, 21, 22, 23, 24, 25, 26, 27, 28, 29, 30, 31, 32] (by decide +kernel) (by decide +kernel)
set_option maxRecDepth 20000 in
theorem gX5_arc_X5_isNode : GoodIn wsX5_arc (wsV RX5 70 RX5 yX5_isNode wsX5_isNode) := goodIn_app (goodIn_of _ (by decide +kernel)) ggX5_arc_X5_isNode
theorem dX5_arc_0 : decode cX5_arc 0 = .ok (.aload_n 0, 1) := by decide +kernel
theorem dX5_arc_1 : decode cX5_arc 1 = .ok (.iconst 0, 1) := by decide +kernel
theorem dX5_arc_2 : decode cX5_arc 2 = .ok (.putfield 1, 3) := by decide +kernel
theorem dX5_arc_5 : decode cX5_arc 5 = .ok (.aload_n 0, 1) := by decide +kernel
theorem dX5_arc_6 : decode cX5_arc 6 = .ok (.iload_n 1, 1) := by decide +kernel
theorem dX5_arc_7 : decode cX5_arc 7 = .ok (.invokevirtual 70, 3) := by decide +kernel
theorem dX5_arc_10 : decode cX5_arc 10 = .ok (.ifCond .eq 11, 3) := by decide +kernel
theorem dX5_arc_13 : decode cX5_arc 13 = .ok (.aload_n 0, 1) := by decide +kernel
theorem dX5_arc_14 : decode cX5_arc 14 = .ok (.iload_n 2, 1) := by decide +kernel
theorem dX5_arc_15 : decode cX5_arc 15 = .ok (.invokevirtual 70, 3) := by decide +kernel
theorem dX5_arc_18 : decode cX5_arc 18 = .ok (.ifCond .ne 6, 3) := by decide +kernel
theorem dX5_arc_21 : decode cX5_arc 21 = .ok (.bipush (-2), 2) := by decide +kernel
theorem dX5_arc_23 : decode cX5_arc 23 = .ok (.ireturn, 1) := by decide +kernel
theorem dX5_arc_24 : decode cX5_arc 24 = .ok (.aload_n 0, 1) := by decide +kernel
theorem dX5_arc_25 : decode cX5_arc 25 = .ok (.getfield 67, 3) := by decide +kernel
theorem dX5_arc_28 : decode cX5_arc 28 = .ok (.sipush 160, 3) := by decide +kernel
theorem dX5_arc_31 : decode cX5_arc 31 = .ok (.if_icmp .ne 6, 3) := by decide +kernel
theorem dX5_arc_34 : decode cX5_arc 34 = .ok (.bipush (-6), 2) := by decide +kernel
theorem dX5_arc_36 : decode cX5_arc 36 = .ok (.ireturn, 1) := by decide +kernel
theorem dX5_arc_37 : decode cX5_arc 37 = .ok (.aload_n 0, 1) := by decide +kernel
theorem dX5_arc_38 : decode cX5_arc 38 = .ok (.getfield 13, 3) := by decide +kernel
theorem dX5_arc_41 : decode cX5_arc 41 = .ok (.aload_n 0, 1) := by decide +kernel
theorem dX5_arc_42 : decode cX5_arc 42 = .ok (.getfield 67, 3) := by decide +kernel
theorem dX5_arc_45 : decode cX5_arc 45 = .ok (.iload_n 1, 1) := by decide +kernel
theorem dX5_arc_46 : decode cX5_arc 46 = .ok (.iastore, 1) := by decide +kernel
theorem dX5_arc_47 : decode cX5_arc 47 = .ok (.aload_n 0, 1) := by decide +kernel
theorem dX5_arc_48 : decode cX5_arc 48 = .ok (.getfield 17, 3) := by decide +kernel
theorem dX5_arc_51 : decode cX5_arc 51 = .ok (.aload_n 0, 1) := by decide +kernel
theorem dX5_arc_52 : decode cX5_arc 52 = .ok (.getfield 67, 3) := by decide +kernel
theorem dX5_arc_55 : decode cX5_arc 55 = .ok (.iload_n 2, 1) := by decide +kernel
theorem dX5_arc_56 : decode cX5_arc 56 = .ok (.iastore, 1) := by decide +kernel
theorem dX5_arc_57 : decode cX5_arc 57 = .ok (.aload_n 0, 1) := by decide +kernel
theorem dX5_arc_58 : decode cX5_arc 58 = .ok (.getfield 20, 3) := by decide +kernel
theorem dX5_arc_61 : decode cX5_arc 61 = .ok (.aload_n 0, 1) := by decide +kernel
theorem dX5_arc_62 : decode cX5_arc 62 = .ok (.getfield 67, 3) := by decide +kernel
theorem dX5_arc_65 : decode cX5_arc 65 = .ok (.iconst 0, 1) := by decide +kernel
theorem dX5_arc_66 : decode cX5_arc 66 = .ok (.iastore, 1) := by decide +kernel
theorem dX5_arc_67 : decode cX5_arc 67 = .ok (.aload_n 0, 1) := by decide +kernel
theorem dX5_arc_68 : decode cX5_arc 68 = .ok (.getfield 23, 3) := by decide +kernel
theorem dX5_arc_71 : decode cX5_arc 71 = .ok (.aload_n 0, 1) := by decide +kernel
theorem dX5_arc_72 : decode cX5_arc 72 = .ok (.getfield 67, 3) := by decide +kernel
theorem dX5_arc_75 : decode cX5_arc 75 = .ok (.iconst 0, 1) := by decide +kernel
theorem dX5_arc_76 : decode cX5_arc 76 = .ok (.bastore, 1) := by decide +kernel
theorem dX5_arc_77 : decode cX5_arc 77 = .ok (.aload_n 0, 1) := by decide +kernel
theorem dX5_arc_78 : decode cX5_arc 78 = .ok (.dup, 1) := by decide +kernel
theorem dX5_arc_79 : decode cX5_arc 79 = .ok (.getfield 67, 3) := by decide +kernel
theorem dX5_arc_82 : decode cX5_arc 82 = .ok (.iconst 1, 1) := by decide +kernel
theorem dX5_arc_83 : decode cX5_arc 83 = .ok (.iadd, 1) := by decide +kernel
theorem dX5_arc_84 : decode cX5_arc 84 = .ok (.putfield 67, 3) := by decide +kernel
theorem dX5_arc_87 : decode cX5_arc 87 = .ok (.aload_n 0, 1) := by decide +kernel
theorem dX5_arc_88 : decode cX5_arc 88 = .ok (.getfield 67, 3) := by decide +kernel
theorem dX5_arc_91 : decode cX5_arc 91 = .ok (.iconst 1, 1) := by decide +kernel
theorem dX5_arc_92 : decode cX5_arc 92 = .ok (.isub, 1) := by decide +kernel
theorem dX5_arc_93 : decode cX5_arc 93 = .ok (.ireturn, 1) := by decide +kernel
set_option maxRecDepth 20000 in
theorem ggX5_take_X5_isArc : GoodIn wsX5_take wsX5_isArc := goodIn_r _ [8, 9, 10, 11, 12, 13, 14, 15, 16, 17, 18, 19, 20, 21, 22, 23, 24, 25, 26, 27, 28, 29] (by decide +kernel) (by decide +kernel)
set_option maxRecDepth 20000 in
theorem gX5_take_X5_isArc : GoodIn wsX5_take (wsV RX5 74 RX5 yX5_isArc wsX5_isArc) := goodIn_app (goodIn_of _ (by decide +kernel)) ggX5_take_X5_isArc
theorem dX5_take_0 : decode cX5_take 0 = .ok (.aload_n 0, 1) := by decide +kernel
theorem dX5_take_1 : decode cX5_take 1 = .ok (.iconst 0, 1) := by decide +kernel
theorem dX5_take_2 : decode cX5_take 2 = .ok (.putfield 1, 3) := by decide +kernel
theorem dX5_take_5 : decode cX5_take 5 = .ok (.aload_n 0, 1) := by decide +kernel
theorem dX5_take_6 : decode cX5_take 6 = .ok (.iload_n 1, 1) := by decide +kernel
theorem dX5_take_7 : decode cX5_take 7 = .ok (.invokevirtual 74, 3) := by decide +kernel
theorem dX5_take_10 : decode cX5_take 10 = .ok (.ifCond .ne 6, 3) := by decide +kernel
theorem dX5_take_13 : decode cX5_take 13 = .ok (.bipush (-2), 2) := by decide +kernel
theorem dX5_take_15 : decode cX5_take 15 = .ok (.ireturn, 1) := by decide +kernel
theorem dX5_take_16 : decode cX5_take 16 = .ok (.aload_n 0, 1) := by decide +kernel
theorem dX5_take_17 : decode cX5_take 17 = .ok (.getfield 20, 3) := by decide +kernel
theorem dX5_take_20 : decode cX5_take 20 = .ok (.iload_n 1, 1) := by decide +kernel
theorem dX5_take_21 : decode cX5_take 21 = .ok (.iaload, 1) := by decide +kernel
theorem dX5_take_22 : decode cX5_take 22 = .ok (.iconst 2, 1) := by decide +kernel
theorem dX5_take_23 : decode cX5_take 23 = .ok (.if_icmp .ne 6, 3) := by decide +kernel
theorem dX5_take_26 : decode cX5_take 26 = .ok (.bipush (-5), 2) := by decide +kernel
theorem dX5_take_28 : decode cX5_take 28 = .ok (.ireturn, 1) := by decide +kernel
theorem dX5_take_29 : decode cX5_take 29 = .ok (.aload_n 0, 1) := by decide +kernel
theorem dX5_take_30 : decode cX5_take 30 = .ok (.getfield 23, 3) := by decide +kernel
theorem dX5_take_33 : decode cX5_take 33 = .ok (.iload_n 1, 1) := by decide +kernel
theorem dX5_take_34 : decode cX5_take 34 = .ok (.baload, 1) := by decide +kernel
theorem dX5_take_35 : decode cX5_take 35 = .ok (.ifCond .eq 7, 3) := by decide +kernel
theorem dX5_take_38 : decode cX5_take 38 = .ok (.iconst 0, 1) := by decide +kernel
theorem dX5_take_39 : decode cX5_take 39 = .ok (.goto 4, 3) := by decide +kernel
theorem dX5_take_42 : decode cX5_take 42 = .ok (.iconst 1, 1) := by decide +kernel
theorem dX5_take_43 : decode cX5_take 43 = .ok (.istore_n 2, 1) := by decide +kernel
theorem dX5_take_44 : decode cX5_take 44 = .ok (.aload_n 0, 1) := by decide +kernel
theorem dX5_take_45 : decode cX5_take 45 = .ok (.getfield 23, 3) := by decide +kernel
theorem dX5_take_48 : decode cX5_take 48 = .ok (.iload_n 1, 1) := by decide +kernel
theorem dX5_take_49 : decode cX5_take 49 = .ok (.iconst 1, 1) := by decide +kernel
theorem dX5_take_50 : decode cX5_take 50 = .ok (.bastore, 1) := by decide +kernel
theorem dX5_take_51 : decode cX5_take 51 = .ok (.iload_n 2, 1) := by decide +kernel
theorem dX5_take_52 : decode cX5_take 52 = .ok (.ireturn, 1) := by decide +kernel
set_option maxRecDepth 20000 in
theorem ggX5_untake_X5_isArc : GoodIn wsX5_untake wsX5_isArc := goodIn_r _ [8, 9, 10, 11, 12, 13, 14, 15, 16, 17, 18, 19, 20, 21, 22, 23, 24, 25, 26, 27, 28, 29] (by decide +kernel) (by decide +kernel)
set_option maxRecDepth 20000 in
theorem gX5_untake_X5_isArc : GoodIn wsX5_untake (wsV RX5 74 RX5 yX5_isArc wsX5_isArc) := goodIn_app (goodIn_of _ (by decide +kernel)) ggX5_untake_X5_isArc
theorem dX5_untake_0 : decode cX5_untake 0 = .ok (.aload_n 0, 1) := by decide +kernel
theorem dX5_untake_1 : decode cX5_untake 1 = .ok (.iconst 0, 1) := by decide +kernel
theorem dX5_untake_2 : decode cX5_untake 2 = .ok (.putfield 1, 3) := by decide +kernel
theorem dX5_untake_5 : decode cX5_untake 5 = .ok (.aload_n 0, 1) := by decide +kernel
theorem dX5_untake_6 : decode cX5_untake 6 = .ok (.iload_n 1, 1) := by decide +kernel
theorem dX5_untake_7 : decode cX5_untake 7 = .ok (.invokevirtual 74, 3) := by decide +kernel
theorem dX5_untake_10 : decode cX5_untake 10 = .ok (.ifCond .ne 6, 3) := by decide +kernel
theorem dX5_untake_13 : decode cX5_untake 13 = .ok (.bipush (-2), 2) := by decide +kernel
theorem dX5_untake_15 : decode cX5_untake 15 = .ok (.ireturn, 1) := by decide +kernel
theorem dX5_untake_16 : decode cX5_untake 16 = .ok (.aload_n 0, 1) := by decide +kernel
theorem dX5_untake_17 : decode cX5_untake 17 = .ok (.getfield 20, 3) := by decide +kernel
theorem dX5_untake_20 : decode cX5_untake 20 = .ok (.iload_n 1, 1) := by decide +kernel
theorem dX5_untake_21 : decode cX5_untake 21 = .ok (.iaload, 1) := by decide +kernel
theorem dX5_untake_22 : decode cX5_untake 22 = .ok (.iconst 2, 1) := by decide +kernel
theorem dX5_untake_23 : decode cX5_untake 23 = .ok (.if_icmp .ne 6, 3) := by decide +kernel
theorem dX5_untake_26 : decode cX5_untake 26 = .ok (.bipush (-5), 2) := by decide +kernel
theorem dX5_untake_28 : decode cX5_untake 28 = .ok (.ireturn, 1) := by decide +kernel
theorem dX5_untake_29 : decode cX5_untake 29 = .ok (.aload_n 0, 1) := by decide +kernel
theorem dX5_untake_30 : decode cX5_untake 30 = .ok (.getfield 23, 3) := by decide +kernel
theorem dX5_untake_33 : decode cX5_untake 33 = .ok (.iload_n 1, 1) := by decide +kernel
theorem dX5_untake_34 : decode cX5_untake 34 = .ok (.baload, 1) := by decide +kernel
theorem dX5_untake_35 : decode cX5_untake 35 = .ok (.ifCond .eq 7, 3) := by decide +kernel
theorem dX5_untake_38 : decode cX5_untake 38 = .ok (.iconst 1, 1) := by decide +kernel
theorem dX5_untake_39 : decode cX5_untake 39 = .ok (.goto 4, 3) := by decide +kernel
theorem dX5_untake_42 : decode cX5_untake 42 = .ok (.iconst 0, 1) := by decide +kernel
theorem dX5_untake_43 : decode cX5_untake 43 = .ok (.istore_n 2, 1) := by decide +kernel
theorem dX5_untake_44 : decode cX5_untake 44 = .ok (.aload_n 0, 1) := by decide +kernel
theorem dX5_untake_45 : decode cX5_untake 45 = .ok (.getfield 23, 3) := by decide +kernel
theorem dX5_untake_48 : decode cX5_untake 48 = .ok (.iload_n 1, 1) := by decide +kernel
theorem dX5_untake_49 : decode cX5_untake 49 = .ok (.iconst 0, 1) := by decide +kernel
theorem dX5_untake_50 : decode cX5_untake 50 = .ok (.bastore, 1) := by decide +kernel
theorem dX5_untake_51 : decode cX5_untake 51 = .ok (.iload_n 2, 1) := by decide +kernel
theorem dX5_untake_52 : decode cX5_untake 52 = .ok (.ireturn, 1) := by decide +kernel
theorem dX5_stale_0 : decode cX5_stale 0 = .ok (.iconst 0, 1) := by decide +kernel
theorem dX5_stale_1 : decode cX5_stale 1 = .ok (.istore_n 1, 1) := by decide +kernel
theorem dX5_stale_2 : decode cX5_stale 2 = .ok (.iload_n 1, 1) := by decide +kernel
theorem dX5_stale_3 : decode cX5_stale 3 = .ok (.bipush 8, 2) := by decide +kernel
theorem dX5_stale_5 : decode cX5_stale 5 = .ok (.if_icmp .ge 16, 3) := by decide +kernel
theorem dX5_stale_8 : decode cX5_stale 8 = .ok (.aload_n 0, 1) := by decide +kernel
theorem dX5_stale_9 : decode cX5_stale 9 = .ok (.getfield 33, 3) := by decide +kernel
theorem dX5_stale_12 : decode cX5_stale 12 = .ok (.iload_n 1, 1) := by decide +kernel
theorem dX5_stale_13 : decode cX5_stale 13 = .ok (.iconst 1, 1) := by decide +kernel
theorem dX5_stale_14 : decode cX5_stale 14 = .ok (.bastore, 1) := by decide +kernel
theorem dX5_stale_15 : decode cX5_stale 15 = .ok (.iinc 1 1, 3) := by decide +kernel
theorem dX5_stale_18 : decode cX5_stale 18 = .ok (.goto (-16), 3) := by decide +kernel
theorem dX5_stale_21 : decode cX5_stale 21 = .ok (.return_, 1) := by decide +kernel
set_option maxRecDepth 20000 in
theorem ggX5_merge_X5_stale : GoodIn wsX5_merge wsX5_stale := goodIn_r _ [9, 10, 11, 12, 13, 14, 15, 16, 17, 18, 19, 20, 21, 22, 23, 24, 25, 26, 27, 28, 29, 30] (by decide +kernel) (by decide +kernel)
set_option maxRecDepth 20000 in
theorem gX5_merge_X5_stale : GoodIn wsX5_merge (wsV RX5 77 RX5 yX5_stale wsX5_stale) := goodIn_app (goodIn_of _ (by decide +kernel)) ggX5_merge_X5_stale
theorem dX5_merge_0 : decode cX5_merge 0 = .ok (.aload_n 0, 1) := by decide +kernel
theorem dX5_merge_1 : decode cX5_merge 1 = .ok (.iconst 0, 1) := by decide +kernel
theorem dX5_merge_2 : decode cX5_merge 2 = .ok (.putfield 1, 3) := by decide +kernel
theorem dX5_merge_5 : decode cX5_merge 5 = .ok (.iconst 0, 1) := by decide +kernel
theorem dX5_merge_6 : decode cX5_merge 6 = .ok (.istore_n 1, 1) := by decide +kernel
theorem dX5_merge_7 : decode cX5_merge 7 = .ok (.iconst 0, 1) := by decide +kernel
theorem dX5_merge_8 : decode cX5_merge 8 = .ok (.istore_n 2, 1) := by decide +kernel
theorem dX5_merge_9 : decode cX5_merge 9 = .ok (.iload_n 2, 1) := by decide +kernel
theorem dX5_merge_10 : decode cX5_merge 10 = .ok (.aload_n 0, 1) := by decide +kernel
theorem dX5_merge_11 : decode cX5_merge 11 = .ok (.getfield 67, 3) := by decide +kernel
theorem dX5_merge_14 : decode cX5_merge 14 = .ok (.if_icmp .ge 59, 3) := by decide +kernel
theorem dX5_merge_17 : decode cX5_merge 17 = .ok (.aload_n 0, 1) := by decide +kernel
theorem dX5_merge_18 : decode cX5_merge 18 = .ok (.getfield 20, 3) := by decide +kernel
theorem dX5_merge_21 : decode cX5_merge 21 = .ok (.iload_n 2, 1) := by decide +kernel
theorem dX5_merge_22 : decode cX5_merge 22 = .ok (.iaload, 1) := by decide +kernel
theorem dX5_merge_23 : decode cX5_merge 23 = .ok (.istore_n 3, 1) := by decide +kernel
theorem dX5_merge_24 : decode cX5_merge 24 = .ok (.aload_n 0, 1) := by decide +kernel
theorem dX5_merge_25 : decode cX5_merge 25 = .ok (.getfield 20, 3) := by decide +kernel
theorem dX5_merge_28 : decode cX5_merge 28 = .ok (.iload_n 2, 1) := by decide +kernel
theorem dX5_merge_29 : decode cX5_merge 29 = .ok (.iload_n 3, 1) := by decide +kernel
theorem dX5_merge_30 : decode cX5_merge 30 = .ok (.iconst 2, 1) := by decide +kernel
theorem dX5_merge_31 : decode cX5_merge 31 = .ok (.if_icmp .eq 12, 3) := by decide +kernel
theorem dX5_merge_34 : decode cX5_merge 34 = .ok (.aload_n 0, 1) := by decide +kernel
theorem dX5_merge_35 : decode cX5_merge 35 = .ok (.getfield 23, 3) := by decide +kernel
theorem dX5_merge_38 : decode cX5_merge 38 = .ok (.iload_n 2, 1) := by decide +kernel
theorem dX5_merge_39 : decode cX5_merge 39 = .ok (.baload, 1) := by decide +kernel
theorem dX5_merge_40 : decode cX5_merge 40 = .ok (.ifCond .eq 7, 3) := by decide +kernel
theorem dX5_merge_43 : decode cX5_merge 43 = .ok (.iconst 2, 1) := by decide +kernel
theorem dX5_merge_44 : decode cX5_merge 44 = .ok (.goto 4, 3) := by decide +kernel
theorem dX5_merge_47 : decode cX5_merge 47 = .ok (.iconst 1, 1) := by decide +kernel
theorem dX5_merge_48 : decode cX5_merge 48 = .ok (.iastore, 1) := by decide +kernel
theorem dX5_merge_49 : decode cX5_merge 49 = .ok (.iload_n 1, 1) := by decide +kernel
theorem dX5_merge_50 : decode cX5_merge 50 = .ok (.aload_n 0, 1) := by decide +kernel
theorem dX5_merge_51 : decode cX5_merge 51 = .ok (.getfield 20, 3) := by decide +kernel
theorem dX5_merge_54 : decode cX5_merge 54 = .ok (.iload_n 2, 1) := by decide +kernel
theorem dX5_merge_55 : decode cX5_merge 55 = .ok (.iaload, 1) := by decide +kernel
theorem dX5_merge_56 : decode cX5_merge 56 = .ok (.iload_n 3, 1) := by decide +kernel
theorem dX5_merge_57 : decode cX5_merge 57 = .ok (.if_icmp .eq 7, 3) := by decide +kernel
theorem dX5_merge_60 : decode cX5_merge 60 = .ok (.iconst 1, 1) := by decide +kernel
theorem dX5_merge_61 : decode cX5_merge 61 = .ok (.goto 4, 3) := by decide +kernel
theorem dX5_merge_64 : decode cX5_merge 64 = .ok (.iconst 0, 1) := by decide +kernel
theorem dX5_merge_65 : decode cX5_merge 65 = .ok (.iadd, 1) := by decide +kernel
theorem dX5_merge_66 : decode cX5_merge 66 = .ok (.istore_n 1, 1) := by decide +kernel
theorem dX5_merge_67 : decode cX5_merge 67 = .ok (.iinc 2 1, 3) := by decide +kernel
theorem dX5_merge_70 : decode cX5_merge 70 = .ok (.goto (-61), 3) := by decide +kernel
theorem dX5_merge_73 : decode cX5_merge 73 = .ok (.aload_n 0, 1) := by decide +kernel
theorem dX5_merge_74 : decode cX5_merge 74 = .ok (.invokevirtual 77, 3) := by decide +kernel
theorem dX5_merge_77 : decode cX5_merge 77 = .ok (.iload_n 1, 1) := by decide +kernel
theorem dX5_merge_78 : decode cX5_merge 78 = .ok (.ireturn, 1) := by decide +kernel
set_option maxRecDepth 20000 in
theorem ggX5_pack_X5_merge : GoodIn wsX5_pack wsX5_merge := goodIn_r _ [13, 1, 2, 4, 7, 14, 15, 16, 12, 17, 18, 19, 20, 21, 22, 23, 24, 25, 26, 27, 28, 29, 30, 31, 32, 33, 34, 35, 36, 37, 38] (by decide +kernel) (by decide +kernel)
set_option maxRecDepth 20000 in
theorem gX5_pack_X5_merge : GoodIn wsX5_pack (wsV RX5 80 RX5 yX5_merge wsX5_merge) := goodIn_app (goodIn_of _ (by decide +kernel)) ggX5_pack_X5_merge
theorem dX5_pack_0 : decode cX5_pack 0 = .ok (.aload_n 0, 1) := by decide +kernel
theorem dX5_pack_1 : decode cX5_pack 1 = .ok (.iconst 0, 1) := by decide +kernel
theorem dX5_pack_2 : decode cX5_pack 2 = .ok (.putfield 1, 3) := by decide +kernel
theorem dX5_pack_5 : decode cX5_pack 5 = .ok (.aload_n 0, 1) := by decide +kernel
theorem dX5_pack_6 : decode cX5_pack 6 = .ok (.invokevirtual 80, 3) := by decide +kernel
theorem dX5_pack_9 : decode cX5_pack 9 = .ok (.pop, 1) := by decide +kernel
theorem dX5_pack_10 : decode cX5_pack 10 = .ok (.iconst 0, 1) := by decide +kernel
theorem dX5_pack_11 : decode cX5_pack 11 = .ok (.istore_n 1, 1) := by decide +kernel
theorem dX5_pack_12 : decode cX5_pack 12 = .ok (.iconst 0, 1) := by decide +kernel
theorem dX5_pack_13 : decode cX5_pack 13 = .ok (.istore_n 2, 1) := by decide +kernel
theorem dX5_pack_14 : decode cX5_pack 14 = .ok (.iload_n 2, 1) := by decide +kernel
theorem dX5_pack_15 : decode cX5_pack 15 = .ok (.aload_n 0, 1) := by decide +kernel
theorem dX5_pack_16 : decode cX5_pack 16 = .ok (.getfield 67, 3) := by decide +kernel
theorem dX5_pack_19 : decode cX5_pack 19 = .ok (.if_icmp .ge 74, 3) := by decide +kernel
theorem dX5_pack_22 : decode cX5_pack 22 = .ok (.aload_n 0, 1) := by decide +kernel
theorem dX5_pack_23 : decode cX5_pack 23 = .ok (.getfield 27, 3) := by decide +kernel
theorem dX5_pack_26 : decode cX5_pack 26 = .ok (.iload_n 2, 1) := by decide +kernel
theorem dX5_pack_27 : decode cX5_pack 27 = .ok (.iconst (-1), 1) := by decide +kernel
theorem dX5_pack_28 : decode cX5_pack 28 = .ok (.iastore, 1) := by decide +kernel
theorem dX5_pack_29 : decode cX5_pack 29 = .ok (.aload_n 0, 1) := by decide +kernel
theorem dX5_pack_30 : decode cX5_pack 30 = .ok (.getfield 20, 3) := by decide +kernel
theorem dX5_pack_33 : decode cX5_pack 33 = .ok (.iload_n 2, 1) := by decide +kernel
theorem dX5_pack_34 : decode cX5_pack 34 = .ok (.iaload, 1) := by decide +kernel
theorem dX5_pack_35 : decode cX5_pack 35 = .ok (.iconst 2, 1) := by decide +kernel
theorem dX5_pack_36 : decode cX5_pack 36 = .ok (.if_icmp .eq 51, 3) := by decide +kernel
theorem dX5_pack_39 : decode cX5_pack 39 = .ok (.aload_n 0, 1) := by decide +kernel
theorem dX5_pack_40 : decode cX5_pack 40 = .ok (.getfield 27, 3) := by decide +kernel
theorem dX5_pack_43 : decode cX5_pack 43 = .ok (.iload_n 2, 1) := by decide +kernel
theorem dX5_pack_44 : decode cX5_pack 44 = .ok (.iload_n 1, 1) := by decide +kernel
theorem dX5_pack_45 : decode cX5_pack 45 = .ok (.iastore, 1) := by decide +kernel
theorem dX5_pack_46 : decode cX5_pack 46 = .ok (.aload_n 0, 1) := by decide +kernel
theorem dX5_pack_47 : decode cX5_pack 47 = .ok (.getfield 13, 3) := by decide +kernel
theorem dX5_pack_50 : decode cX5_pack 50 = .ok (.iload_n 1, 1) := by decide +kernel
theorem dX5_pack_51 : decode cX5_pack 51 = .ok (.aload_n 0, 1) := by decide +kernel
theorem dX5_pack_52 : decode cX5_pack 52 = .ok (.getfield 13, 3) := by decide +kernel
theorem dX5_pack_55 : decode cX5_pack 55 = .ok (.iload_n 2, 1) := by decide +kernel
theorem dX5_pack_56 : decode cX5_pack 56 = .ok (.iaload, 1) := by decide +kernel
theorem dX5_pack_57 : decode cX5_pack 57 = .ok (.iastore, 1) := by decide +kernel
theorem dX5_pack_58 : decode cX5_pack 58 = .ok (.aload_n 0, 1) := by decide +kernel
theorem dX5_pack_59 : decode cX5_pack 59 = .ok (.getfield 17, 3) := by decide +kernel
theorem dX5_pack_62 : decode cX5_pack 62 = .ok (.iload_n 1, 1) := by decide +kernel
theorem dX5_pack_63 : decode cX5_pack 63 = .ok (.aload_n 0, 1) := by decide +kernel
theorem dX5_pack_64 : decode cX5_pack 64 = .ok (.getfield 17, 3) := by decide +kernel
theorem dX5_pack_67 : decode cX5_pack 67 = .ok (.iload_n 2, 1) := by decide +kernel
theorem dX5_pack_68 : decode cX5_pack 68 = .ok (.iaload, 1) := by decide +kernel
theorem dX5_pack_69 : decode cX5_pack 69 = .ok (.iastore, 1) := by decide +kernel
theorem dX5_pack_70 : decode cX5_pack 70 = .ok (.aload_n 0, 1) := by decide +kernel
theorem dX5_pack_71 : decode cX5_pack 71 = .ok (.getfield 20, 3) := by decide +kernel
theorem dX5_pack_74 : decode cX5_pack 74 = .ok (.iload_n 1, 1) := by decide +kernel
theorem dX5_pack_75 : decode cX5_pack 75 = .ok (.iconst 1, 1) := by decide +kernel
theorem dX5_pack_76 : decode cX5_pack 76 = .ok (.iastore, 1) := by decide +kernel
theorem dX5_pack_77 : decode cX5_pack 77 = .ok (.aload_n 0, 1) := by decide +kernel
theorem dX5_pack_78 : decode cX5_pack 78 = .ok (.getfield 23, 3) := by decide +kernel
theorem dX5_pack_81 : decode cX5_pack 81 = .ok (.iload_n 1, 1) := by decide +kernel
theorem dX5_pack_82 : decode cX5_pack 82 = .ok (.iconst 0, 1) := by decide +kernel
theorem dX5_pack_83 : decode cX5_pack 83 = .ok (.bastore, 1) := by decide +kernel
theorem dX5_pack_84 : decode cX5_pack 84 = .ok (.iinc 1 1, 3) := by decide +kernel
theorem dX5_pack_87 : decode cX5_pack 87 = .ok (.iinc 2 1, 3) := by decide +kernel
theorem dX5_pack_90 : decode cX5_pack 90 = .ok (.goto (-76), 3) := by decide +kernel
theorem dX5_pack_93 : decode cX5_pack 93 = .ok (.aload_n 0, 1) := by decide +kernel
theorem dX5_pack_94 : decode cX5_pack 94 = .ok (.aload_n 0, 1) := by decide +kernel
theorem dX5_pack_95 : decode cX5_pack 95 = .ok (.getfield 67, 3) := by decide +kernel
theorem dX5_pack_98 : decode cX5_pack 98 = .ok (.putfield 84, 3) := by decide +kernel
theorem dX5_pack_101 : decode cX5_pack 101 = .ok (.aload_n 0, 1) := by decide +kernel
theorem dX5_pack_102 : decode cX5_pack 102 = .ok (.iload_n 1, 1) := by decide +kernel
theorem dX5_pack_103 : decode cX5_pack 103 = .ok (.putfield 67, 3) := by decide +kernel
theorem dX5_pack_106 : decode cX5_pack 106 = .ok (.iload_n 1, 1) := by decide +kernel
theorem dX5_pack_107 : decode cX5_pack 107 = .ok (.ireturn, 1) := by decide +kernel
theorem dX5_turned_0 : decode cX5_turned 0 = .ok (.aload_n 0, 1) := by decide +kernel
theorem dX5_turned_1 : decode cX5_turned 1 = .ok (.iconst 0, 1) := by decide +kernel
theorem dX5_turned_2 : decode cX5_turned 2 = .ok (.putfield 1, 3) := by decide +kernel
theorem dX5_turned_5 : decode cX5_turned 5 = .ok (.iload_n 1, 1) := by decide +kernel
theorem dX5_turned_6 : decode cX5_turned 6 = .ok (.ifCond .lt 20, 3) := by decide +kernel
theorem dX5_turned_9 : decode cX5_turned 9 = .ok (.iload_n 1, 1) := by decide +kernel
theorem dX5_turned_10 : decode cX5_turned 10 = .ok (.aload_n 0, 1) := by decide +kernel
theorem dX5_turned_11 : decode cX5_turned 11 = .ok (.getfield 84, 3) := by decide +kernel
theorem dX5_turned_14 : decode cX5_turned 14 = .ok (.if_icmp .ge 12, 3) := by decide +kernel
theorem dX5_turned_17 : decode cX5_turned 17 = .ok (.aload_n 0, 1) := by decide +kernel
theorem dX5_turned_18 : decode cX5_turned 18 = .ok (.getfield 27, 3) := by decide +kernel
theorem dX5_turned_21 : decode cX5_turned 21 = .ok (.iload_n 1, 1) := by decide +kernel
theorem dX5_turned_22 : decode cX5_turned 22 = .ok (.iaload, 1) := by decide +kernel
theorem dX5_turned_23 : decode cX5_turned 23 = .ok (.goto 5, 3) := by decide +kernel
theorem dX5_turned_26 : decode cX5_turned 26 = .ok (.bipush (-2), 2) := by decide +kernel
theorem dX5_turned_28 : decode cX5_turned 28 = .ok (.ireturn, 1) := by decide +kernel
theorem dX5_own_0 : decode cX5_own 0 = .ok (.iload_n 2, 1) := by decide +kernel
theorem dX5_own_1 : decode cX5_own 1 = .ok (.ifCond .eq 12, 3) := by decide +kernel
theorem dX5_own_4 : decode cX5_own 4 = .ok (.aload_n 0, 1) := by decide +kernel
theorem dX5_own_5 : decode cX5_own 5 = .ok (.getfield 17, 3) := by decide +kernel
theorem dX5_own_8 : decode cX5_own 8 = .ok (.iload_n 1, 1) := by decide +kernel
theorem dX5_own_9 : decode cX5_own 9 = .ok (.iaload, 1) := by decide +kernel
theorem dX5_own_10 : decode cX5_own 10 = .ok (.goto 9, 3) := by decide +kernel
theorem dX5_own_13 : decode cX5_own 13 = .ok (.aload_n 0, 1) := by decide +kernel
theorem dX5_own_14 : decode cX5_own 14 = .ok (.getfield 13, 3) := by decide +kernel
theorem dX5_own_17 : decode cX5_own 17 = .ok (.iload_n 1, 1) := by decide +kernel
theorem dX5_own_18 : decode cX5_own 18 = .ok (.iaload, 1) := by decide +kernel
theorem dX5_own_19 : decode cX5_own 19 = .ok (.ireturn, 1) := by decide +kernel
theorem dX5_other_0 : decode cX5_other 0 = .ok (.iload_n 2, 1) := by decide +kernel
theorem dX5_other_1 : decode cX5_other 1 = .ok (.ifCond .eq 12, 3) := by decide +kernel
theorem dX5_other_4 : decode cX5_other 4 = .ok (.aload_n 0, 1) := by decide +kernel
theorem dX5_other_5 : decode cX5_other 5 = .ok (.getfield 13, 3) := by decide +kernel
theorem dX5_other_8 : decode cX5_other 8 = .ok (.iload_n 1, 1) := by decide +kernel
theorem dX5_other_9 : decode cX5_other 9 = .ok (.iaload, 1) := by decide +kernel
theorem dX5_other_10 : decode cX5_other 10 = .ok (.goto 9, 3) := by decide +kernel
theorem dX5_other_13 : decode cX5_other 13 = .ok (.aload_n 0, 1) := by decide +kernel
theorem dX5_other_14 : decode cX5_other 14 = .ok (.getfield 17, 3) := by decide +kernel
theorem dX5_other_17 : decode cX5_other 17 = .ok (.iload_n 1, 1) := by decide +kernel
theorem dX5_other_18 : decode cX5_other 18 = .ok (.iaload, 1) := by decide +kernel
theorem dX5_other_19 : decode cX5_other 19 = .ok (.ireturn, 1) := by decide +kernel
set_option maxRecDepth 20000 in
theorem ggX5_isAhead_X5_other : GoodIn wsX5_isAhead wsX5_other := goodIn_r _ [6, 7, 8, 9, 10, 11, 12, 13, 14, 15, 16, 17, 18, 19, 20, 21, 22, 23, 24, 25, 26, 27, 28] (by decide +kernel) (by decide +kernel)
set_option maxRecDepth 20000 in
theorem gX5_isAhead_X5_other : GoodIn wsX5_isAhead (wsV RX5 87 RX5 yX5_other wsX5_other) := goodIn_app (goodIn_of _ (by decide +kernel)) ggX5_isAhead_X5_other
theorem dX5_isAhead_0 : decode cX5_isAhead 0 = .ok (.aload_n 0, 1) := by decide +kernel
theorem dX5_isAhead_1 : decode cX5_isAhead 1 = .ok (.getfield 20, 3) := by decide +kernel
theorem dX5_isAhead_4 : decode cX5_isAhead 4 = .ok (.iload_n 1, 1) := by decide +kernel
theorem dX5_isAhead_5 : decode cX5_isAhead 5 = .ok (.iaload, 1) := by decide +kernel
theorem dX5_isAhead_6 : decode cX5_isAhead 6 = .ok (.aload_n 0, 1) := by decide +kernel
theorem dX5_isAhead_7 : decode cX5_isAhead 7 = .ok (.getfield 20, 3) := by decide +kernel
theorem dX5_isAhead_10 : decode cX5_isAhead 10 = .ok (.iload_n 2, 1) := by decide +kernel
theorem dX5_isAhead_11 : decode cX5_isAhead 11 = .ok (.iaload, 1) := by decide +kernel
theorem dX5_isAhead_12 : decode cX5_isAhead 12 = .ok (.if_icmp .eq 19, 3) := by decide +kernel
theorem dX5_isAhead_15 : decode cX5_isAhead 15 = .ok (.aload_n 0, 1) := by decide +kernel
theorem dX5_isAhead_16 : decode cX5_isAhead 16 = .ok (.getfield 20, 3) := by decide +kernel
theorem dX5_isAhead_19 : decode cX5_isAhead 19 = .ok (.iload_n 1, 1) := by decide +kernel
theorem dX5_isAhead_20 : decode cX5_isAhead 20 = .ok (.iaload, 1) := by decide +kernel
theorem dX5_isAhead_21 : decode cX5_isAhead 21 = .ok (.iconst 1, 1) := by decide +kernel
theorem dX5_isAhead_22 : decode cX5_isAhead 22 = .ok (.if_icmp .ne 7, 3) := by decide +kernel
theorem dX5_isAhead_25 : decode cX5_isAhead 25 = .ok (.iconst 1, 1) := by decide +kernel
theorem dX5_isAhead_26 : decode cX5_isAhead 26 = .ok (.goto 4, 3) := by decide +kernel
theorem dX5_isAhead_29 : decode cX5_isAhead 29 = .ok (.iconst 0, 1) := by decide +kernel
theorem dX5_isAhead_30 : decode cX5_isAhead 30 = .ok (.ireturn, 1) := by decide +kernel
theorem dX5_isAhead_31 : decode cX5_isAhead 31 = .ok (.aload_n 0, 1) := by decide +kernel
theorem dX5_isAhead_32 : decode cX5_isAhead 32 = .ok (.getfield 20, 3) := by decide +kernel
theorem dX5_isAhead_35 : decode cX5_isAhead 35 = .ok (.iload_n 1, 1) := by decide +kernel
theorem dX5_isAhead_36 : decode cX5_isAhead 36 = .ok (.iaload, 1) := by decide +kernel
theorem dX5_isAhead_37 : decode cX5_isAhead 37 = .ok (.iconst 1, 1) := by decide +kernel
theorem dX5_isAhead_38 : decode cX5_isAhead 38 = .ok (.if_icmp .ne 39, 3) := by decide +kernel
theorem dX5_isAhead_41 : decode cX5_isAhead 41 = .ok (.aload_n 0, 1) := by decide +kernel
theorem dX5_isAhead_42 : decode cX5_isAhead 42 = .ok (.iload_n 1, 1) := by decide +kernel
theorem dX5_isAhead_43 : decode cX5_isAhead 43 = .ok (.iload_n 3, 1) := by decide +kernel
theorem dX5_isAhead_44 : decode cX5_isAhead 44 = .ok (.invokevirtual 87, 3) := by decide +kernel
theorem dX5_isAhead_47 : decode cX5_isAhead 47 = .ok (.aload_n 0, 1) := by decide +kernel
theorem dX5_isAhead_48 : decode cX5_isAhead 48 = .ok (.iload_n 2, 1) := by decide +kernel
theorem dX5_isAhead_49 : decode cX5_isAhead 49 = .ok (.iload_n 3, 1) := by decide +kernel
theorem dX5_isAhead_50 : decode cX5_isAhead 50 = .ok (.invokevirtual 87, 3) := by decide +kernel
theorem dX5_isAhead_53 : decode cX5_isAhead 53 = .ok (.if_icmp .eq 24, 3) := by decide +kernel
theorem dX5_isAhead_56 : decode cX5_isAhead 56 = .ok (.aload_n 0, 1) := by decide +kernel
theorem dX5_isAhead_57 : decode cX5_isAhead 57 = .ok (.iload_n 1, 1) := by decide +kernel
theorem dX5_isAhead_58 : decode cX5_isAhead 58 = .ok (.iload_n 3, 1) := by decide +kernel
theorem dX5_isAhead_59 : decode cX5_isAhead 59 = .ok (.invokevirtual 87, 3) := by decide +kernel
theorem dX5_isAhead_62 : decode cX5_isAhead 62 = .ok (.aload_n 0, 1) := by decide +kernel
theorem dX5_isAhead_63 : decode cX5_isAhead 63 = .ok (.iload_n 2, 1) := by decide +kernel
theorem dX5_isAhead_64 : decode cX5_isAhead 64 = .ok (.iload_n 3, 1) := by decide +kernel
theorem dX5_isAhead_65 : decode cX5_isAhead 65 = .ok (.invokevirtual 87, 3) := by decide +kernel
theorem dX5_isAhead_68 : decode cX5_isAhead 68 = .ok (.if_icmp .ge 7, 3) := by decide +kernel
theorem dX5_isAhead_71 : decode cX5_isAhead 71 = .ok (.iconst 1, 1) := by decide +kernel
theorem dX5_isAhead_72 : decode cX5_isAhead 72 = .ok (.goto 4, 3) := by decide +kernel
theorem dX5_isAhead_75 : decode cX5_isAhead 75 = .ok (.iconst 0, 1) := by decide +kernel
theorem dX5_isAhead_76 : decode cX5_isAhead 76 = .ok (.ireturn, 1) := by decide +kernel
theorem dX5_isAhead_77 : decode cX5_isAhead 77 = .ok (.iload_n 1, 1) := by decide +kernel
theorem dX5_isAhead_78 : decode cX5_isAhead 78 = .ok (.iload_n 2, 1) := by decide +kernel
theorem dX5_isAhead_79 : decode cX5_isAhead 79 = .ok (.if_icmp .ge 7, 3) := by decide +kernel
theorem dX5_isAhead_82 : decode cX5_isAhead 82 = .ok (.iconst 1, 1) := by decide +kernel
theorem dX5_isAhead_83 : decode cX5_isAhead 83 = .ok (.goto 4, 3) := by decide +kernel
theorem dX5_isAhead_86 : decode cX5_isAhead 86 = .ok (.iconst 0, 1) := by decide +kernel
theorem dX5_isAhead_87 : decode cX5_isAhead 87 = .ok (.ireturn, 1) := by decide +kernel
set_option maxRecDepth 20000 in
theorem ggX5_isOf_X5_own : GoodIn wsX5_isOf wsX5_own := goodIn_r _ [7, 8, 9, 10, 11, 12, 13, 14, 15, 16, 17, 18, 19, 20, 21, 22, 23, 24, 25, 26, 27, 28, 29] (by decide +kernel) (by decide +kernel)
set_option maxRecDepth 20000 in
theorem gX5_isOf_X5_own : GoodIn wsX5_isOf (wsV RX5 91 RX5 yX5_own wsX5_own) := goodIn_app (goodIn_of _ (by decide +kernel)) ggX5_isOf_X5_own
theorem dX5_isOf_0 : decode cX5_isOf 0 = .ok (.aload_n 0, 1) := by decide +kernel
theorem dX5_isOf_1 : decode cX5_isOf 1 = .ok (.iload_n 1, 1) := by decide +kernel
theorem dX5_isOf_2 : decode cX5_isOf 2 = .ok (.iload_n 3, 1) := by decide +kernel
theorem dX5_isOf_3 : decode cX5_isOf 3 = .ok (.invokevirtual 91, 3) := by decide +kernel
theorem dX5_isOf_6 : decode cX5_isOf 6 = .ok (.iload_n 2, 1) := by decide +kernel
theorem dX5_isOf_7 : decode cX5_isOf 7 = .ok (.if_icmp .ne 44, 3) := by decide +kernel
theorem dX5_isOf_10 : decode cX5_isOf 10 = .ok (.iload 4, 2) := by decide +kernel
theorem dX5_isOf_12 : decode cX5_isOf 12 = .ok (.ifCond .eq 25, 3) := by decide +kernel
theorem dX5_isOf_15 : decode cX5_isOf 15 = .ok (.aload_n 0, 1) := by decide +kernel
theorem dX5_isOf_16 : decode cX5_isOf 16 = .ok (.getfield 20, 3) := by decide +kernel
theorem dX5_isOf_19 : decode cX5_isOf 19 = .ok (.iload_n 1, 1) := by decide +kernel
theorem dX5_isOf_20 : decode cX5_isOf 20 = .ok (.iaload, 1) := by decide +kernel
theorem dX5_isOf_21 : decode cX5_isOf 21 = .ok (.iconst 2, 1) := by decide +kernel
theorem dX5_isOf_22 : decode cX5_isOf 22 = .ok (.if_icmp .eq 29, 3) := by decide +kernel
theorem dX5_isOf_25 : decode cX5_isOf 25 = .ok (.aload_n 0, 1) := by decide +kernel
theorem dX5_isOf_26 : decode cX5_isOf 26 = .ok (.getfield 23, 3) := by decide +kernel
theorem dX5_isOf_29 : decode cX5_isOf 29 = .ok (.iload_n 1, 1) := by decide +kernel
theorem dX5_isOf_30 : decode cX5_isOf 30 = .ok (.baload, 1) := by decide +kernel
theorem dX5_isOf_31 : decode cX5_isOf 31 = .ok (.ifCond .ne 20, 3) := by decide +kernel
theorem dX5_isOf_34 : decode cX5_isOf 34 = .ok (.goto 13, 3) := by decide +kernel
theorem dX5_isOf_37 : decode cX5_isOf 37 = .ok (.aload_n 0, 1) := by decide +kernel
theorem dX5_isOf_38 : decode cX5_isOf 38 = .ok (.getfield 20, 3) := by decide +kernel
theorem dX5_isOf_41 : decode cX5_isOf 41 = .ok (.iload_n 1, 1) := by decide +kernel
theorem dX5_isOf_42 : decode cX5_isOf 42 = .ok (.iaload, 1) := by decide +kernel
theorem dX5_isOf_43 : decode cX5_isOf 43 = .ok (.iconst 1, 1) := by decide +kernel
theorem dX5_isOf_44 : decode cX5_isOf 44 = .ok (.if_icmp .ne 7, 3) := by decide +kernel
theorem dX5_isOf_47 : decode cX5_isOf 47 = .ok (.iconst 1, 1) := by decide +kernel
theorem dX5_isOf_48 : decode cX5_isOf 48 = .ok (.goto 4, 3) := by decide +kernel
theorem dX5_isOf_51 : decode cX5_isOf 51 = .ok (.iconst 0, 1) := by decide +kernel
theorem dX5_isOf_52 : decode cX5_isOf 52 = .ok (.ireturn, 1) := by decide +kernel
set_option maxRecDepth 20000 in
theorem ggX5_place_X5_isOf : GoodIn wsX5_place wsX5_isOf := goodIn_r _ [6, 7, 8, 9, 10, 11, 5, 12, 13, 14, 23, 24, 25, 26, 27, 28, 29, 30, 31, 32, 33, 34, 35, 36, 37, 38, 39, 40, 41, 42] (by decide +kernel) (by decide +kernel)
set_option maxRecDepth 20000 in
theorem gX5_place_X5_isOf : GoodIn wsX5_place (wsV RX5 94 RX5 yX5_isOf wsX5_isOf) := goodIn_app (goodIn_of _ (by decide +kernel)) ggX5_place_X5_isOf
set_option maxRecDepth 20000 in
theorem ggX5_place_X5_isAhead : GoodIn wsX5_place wsX5_isAhead := goodIn_r _ [18, 7, 19, 20, 21, 5, 22, 14, 13, 23, 24, 25, 26, 27, 28, 29, 30, 31, 32, 33, 34, 35, 36, 37, 38, 39, 40, 41, 42] (by decide +kernel) (by decide +kernel)
set_option maxRecDepth 20000 in
theorem gX5_place_X5_isAhead : GoodIn wsX5_place (wsV RX5 98 RX5 yX5_isAhead wsX5_isAhead) := goodIn_app (goodIn_of _ (by decide +kernel)) ggX5_place_X5_isAhead
theorem dX5_place_0 : decode cX5_place 0 = .ok (.iconst 0, 1) := by decide +kernel
theorem dX5_place_1 : decode cX5_place 1 = .ok (.istore 5, 2) := by decide +kernel
theorem dX5_place_3 : decode cX5_place 3 = .ok (.iload 5, 2) := by decide +kernel
theorem dX5_place_5 : decode cX5_place 5 = .ok (.aload_n 0, 1) := by decide +kernel
theorem dX5_place_6 : decode cX5_place 6 = .ok (.getfield 67, 3) := by decide +kernel
theorem dX5_place_9 : decode cX5_place 9 = .ok (.if_icmp .ge 89, 3) := by decide +kernel
theorem dX5_place_12 : decode cX5_place 12 = .ok (.aload_n 0, 1) := by decide +kernel
theorem dX5_place_13 : decode cX5_place 13 = .ok (.iload 5, 2) := by decide +kernel
theorem dX5_place_15 : decode cX5_place 15 = .ok (.iload_n 1, 1) := by decide +kernel
theorem dX5_place_16 : decode cX5_place 16 = .ok (.iload_n 2, 1) := by decide +kernel
theorem dX5_place_17 : decode cX5_place 17 = .ok (.iload_n 3, 1) := by decide +kernel
theorem dX5_place_18 : decode cX5_place 18 = .ok (.invokevirtual 94, 3) := by decide +kernel
theorem dX5_place_21 : decode cX5_place 21 = .ok (.ifCond .ne 6, 3) := by decide +kernel
theorem dX5_place_24 : decode cX5_place 24 = .ok (.goto 68, 3) := by decide +kernel
theorem dX5_place_27 : decode cX5_place 27 = .ok (.iconst 0, 1) := by decide +kernel
theorem dX5_place_28 : decode cX5_place 28 = .ok (.istore 6, 2) := by decide +kernel
theorem dX5_place_30 : decode cX5_place 30 = .ok (.iconst 0, 1) := by decide +kernel
theorem dX5_place_31 : decode cX5_place 31 = .ok (.istore 7, 2) := by decide +kernel
theorem dX5_place_33 : decode cX5_place 33 = .ok (.iload 7, 2) := by decide +kernel
theorem dX5_place_35 : decode cX5_place 35 = .ok (.aload_n 0, 1) := by decide +kernel
theorem dX5_place_36 : decode cX5_place 36 = .ok (.getfield 67, 3) := by decide +kernel
theorem dX5_place_39 : decode cX5_place 39 = .ok (.if_icmp .ge 43, 3) := by decide +kernel
theorem dX5_place_42 : decode cX5_place 42 = .ok (.iload 6, 2) := by decide +kernel
theorem dX5_place_44 : decode cX5_place 44 = .ok (.aload_n 0, 1) := by decide +kernel
theorem dX5_place_45 : decode cX5_place 45 = .ok (.iload 7, 2) := by decide +kernel
theorem dX5_place_47 : decode cX5_place 47 = .ok (.iload_n 1, 1) := by decide +kernel
theorem dX5_place_48 : decode cX5_place 48 = .ok (.iload_n 2, 1) := by decide +kernel
theorem dX5_place_49 : decode cX5_place 49 = .ok (.iload_n 3, 1) := by decide +kernel
theorem dX5_place_50 : decode cX5_place 50 = .ok (.invokevirtual 94, 3) := by decide +kernel
theorem dX5_place_53 : decode cX5_place 53 = .ok (.ifCond .eq 19, 3) := by decide +kernel
theorem dX5_place_56 : decode cX5_place 56 = .ok (.aload_n 0, 1) := by decide +kernel
theorem dX5_place_57 : decode cX5_place 57 = .ok (.iload 7, 2) := by decide +kernel
theorem dX5_place_59 : decode cX5_place 59 = .ok (.iload 5, 2) := by decide +kernel
theorem dX5_place_61 : decode cX5_place 61 = .ok (.iload_n 2, 1) := by decide +kernel
theorem dX5_place_62 : decode cX5_place 62 = .ok (.invokevirtual 98, 3) := by decide +kernel
theorem dX5_place_65 : decode cX5_place 65 = .ok (.ifCond .eq 7, 3) := by decide +kernel
theorem dX5_place_68 : decode cX5_place 68 = .ok (.iconst 1, 1) := by decide +kernel
theorem dX5_place_69 : decode cX5_place 69 = .ok (.goto 4, 3) := by decide +kernel
theorem dX5_place_72 : decode cX5_place 72 = .ok (.iconst 0, 1) := by decide +kernel
theorem dX5_place_73 : decode cX5_place 73 = .ok (.iadd, 1) := by decide +kernel
theorem dX5_place_74 : decode cX5_place 74 = .ok (.istore 6, 2) := by decide +kernel
theorem dX5_place_76 : decode cX5_place 76 = .ok (.iinc 7 1, 3) := by decide +kernel
theorem dX5_place_79 : decode cX5_place 79 = .ok (.goto (-46), 3) := by decide +kernel
theorem dX5_place_82 : decode cX5_place 82 = .ok (.iload 6, 2) := by decide +kernel
theorem dX5_place_84 : decode cX5_place 84 = .ok (.iload 4, 2) := by decide +kernel
theorem dX5_place_86 : decode cX5_place 86 = .ok (.if_icmp .ne 6, 3) := by decide +kernel
theorem dX5_place_89 : decode cX5_place 89 = .ok (.iload 5, 2) := by decide +kernel
theorem dX5_place_91 : decode cX5_place 91 = .ok (.ireturn, 1) := by decide +kernel
theorem dX5_place_92 : decode cX5_place 92 = .ok (.iinc 5 1, 3) := by decide +kernel
theorem dX5_place_95 : decode cX5_place 95 = .ok (.goto (-92), 3) := by decide +kernel
theorem dX5_place_98 : decode cX5_place 98 = .ok (.iconst (-1), 1) := by decide +kernel
theorem dX5_place_99 : decode cX5_place 99 = .ok (.ireturn, 1) := by decide +kernel
set_option maxRecDepth 20000 in
theorem ggX5_inRow_X5_isNode : GoodIn wsX5_inRow wsX5_isNode := goodIn_r _ [6, 7, 33, 34, 35, 36, 37, 38, 39, 40, 41, 42, 43, 44, 45, 46, 47, 48, 49, 50, 51, 52] (by decide +kernel) (by decide +kernel)
set_option maxRecDepth 20000 in
theorem gX5_inRow_X5_isNode : GoodIn wsX5_inRow (wsV RX5 70 RX5 yX5_isNode wsX5_isNode) := goodIn_app (goodIn_of _ (by decide +kernel)) ggX5_inRow_X5_isNode
set_option maxRecDepth 20000 in
theorem ggX5_inRow_X5_place : GoodIn wsX5_inRow wsX5_place := goodIn_r _ [11, 12, 13, 14, 15, 5, 16, 17, 18, 19, 20, 21, 22, 23, 24, 25, 26, 27, 28, 29, 30, 31, 32, 33, 34, 35, 36, 37, 38, 39, 40, 41, 42, 43, 44, 45, 46, 47, 48, 49, 50, 51, 52] (by decide +kernel) (by decide +kernel)
set_option maxRecDepth 20000 in
theorem gX5_inRow_X5_place : GoodIn wsX5_inRow (wsV RX5 102 RX5 yX5_place wsX5_place) := goodIn_app (goodIn_of _ (by decide +kernel)) ggX5_inRow_X5_place
theorem dX5_inRow_0 : decode cX5_inRow 0 = .ok (.aload_n 0, 1) := by decide +kernel
theorem dX5_inRow_1 : decode cX5_inRow 1 = .ok (.iload_n 1, 1) := by decide +kernel
theorem dX5_inRow_2 : decode cX5_inRow 2 = .ok (.invokevirtual 70, 3) := by decide +kernel
theorem dX5_inRow_5 : decode cX5_inRow 5 = .ok (.ifCond .eq 18, 3) := by decide +kernel
theorem dX5_inRow_8 : decode cX5_inRow 8 = .ok (.iload_n 3, 1) := by decide +kernel
theorem dX5_inRow_9 : decode cX5_inRow 9 = .ok (.ifCond .lt 14, 3) := by decide +kernel
theorem dX5_inRow_12 : decode cX5_inRow 12 = .ok (.aload_n 0, 1) := by decide +kernel
theorem dX5_inRow_13 : decode cX5_inRow 13 = .ok (.iload_n 1, 1) := by decide +kernel
theorem dX5_inRow_14 : decode cX5_inRow 14 = .ok (.iload_n 2, 1) := by decide +kernel
theorem dX5_inRow_15 : decode cX5_inRow 15 = .ok (.iconst 0, 1) := by decide +kernel
theorem dX5_inRow_16 : decode cX5_inRow 16 = .ok (.iload_n 3, 1) := by decide +kernel
theorem dX5_inRow_17 : decode cX5_inRow 17 = .ok (.invokevirtual 102, 3) := by decide +kernel
theorem dX5_inRow_20 : decode cX5_inRow 20 = .ok (.goto 4, 3) := by decide +kernel
theorem dX5_inRow_23 : decode cX5_inRow 23 = .ok (.iconst (-1), 1) := by decide +kernel
theorem dX5_inRow_24 : decode cX5_inRow 24 = .ok (.istore 4, 2) := by decide +kernel
theorem dX5_inRow_26 : decode cX5_inRow 26 = .ok (.aload_n 0, 1) := by decide +kernel
theorem dX5_inRow_27 : decode cX5_inRow 27 = .ok (.iload 4, 2) := by decide +kernel
theorem dX5_inRow_29 : decode cX5_inRow 29 = .ok (.iconst (-1), 1) := by decide +kernel
theorem dX5_inRow_30 : decode cX5_inRow 30 = .ok (.if_icmp .ne 7, 3) := by decide +kernel
theorem dX5_inRow_33 : decode cX5_inRow 33 = .ok (.iconst 1, 1) := by decide +kernel
theorem dX5_inRow_34 : decode cX5_inRow 34 = .ok (.goto 4, 3) := by decide +kernel
theorem dX5_inRow_37 : decode cX5_inRow 37 = .ok (.iconst 0, 1) := by decide +kernel
theorem dX5_inRow_38 : decode cX5_inRow 38 = .ok (.putfield 1, 3) := by decide +kernel
theorem dX5_inRow_41 : decode cX5_inRow 41 = .ok (.iload 4, 2) := by decide +kernel
theorem dX5_inRow_43 : decode cX5_inRow 43 = .ok (.iconst (-1), 1) := by decide +kernel
theorem dX5_inRow_44 : decode cX5_inRow 44 = .ok (.if_icmp .ne 7, 3) := by decide +kernel
theorem dX5_inRow_47 : decode cX5_inRow 47 = .ok (.iconst 0, 1) := by decide +kernel
theorem dX5_inRow_48 : decode cX5_inRow 48 = .ok (.goto 5, 3) := by decide +kernel
theorem dX5_inRow_51 : decode cX5_inRow 51 = .ok (.iload 4, 2) := by decide +kernel
theorem dX5_inRow_53 : decode cX5_inRow 53 = .ok (.ireturn, 1) := by decide +kernel
set_option maxRecDepth 20000 in
theorem ggX5_out_X5_inRow : GoodIn wsX5_out wsX5_inRow := goodIn_r _ [6, 1, 7, 8, 9, 5, 10, 11, 12, 13, 14, 15, 16, 17, 18, 19, 20, 21, 22, 23, 24, 25, 26, 27, 28, 29, 30, 31, 32, 33, 34, 35, 36, 37, 38, 39, 40, 41, 42, 43, 44, 45, 46, 47, 48, 49, 50, 51, 52, 53, 54, 55, 56] (by decide +kernel) (by decide +kernel)
set_option maxRecDepth 20000 in
theorem gX5_out_X5_inRow : GoodIn wsX5_out (wsV RX5 106 RX5 yX5_inRow wsX5_inRow) := goodIn_app (goodIn_of _ (by decide +kernel)) ggX5_out_X5_inRow
theorem dX5_out_0 : decode cX5_out 0 = .ok (.aload_n 0, 1) := by decide +kernel
theorem dX5_out_1 : decode cX5_out 1 = .ok (.iconst 0, 1) := by decide +kernel
theorem dX5_out_2 : decode cX5_out 2 = .ok (.putfield 1, 3) := by decide +kernel
theorem dX5_out_5 : decode cX5_out 5 = .ok (.aload_n 0, 1) := by decide +kernel
theorem dX5_out_6 : decode cX5_out 6 = .ok (.iload_n 1, 1) := by decide +kernel
theorem dX5_out_7 : decode cX5_out 7 = .ok (.iconst 0, 1) := by decide +kernel
theorem dX5_out_8 : decode cX5_out 8 = .ok (.iload_n 2, 1) := by decide +kernel
theorem dX5_out_9 : decode cX5_out 9 = .ok (.invokevirtual 106, 3) := by decide +kernel
theorem dX5_out_12 : decode cX5_out 12 = .ok (.ireturn, 1) := by decide +kernel
set_option maxRecDepth 20000 in
theorem ggX5_in_X5_inRow : GoodIn wsX5_in wsX5_inRow := goodIn_r _ [6, 1, 7, 8, 9, 5, 10, 11, 12, 13, 14, 15, 16, 17, 18, 19, 20, 21, 22, 23, 24, 25, 26, 27, 28, 29, 30, 31, 32, 33, 34, 35, 36, 37, 38, 39, 40, 41, 42, 43, 44, 45, 46, 47, 48, 49, 50, 51, 52, 53, 54, 55, 56] (by decide +kernel) (by decide +kernel)
set_option maxRecDepth 20000 in
theorem gX5_in_X5_inRow : GoodIn wsX5_in (wsV RX5 106 RX5 yX5_inRow wsX5_inRow) := goodIn_app (goodIn_of _ (by decide +kernel)) ggX5_in_X5_inRow
theorem dX5_in_0 : decode cX5_in 0 = .ok (.aload_n 0, 1) := by decide +kernel
theorem dX5_in_1 : decode cX5_in 1 = .ok (.iconst 0, 1) := by decide +kernel
theorem dX5_in_2 : decode cX5_in 2 = .ok (.putfield 1, 3) := by decide +kernel
theorem dX5_in_5 : decode cX5_in 5 = .ok (.aload_n 0, 1) := by decide +kernel
theorem dX5_in_6 : decode cX5_in 6 = .ok (.iload_n 1, 1) := by decide +kernel
theorem dX5_in_7 : decode cX5_in 7 = .ok (.iconst 1, 1) := by decide +kernel
theorem dX5_in_8 : decode cX5_in 8 = .ok (.iload_n 2, 1) := by decide +kernel
theorem dX5_in_9 : decode cX5_in 9 = .ok (.invokevirtual 106, 3) := by decide +kernel
theorem dX5_in_12 : decode cX5_in 12 = .ok (.ireturn, 1) := by decide +kernel
set_option maxRecDepth 20000 in
theorem ggX5_offset_X5_own : GoodIn wsX5_offset wsX5_own := goodIn_r _ [9, 10, 11, 12, 13, 14, 15, 16, 17, 18, 19, 20, 21, 22, 23, 24, 25, 26, 27, 28, 29, 30, 31] (by decide +kernel) (by decide +kernel)
set_option maxRecDepth 20000 in
theorem gX5_offset_X5_own : GoodIn wsX5_offset (wsV RX5 91 RX5 yX5_own wsX5_own) := goodIn_app (goodIn_of _ (by decide +kernel)) ggX5_offset_X5_own
theorem dX5_offset_0 : decode cX5_offset 0 = .ok (.aload_n 0, 1) := by decide +kernel
theorem dX5_offset_1 : decode cX5_offset 1 = .ok (.iconst 0, 1) := by decide +kernel
theorem dX5_offset_2 : decode cX5_offset 2 = .ok (.putfield 1, 3) := by decide +kernel
theorem dX5_offset_5 : decode cX5_offset 5 = .ok (.iload_n 1, 1) := by decide +kernel
theorem dX5_offset_6 : decode cX5_offset 6 = .ok (.ifCond .lt 11, 3) := by decide +kernel
theorem dX5_offset_9 : decode cX5_offset 9 = .ok (.iload_n 1, 1) := by decide +kernel
theorem dX5_offset_10 : decode cX5_offset 10 = .ok (.aload_n 0, 1) := by decide +kernel
theorem dX5_offset_11 : decode cX5_offset 11 = .ok (.getfield 64, 3) := by decide +kernel
theorem dX5_offset_14 : decode cX5_offset 14 = .ok (.if_icmp .le 6, 3) := by decide +kernel
theorem dX5_offset_17 : decode cX5_offset 17 = .ok (.bipush (-2), 2) := by decide +kernel
theorem dX5_offset_19 : decode cX5_offset 19 = .ok (.ireturn, 1) := by decide +kernel
theorem dX5_offset_20 : decode cX5_offset 20 = .ok (.iconst 0, 1) := by decide +kernel
theorem dX5_offset_21 : decode cX5_offset 21 = .ok (.istore_n 3, 1) := by decide +kernel
theorem dX5_offset_22 : decode cX5_offset 22 = .ok (.iconst 0, 1) := by decide +kernel
theorem dX5_offset_23 : decode cX5_offset 23 = .ok (.istore 4, 2) := by decide +kernel
theorem dX5_offset_25 : decode cX5_offset 25 = .ok (.iload 4, 2) := by decide +kernel
theorem dX5_offset_27 : decode cX5_offset 27 = .ok (.aload_n 0, 1) := by decide +kernel
theorem dX5_offset_28 : decode cX5_offset 28 = .ok (.getfield 67, 3) := by decide +kernel
theorem dX5_offset_31 : decode cX5_offset 31 = .ok (.if_icmp .ge 39, 3) := by decide +kernel
theorem dX5_offset_34 : decode cX5_offset 34 = .ok (.iload_n 3, 1) := by decide +kernel
theorem dX5_offset_35 : decode cX5_offset 35 = .ok (.aload_n 0, 1) := by decide +kernel
theorem dX5_offset_36 : decode cX5_offset 36 = .ok (.getfield 20, 3) := by decide +kernel
theorem dX5_offset_39 : decode cX5_offset 39 = .ok (.iload 4, 2) := by decide +kernel
theorem dX5_offset_41 : decode cX5_offset 41 = .ok (.iaload, 1) := by decide +kernel
theorem dX5_offset_42 : decode cX5_offset 42 = .ok (.iconst 1, 1) := by decide +kernel
theorem dX5_offset_43 : decode cX5_offset 43 = .ok (.if_icmp .ne 18, 3) := by decide +kernel
theorem dX5_offset_46 : decode cX5_offset 46 = .ok (.aload_n 0, 1) := by decide +kernel
theorem dX5_offset_47 : decode cX5_offset 47 = .ok (.iload 4, 2) := by decide +kernel
theorem dX5_offset_49 : decode cX5_offset 49 = .ok (.iload_n 2, 1) := by decide +kernel
theorem dX5_offset_50 : decode cX5_offset 50 = .ok (.invokevirtual 91, 3) := by decide +kernel
theorem dX5_offset_53 : decode cX5_offset 53 = .ok (.iload_n 1, 1) := by decide +kernel
theorem dX5_offset_54 : decode cX5_offset 54 = .ok (.if_icmp .ge 7, 3) := by decide +kernel
theorem dX5_offset_57 : decode cX5_offset 57 = .ok (.iconst 1, 1) := by decide +kernel
theorem dX5_offset_58 : decode cX5_offset 58 = .ok (.goto 4, 3) := by decide +kernel
theorem dX5_offset_61 : decode cX5_offset 61 = .ok (.iconst 0, 1) := by decide +kernel
theorem dX5_offset_62 : decode cX5_offset 62 = .ok (.iadd, 1) := by decide +kernel
theorem dX5_offset_63 : decode cX5_offset 63 = .ok (.istore_n 3, 1) := by decide +kernel
theorem dX5_offset_64 : decode cX5_offset 64 = .ok (.iinc 4 1, 3) := by decide +kernel
theorem dX5_offset_67 : decode cX5_offset 67 = .ok (.goto (-42), 3) := by decide +kernel
theorem dX5_offset_70 : decode cX5_offset 70 = .ok (.iload_n 3, 1) := by decide +kernel
theorem dX5_offset_71 : decode cX5_offset 71 = .ok (.ireturn, 1) := by decide +kernel
set_option maxRecDepth 20000 in
theorem ggX5_told_X5_isArc : GoodIn wsX5_told wsX5_isArc := goodIn_r _ [10, 11, 12, 13, 14, 15, 16, 17, 18, 19, 20, 21, 22, 23, 24, 25, 26, 27, 28, 29, 30, 31] (by decide +kernel) (by decide +kernel)
set_option maxRecDepth 20000 in
theorem gX5_told_X5_isArc : GoodIn wsX5_told (wsV RX5 74 RX5 yX5_isArc wsX5_isArc) := goodIn_app (goodIn_of _ (by decide +kernel)) ggX5_told_X5_isArc
theorem dX5_told_0 : decode cX5_told 0 = .ok (.aload_n 0, 1) := by decide +kernel
theorem dX5_told_1 : decode cX5_told 1 = .ok (.iconst 0, 1) := by decide +kernel
theorem dX5_told_2 : decode cX5_told 2 = .ok (.putfield 1, 3) := by decide +kernel
theorem dX5_told_5 : decode cX5_told 5 = .ok (.aload_n 0, 1) := by decide +kernel
theorem dX5_told_6 : decode cX5_told 6 = .ok (.iload_n 1, 1) := by decide +kernel
theorem dX5_told_7 : decode cX5_told 7 = .ok (.invokevirtual 74, 3) := by decide +kernel
theorem dX5_told_10 : decode cX5_told 10 = .ok (.ifCond .ne 6, 3) := by decide +kernel
theorem dX5_told_13 : decode cX5_told 13 = .ok (.bipush (-2), 2) := by decide +kernel
theorem dX5_told_15 : decode cX5_told 15 = .ok (.ireturn, 1) := by decide +kernel
theorem dX5_told_16 : decode cX5_told 16 = .ok (.iload_n 2, 1) := by decide +kernel
theorem dX5_told_17 : decode cX5_told 17 = .ok (.tableswitch 96 0 4 #[35, 42, 49, 65, 80], 35) := by decide +kernel
theorem dX5_told_52 : decode cX5_told 52 = .ok (.aload_n 0, 1) := by decide +kernel
theorem dX5_told_53 : decode cX5_told 53 = .ok (.getfield 13, 3) := by decide +kernel
theorem dX5_told_56 : decode cX5_told 56 = .ok (.iload_n 1, 1) := by decide +kernel
theorem dX5_told_57 : decode cX5_told 57 = .ok (.iaload, 1) := by decide +kernel
theorem dX5_told_58 : decode cX5_told 58 = .ok (.ireturn, 1) := by decide +kernel
theorem dX5_told_59 : decode cX5_told 59 = .ok (.aload_n 0, 1) := by decide +kernel
theorem dX5_told_60 : decode cX5_told 60 = .ok (.getfield 17, 3) := by decide +kernel
theorem dX5_told_63 : decode cX5_told 63 = .ok (.iload_n 1, 1) := by decide +kernel
theorem dX5_told_64 : decode cX5_told 64 = .ok (.iaload, 1) := by decide +kernel
theorem dX5_told_65 : decode cX5_told 65 = .ok (.ireturn, 1) := by decide +kernel
theorem dX5_told_66 : decode cX5_told 66 = .ok (.aload_n 0, 1) := by decide +kernel
theorem dX5_told_67 : decode cX5_told 67 = .ok (.getfield 20, 3) := by decide +kernel
theorem dX5_told_70 : decode cX5_told 70 = .ok (.iload_n 1, 1) := by decide +kernel
theorem dX5_told_71 : decode cX5_told 71 = .ok (.iaload, 1) := by decide +kernel
theorem dX5_told_72 : decode cX5_told 72 = .ok (.iconst 1, 1) := by decide +kernel
theorem dX5_told_73 : decode cX5_told 73 = .ok (.if_icmp .ne 7, 3) := by decide +kernel
theorem dX5_told_76 : decode cX5_told 76 = .ok (.iconst 1, 1) := by decide +kernel
theorem dX5_told_77 : decode cX5_told 77 = .ok (.goto 4, 3) := by decide +kernel
theorem dX5_told_80 : decode cX5_told 80 = .ok (.iconst 0, 1) := by decide +kernel
theorem dX5_told_81 : decode cX5_told 81 = .ok (.ireturn, 1) := by decide +kernel
theorem dX5_told_82 : decode cX5_told 82 = .ok (.aload_n 0, 1) := by decide +kernel
theorem dX5_told_83 : decode cX5_told 83 = .ok (.getfield 23, 3) := by decide +kernel
theorem dX5_told_86 : decode cX5_told 86 = .ok (.iload_n 1, 1) := by decide +kernel
theorem dX5_told_87 : decode cX5_told 87 = .ok (.baload, 1) := by decide +kernel
theorem dX5_told_88 : decode cX5_told 88 = .ok (.ifCond .eq 7, 3) := by decide +kernel
theorem dX5_told_91 : decode cX5_told 91 = .ok (.iconst 1, 1) := by decide +kernel
theorem dX5_told_92 : decode cX5_told 92 = .ok (.goto 4, 3) := by decide +kernel
theorem dX5_told_95 : decode cX5_told 95 = .ok (.iconst 0, 1) := by decide +kernel
theorem dX5_told_96 : decode cX5_told 96 = .ok (.ireturn, 1) := by decide +kernel
theorem dX5_told_97 : decode cX5_told 97 = .ok (.aload_n 0, 1) := by decide +kernel
theorem dX5_told_98 : decode cX5_told 98 = .ok (.getfield 20, 3) := by decide +kernel
theorem dX5_told_101 : decode cX5_told 101 = .ok (.iload_n 1, 1) := by decide +kernel
theorem dX5_told_102 : decode cX5_told 102 = .ok (.iaload, 1) := by decide +kernel
theorem dX5_told_103 : decode cX5_told 103 = .ok (.iconst 2, 1) := by decide +kernel
theorem dX5_told_104 : decode cX5_told 104 = .ok (.if_icmp .ne 7, 3) := by decide +kernel
theorem dX5_told_107 : decode cX5_told 107 = .ok (.iconst 1, 1) := by decide +kernel
theorem dX5_told_108 : decode cX5_told 108 = .ok (.goto 4, 3) := by decide +kernel
theorem dX5_told_111 : decode cX5_told 111 = .ok (.iconst 0, 1) := by decide +kernel
theorem dX5_told_112 : decode cX5_told 112 = .ok (.ireturn, 1) := by decide +kernel
theorem dX5_told_113 : decode cX5_told 113 = .ok (.bipush (-3), 2) := by decide +kernel
theorem dX5_told_115 : decode cX5_told 115 = .ok (.ireturn, 1) := by decide +kernel
set_option maxRecDepth 20000 in
theorem ggX5_degree_X5_isNode : GoodIn wsX5_degree wsX5_isNode := goodIn_r _ [7, 8, 21, 22, 23, 24, 25, 26, 27, 28, 29, 30, 31, 32, 33, 34, 35, 36, 37, 38, 39, 40] (by decide +kernel) (by decide +kernel)
set_option maxRecDepth 20000 in
theorem gX5_degree_X5_isNode : GoodIn wsX5_degree (wsV RX5 70 RX5 yX5_isNode wsX5_isNode) := goodIn_app (goodIn_of _ (by decide +kernel)) ggX5_degree_X5_isNode
set_option maxRecDepth 20000 in
theorem ggX5_degree_X5_isOf : GoodIn wsX5_degree wsX5_isOf := goodIn_r _ [12, 13, 14, 15, 16, 17, 6, 18, 19, 20, 21, 22, 23, 24, 25, 26, 27, 28, 29, 30, 31, 32, 33, 34, 35, 36, 37, 38, 39, 40] (by decide +kernel) (by decide +kernel)
set_option maxRecDepth 20000 in
theorem gX5_degree_X5_isOf : GoodIn wsX5_degree (wsV RX5 94 RX5 yX5_isOf wsX5_isOf) := goodIn_app (goodIn_of _ (by decide +kernel)) ggX5_degree_X5_isOf
theorem dX5_degree_0 : decode cX5_degree 0 = .ok (.aload_n 0, 1) := by decide +kernel
theorem dX5_degree_1 : decode cX5_degree 1 = .ok (.iconst 0, 1) := by decide +kernel
theorem dX5_degree_2 : decode cX5_degree 2 = .ok (.putfield 1, 3) := by decide +kernel
theorem dX5_degree_5 : decode cX5_degree 5 = .ok (.aload_n 0, 1) := by decide +kernel
theorem dX5_degree_6 : decode cX5_degree 6 = .ok (.iload_n 1, 1) := by decide +kernel
theorem dX5_degree_7 : decode cX5_degree 7 = .ok (.invokevirtual 70, 3) := by decide +kernel
theorem dX5_degree_10 : decode cX5_degree 10 = .ok (.ifCond .ne 6, 3) := by decide +kernel
theorem dX5_degree_13 : decode cX5_degree 13 = .ok (.bipush (-2), 2) := by decide +kernel
theorem dX5_degree_15 : decode cX5_degree 15 = .ok (.ireturn, 1) := by decide +kernel
theorem dX5_degree_16 : decode cX5_degree 16 = .ok (.iconst 0, 1) := by decide +kernel
theorem dX5_degree_17 : decode cX5_degree 17 = .ok (.istore_n 3, 1) := by decide +kernel
theorem dX5_degree_18 : decode cX5_degree 18 = .ok (.iconst 0, 1) := by decide +kernel
theorem dX5_degree_19 : decode cX5_degree 19 = .ok (.istore 4, 2) := by decide +kernel
theorem dX5_degree_21 : decode cX5_degree 21 = .ok (.iload 4, 2) := by decide +kernel
theorem dX5_degree_23 : decode cX5_degree 23 = .ok (.aload_n 0, 1) := by decide +kernel
theorem dX5_degree_24 : decode cX5_degree 24 = .ok (.getfield 67, 3) := by decide +kernel
theorem dX5_degree_27 : decode cX5_degree 27 = .ok (.if_icmp .ge 29, 3) := by decide +kernel
theorem dX5_degree_30 : decode cX5_degree 30 = .ok (.iload_n 3, 1) := by decide +kernel
theorem dX5_degree_31 : decode cX5_degree 31 = .ok (.aload_n 0, 1) := by decide +kernel
theorem dX5_degree_32 : decode cX5_degree 32 = .ok (.iload 4, 2) := by decide +kernel
theorem dX5_degree_34 : decode cX5_degree 34 = .ok (.iload_n 1, 1) := by decide +kernel
theorem dX5_degree_35 : decode cX5_degree 35 = .ok (.iload_n 2, 1) := by decide +kernel
theorem dX5_degree_36 : decode cX5_degree 36 = .ok (.iconst 1, 1) := by decide +kernel
theorem dX5_degree_37 : decode cX5_degree 37 = .ok (.invokevirtual 94, 3) := by decide +kernel
theorem dX5_degree_40 : decode cX5_degree 40 = .ok (.ifCond .eq 7, 3) := by decide +kernel
theorem dX5_degree_43 : decode cX5_degree 43 = .ok (.iconst 1, 1) := by decide +kernel
theorem dX5_degree_44 : decode cX5_degree 44 = .ok (.goto 4, 3) := by decide +kernel
theorem dX5_degree_47 : decode cX5_degree 47 = .ok (.iconst 0, 1) := by decide +kernel
theorem dX5_degree_48 : decode cX5_degree 48 = .ok (.iadd, 1) := by decide +kernel
theorem dX5_degree_49 : decode cX5_degree 49 = .ok (.istore_n 3, 1) := by decide +kernel
theorem dX5_degree_50 : decode cX5_degree 50 = .ok (.iinc 4 1, 3) := by decide +kernel
theorem dX5_degree_53 : decode cX5_degree 53 = .ok (.goto (-32), 3) := by decide +kernel
theorem dX5_degree_56 : decode cX5_degree 56 = .ok (.iload_n 3, 1) := by decide +kernel
theorem dX5_degree_57 : decode cX5_degree 57 = .ok (.ireturn, 1) := by decide +kernel
set_option maxRecDepth 20000 in
theorem ggX5_live_X5_isNode : GoodIn wsX5_live wsX5_isNode := goodIn_r _ [6, 7, 33, 34, 35, 36, 37, 38, 39, 40, 41, 42, 43, 44, 45, 46, 47, 48, 49, 50, 51, 52] (by decide +kernel) (by decide +kernel)
set_option maxRecDepth 20000 in
theorem gX5_live_X5_isNode : GoodIn wsX5_live (wsV RX5 70 RX5 yX5_isNode wsX5_isNode) := goodIn_app (goodIn_of _ (by decide +kernel)) ggX5_live_X5_isNode
set_option maxRecDepth 20000 in
theorem ggX5_live_X5_place : GoodIn wsX5_live wsX5_place := goodIn_r _ [11, 12, 13, 14, 15, 5, 16, 17, 18, 19, 20, 21, 22, 23, 24, 25, 26, 27, 28, 29, 30, 31, 32, 33, 34, 35, 36, 37, 38, 39, 40, 41, 42, 43, 44, 45, 46, 47, 48, 49, 50, 51, 52] (by decide +kernel) (by decide +kernel)
set_option maxRecDepth 20000 in
theorem gX5_live_X5_place : GoodIn wsX5_live (wsV RX5 102 RX5 yX5_place wsX5_place) := goodIn_app (goodIn_of _ (by decide +kernel)) ggX5_live_X5_place
theorem dX5_live_0 : decode cX5_live 0 = .ok (.aload_n 0, 1) := by decide +kernel
theorem dX5_live_1 : decode cX5_live 1 = .ok (.iconst 0, 1) := by decide +kernel
theorem dX5_live_2 : decode cX5_live 2 = .ok (.putfield 1, 3) := by decide +kernel
theorem dX5_live_5 : decode cX5_live 5 = .ok (.aload_n 0, 1) := by decide +kernel
theorem dX5_live_6 : decode cX5_live 6 = .ok (.iload_n 1, 1) := by decide +kernel
theorem dX5_live_7 : decode cX5_live 7 = .ok (.invokevirtual 70, 3) := by decide +kernel
theorem dX5_live_10 : decode cX5_live 10 = .ok (.ifCond .ne 6, 3) := by decide +kernel
theorem dX5_live_13 : decode cX5_live 13 = .ok (.bipush (-2), 2) := by decide +kernel
theorem dX5_live_15 : decode cX5_live 15 = .ok (.ireturn, 1) := by decide +kernel
theorem dX5_live_16 : decode cX5_live 16 = .ok (.iload_n 3, 1) := by decide +kernel
theorem dX5_live_17 : decode cX5_live 17 = .ok (.ifCond .ge 8, 3) := by decide +kernel
theorem dX5_live_20 : decode cX5_live 20 = .ok (.bipush (-3), 2) := by decide +kernel
theorem dX5_live_22 : decode cX5_live 22 = .ok (.goto 11, 3) := by decide +kernel
theorem dX5_live_25 : decode cX5_live 25 = .ok (.aload_n 0, 1) := by decide +kernel
theorem dX5_live_26 : decode cX5_live 26 = .ok (.iload_n 1, 1) := by decide +kernel
theorem dX5_live_27 : decode cX5_live 27 = .ok (.iload_n 2, 1) := by decide +kernel
theorem dX5_live_28 : decode cX5_live 28 = .ok (.iconst 1, 1) := by decide +kernel
theorem dX5_live_29 : decode cX5_live 29 = .ok (.iload_n 3, 1) := by decide +kernel
theorem dX5_live_30 : decode cX5_live 30 = .ok (.invokevirtual 102, 3) := by decide +kernel
theorem dX5_live_33 : decode cX5_live 33 = .ok (.ireturn, 1) := by decide +kernel
set_option maxRecDepth 20000 in
theorem ggX5_lead_X5_isOf : GoodIn wsX5_lead wsX5_isOf := goodIn_r _ [7, 8, 9, 10, 11, 12, 6, 13, 2, 14, 15, 16, 17, 18, 19, 20, 21, 22, 23, 24, 25, 26, 27, 28, 29, 30, 31, 32, 33, 34] (by decide +kernel) (by decide +kernel)
set_option maxRecDepth 20000 in
theorem gX5_lead_X5_isOf : GoodIn wsX5_lead (wsV RX5 94 RX5 yX5_isOf wsX5_isOf) := goodIn_app (goodIn_of _ (by decide +kernel)) ggX5_lead_X5_isOf
theorem dX5_lead_0 : decode cX5_lead 0 = .ok (.iconst 0, 1) := by decide +kernel
theorem dX5_lead_1 : decode cX5_lead 1 = .ok (.istore_n 3, 1) := by decide +kernel
theorem dX5_lead_2 : decode cX5_lead 2 = .ok (.iconst 0, 1) := by decide +kernel
theorem dX5_lead_3 : decode cX5_lead 3 = .ok (.istore 4, 2) := by decide +kernel
theorem dX5_lead_5 : decode cX5_lead 5 = .ok (.iload 4, 2) := by decide +kernel
theorem dX5_lead_7 : decode cX5_lead 7 = .ok (.aload_n 0, 1) := by decide +kernel
theorem dX5_lead_8 : decode cX5_lead 8 = .ok (.getfield 67, 3) := by decide +kernel
theorem dX5_lead_11 : decode cX5_lead 11 = .ok (.if_icmp .ge 40, 3) := by decide +kernel
theorem dX5_lead_14 : decode cX5_lead 14 = .ok (.iload_n 3, 1) := by decide +kernel
theorem dX5_lead_15 : decode cX5_lead 15 = .ok (.aload_n 0, 1) := by decide +kernel
theorem dX5_lead_16 : decode cX5_lead 16 = .ok (.iload 4, 2) := by decide +kernel
theorem dX5_lead_18 : decode cX5_lead 18 = .ok (.iload_n 1, 1) := by decide +kernel
theorem dX5_lead_19 : decode cX5_lead 19 = .ok (.iconst 0, 1) := by decide +kernel
theorem dX5_lead_20 : decode cX5_lead 20 = .ok (.iconst 1, 1) := by decide +kernel
theorem dX5_lead_21 : decode cX5_lead 21 = .ok (.invokevirtual 94, 3) := by decide +kernel
theorem dX5_lead_24 : decode cX5_lead 24 = .ok (.ifCond .eq 18, 3) := by decide +kernel
theorem dX5_lead_27 : decode cX5_lead 27 = .ok (.aload_n 0, 1) := by decide +kernel
theorem dX5_lead_28 : decode cX5_lead 28 = .ok (.getfield 17, 3) := by decide +kernel
theorem dX5_lead_31 : decode cX5_lead 31 = .ok (.iload 4, 2) := by decide +kernel
theorem dX5_lead_33 : decode cX5_lead 33 = .ok (.iaload, 1) := by decide +kernel
theorem dX5_lead_34 : decode cX5_lead 34 = .ok (.iload_n 2, 1) := by decide +kernel
theorem dX5_lead_35 : decode cX5_lead 35 = .ok (.if_icmp .ne 7, 3) := by decide +kernel
theorem dX5_lead_38 : decode cX5_lead 38 = .ok (.iconst 1, 1) := by decide +kernel
theorem dX5_lead_39 : decode cX5_lead 39 = .ok (.goto 4, 3) := by decide +kernel
theorem dX5_lead_42 : decode cX5_lead 42 = .ok (.iconst 0, 1) := by decide +kernel
theorem dX5_lead_43 : decode cX5_lead 43 = .ok (.iadd, 1) := by decide +kernel
theorem dX5_lead_44 : decode cX5_lead 44 = .ok (.istore_n 3, 1) := by decide +kernel
theorem dX5_lead_45 : decode cX5_lead 45 = .ok (.iinc 4 1, 3) := by decide +kernel
theorem dX5_lead_48 : decode cX5_lead 48 = .ok (.goto (-43), 3) := by decide +kernel
theorem dX5_lead_51 : decode cX5_lead 51 = .ok (.iload_n 3, 1) := by decide +kernel
theorem dX5_lead_52 : decode cX5_lead 52 = .ok (.ireturn, 1) := by decide +kernel
set_option maxRecDepth 20000 in
theorem ggX5_between_X5_isNode : GoodIn wsX5_between wsX5_isNode := goodIn_r _ [6, 7, 25, 26, 27, 28, 29, 30, 31, 32, 33, 34, 35, 36, 37, 38, 39, 40, 41, 42, 43, 44] (by decide +kernel) (by decide +kernel)
set_option maxRecDepth 20000 in
theorem gX5_between_X5_isNode : GoodIn wsX5_between (wsV RX5 70 RX5 yX5_isNode wsX5_isNode) := goodIn_app (goodIn_of _ (by decide +kernel)) ggX5_between_X5_isNode
set_option maxRecDepth 20000 in
theorem ggX5_between_X5_lead : GoodIn wsX5_between wsX5_lead := goodIn_r _ [11, 12, 13, 14, 15, 16, 5, 17, 18, 19, 20, 21, 22, 23, 24, 25, 26, 27, 28, 29, 30, 31, 32, 33, 34, 35, 36, 37, 38, 39, 40, 41, 42, 43, 44] (by decide +kernel) (by decide +kernel)
set_option maxRecDepth 20000 in
theorem gX5_between_X5_lead : GoodIn wsX5_between (wsV RX5 110 RX5 yX5_lead wsX5_lead) := goodIn_app (goodIn_of _ (by decide +kernel)) ggX5_between_X5_lead
theorem dX5_between_0 : decode cX5_between 0 = .ok (.aload_n 0, 1) := by decide +kernel
theorem dX5_between_1 : decode cX5_between 1 = .ok (.iconst 0, 1) := by decide +kernel
theorem dX5_between_2 : decode cX5_between 2 = .ok (.putfield 1, 3) := by decide +kernel
theorem dX5_between_5 : decode cX5_between 5 = .ok (.aload_n 0, 1) := by decide +kernel
theorem dX5_between_6 : decode cX5_between 6 = .ok (.iload_n 1, 1) := by decide +kernel
theorem dX5_between_7 : decode cX5_between 7 = .ok (.invokevirtual 70, 3) := by decide +kernel
theorem dX5_between_10 : decode cX5_between 10 = .ok (.ifCond .eq 20, 3) := by decide +kernel
theorem dX5_between_13 : decode cX5_between 13 = .ok (.aload_n 0, 1) := by decide +kernel
theorem dX5_between_14 : decode cX5_between 14 = .ok (.iload_n 2, 1) := by decide +kernel
theorem dX5_between_15 : decode cX5_between 15 = .ok (.invokevirtual 70, 3) := by decide +kernel
theorem dX5_between_18 : decode cX5_between 18 = .ok (.ifCond .eq 12, 3) := by decide +kernel
theorem dX5_between_21 : decode cX5_between 21 = .ok (.aload_n 0, 1) := by decide +kernel
theorem dX5_between_22 : decode cX5_between 22 = .ok (.iload_n 1, 1) := by decide +kernel
theorem dX5_between_23 : decode cX5_between 23 = .ok (.iload_n 2, 1) := by decide +kernel
theorem dX5_between_24 : decode cX5_between 24 = .ok (.invokevirtual 110, 3) := by decide +kernel
theorem dX5_between_27 : decode cX5_between 27 = .ok (.goto 5, 3) := by decide +kernel
theorem dX5_between_30 : decode cX5_between 30 = .ok (.bipush (-2), 2) := by decide +kernel
theorem dX5_between_32 : decode cX5_between 32 = .ok (.ireturn, 1) := by decide +kernel
set_option maxRecDepth 20000 in
theorem ggX5_near_X5_isNode : GoodIn wsX5_near wsX5_isNode := goodIn_r _ [11, 2, 22, 23, 24, 25, 26, 27, 28, 29, 30, 31, 32, 33, 34, 35, 36, 37, 38, 39, 40, 41] (by decide +kernel) (by decide +kernel)
set_option maxRecDepth 20000 in
theorem gX5_near_X5_isNode : GoodIn wsX5_near (wsV RX5 70 RX5 yX5_isNode wsX5_isNode) := goodIn_app (goodIn_of _ (by decide +kernel)) ggX5_near_X5_isNode
set_option maxRecDepth 20000 in
theorem ggX5_near_X5_isOf : GoodIn wsX5_near wsX5_isOf := goodIn_r _ [15, 16, 17, 18, 19, 20, 10, 21, 6, 5, 22, 23, 24, 25, 26, 27, 28, 29, 30, 31, 32, 33, 34, 35, 36, 37, 38, 39, 40, 41] (by decide +kernel) (by decide +kernel)
set_option maxRecDepth 20000 in
theorem gX5_near_X5_isOf : GoodIn wsX5_near (wsV RX5 94 RX5 yX5_isOf wsX5_isOf) := goodIn_app (goodIn_of _ (by decide +kernel)) ggX5_near_X5_isOf
theorem dX5_near_0 : decode cX5_near 0 = .ok (.aload_n 0, 1) := by decide +kernel
theorem dX5_near_1 : decode cX5_near 1 = .ok (.iconst 0, 1) := by decide +kernel
theorem dX5_near_2 : decode cX5_near 2 = .ok (.putfield 1, 3) := by decide +kernel
theorem dX5_near_5 : decode cX5_near 5 = .ok (.aload_n 0, 1) := by decide +kernel
theorem dX5_near_6 : decode cX5_near 6 = .ok (.iload_n 1, 1) := by decide +kernel
theorem dX5_near_7 : decode cX5_near 7 = .ok (.invokevirtual 70, 3) := by decide +kernel
theorem dX5_near_10 : decode cX5_near 10 = .ok (.ifCond .eq 11, 3) := by decide +kernel
theorem dX5_near_13 : decode cX5_near 13 = .ok (.aload_n 0, 1) := by decide +kernel
theorem dX5_near_14 : decode cX5_near 14 = .ok (.iload_n 2, 1) := by decide +kernel
theorem dX5_near_15 : decode cX5_near 15 = .ok (.invokevirtual 70, 3) := by decide +kernel
theorem dX5_near_18 : decode cX5_near 18 = .ok (.ifCond .ne 6, 3) := by decide +kernel
theorem dX5_near_21 : decode cX5_near 21 = .ok (.bipush (-2), 2) := by decide +kernel
theorem dX5_near_23 : decode cX5_near 23 = .ok (.ireturn, 1) := by decide +kernel
theorem dX5_near_24 : decode cX5_near 24 = .ok (.iconst 0, 1) := by decide +kernel
theorem dX5_near_25 : decode cX5_near 25 = .ok (.istore_n 3, 1) := by decide +kernel
theorem dX5_near_26 : decode cX5_near 26 = .ok (.iload_n 3, 1) := by decide +kernel
theorem dX5_near_27 : decode cX5_near 27 = .ok (.aload_n 0, 1) := by decide +kernel
theorem dX5_near_28 : decode cX5_near 28 = .ok (.getfield 64, 3) := by decide +kernel
theorem dX5_near_31 : decode cX5_near 31 = .ok (.if_icmp .ge 25, 3) := by decide +kernel
theorem dX5_near_34 : decode cX5_near 34 = .ok (.aload_n 0, 1) := by decide +kernel
theorem dX5_near_35 : decode cX5_near 35 = .ok (.getfield 54, 3) := by decide +kernel
theorem dX5_near_38 : decode cX5_near 38 = .ok (.iload_n 3, 1) := by decide +kernel
theorem dX5_near_39 : decode cX5_near 39 = .ok (.iload_n 3, 1) := by decide +kernel
theorem dX5_near_40 : decode cX5_near 40 = .ok (.iload_n 1, 1) := by decide +kernel
theorem dX5_near_41 : decode cX5_near 41 = .ok (.if_icmp .ne 7, 3) := by decide +kernel
theorem dX5_near_44 : decode cX5_near 44 = .ok (.iconst 0, 1) := by decide +kernel
theorem dX5_near_45 : decode cX5_near 45 = .ok (.goto 4, 3) := by decide +kernel
theorem dX5_near_48 : decode cX5_near 48 = .ok (.iconst (-1), 1) := by decide +kernel
theorem dX5_near_49 : decode cX5_near 49 = .ok (.iastore, 1) := by decide +kernel
theorem dX5_near_50 : decode cX5_near 50 = .ok (.iinc 3 1, 3) := by decide +kernel
theorem dX5_near_53 : decode cX5_near 53 = .ok (.goto (-27), 3) := by decide +kernel
theorem dX5_near_56 : decode cX5_near 56 = .ok (.iconst 0, 1) := by decide +kernel
theorem dX5_near_57 : decode cX5_near 57 = .ok (.istore_n 3, 1) := by decide +kernel
theorem dX5_near_58 : decode cX5_near 58 = .ok (.iload_n 3, 1) := by decide +kernel
theorem dX5_near_59 : decode cX5_near 59 = .ok (.aload_n 0, 1) := by decide +kernel
theorem dX5_near_60 : decode cX5_near 60 = .ok (.getfield 64, 3) := by decide +kernel
theorem dX5_near_63 : decode cX5_near 63 = .ok (.if_icmp .ge 92, 3) := by decide +kernel
theorem dX5_near_66 : decode cX5_near 66 = .ok (.iconst 0, 1) := by decide +kernel
theorem dX5_near_67 : decode cX5_near 67 = .ok (.istore 4, 2) := by decide +kernel
theorem dX5_near_69 : decode cX5_near 69 = .ok (.iload 4, 2) := by decide +kernel
theorem dX5_near_71 : decode cX5_near 71 = .ok (.aload_n 0, 1) := by decide +kernel
theorem dX5_near_72 : decode cX5_near 72 = .ok (.getfield 67, 3) := by decide +kernel
theorem dX5_near_75 : decode cX5_near 75 = .ok (.if_icmp .ge 74, 3) := by decide +kernel
theorem dX5_near_78 : decode cX5_near 78 = .ok (.aload_n 0, 1) := by decide +kernel
theorem dX5_near_79 : decode cX5_near 79 = .ok (.iload 4, 2) := by decide +kernel
theorem dX5_near_81 : decode cX5_near 81 = .ok (.aload_n 0, 1) := by decide +kernel
theorem dX5_near_82 : decode cX5_near 82 = .ok (.getfield 13, 3) := by decide +kernel
theorem dX5_near_85 : decode cX5_near 85 = .ok (.iload 4, 2) := by decide +kernel
theorem dX5_near_87 : decode cX5_near 87 = .ok (.iaload, 1) := by decide +kernel
theorem dX5_near_88 : decode cX5_near 88 = .ok (.iconst 0, 1) := by decide +kernel
theorem dX5_near_89 : decode cX5_near 89 = .ok (.iconst 1, 1) := by decide +kernel
theorem dX5_near_90 : decode cX5_near 90 = .ok (.invokevirtual 94, 3) := by decide +kernel
theorem dX5_near_93 : decode cX5_near 93 = .ok (.ifCond .eq 50, 3) := by decide +kernel
theorem dX5_near_96 : decode cX5_near 96 = .ok (.aload_n 0, 1) := by decide +kernel
theorem dX5_near_97 : decode cX5_near 97 = .ok (.getfield 54, 3) := by decide +kernel
theorem dX5_near_100 : decode cX5_near 100 = .ok (.aload_n 0, 1) := by decide +kernel
theorem dX5_near_101 : decode cX5_near 101 = .ok (.getfield 13, 3) := by decide +kernel
theorem dX5_near_104 : decode cX5_near 104 = .ok (.iload 4, 2) := by decide +kernel
theorem dX5_near_106 : decode cX5_near 106 = .ok (.iaload, 1) := by decide +kernel
theorem dX5_near_107 : decode cX5_near 107 = .ok (.iaload, 1) := by decide +kernel
theorem dX5_near_108 : decode cX5_near 108 = .ok (.iload_n 3, 1) := by decide +kernel
theorem dX5_near_109 : decode cX5_near 109 = .ok (.if_icmp .ne 34, 3) := by decide +kernel
theorem dX5_near_112 : decode cX5_near 112 = .ok (.aload_n 0, 1) := by decide +kernel
theorem dX5_near_113 : decode cX5_near 113 = .ok (.getfield 54, 3) := by decide +kernel
theorem dX5_near_116 : decode cX5_near 116 = .ok (.aload_n 0, 1) := by decide +kernel
theorem dX5_near_117 : decode cX5_near 117 = .ok (.getfield 17, 3) := by decide +kernel
theorem dX5_near_120 : decode cX5_near 120 = .ok (.iload 4, 2) := by decide +kernel
theorem dX5_near_122 : decode cX5_near 122 = .ok (.iaload, 1) := by decide +kernel
theorem dX5_near_123 : decode cX5_near 123 = .ok (.iaload, 1) := by decide +kernel
theorem dX5_near_124 : decode cX5_near 124 = .ok (.iconst (-1), 1) := by decide +kernel
theorem dX5_near_125 : decode cX5_near 125 = .ok (.if_icmp .ne 18, 3) := by decide +kernel
theorem dX5_near_128 : decode cX5_near 128 = .ok (.aload_n 0, 1) := by decide +kernel
theorem dX5_near_129 : decode cX5_near 129 = .ok (.getfield 54, 3) := by decide +kernel
theorem dX5_near_132 : decode cX5_near 132 = .ok (.aload_n 0, 1) := by decide +kernel
theorem dX5_near_133 : decode cX5_near 133 = .ok (.getfield 17, 3) := by decide +kernel
theorem dX5_near_136 : decode cX5_near 136 = .ok (.iload 4, 2) := by decide +kernel
theorem dX5_near_138 : decode cX5_near 138 = .ok (.iaload, 1) := by decide +kernel
theorem dX5_near_139 : decode cX5_near 139 = .ok (.iload_n 3, 1) := by decide +kernel
theorem dX5_near_140 : decode cX5_near 140 = .ok (.iconst 1, 1) := by decide +kernel
theorem dX5_near_141 : decode cX5_near 141 = .ok (.iadd, 1) := by decide +kernel
theorem dX5_near_142 : decode cX5_near 142 = .ok (.iastore, 1) := by decide +kernel
theorem dX5_near_143 : decode cX5_near 143 = .ok (.iinc 4 1, 3) := by decide +kernel
theorem dX5_near_146 : decode cX5_near 146 = .ok (.goto (-77), 3) := by decide +kernel
theorem dX5_near_149 : decode cX5_near 149 = .ok (.iinc 3 1, 3) := by decide +kernel
theorem dX5_near_152 : decode cX5_near 152 = .ok (.goto (-94), 3) := by decide +kernel
theorem dX5_near_155 : decode cX5_near 155 = .ok (.aload_n 0, 1) := by decide +kernel
theorem dX5_near_156 : decode cX5_near 156 = .ok (.getfield 54, 3) := by decide +kernel
theorem dX5_near_159 : decode cX5_near 159 = .ok (.iload_n 2, 1) := by decide +kernel
theorem dX5_near_160 : decode cX5_near 160 = .ok (.iaload, 1) := by decide +kernel
theorem dX5_near_161 : decode cX5_near 161 = .ok (.ireturn, 1) := by decide +kernel
set_option maxRecDepth 20000 in
theorem ggX5_ways_X5_isNode : GoodIn wsX5_ways wsX5_isNode := goodIn_r _ [14, 4, 25, 26, 27, 28, 29, 30, 31, 32, 33, 34, 35, 36, 37, 38, 39, 40, 41, 42, 43, 44] (by decide +kernel) (by decide +kernel)
set_option maxRecDepth 20000 in
theorem gX5_ways_X5_isNode : GoodIn wsX5_ways (wsV RX5 70 RX5 yX5_isNode wsX5_isNode) := goodIn_app (goodIn_of _ (by decide +kernel)) ggX5_ways_X5_isNode
set_option maxRecDepth 20000 in
theorem ggX5_ways_X5_isOf : GoodIn wsX5_ways wsX5_isOf := goodIn_r _ [18, 19, 20, 21, 22, 23, 13, 24, 8, 9, 25, 26, 27, 28, 29, 30, 31, 32, 33, 34, 35, 36, 37, 38, 39, 40, 41, 42, 43, 44] (by decide +kernel) (by decide +kernel)
set_option maxRecDepth 20000 in
theorem gX5_ways_X5_isOf : GoodIn wsX5_ways (wsV RX5 94 RX5 yX5_isOf wsX5_isOf) := goodIn_app (goodIn_of _ (by decide +kernel)) ggX5_ways_X5_isOf
theorem dX5_ways_0 : decode cX5_ways 0 = .ok (.aload_n 0, 1) := by decide +kernel
theorem dX5_ways_1 : decode cX5_ways 1 = .ok (.iconst 0, 1) := by decide +kernel
theorem dX5_ways_2 : decode cX5_ways 2 = .ok (.putfield 1, 3) := by decide +kernel
theorem dX5_ways_5 : decode cX5_ways 5 = .ok (.aload_n 0, 1) := by decide +kernel
theorem dX5_ways_6 : decode cX5_ways 6 = .ok (.iload_n 1, 1) := by decide +kernel
theorem dX5_ways_7 : decode cX5_ways 7 = .ok (.invokevirtual 70, 3) := by decide +kernel
theorem dX5_ways_10 : decode cX5_ways 10 = .ok (.ifCond .eq 11, 3) := by decide +kernel
theorem dX5_ways_13 : decode cX5_ways 13 = .ok (.aload_n 0, 1) := by decide +kernel
theorem dX5_ways_14 : decode cX5_ways 14 = .ok (.iload_n 2, 1) := by decide +kernel
theorem dX5_ways_15 : decode cX5_ways 15 = .ok (.invokevirtual 70, 3) := by decide +kernel
theorem dX5_ways_18 : decode cX5_ways 18 = .ok (.ifCond .ne 7, 3) := by decide +kernel
theorem dX5_ways_21 : decode cX5_ways 21 = .ok (.ldc2_w 114, 3) := by decide +kernel
theorem dX5_ways_24 : decode cX5_ways 24 = .ok (.lreturn, 1) := by decide +kernel
theorem dX5_ways_25 : decode cX5_ways 25 = .ok (.iload_n 3, 1) := by decide +kernel
theorem dX5_ways_26 : decode cX5_ways 26 = .ok (.ifCond .lt 9, 3) := by decide +kernel
theorem dX5_ways_29 : decode cX5_ways 29 = .ok (.iload_n 3, 1) := by decide +kernel
theorem dX5_ways_30 : decode cX5_ways 30 = .ok (.bipush 60, 2) := by decide +kernel
theorem dX5_ways_32 : decode cX5_ways 32 = .ok (.if_icmp .le 7, 3) := by decide +kernel
theorem dX5_ways_35 : decode cX5_ways 35 = .ok (.ldc2_w 116, 3) := by decide +kernel
theorem dX5_ways_38 : decode cX5_ways 38 = .ok (.lreturn, 1) := by decide +kernel
theorem dX5_ways_39 : decode cX5_ways 39 = .ok (.iconst 0, 1) := by decide +kernel
theorem dX5_ways_40 : decode cX5_ways 40 = .ok (.istore 4, 2) := by decide +kernel
theorem dX5_ways_42 : decode cX5_ways 42 = .ok (.iload 4, 2) := by decide +kernel
theorem dX5_ways_44 : decode cX5_ways 44 = .ok (.aload_n 0, 1) := by decide +kernel
theorem dX5_ways_45 : decode cX5_ways 45 = .ok (.getfield 64, 3) := by decide +kernel
theorem dX5_ways_48 : decode cX5_ways 48 = .ok (.if_icmp .ge 27, 3) := by decide +kernel
theorem dX5_ways_51 : decode cX5_ways 51 = .ok (.aload_n 0, 1) := by decide +kernel
theorem dX5_ways_52 : decode cX5_ways 52 = .ok (.getfield 57, 3) := by decide +kernel
theorem dX5_ways_55 : decode cX5_ways 55 = .ok (.iload 4, 2) := by decide +kernel
theorem dX5_ways_57 : decode cX5_ways 57 = .ok (.iload 4, 2) := by decide +kernel
theorem dX5_ways_59 : decode cX5_ways 59 = .ok (.iload_n 1, 1) := by decide +kernel
theorem dX5_ways_60 : decode cX5_ways 60 = .ok (.if_icmp .ne 7, 3) := by decide +kernel
theorem dX5_ways_63 : decode cX5_ways 63 = .ok (.lconst 1, 1) := by decide +kernel
theorem dX5_ways_64 : decode cX5_ways 64 = .ok (.goto 4, 3) := by decide +kernel
theorem dX5_ways_67 : decode cX5_ways 67 = .ok (.lconst 0, 1) := by decide +kernel
theorem dX5_ways_68 : decode cX5_ways 68 = .ok (.lastore, 1) := by decide +kernel
theorem dX5_ways_69 : decode cX5_ways 69 = .ok (.iinc 4 1, 3) := by decide +kernel
theorem dX5_ways_72 : decode cX5_ways 72 = .ok (.goto (-30), 3) := by decide +kernel
theorem dX5_ways_75 : decode cX5_ways 75 = .ok (.iconst 0, 1) := by decide +kernel
theorem dX5_ways_76 : decode cX5_ways 76 = .ok (.istore 4, 2) := by decide +kernel
theorem dX5_ways_78 : decode cX5_ways 78 = .ok (.iload 4, 2) := by decide +kernel
theorem dX5_ways_80 : decode cX5_ways 80 = .ok (.iload_n 3, 1) := by decide +kernel
theorem dX5_ways_81 : decode cX5_ways 81 = .ok (.if_icmp .ge 134, 3) := by decide +kernel
theorem dX5_ways_84 : decode cX5_ways 84 = .ok (.iconst 0, 1) := by decide +kernel
theorem dX5_ways_85 : decode cX5_ways 85 = .ok (.istore 5, 2) := by decide +kernel
theorem dX5_ways_87 : decode cX5_ways 87 = .ok (.iload 5, 2) := by decide +kernel
theorem dX5_ways_89 : decode cX5_ways 89 = .ok (.aload_n 0, 1) := by decide +kernel
theorem dX5_ways_90 : decode cX5_ways 90 = .ok (.getfield 64, 3) := by decide +kernel
theorem dX5_ways_93 : decode cX5_ways 93 = .ok (.if_icmp .ge 17, 3) := by decide +kernel
theorem dX5_ways_96 : decode cX5_ways 96 = .ok (.aload_n 0, 1) := by decide +kernel
theorem dX5_ways_97 : decode cX5_ways 97 = .ok (.getfield 61, 3) := by decide +kernel
theorem dX5_ways_100 : decode cX5_ways 100 = .ok (.iload 5, 2) := by decide +kernel
theorem dX5_ways_102 : decode cX5_ways 102 = .ok (.lconst 0, 1) := by decide +kernel
theorem dX5_ways_103 : decode cX5_ways 103 = .ok (.lastore, 1) := by decide +kernel
theorem dX5_ways_104 : decode cX5_ways 104 = .ok (.iinc 5 1, 3) := by decide +kernel
theorem dX5_ways_107 : decode cX5_ways 107 = .ok (.goto (-20), 3) := by decide +kernel
theorem dX5_ways_110 : decode cX5_ways 110 = .ok (.iconst 0, 1) := by decide +kernel
theorem dX5_ways_111 : decode cX5_ways 111 = .ok (.istore 5, 2) := by decide +kernel
theorem dX5_ways_113 : decode cX5_ways 113 = .ok (.iload 5, 2) := by decide +kernel
theorem dX5_ways_115 : decode cX5_ways 115 = .ok (.aload_n 0, 1) := by decide +kernel
theorem dX5_ways_116 : decode cX5_ways 116 = .ok (.getfield 67, 3) := by decide +kernel
theorem dX5_ways_119 : decode cX5_ways 119 = .ok (.if_icmp .ge 58, 3) := by decide +kernel
theorem dX5_ways_122 : decode cX5_ways 122 = .ok (.aload_n 0, 1) := by decide +kernel
theorem dX5_ways_123 : decode cX5_ways 123 = .ok (.getfield 61, 3) := by decide +kernel
theorem dX5_ways_126 : decode cX5_ways 126 = .ok (.aload_n 0, 1) := by decide +kernel
theorem dX5_ways_127 : decode cX5_ways 127 = .ok (.getfield 17, 3) := by decide +kernel
theorem dX5_ways_130 : decode cX5_ways 130 = .ok (.iload 5, 2) := by decide +kernel
theorem dX5_ways_132 : decode cX5_ways 132 = .ok (.iaload, 1) := by decide +kernel
theorem dX5_ways_133 : decode cX5_ways 133 = .ok (.dup2, 1) := by decide +kernel
theorem dX5_ways_134 : decode cX5_ways 134 = .ok (.laload, 1) := by decide +kernel
theorem dX5_ways_135 : decode cX5_ways 135 = .ok (.aload_n 0, 1) := by decide +kernel
theorem dX5_ways_136 : decode cX5_ways 136 = .ok (.iload 5, 2) := by decide +kernel
theorem dX5_ways_138 : decode cX5_ways 138 = .ok (.aload_n 0, 1) := by decide +kernel
theorem dX5_ways_139 : decode cX5_ways 139 = .ok (.getfield 13, 3) := by decide +kernel
theorem dX5_ways_142 : decode cX5_ways 142 = .ok (.iload 5, 2) := by decide +kernel
theorem dX5_ways_144 : decode cX5_ways 144 = .ok (.iaload, 1) := by decide +kernel
theorem dX5_ways_145 : decode cX5_ways 145 = .ok (.iconst 0, 1) := by decide +kernel
theorem dX5_ways_146 : decode cX5_ways 146 = .ok (.iconst 1, 1) := by decide +kernel
theorem dX5_ways_147 : decode cX5_ways 147 = .ok (.invokevirtual 94, 3) := by decide +kernel
theorem dX5_ways_150 : decode cX5_ways 150 = .ok (.ifCond .eq 18, 3) := by decide +kernel
theorem dX5_ways_153 : decode cX5_ways 153 = .ok (.aload_n 0, 1) := by decide +kernel
theorem dX5_ways_154 : decode cX5_ways 154 = .ok (.getfield 57, 3) := by decide +kernel
theorem dX5_ways_157 : decode cX5_ways 157 = .ok (.aload_n 0, 1) := by decide +kernel
theorem dX5_ways_158 : decode cX5_ways 158 = .ok (.getfield 13, 3) := by decide +kernel
theorem dX5_ways_161 : decode cX5_ways 161 = .ok (.iload 5, 2) := by decide +kernel
theorem dX5_ways_163 : decode cX5_ways 163 = .ok (.iaload, 1) := by decide +kernel
theorem dX5_ways_164 : decode cX5_ways 164 = .ok (.laload, 1) := by decide +kernel
theorem dX5_ways_165 : decode cX5_ways 165 = .ok (.goto 4, 3) := by decide +kernel
theorem dX5_ways_168 : decode cX5_ways 168 = .ok (.lconst 0, 1) := by decide +kernel
theorem dX5_ways_169 : decode cX5_ways 169 = .ok (.ladd, 1) := by decide +kernel
theorem dX5_ways_170 : decode cX5_ways 170 = .ok (.lastore, 1) := by decide +kernel
theorem dX5_ways_171 : decode cX5_ways 171 = .ok (.iinc 5 1, 3) := by decide +kernel
theorem dX5_ways_174 : decode cX5_ways 174 = .ok (.goto (-61), 3) := by decide +kernel
theorem dX5_ways_177 : decode cX5_ways 177 = .ok (.iconst 0, 1) := by decide +kernel
theorem dX5_ways_178 : decode cX5_ways 178 = .ok (.istore 5, 2) := by decide +kernel
theorem dX5_ways_180 : decode cX5_ways 180 = .ok (.iload 5, 2) := by decide +kernel
theorem dX5_ways_182 : decode cX5_ways 182 = .ok (.aload_n 0, 1) := by decide +kernel
theorem dX5_ways_183 : decode cX5_ways 183 = .ok (.getfield 64, 3) := by decide +kernel
theorem dX5_ways_186 : decode cX5_ways 186 = .ok (.if_icmp .ge 23, 3) := by decide +kernel
theorem dX5_ways_189 : decode cX5_ways 189 = .ok (.aload_n 0, 1) := by decide +kernel
theorem dX5_ways_190 : decode cX5_ways 190 = .ok (.getfield 57, 3) := by decide +kernel
theorem dX5_ways_193 : decode cX5_ways 193 = .ok (.iload 5, 2) := by decide +kernel
theorem dX5_ways_195 : decode cX5_ways 195 = .ok (.aload_n 0, 1) := by decide +kernel
theorem dX5_ways_196 : decode cX5_ways 196 = .ok (.getfield 61, 3) := by decide +kernel
theorem dX5_ways_199 : decode cX5_ways 199 = .ok (.iload 5, 2) := by decide +kernel
theorem dX5_ways_201 : decode cX5_ways 201 = .ok (.laload, 1) := by decide +kernel
theorem dX5_ways_202 : decode cX5_ways 202 = .ok (.lastore, 1) := by decide +kernel
theorem dX5_ways_203 : decode cX5_ways 203 = .ok (.iinc 5 1, 3) := by decide +kernel
theorem dX5_ways_206 : decode cX5_ways 206 = .ok (.goto (-26), 3) := by decide +kernel
theorem dX5_ways_209 : decode cX5_ways 209 = .ok (.iinc 4 1, 3) := by decide +kernel
theorem dX5_ways_212 : decode cX5_ways 212 = .ok (.goto (-134), 3) := by decide +kernel
theorem dX5_ways_215 : decode cX5_ways 215 = .ok (.aload_n 0, 1) := by decide +kernel
theorem dX5_ways_216 : decode cX5_ways 216 = .ok (.getfield 57, 3) := by decide +kernel
theorem dX5_ways_219 : decode cX5_ways 219 = .ok (.iload_n 2, 1) := by decide +kernel
theorem dX5_ways_220 : decode cX5_ways 220 = .ok (.laload, 1) := by decide +kernel
theorem dX5_ways_221 : decode cX5_ways 221 = .ok (.lreturn, 1) := by decide +kernel
set_option maxRecDepth 20000 in
theorem ggX5_open_X5_isNode : GoodIn wsX5_open wsX5_isNode := goodIn_r _ [12, 13, 14, 15, 16, 17, 18, 19, 20, 21, 22, 23, 24, 25, 26, 27, 28, 29, 30, 31, 32, 33] (by decide +kernel) (by decide +kernel)
set_option maxRecDepth 20000 in
theorem gX5_open_X5_isNode : GoodIn wsX5_open (wsV RX5 70 RX5 yX5_isNode wsX5_isNode) := goodIn_app (goodIn_of _ (by decide +kernel)) ggX5_open_X5_isNode
theorem dX5_open_0 : decode cX5_open 0 = .ok (.aload_n 0, 1) := by decide +kernel
theorem dX5_open_1 : decode cX5_open 1 = .ok (.iconst 0, 1) := by decide +kernel
theorem dX5_open_2 : decode cX5_open 2 = .ok (.putfield 1, 3) := by decide +kernel
theorem dX5_open_5 : decode cX5_open 5 = .ok (.aload_n 0, 1) := by decide +kernel
theorem dX5_open_6 : decode cX5_open 6 = .ok (.iload_n 1, 1) := by decide +kernel
theorem dX5_open_7 : decode cX5_open 7 = .ok (.invokevirtual 70, 3) := by decide +kernel
theorem dX5_open_10 : decode cX5_open 10 = .ok (.ifCond .ne 6, 3) := by decide +kernel
theorem dX5_open_13 : decode cX5_open 13 = .ok (.bipush (-2), 2) := by decide +kernel
theorem dX5_open_15 : decode cX5_open 15 = .ok (.ireturn, 1) := by decide +kernel
theorem dX5_open_16 : decode cX5_open 16 = .ok (.iconst 0, 1) := by decide +kernel
theorem dX5_open_17 : decode cX5_open 17 = .ok (.istore_n 3, 1) := by decide +kernel
theorem dX5_open_18 : decode cX5_open 18 = .ok (.iload_n 3, 1) := by decide +kernel
theorem dX5_open_19 : decode cX5_open 19 = .ok (.bipush 8, 2) := by decide +kernel
theorem dX5_open_21 : decode cX5_open 21 = .ok (.if_icmp .ge 18, 3) := by decide +kernel
theorem dX5_open_24 : decode cX5_open 24 = .ok (.aload_n 0, 1) := by decide +kernel
theorem dX5_open_25 : decode cX5_open 25 = .ok (.getfield 30, 3) := by decide +kernel
theorem dX5_open_28 : decode cX5_open 28 = .ok (.iload_n 3, 1) := by decide +kernel
theorem dX5_open_29 : decode cX5_open 29 = .ok (.baload, 1) := by decide +kernel
theorem dX5_open_30 : decode cX5_open 30 = .ok (.ifCond .eq 9, 3) := by decide +kernel
theorem dX5_open_33 : decode cX5_open 33 = .ok (.iinc 3 1, 3) := by decide +kernel
theorem dX5_open_36 : decode cX5_open 36 = .ok (.goto (-18), 3) := by decide +kernel
theorem dX5_open_39 : decode cX5_open 39 = .ok (.iload_n 3, 1) := by decide +kernel
theorem dX5_open_40 : decode cX5_open 40 = .ok (.bipush 8, 2) := by decide +kernel
theorem dX5_open_42 : decode cX5_open 42 = .ok (.if_icmp .ne 6, 3) := by decide +kernel
theorem dX5_open_45 : decode cX5_open 45 = .ok (.bipush (-6), 2) := by decide +kernel
theorem dX5_open_47 : decode cX5_open 47 = .ok (.ireturn, 1) := by decide +kernel
theorem dX5_open_48 : decode cX5_open 48 = .ok (.aload_n 0, 1) := by decide +kernel
theorem dX5_open_49 : decode cX5_open 49 = .ok (.getfield 30, 3) := by decide +kernel
theorem dX5_open_52 : decode cX5_open 52 = .ok (.iload_n 3, 1) := by decide +kernel
theorem dX5_open_53 : decode cX5_open 53 = .ok (.iconst 1, 1) := by decide +kernel
theorem dX5_open_54 : decode cX5_open 54 = .ok (.bastore, 1) := by decide +kernel
theorem dX5_open_55 : decode cX5_open 55 = .ok (.aload_n 0, 1) := by decide +kernel
theorem dX5_open_56 : decode cX5_open 56 = .ok (.getfield 33, 3) := by decide +kernel
theorem dX5_open_59 : decode cX5_open 59 = .ok (.iload_n 3, 1) := by decide +kernel
theorem dX5_open_60 : decode cX5_open 60 = .ok (.iconst 0, 1) := by decide +kernel
theorem dX5_open_61 : decode cX5_open 61 = .ok (.bastore, 1) := by decide +kernel
theorem dX5_open_62 : decode cX5_open 62 = .ok (.aload_n 0, 1) := by decide +kernel
theorem dX5_open_63 : decode cX5_open 63 = .ok (.getfield 36, 3) := by decide +kernel
theorem dX5_open_66 : decode cX5_open 66 = .ok (.iload_n 3, 1) := by decide +kernel
theorem dX5_open_67 : decode cX5_open 67 = .ok (.iload_n 1, 1) := by decide +kernel
theorem dX5_open_68 : decode cX5_open 68 = .ok (.iastore, 1) := by decide +kernel
theorem dX5_open_69 : decode cX5_open 69 = .ok (.aload_n 0, 1) := by decide +kernel
theorem dX5_open_70 : decode cX5_open 70 = .ok (.getfield 39, 3) := by decide +kernel
theorem dX5_open_73 : decode cX5_open 73 = .ok (.iload_n 3, 1) := by decide +kernel
theorem dX5_open_74 : decode cX5_open 74 = .ok (.iload_n 2, 1) := by decide +kernel
theorem dX5_open_75 : decode cX5_open 75 = .ok (.bastore, 1) := by decide +kernel
theorem dX5_open_76 : decode cX5_open 76 = .ok (.aload_n 0, 1) := by decide +kernel
theorem dX5_open_77 : decode cX5_open 77 = .ok (.getfield 42, 3) := by decide +kernel
theorem dX5_open_80 : decode cX5_open 80 = .ok (.iload_n 3, 1) := by decide +kernel
theorem dX5_open_81 : decode cX5_open 81 = .ok (.iconst (-1), 1) := by decide +kernel
theorem dX5_open_82 : decode cX5_open 82 = .ok (.iastore, 1) := by decide +kernel
theorem dX5_open_83 : decode cX5_open 83 = .ok (.aload_n 0, 1) := by decide +kernel
theorem dX5_open_84 : decode cX5_open 84 = .ok (.getfield 45, 3) := by decide +kernel
theorem dX5_open_87 : decode cX5_open 87 = .ok (.iload_n 3, 1) := by decide +kernel
theorem dX5_open_88 : decode cX5_open 88 = .ok (.iconst 0, 1) := by decide +kernel
theorem dX5_open_89 : decode cX5_open 89 = .ok (.iastore, 1) := by decide +kernel
theorem dX5_open_90 : decode cX5_open 90 = .ok (.iload_n 3, 1) := by decide +kernel
theorem dX5_open_91 : decode cX5_open 91 = .ok (.ireturn, 1) := by decide +kernel
theorem dX5_isIterator_0 : decode cX5_isIterator 0 = .ok (.iload_n 1, 1) := by decide +kernel
theorem dX5_isIterator_1 : decode cX5_isIterator 1 = .ok (.ifCond .lt 22, 3) := by decide +kernel
theorem dX5_isIterator_4 : decode cX5_isIterator 4 = .ok (.iload_n 1, 1) := by decide +kernel
theorem dX5_isIterator_5 : decode cX5_isIterator 5 = .ok (.bipush 8, 2) := by decide +kernel
theorem dX5_isIterator_7 : decode cX5_isIterator 7 = .ok (.if_icmp .ge 16, 3) := by decide +kernel
theorem dX5_isIterator_10 : decode cX5_isIterator 10 = .ok (.aload_n 0, 1) := by decide +kernel
theorem dX5_isIterator_11 : decode cX5_isIterator 11 = .ok (.getfield 30, 3) := by decide +kernel
theorem dX5_isIterator_14 : decode cX5_isIterator 14 = .ok (.iload_n 1, 1) := by decide +kernel
theorem dX5_isIterator_15 : decode cX5_isIterator 15 = .ok (.baload, 1) := by decide +kernel
theorem dX5_isIterator_16 : decode cX5_isIterator 16 = .ok (.ifCond .eq 7, 3) := by decide +kernel
theorem dX5_isIterator_19 : decode cX5_isIterator 19 = .ok (.iconst 1, 1) := by decide +kernel
theorem dX5_isIterator_20 : decode cX5_isIterator 20 = .ok (.goto 4, 3) := by decide +kernel
theorem dX5_isIterator_23 : decode cX5_isIterator 23 = .ok (.iconst 0, 1) := by decide +kernel
theorem dX5_isIterator_24 : decode cX5_isIterator 24 = .ok (.ireturn, 1) := by decide +kernel
set_option maxRecDepth 20000 in
theorem ggX5_next_X5_isIterator : GoodIn wsX5_next wsX5_isIterator := goodIn_r _ [12, 13, 34, 35, 36, 37, 38, 39, 40, 41, 42, 43, 44, 45, 46, 47, 48, 49, 50, 51, 52, 53] (by decide +kernel) (by decide +kernel)
set_option maxRecDepth 20000 in
theorem gX5_next_X5_isIterator : GoodIn wsX5_next (wsV RX5 118 RX5 yX5_isIterator wsX5_isIterator) := goodIn_app (goodIn_of _ (by decide +kernel)) ggX5_next_X5_isIterator
set_option maxRecDepth 20000 in
theorem ggX5_next_X5_isOf : GoodIn wsX5_next wsX5_isOf := goodIn_r _ [17, 18, 19, 20, 21, 22, 11, 23, 24, 25, 34, 35, 36, 37, 38, 39, 40, 41, 42, 43, 44, 45, 46, 47, 48, 49, 50, 51, 52, 53] (by decide +kernel) (by decide +kernel)
set_option maxRecDepth 20000 in
theorem gX5_next_X5_isOf : GoodIn wsX5_next (wsV RX5 94 RX5 yX5_isOf wsX5_isOf) := goodIn_app (goodIn_of _ (by decide +kernel)) ggX5_next_X5_isOf
set_option maxRecDepth 20000 in
theorem ggX5_next_X5_isAhead : GoodIn wsX5_next wsX5_isAhead := goodIn_r _ [29, 18, 30, 31, 32, 11, 33, 25, 24, 34, 35, 36, 37, 38, 39, 40, 41, 42, 43, 44, 45, 46, 47, 48, 49, 50, 51, 52, 53] (by decide +kernel) (by decide +kernel)
set_option maxRecDepth 20000 in
theorem gX5_next_X5_isAhead : GoodIn wsX5_next (wsV RX5 98 RX5 yX5_isAhead wsX5_isAhead) := goodIn_app (goodIn_of _ (by decide +kernel)) ggX5_next_X5_isAhead
theorem dX5_next_0 : decode cX5_next 0 = .ok (.aload_n 0, 1) := by decide +kernel
theorem dX5_next_1 : decode cX5_next 1 = .ok (.iconst 0, 1) := by decide +kernel
theorem dX5_next_2 : decode cX5_next 2 = .ok (.putfield 1, 3) := by decide +kernel
theorem dX5_next_5 : decode cX5_next 5 = .ok (.aload_n 0, 1) := by decide +kernel
theorem dX5_next_6 : decode cX5_next 6 = .ok (.iload_n 1, 1) := by decide +kernel
theorem dX5_next_7 : decode cX5_next 7 = .ok (.invokevirtual 118, 3) := by decide +kernel
theorem dX5_next_10 : decode cX5_next 10 = .ok (.ifCond .ne 6, 3) := by decide +kernel
theorem dX5_next_13 : decode cX5_next 13 = .ok (.bipush (-2), 2) := by decide +kernel
theorem dX5_next_15 : decode cX5_next 15 = .ok (.ireturn, 1) := by decide +kernel
theorem dX5_next_16 : decode cX5_next 16 = .ok (.aload_n 0, 1) := by decide +kernel
theorem dX5_next_17 : decode cX5_next 17 = .ok (.getfield 33, 3) := by decide +kernel
theorem dX5_next_20 : decode cX5_next 20 = .ok (.iload_n 1, 1) := by decide +kernel
theorem dX5_next_21 : decode cX5_next 21 = .ok (.baload, 1) := by decide +kernel
theorem dX5_next_22 : decode cX5_next 22 = .ok (.ifCond .eq 6, 3) := by decide +kernel
theorem dX5_next_25 : decode cX5_next 25 = .ok (.bipush (-4), 2) := by decide +kernel
theorem dX5_next_27 : decode cX5_next 27 = .ok (.ireturn, 1) := by decide +kernel
theorem dX5_next_28 : decode cX5_next 28 = .ok (.iconst (-1), 1) := by decide +kernel
theorem dX5_next_29 : decode cX5_next 29 = .ok (.istore_n 2, 1) := by decide +kernel
theorem dX5_next_30 : decode cX5_next 30 = .ok (.iconst 0, 1) := by decide +kernel
theorem dX5_next_31 : decode cX5_next 31 = .ok (.istore_n 3, 1) := by decide +kernel
theorem dX5_next_32 : decode cX5_next 32 = .ok (.iload_n 3, 1) := by decide +kernel
theorem dX5_next_33 : decode cX5_next 33 = .ok (.aload_n 0, 1) := by decide +kernel
theorem dX5_next_34 : decode cX5_next 34 = .ok (.getfield 67, 3) := by decide +kernel
theorem dX5_next_37 : decode cX5_next 37 = .ok (.if_icmp .ge 94, 3) := by decide +kernel
theorem dX5_next_40 : decode cX5_next 40 = .ok (.aload_n 0, 1) := by decide +kernel
theorem dX5_next_41 : decode cX5_next 41 = .ok (.iload_n 3, 1) := by decide +kernel
theorem dX5_next_42 : decode cX5_next 42 = .ok (.aload_n 0, 1) := by decide +kernel
theorem dX5_next_43 : decode cX5_next 43 = .ok (.getfield 36, 3) := by decide +kernel
theorem dX5_next_46 : decode cX5_next 46 = .ok (.iload_n 1, 1) := by decide +kernel
theorem dX5_next_47 : decode cX5_next 47 = .ok (.iaload, 1) := by decide +kernel
theorem dX5_next_48 : decode cX5_next 48 = .ok (.aload_n 0, 1) := by decide +kernel
theorem dX5_next_49 : decode cX5_next 49 = .ok (.getfield 39, 3) := by decide +kernel
theorem dX5_next_52 : decode cX5_next 52 = .ok (.iload_n 1, 1) := by decide +kernel
theorem dX5_next_53 : decode cX5_next 53 = .ok (.baload, 1) := by decide +kernel
theorem dX5_next_54 : decode cX5_next 54 = .ok (.iconst 1, 1) := by decide +kernel
theorem dX5_next_55 : decode cX5_next 55 = .ok (.invokevirtual 94, 3) := by decide +kernel
theorem dX5_next_58 : decode cX5_next 58 = .ok (.ifCond .eq 37, 3) := by decide +kernel
theorem dX5_next_61 : decode cX5_next 61 = .ok (.aload_n 0, 1) := by decide +kernel
theorem dX5_next_62 : decode cX5_next 62 = .ok (.getfield 42, 3) := by decide +kernel
theorem dX5_next_65 : decode cX5_next 65 = .ok (.iload_n 1, 1) := by decide +kernel
theorem dX5_next_66 : decode cX5_next 66 = .ok (.iaload, 1) := by decide +kernel
theorem dX5_next_67 : decode cX5_next 67 = .ok (.iconst (-1), 1) := by decide +kernel
theorem dX5_next_68 : decode cX5_next 68 = .ok (.if_icmp .eq 23, 3) := by decide +kernel
theorem dX5_next_71 : decode cX5_next 71 = .ok (.aload_n 0, 1) := by decide +kernel
theorem dX5_next_72 : decode cX5_next 72 = .ok (.aload_n 0, 1) := by decide +kernel
theorem dX5_next_73 : decode cX5_next 73 = .ok (.getfield 42, 3) := by decide +kernel
theorem dX5_next_76 : decode cX5_next 76 = .ok (.iload_n 1, 1) := by decide +kernel
theorem dX5_next_77 : decode cX5_next 77 = .ok (.iaload, 1) := by decide +kernel
theorem dX5_next_78 : decode cX5_next 78 = .ok (.iload_n 3, 1) := by decide +kernel
theorem dX5_next_79 : decode cX5_next 79 = .ok (.aload_n 0, 1) := by decide +kernel
theorem dX5_next_80 : decode cX5_next 80 = .ok (.getfield 39, 3) := by decide +kernel
theorem dX5_next_83 : decode cX5_next 83 = .ok (.iload_n 1, 1) := by decide +kernel
theorem dX5_next_84 : decode cX5_next 84 = .ok (.baload, 1) := by decide +kernel
theorem dX5_next_85 : decode cX5_next 85 = .ok (.invokevirtual 98, 3) := by decide +kernel
theorem dX5_next_88 : decode cX5_next 88 = .ok (.ifCond .eq 7, 3) := by decide +kernel
theorem dX5_next_91 : decode cX5_next 91 = .ok (.iconst 1, 1) := by decide +kernel
theorem dX5_next_92 : decode cX5_next 92 = .ok (.goto 4, 3) := by decide +kernel
theorem dX5_next_95 : decode cX5_next 95 = .ok (.iconst 0, 1) := by decide +kernel
theorem dX5_next_96 : decode cX5_next 96 = .ok (.istore 4, 2) := by decide +kernel
theorem dX5_next_98 : decode cX5_next 98 = .ok (.iload 4, 2) := by decide +kernel
theorem dX5_next_100 : decode cX5_next 100 = .ok (.ifCond .eq 25, 3) := by decide +kernel
theorem dX5_next_103 : decode cX5_next 103 = .ok (.iload_n 2, 1) := by decide +kernel
theorem dX5_next_104 : decode cX5_next 104 = .ok (.iconst (-1), 1) := by decide +kernel
theorem dX5_next_105 : decode cX5_next 105 = .ok (.if_icmp .eq 18, 3) := by decide +kernel
theorem dX5_next_108 : decode cX5_next 108 = .ok (.aload_n 0, 1) := by decide +kernel
theorem dX5_next_109 : decode cX5_next 109 = .ok (.iload_n 3, 1) := by decide +kernel
theorem dX5_next_110 : decode cX5_next 110 = .ok (.iload_n 2, 1) := by decide +kernel
theorem dX5_next_111 : decode cX5_next 111 = .ok (.aload_n 0, 1) := by decide +kernel
theorem dX5_next_112 : decode cX5_next 112 = .ok (.getfield 39, 3) := by decide +kernel
theorem dX5_next_115 : decode cX5_next 115 = .ok (.iload_n 1, 1) := by decide +kernel
theorem dX5_next_116 : decode cX5_next 116 = .ok (.baload, 1) := by decide +kernel
theorem dX5_next_117 : decode cX5_next 117 = .ok (.invokevirtual 98, 3) := by decide +kernel
theorem dX5_next_120 : decode cX5_next 120 = .ok (.ifCond .eq 5, 3) := by decide +kernel
theorem dX5_next_123 : decode cX5_next 123 = .ok (.iload_n 3, 1) := by decide +kernel
theorem dX5_next_124 : decode cX5_next 124 = .ok (.istore_n 2, 1) := by decide +kernel
theorem dX5_next_125 : decode cX5_next 125 = .ok (.iinc 3 1, 3) := by decide +kernel
theorem dX5_next_128 : decode cX5_next 128 = .ok (.goto (-96), 3) := by decide +kernel
theorem dX5_next_131 : decode cX5_next 131 = .ok (.iload_n 2, 1) := by decide +kernel
theorem dX5_next_132 : decode cX5_next 132 = .ok (.iconst (-1), 1) := by decide +kernel
theorem dX5_next_133 : decode cX5_next 133 = .ok (.if_icmp .eq 20, 3) := by decide +kernel
theorem dX5_next_136 : decode cX5_next 136 = .ok (.aload_n 0, 1) := by decide +kernel
theorem dX5_next_137 : decode cX5_next 137 = .ok (.getfield 42, 3) := by decide +kernel
theorem dX5_next_140 : decode cX5_next 140 = .ok (.iload_n 1, 1) := by decide +kernel
theorem dX5_next_141 : decode cX5_next 141 = .ok (.iload_n 2, 1) := by decide +kernel
theorem dX5_next_142 : decode cX5_next 142 = .ok (.iastore, 1) := by decide +kernel
theorem dX5_next_143 : decode cX5_next 143 = .ok (.aload_n 0, 1) := by decide +kernel
theorem dX5_next_144 : decode cX5_next 144 = .ok (.getfield 45, 3) := by decide +kernel
theorem dX5_next_147 : decode cX5_next 147 = .ok (.iload_n 1, 1) := by decide +kernel
theorem dX5_next_148 : decode cX5_next 148 = .ok (.dup2, 1) := by decide +kernel
theorem dX5_next_149 : decode cX5_next 149 = .ok (.iaload, 1) := by decide +kernel
theorem dX5_next_150 : decode cX5_next 150 = .ok (.iconst 1, 1) := by decide +kernel
theorem dX5_next_151 : decode cX5_next 151 = .ok (.iadd, 1) := by decide +kernel
theorem dX5_next_152 : decode cX5_next 152 = .ok (.iastore, 1) := by decide +kernel
theorem dX5_next_153 : decode cX5_next 153 = .ok (.iload_n 2, 1) := by decide +kernel
theorem dX5_next_154 : decode cX5_next 154 = .ok (.ireturn, 1) := by decide +kernel
set_option maxRecDepth 20000 in
theorem ggX5_close_X5_isIterator : GoodIn wsX5_close wsX5_isIterator := goodIn_r _ [8, 2, 9, 10, 11, 12, 13, 14, 15, 16, 17, 18, 19, 20, 21, 22, 23, 24, 25, 26, 27, 28] (by decide +kernel) (by decide +kernel)
set_option maxRecDepth 20000 in
theorem gX5_close_X5_isIterator : GoodIn wsX5_close (wsV RX5 118 RX5 yX5_isIterator wsX5_isIterator) := goodIn_app (goodIn_of _ (by decide +kernel)) ggX5_close_X5_isIterator
theorem dX5_close_0 : decode cX5_close 0 = .ok (.aload_n 0, 1) := by decide +kernel
theorem dX5_close_1 : decode cX5_close 1 = .ok (.iconst 0, 1) := by decide +kernel
theorem dX5_close_2 : decode cX5_close 2 = .ok (.putfield 1, 3) := by decide +kernel
theorem dX5_close_5 : decode cX5_close 5 = .ok (.aload_n 0, 1) := by decide +kernel
theorem dX5_close_6 : decode cX5_close 6 = .ok (.iload_n 1, 1) := by decide +kernel
theorem dX5_close_7 : decode cX5_close 7 = .ok (.invokevirtual 118, 3) := by decide +kernel
theorem dX5_close_10 : decode cX5_close 10 = .ok (.ifCond .ne 6, 3) := by decide +kernel
theorem dX5_close_13 : decode cX5_close 13 = .ok (.bipush (-2), 2) := by decide +kernel
theorem dX5_close_15 : decode cX5_close 15 = .ok (.ireturn, 1) := by decide +kernel
theorem dX5_close_16 : decode cX5_close 16 = .ok (.aload_n 0, 1) := by decide +kernel
theorem dX5_close_17 : decode cX5_close 17 = .ok (.getfield 30, 3) := by decide +kernel
theorem dX5_close_20 : decode cX5_close 20 = .ok (.iload_n 1, 1) := by decide +kernel
theorem dX5_close_21 : decode cX5_close 21 = .ok (.iconst 0, 1) := by decide +kernel
theorem dX5_close_22 : decode cX5_close 22 = .ok (.bastore, 1) := by decide +kernel
theorem dX5_close_23 : decode cX5_close 23 = .ok (.aload_n 0, 1) := by decide +kernel
theorem dX5_close_24 : decode cX5_close 24 = .ok (.getfield 45, 3) := by decide +kernel
theorem dX5_close_27 : decode cX5_close 27 = .ok (.iload_n 1, 1) := by decide +kernel
theorem dX5_close_28 : decode cX5_close 28 = .ok (.iaload, 1) := by decide +kernel
theorem dX5_close_29 : decode cX5_close 29 = .ok (.ireturn, 1) := by decide +kernel
theorem dX5_give_0 : decode cX5_give 0 = .ok (.aload_n 0, 1) := by decide +kernel
theorem dX5_give_1 : decode cX5_give 1 = .ok (.iconst 0, 1) := by decide +kernel
theorem dX5_give_2 : decode cX5_give 2 = .ok (.putfield 1, 3) := by decide +kernel
theorem dX5_give_5 : decode cX5_give 5 = .ok (.iload_n 2, 1) := by decide +kernel
theorem dX5_give_6 : decode cX5_give 6 = .ok (.ifCond .lt 19, 3) := by decide +kernel
theorem dX5_give_9 : decode cX5_give 9 = .ok (.iload_n 2, 1) := by decide +kernel
theorem dX5_give_10 : decode cX5_give 10 = .ok (.iload_n 1, 1) := by decide +kernel
theorem dX5_give_11 : decode cX5_give 11 = .ok (.ifCond .eq 9, 3) := by decide +kernel
theorem dX5_give_14 : decode cX5_give 14 = .ok (.sipush 160, 3) := by decide +kernel
theorem dX5_give_17 : decode cX5_give 17 = .ok (.goto 5, 3) := by decide +kernel
theorem dX5_give_20 : decode cX5_give 20 = .ok (.bipush 25, 2) := by decide +kernel
theorem dX5_give_22 : decode cX5_give 22 = .ok (.if_icmp .lt 6, 3) := by decide +kernel
theorem dX5_give_25 : decode cX5_give 25 = .ok (.bipush (-3), 2) := by decide +kernel
theorem dX5_give_27 : decode cX5_give 27 = .ok (.ireturn, 1) := by decide +kernel
theorem dX5_give_28 : decode cX5_give 28 = .ok (.iload_n 1, 1) := by decide +kernel
theorem dX5_give_29 : decode cX5_give 29 = .ok (.ifCond .eq 12, 3) := by decide +kernel
theorem dX5_give_32 : decode cX5_give 32 = .ok (.aload_n 0, 1) := by decide +kernel
theorem dX5_give_33 : decode cX5_give 33 = .ok (.getfield 51, 3) := by decide +kernel
theorem dX5_give_36 : decode cX5_give 36 = .ok (.iload_n 2, 1) := by decide +kernel
theorem dX5_give_37 : decode cX5_give 37 = .ok (.iaload, 1) := by decide +kernel
theorem dX5_give_38 : decode cX5_give 38 = .ok (.goto 9, 3) := by decide +kernel
theorem dX5_give_41 : decode cX5_give 41 = .ok (.aload_n 0, 1) := by decide +kernel
theorem dX5_give_42 : decode cX5_give 42 = .ok (.getfield 48, 3) := by decide +kernel
theorem dX5_give_45 : decode cX5_give 45 = .ok (.iload_n 2, 1) := by decide +kernel
theorem dX5_give_46 : decode cX5_give 46 = .ok (.iaload, 1) := by decide +kernel
theorem dX5_give_47 : decode cX5_give 47 = .ok (.istore 4, 2) := by decide +kernel
theorem dX5_give_49 : decode cX5_give 49 = .ok (.iload_n 1, 1) := by decide +kernel
theorem dX5_give_50 : decode cX5_give 50 = .ok (.ifCond .eq 13, 3) := by decide +kernel
theorem dX5_give_53 : decode cX5_give 53 = .ok (.aload_n 0, 1) := by decide +kernel
theorem dX5_give_54 : decode cX5_give 54 = .ok (.getfield 51, 3) := by decide +kernel
theorem dX5_give_57 : decode cX5_give 57 = .ok (.iload_n 2, 1) := by decide +kernel
theorem dX5_give_58 : decode cX5_give 58 = .ok (.iload_n 3, 1) := by decide +kernel
theorem dX5_give_59 : decode cX5_give 59 = .ok (.iastore, 1) := by decide +kernel
theorem dX5_give_60 : decode cX5_give 60 = .ok (.goto 10, 3) := by decide +kernel
theorem dX5_give_63 : decode cX5_give 63 = .ok (.aload_n 0, 1) := by decide +kernel
theorem dX5_give_64 : decode cX5_give 64 = .ok (.getfield 48, 3) := by decide +kernel
theorem dX5_give_67 : decode cX5_give 67 = .ok (.iload_n 2, 1) := by decide +kernel
theorem dX5_give_68 : decode cX5_give 68 = .ok (.iload_n 3, 1) := by decide +kernel
theorem dX5_give_69 : decode cX5_give 69 = .ok (.iastore, 1) := by decide +kernel
theorem dX5_give_70 : decode cX5_give 70 = .ok (.iload 4, 2) := by decide +kernel
theorem dX5_give_72 : decode cX5_give 72 = .ok (.ireturn, 1) := by decide +kernel
set_option maxRecDepth 20000 in
theorem ggX5_judged_X5_isNode : GoodIn wsX5_judged wsX5_isNode := goodIn_r _ [8, 1, 9, 10, 11, 12, 13, 14, 15, 16, 17, 18, 19, 20, 21, 22, 23, 24, 25, 26, 27, 28] (by decide +kernel) (by decide +kernel)
set_option maxRecDepth 20000 in
theorem gX5_judged_X5_isNode : GoodIn wsX5_judged (wsV RX5 70 RX5 yX5_isNode wsX5_isNode) := goodIn_app (goodIn_of _ (by decide +kernel)) ggX5_judged_X5_isNode
theorem dX5_judged_0 : decode cX5_judged 0 = .ok (.iconst 0, 1) := by decide +kernel
theorem dX5_judged_1 : decode cX5_judged 1 = .ok (.istore_n 2, 1) := by decide +kernel
theorem dX5_judged_2 : decode cX5_judged 2 = .ok (.iload_n 2, 1) := by decide +kernel
theorem dX5_judged_3 : decode cX5_judged 3 = .ok (.aload_n 0, 1) := by decide +kernel
theorem dX5_judged_4 : decode cX5_judged 4 = .ok (.getfield 64, 3) := by decide +kernel
theorem dX5_judged_7 : decode cX5_judged 7 = .ok (.if_icmp .gt 73, 3) := by decide +kernel
theorem dX5_judged_10 : decode cX5_judged 10 = .ok (.aload_n 0, 1) := by decide +kernel
theorem dX5_judged_11 : decode cX5_judged 11 = .ok (.getfield 48, 3) := by decide +kernel
theorem dX5_judged_14 : decode cX5_judged 14 = .ok (.iload_n 2, 1) := by decide +kernel
theorem dX5_judged_15 : decode cX5_judged 15 = .ok (.iaload, 1) := by decide +kernel
theorem dX5_judged_16 : decode cX5_judged 16 = .ok (.istore_n 3, 1) := by decide +kernel
theorem dX5_judged_17 : decode cX5_judged 17 = .ok (.iload_n 2, 1) := by decide +kernel
theorem dX5_judged_18 : decode cX5_judged 18 = .ok (.ifCond .ne 10, 3) := by decide +kernel
theorem dX5_judged_21 : decode cX5_judged 21 = .ok (.iload_n 3, 1) := by decide +kernel
theorem dX5_judged_22 : decode cX5_judged 22 = .ok (.ifCond .ne 40, 3) := by decide +kernel
theorem dX5_judged_25 : decode cX5_judged 25 = .ok (.goto 15, 3) := by decide +kernel
theorem dX5_judged_28 : decode cX5_judged 28 = .ok (.iload_n 3, 1) := by decide +kernel
theorem dX5_judged_29 : decode cX5_judged 29 = .ok (.aload_n 0, 1) := by decide +kernel
theorem dX5_judged_30 : decode cX5_judged 30 = .ok (.getfield 48, 3) := by decide +kernel
theorem dX5_judged_33 : decode cX5_judged 33 = .ok (.iload_n 2, 1) := by decide +kernel
theorem dX5_judged_34 : decode cX5_judged 34 = .ok (.iconst 1, 1) := by decide +kernel
theorem dX5_judged_35 : decode cX5_judged 35 = .ok (.isub, 1) := by decide +kernel
theorem dX5_judged_36 : decode cX5_judged 36 = .ok (.iaload, 1) := by decide +kernel
theorem dX5_judged_37 : decode cX5_judged 37 = .ok (.if_icmp .lt 25, 3) := by decide +kernel
theorem dX5_judged_40 : decode cX5_judged 40 = .ok (.iload_n 3, 1) := by decide +kernel
theorem dX5_judged_41 : decode cX5_judged 41 = .ok (.iload_n 1, 1) := by decide +kernel
theorem dX5_judged_42 : decode cX5_judged 42 = .ok (.if_icmp .gt 20, 3) := by decide +kernel
theorem dX5_judged_45 : decode cX5_judged 45 = .ok (.iload_n 2, 1) := by decide +kernel
theorem dX5_judged_46 : decode cX5_judged 46 = .ok (.aload_n 0, 1) := by decide +kernel
theorem dX5_judged_47 : decode cX5_judged 47 = .ok (.getfield 64, 3) := by decide +kernel
theorem dX5_judged_50 : decode cX5_judged 50 = .ok (.if_icmp .lt 8, 3) := by decide +kernel
theorem dX5_judged_53 : decode cX5_judged 53 = .ok (.iload_n 3, 1) := by decide +kernel
theorem dX5_judged_54 : decode cX5_judged 54 = .ok (.iload_n 1, 1) := by decide +kernel
theorem dX5_judged_55 : decode cX5_judged 55 = .ok (.if_icmp .ne 7, 3) := by decide +kernel
theorem dX5_judged_58 : decode cX5_judged 58 = .ok (.iconst 1, 1) := by decide +kernel
theorem dX5_judged_59 : decode cX5_judged 59 = .ok (.goto 4, 3) := by decide +kernel
theorem dX5_judged_62 : decode cX5_judged 62 = .ok (.iconst 0, 1) := by decide +kernel
theorem dX5_judged_63 : decode cX5_judged 63 = .ok (.istore 4, 2) := by decide +kernel
theorem dX5_judged_65 : decode cX5_judged 65 = .ok (.iload 4, 2) := by decide +kernel
theorem dX5_judged_67 : decode cX5_judged 67 = .ok (.ifCond .ne 7, 3) := by decide +kernel
theorem dX5_judged_70 : decode cX5_judged 70 = .ok (.iconst 1, 1) := by decide +kernel
theorem dX5_judged_71 : decode cX5_judged 71 = .ok (.iload_n 2, 1) := by decide +kernel
theorem dX5_judged_72 : decode cX5_judged 72 = .ok (.iadd, 1) := by decide +kernel
theorem dX5_judged_73 : decode cX5_judged 73 = .ok (.ireturn, 1) := by decide +kernel
theorem dX5_judged_74 : decode cX5_judged 74 = .ok (.iinc 2 1, 3) := by decide +kernel
theorem dX5_judged_77 : decode cX5_judged 77 = .ok (.goto (-75), 3) := by decide +kernel
theorem dX5_judged_80 : decode cX5_judged 80 = .ok (.iconst 0, 1) := by decide +kernel
theorem dX5_judged_81 : decode cX5_judged 81 = .ok (.istore_n 2, 1) := by decide +kernel
theorem dX5_judged_82 : decode cX5_judged 82 = .ok (.iload_n 2, 1) := by decide +kernel
theorem dX5_judged_83 : decode cX5_judged 83 = .ok (.iload_n 1, 1) := by decide +kernel
theorem dX5_judged_84 : decode cX5_judged 84 = .ok (.if_icmp .ge 27, 3) := by decide +kernel
theorem dX5_judged_87 : decode cX5_judged 87 = .ok (.aload_n 0, 1) := by decide +kernel
theorem dX5_judged_88 : decode cX5_judged 88 = .ok (.aload_n 0, 1) := by decide +kernel
theorem dX5_judged_89 : decode cX5_judged 89 = .ok (.getfield 51, 3) := by decide +kernel
theorem dX5_judged_92 : decode cX5_judged 92 = .ok (.iload_n 2, 1) := by decide +kernel
theorem dX5_judged_93 : decode cX5_judged 93 = .ok (.iaload, 1) := by decide +kernel
theorem dX5_judged_94 : decode cX5_judged 94 = .ok (.invokevirtual 70, 3) := by decide +kernel
theorem dX5_judged_97 : decode cX5_judged 97 = .ok (.ifCond .ne 8, 3) := by decide +kernel
theorem dX5_judged_100 : decode cX5_judged 100 = .ok (.bipush 100, 2) := by decide +kernel
theorem dX5_judged_102 : decode cX5_judged 102 = .ok (.iload_n 2, 1) := by decide +kernel
theorem dX5_judged_103 : decode cX5_judged 103 = .ok (.iadd, 1) := by decide +kernel
theorem dX5_judged_104 : decode cX5_judged 104 = .ok (.ireturn, 1) := by decide +kernel
theorem dX5_judged_105 : decode cX5_judged 105 = .ok (.iinc 2 1, 3) := by decide +kernel
theorem dX5_judged_108 : decode cX5_judged 108 = .ok (.goto (-26), 3) := by decide +kernel
theorem dX5_judged_111 : decode cX5_judged 111 = .ok (.iconst 0, 1) := by decide +kernel
theorem dX5_judged_112 : decode cX5_judged 112 = .ok (.ireturn, 1) := by decide +kernel
set_option maxRecDepth 20000 in
theorem ggX5_load_X5_judged : GoodIn wsX5_load wsX5_judged := goodIn_r _ [14, 15, 2, 5, 16, 17, 18, 13, 19, 25, 26, 27, 28, 29, 30, 31, 32, 33, 34, 35, 36, 37, 38, 39, 40, 41, 42, 43, 44] (by decide +kernel) (by decide +kernel)
set_option maxRecDepth 20000 in
theorem gX5_load_X5_judged : GoodIn wsX5_load (wsV RX5 121 RX5 yX5_judged wsX5_judged) := goodIn_app (goodIn_of _ (by decide +kernel)) ggX5_load_X5_judged
set_option maxRecDepth 20000 in
theorem ggX5_load_X5_stale : GoodIn wsX5_load wsX5_stale := goodIn_r _ [23, 24, 25, 26, 27, 28, 29, 30, 31, 32, 33, 34, 35, 36, 37, 38, 39, 40, 41, 42, 43, 44] (by decide +kernel) (by decide +kernel)
set_option maxRecDepth 20000 in
theorem gX5_load_X5_stale : GoodIn wsX5_load (wsV RX5 77 RX5 yX5_stale wsX5_stale) := goodIn_app (goodIn_of _ (by decide +kernel)) ggX5_load_X5_stale
theorem dX5_load_0 : decode cX5_load 0 = .ok (.aload_n 0, 1) := by decide +kernel
theorem dX5_load_1 : decode cX5_load 1 = .ok (.iconst 0, 1) := by decide +kernel
theorem dX5_load_2 : decode cX5_load 2 = .ok (.putfield 1, 3) := by decide +kernel
theorem dX5_load_5 : decode cX5_load 5 = .ok (.iload_n 1, 1) := by decide +kernel
theorem dX5_load_6 : decode cX5_load 6 = .ok (.ifCond .lt 10, 3) := by decide +kernel
theorem dX5_load_9 : decode cX5_load 9 = .ok (.iload_n 1, 1) := by decide +kernel
theorem dX5_load_10 : decode cX5_load 10 = .ok (.sipush 160, 3) := by decide +kernel
theorem dX5_load_13 : decode cX5_load 13 = .ok (.if_icmp .le 6, 3) := by decide +kernel
theorem dX5_load_16 : decode cX5_load 16 = .ok (.bipush (-3), 2) := by decide +kernel
theorem dX5_load_18 : decode cX5_load 18 = .ok (.ireturn, 1) := by decide +kernel
theorem dX5_load_19 : decode cX5_load 19 = .ok (.aload_n 0, 1) := by decide +kernel
theorem dX5_load_20 : decode cX5_load 20 = .ok (.iload_n 1, 1) := by decide +kernel
theorem dX5_load_21 : decode cX5_load 21 = .ok (.invokevirtual 121, 3) := by decide +kernel
theorem dX5_load_24 : decode cX5_load 24 = .ok (.istore_n 2, 1) := by decide +kernel
theorem dX5_load_25 : decode cX5_load 25 = .ok (.iload_n 2, 1) := by decide +kernel
theorem dX5_load_26 : decode cX5_load 26 = .ok (.ifCond .eq 5, 3) := by decide +kernel
theorem dX5_load_29 : decode cX5_load 29 = .ok (.iload_n 2, 1) := by decide +kernel
theorem dX5_load_30 : decode cX5_load 30 = .ok (.ireturn, 1) := by decide +kernel
theorem dX5_load_31 : decode cX5_load 31 = .ok (.iconst 0, 1) := by decide +kernel
theorem dX5_load_32 : decode cX5_load 32 = .ok (.istore_n 3, 1) := by decide +kernel
theorem dX5_load_33 : decode cX5_load 33 = .ok (.iload_n 3, 1) := by decide +kernel
theorem dX5_load_34 : decode cX5_load 34 = .ok (.iload_n 1, 1) := by decide +kernel
theorem dX5_load_35 : decode cX5_load 35 = .ok (.if_icmp .ge 65, 3) := by decide +kernel
theorem dX5_load_38 : decode cX5_load 38 = .ok (.iconst 0, 1) := by decide +kernel
theorem dX5_load_39 : decode cX5_load 39 = .ok (.istore 4, 2) := by decide +kernel
theorem dX5_load_41 : decode cX5_load 41 = .ok (.aload_n 0, 1) := by decide +kernel
theorem dX5_load_42 : decode cX5_load 42 = .ok (.getfield 48, 3) := by decide +kernel
theorem dX5_load_45 : decode cX5_load 45 = .ok (.iload 4, 2) := by decide +kernel
theorem dX5_load_47 : decode cX5_load 47 = .ok (.iconst 1, 1) := by decide +kernel
theorem dX5_load_48 : decode cX5_load 48 = .ok (.iadd, 1) := by decide +kernel
theorem dX5_load_49 : decode cX5_load 49 = .ok (.iaload, 1) := by decide +kernel
theorem dX5_load_50 : decode cX5_load 50 = .ok (.iload_n 3, 1) := by decide +kernel
theorem dX5_load_51 : decode cX5_load 51 = .ok (.if_icmp .gt 9, 3) := by decide +kernel
theorem dX5_load_54 : decode cX5_load 54 = .ok (.iinc 4 1, 3) := by decide +kernel
theorem dX5_load_57 : decode cX5_load 57 = .ok (.goto (-16), 3) := by decide +kernel
theorem dX5_load_60 : decode cX5_load 60 = .ok (.aload_n 0, 1) := by decide +kernel
theorem dX5_load_61 : decode cX5_load 61 = .ok (.getfield 13, 3) := by decide +kernel
theorem dX5_load_64 : decode cX5_load 64 = .ok (.iload_n 3, 1) := by decide +kernel
theorem dX5_load_65 : decode cX5_load 65 = .ok (.iload 4, 2) := by decide +kernel
theorem dX5_load_67 : decode cX5_load 67 = .ok (.iastore, 1) := by decide +kernel
theorem dX5_load_68 : decode cX5_load 68 = .ok (.aload_n 0, 1) := by decide +kernel
theorem dX5_load_69 : decode cX5_load 69 = .ok (.getfield 17, 3) := by decide +kernel
theorem dX5_load_72 : decode cX5_load 72 = .ok (.iload_n 3, 1) := by decide +kernel
theorem dX5_load_73 : decode cX5_load 73 = .ok (.aload_n 0, 1) := by decide +kernel
theorem dX5_load_74 : decode cX5_load 74 = .ok (.getfield 51, 3) := by decide +kernel
theorem dX5_load_77 : decode cX5_load 77 = .ok (.iload_n 3, 1) := by decide +kernel
theorem dX5_load_78 : decode cX5_load 78 = .ok (.iaload, 1) := by decide +kernel
theorem dX5_load_79 : decode cX5_load 79 = .ok (.iastore, 1) := by decide +kernel
theorem dX5_load_80 : decode cX5_load 80 = .ok (.aload_n 0, 1) := by decide +kernel
theorem dX5_load_81 : decode cX5_load 81 = .ok (.getfield 20, 3) := by decide +kernel
theorem dX5_load_84 : decode cX5_load 84 = .ok (.iload_n 3, 1) := by decide +kernel
theorem dX5_load_85 : decode cX5_load 85 = .ok (.iconst 1, 1) := by decide +kernel
theorem dX5_load_86 : decode cX5_load 86 = .ok (.iastore, 1) := by decide +kernel
theorem dX5_load_87 : decode cX5_load 87 = .ok (.aload_n 0, 1) := by decide +kernel
theorem dX5_load_88 : decode cX5_load 88 = .ok (.getfield 23, 3) := by decide +kernel
theorem dX5_load_91 : decode cX5_load 91 = .ok (.iload_n 3, 1) := by decide +kernel
theorem dX5_load_92 : decode cX5_load 92 = .ok (.iconst 0, 1) := by decide +kernel
theorem dX5_load_93 : decode cX5_load 93 = .ok (.bastore, 1) := by decide +kernel
theorem dX5_load_94 : decode cX5_load 94 = .ok (.iinc 3 1, 3) := by decide +kernel
theorem dX5_load_97 : decode cX5_load 97 = .ok (.goto (-64), 3) := by decide +kernel
theorem dX5_load_100 : decode cX5_load 100 = .ok (.aload_n 0, 1) := by decide +kernel
theorem dX5_load_101 : decode cX5_load 101 = .ok (.iload_n 1, 1) := by decide +kernel
theorem dX5_load_102 : decode cX5_load 102 = .ok (.putfield 67, 3) := by decide +kernel
theorem dX5_load_105 : decode cX5_load 105 = .ok (.aload_n 0, 1) := by decide +kernel
theorem dX5_load_106 : decode cX5_load 106 = .ok (.iconst 0, 1) := by decide +kernel
theorem dX5_load_107 : decode cX5_load 107 = .ok (.putfield 84, 3) := by decide +kernel
theorem dX5_load_110 : decode cX5_load 110 = .ok (.aload_n 0, 1) := by decide +kernel
theorem dX5_load_111 : decode cX5_load 111 = .ok (.invokevirtual 77, 3) := by decide +kernel
theorem dX5_load_114 : decode cX5_load 114 = .ok (.iconst 0, 1) := by decide +kernel
theorem dX5_load_115 : decode cX5_load 115 = .ok (.ireturn, 1) := by decide +kernel
theorem dX5_about_0 : decode cX5_about 0 = .ok (.aload_n 0, 1) := by decide +kernel
theorem dX5_about_1 : decode cX5_about 1 = .ok (.iconst 0, 1) := by decide +kernel
theorem dX5_about_2 : decode cX5_about 2 = .ok (.putfield 1, 3) := by decide +kernel
theorem dX5_about_5 : decode cX5_about 5 = .ok (.iconst 0, 1) := by decide +kernel
theorem dX5_about_6 : decode cX5_about 6 = .ok (.istore_n 2, 1) := by decide +kernel
theorem dX5_about_7 : decode cX5_about 7 = .ok (.iload_n 1, 1) := by decide +kernel
theorem dX5_about_8 : decode cX5_about 8 = .ok (.lookupswitch 79 #[(0, 36), (1, 41), (5, 46)], 36) := by decide +kernel
theorem dX5_about_44 : decode cX5_about 44 = .ok (.aload_n 0, 1) := by decide +kernel
theorem dX5_about_45 : decode cX5_about 45 = .ok (.getfield 64, 3) := by decide +kernel
theorem dX5_about_48 : decode cX5_about 48 = .ok (.ireturn, 1) := by decide +kernel
theorem dX5_about_49 : decode cX5_about 49 = .ok (.aload_n 0, 1) := by decide +kernel
theorem dX5_about_50 : decode cX5_about 50 = .ok (.getfield 67, 3) := by decide +kernel
theorem dX5_about_53 : decode cX5_about 53 = .ok (.ireturn, 1) := by decide +kernel
theorem dX5_about_54 : decode cX5_about 54 = .ok (.iconst 0, 1) := by decide +kernel
theorem dX5_about_55 : decode cX5_about 55 = .ok (.istore_n 3, 1) := by decide +kernel
theorem dX5_about_56 : decode cX5_about 56 = .ok (.iload_n 3, 1) := by decide +kernel
theorem dX5_about_57 : decode cX5_about 57 = .ok (.bipush 8, 2) := by decide +kernel
theorem dX5_about_59 : decode cX5_about 59 = .ok (.if_icmp .ge 26, 3) := by decide +kernel
theorem dX5_about_62 : decode cX5_about 62 = .ok (.iload_n 2, 1) := by decide +kernel
theorem dX5_about_63 : decode cX5_about 63 = .ok (.aload_n 0, 1) := by decide +kernel
theorem dX5_about_64 : decode cX5_about 64 = .ok (.getfield 30, 3) := by decide +kernel
theorem dX5_about_67 : decode cX5_about 67 = .ok (.iload_n 3, 1) := by decide +kernel
theorem dX5_about_68 : decode cX5_about 68 = .ok (.baload, 1) := by decide +kernel
theorem dX5_about_69 : decode cX5_about 69 = .ok (.ifCond .eq 7, 3) := by decide +kernel
theorem dX5_about_72 : decode cX5_about 72 = .ok (.iconst 1, 1) := by decide +kernel
theorem dX5_about_73 : decode cX5_about 73 = .ok (.goto 4, 3) := by decide +kernel
theorem dX5_about_76 : decode cX5_about 76 = .ok (.iconst 0, 1) := by decide +kernel
theorem dX5_about_77 : decode cX5_about 77 = .ok (.iadd, 1) := by decide +kernel
theorem dX5_about_78 : decode cX5_about 78 = .ok (.istore_n 2, 1) := by decide +kernel
theorem dX5_about_79 : decode cX5_about 79 = .ok (.iinc 3 1, 3) := by decide +kernel
theorem dX5_about_82 : decode cX5_about 82 = .ok (.goto (-26), 3) := by decide +kernel
theorem dX5_about_85 : decode cX5_about 85 = .ok (.iload_n 2, 1) := by decide +kernel
theorem dX5_about_86 : decode cX5_about 86 = .ok (.ireturn, 1) := by decide +kernel
theorem dX5_about_87 : decode cX5_about 87 = .ok (.iconst 0, 1) := by decide +kernel
theorem dX5_about_88 : decode cX5_about 88 = .ok (.istore_n 3, 1) := by decide +kernel
theorem dX5_about_89 : decode cX5_about 89 = .ok (.iload_n 3, 1) := by decide +kernel
theorem dX5_about_90 : decode cX5_about 90 = .ok (.aload_n 0, 1) := by decide +kernel
theorem dX5_about_91 : decode cX5_about 91 = .ok (.getfield 67, 3) := by decide +kernel
theorem dX5_about_94 : decode cX5_about 94 = .ok (.if_icmp .ge 81, 3) := by decide +kernel
theorem dX5_about_97 : decode cX5_about 97 = .ok (.iload_n 2, 1) := by decide +kernel
theorem dX5_about_98 : decode cX5_about 98 = .ok (.iload_n 1, 1) := by decide +kernel
theorem dX5_about_99 : decode cX5_about 99 = .ok (.iconst 2, 1) := by decide +kernel
theorem dX5_about_100 : decode cX5_about 100 = .ok (.if_icmp .ne 21, 3) := by decide +kernel
theorem dX5_about_103 : decode cX5_about 103 = .ok (.aload_n 0, 1) := by decide +kernel
theorem dX5_about_104 : decode cX5_about 104 = .ok (.getfield 20, 3) := by decide +kernel
theorem dX5_about_107 : decode cX5_about 107 = .ok (.iload_n 3, 1) := by decide +kernel
theorem dX5_about_108 : decode cX5_about 108 = .ok (.iaload, 1) := by decide +kernel
theorem dX5_about_109 : decode cX5_about 109 = .ok (.iconst 1, 1) := by decide +kernel
theorem dX5_about_110 : decode cX5_about 110 = .ok (.if_icmp .ne 7, 3) := by decide +kernel
theorem dX5_about_113 : decode cX5_about 113 = .ok (.iconst 1, 1) := by decide +kernel
theorem dX5_about_114 : decode cX5_about 114 = .ok (.goto 53, 3) := by decide +kernel
theorem dX5_about_117 : decode cX5_about 117 = .ok (.iconst 0, 1) := by decide +kernel
theorem dX5_about_118 : decode cX5_about 118 = .ok (.goto 49, 3) := by decide +kernel
theorem dX5_about_121 : decode cX5_about 121 = .ok (.iload_n 1, 1) := by decide +kernel
theorem dX5_about_122 : decode cX5_about 122 = .ok (.iconst 3, 1) := by decide +kernel
theorem dX5_about_123 : decode cX5_about 123 = .ok (.if_icmp .ne 20, 3) := by decide +kernel
theorem dX5_about_126 : decode cX5_about 126 = .ok (.aload_n 0, 1) := by decide +kernel
theorem dX5_about_127 : decode cX5_about 127 = .ok (.getfield 20, 3) := by decide +kernel
theorem dX5_about_130 : decode cX5_about 130 = .ok (.iload_n 3, 1) := by decide +kernel
theorem dX5_about_131 : decode cX5_about 131 = .ok (.iaload, 1) := by decide +kernel
theorem dX5_about_132 : decode cX5_about 132 = .ok (.ifCond .ne 7, 3) := by decide +kernel
theorem dX5_about_135 : decode cX5_about 135 = .ok (.iconst 1, 1) := by decide +kernel
theorem dX5_about_136 : decode cX5_about 136 = .ok (.goto 31, 3) := by decide +kernel
theorem dX5_about_139 : decode cX5_about 139 = .ok (.iconst 0, 1) := by decide +kernel
theorem dX5_about_140 : decode cX5_about 140 = .ok (.goto 27, 3) := by decide +kernel
theorem dX5_about_143 : decode cX5_about 143 = .ok (.aload_n 0, 1) := by decide +kernel
theorem dX5_about_144 : decode cX5_about 144 = .ok (.getfield 20, 3) := by decide +kernel
theorem dX5_about_147 : decode cX5_about 147 = .ok (.iload_n 3, 1) := by decide +kernel
theorem dX5_about_148 : decode cX5_about 148 = .ok (.iaload, 1) := by decide +kernel
theorem dX5_about_149 : decode cX5_about 149 = .ok (.iconst 2, 1) := by decide +kernel
theorem dX5_about_150 : decode cX5_about 150 = .ok (.if_icmp .eq 16, 3) := by decide +kernel
theorem dX5_about_153 : decode cX5_about 153 = .ok (.aload_n 0, 1) := by decide +kernel
theorem dX5_about_154 : decode cX5_about 154 = .ok (.getfield 23, 3) := by decide +kernel
theorem dX5_about_157 : decode cX5_about 157 = .ok (.iload_n 3, 1) := by decide +kernel
theorem dX5_about_158 : decode cX5_about 158 = .ok (.baload, 1) := by decide +kernel
theorem dX5_about_159 : decode cX5_about 159 = .ok (.ifCond .ne 7, 3) := by decide +kernel
theorem dX5_about_162 : decode cX5_about 162 = .ok (.iconst 1, 1) := by decide +kernel
theorem dX5_about_163 : decode cX5_about 163 = .ok (.goto 4, 3) := by decide +kernel
theorem dX5_about_166 : decode cX5_about 166 = .ok (.iconst 0, 1) := by decide +kernel
theorem dX5_about_167 : decode cX5_about 167 = .ok (.iadd, 1) := by decide +kernel
theorem dX5_about_168 : decode cX5_about 168 = .ok (.istore_n 2, 1) := by decide +kernel
theorem dX5_about_169 : decode cX5_about 169 = .ok (.iinc 3 1, 3) := by decide +kernel
theorem dX5_about_172 : decode cX5_about 172 = .ok (.goto (-83), 3) := by decide +kernel
theorem dX5_about_175 : decode cX5_about 175 = .ok (.iload_n 1, 1) := by decide +kernel
theorem dX5_about_176 : decode cX5_about 176 = .ok (.iconst 2, 1) := by decide +kernel
theorem dX5_about_177 : decode cX5_about 177 = .ok (.if_icmp .lt 12, 3) := by decide +kernel
theorem dX5_about_180 : decode cX5_about 180 = .ok (.iload_n 1, 1) := by decide +kernel
theorem dX5_about_181 : decode cX5_about 181 = .ok (.iconst 4, 1) := by decide +kernel
theorem dX5_about_182 : decode cX5_about 182 = .ok (.if_icmp .gt 7, 3) := by decide +kernel
theorem dX5_about_185 : decode cX5_about 185 = .ok (.iload_n 2, 1) := by decide +kernel
theorem dX5_about_186 : decode cX5_about 186 = .ok (.goto 5, 3) := by decide +kernel
theorem dX5_about_189 : decode cX5_about 189 = .ok (.bipush (-3), 2) := by decide +kernel
theorem dX5_about_191 : decode cX5_about 191 = .ok (.ireturn, 1) := by decide +kernel
theorem dJ9_max_7cf53_0 : decode cJ9_max_7cf53 0 = .ok (.iload_n 0, 1) := by decide +kernel
theorem dJ9_max_7cf53_1 : decode cJ9_max_7cf53 1 = .ok (.iload_n 1, 1) := by decide +kernel
theorem dJ9_max_7cf53_2 : decode cJ9_max_7cf53 2 = .ok (.if_icmp .lt 7, 3) := by decide +kernel
theorem dJ9_max_7cf53_5 : decode cJ9_max_7cf53 5 = .ok (.iload_n 0, 1) := by decide +kernel
theorem dJ9_max_7cf53_6 : decode cJ9_max_7cf53 6 = .ok (.goto 4, 3) := by decide +kernel
theorem dJ9_max_7cf53_9 : decode cJ9_max_7cf53 9 = .ok (.iload_n 1, 1) := by decide +kernel
theorem dJ9_max_7cf53_10 : decode cJ9_max_7cf53 10 = .ok (.ireturn, 1) := by decide +kernel
theorem dJ9_min_7cf53_0 : decode cJ9_min_7cf53 0 = .ok (.iload_n 0, 1) := by decide +kernel
theorem dJ9_min_7cf53_1 : decode cJ9_min_7cf53 1 = .ok (.iload_n 1, 1) := by decide +kernel
theorem dJ9_min_7cf53_2 : decode cJ9_min_7cf53 2 = .ok (.if_icmp .gt 7, 3) := by decide +kernel
theorem dJ9_min_7cf53_5 : decode cJ9_min_7cf53 5 = .ok (.iload_n 0, 1) := by decide +kernel
theorem dJ9_min_7cf53_6 : decode cJ9_min_7cf53 6 = .ok (.goto 4, 3) := by decide +kernel
theorem dJ9_min_7cf53_9 : decode cJ9_min_7cf53 9 = .ok (.iload_n 1, 1) := by decide +kernel
theorem dJ9_min_7cf53_10 : decode cJ9_min_7cf53 10 = .ok (.ireturn, 1) := by decide +kernel
theorem dJ7_fill_d0a16_0 : decode cJ7_fill_d0a16 0 = .ok (.iconst 0, 1) := by decide +kernel
theorem dJ7_fill_d0a16_1 : decode cJ7_fill_d0a16 1 = .ok (.istore_n 3, 1) := by decide +kernel
theorem dJ7_fill_d0a16_2 : decode cJ7_fill_d0a16 2 = .ok (.aload_n 0, 1) := by decide +kernel
theorem dJ7_fill_d0a16_3 : decode cJ7_fill_d0a16 3 = .ok (.arraylength, 1) := by decide +kernel
theorem dJ7_fill_d0a16_4 : decode cJ7_fill_d0a16 4 = .ok (.istore 4, 2) := by decide +kernel
theorem dJ7_fill_d0a16_6 : decode cJ7_fill_d0a16 6 = .ok (.iload_n 3, 1) := by decide +kernel
theorem dJ7_fill_d0a16_7 : decode cJ7_fill_d0a16 7 = .ok (.iload 4, 2) := by decide +kernel
theorem dJ7_fill_d0a16_9 : decode cJ7_fill_d0a16 9 = .ok (.if_icmp .ge 13, 3) := by decide +kernel
theorem dJ7_fill_d0a16_12 : decode cJ7_fill_d0a16 12 = .ok (.aload_n 0, 1) := by decide +kernel
theorem dJ7_fill_d0a16_13 : decode cJ7_fill_d0a16 13 = .ok (.iload_n 3, 1) := by decide +kernel
theorem dJ7_fill_d0a16_14 : decode cJ7_fill_d0a16 14 = .ok (.lload_n 1, 1) := by decide +kernel
theorem dJ7_fill_d0a16_15 : decode cJ7_fill_d0a16 15 = .ok (.lastore, 1) := by decide +kernel
theorem dJ7_fill_d0a16_16 : decode cJ7_fill_d0a16 16 = .ok (.iinc 3 1, 3) := by decide +kernel
theorem dJ7_fill_d0a16_19 : decode cJ7_fill_d0a16 19 = .ok (.goto (-13), 3) := by decide +kernel
theorem dJ7_fill_d0a16_22 : decode cJ7_fill_d0a16 22 = .ok (.return_, 1) := by decide +kernel
theorem dJ7_fill_53178_0 : decode cJ7_fill_53178 0 = .ok (.iconst 0, 1) := by decide +kernel
theorem dJ7_fill_53178_1 : decode cJ7_fill_53178 1 = .ok (.istore_n 2, 1) := by decide +kernel
theorem dJ7_fill_53178_2 : decode cJ7_fill_53178 2 = .ok (.aload_n 0, 1) := by decide +kernel
theorem dJ7_fill_53178_3 : decode cJ7_fill_53178 3 = .ok (.arraylength, 1) := by decide +kernel
theorem dJ7_fill_53178_4 : decode cJ7_fill_53178 4 = .ok (.istore_n 3, 1) := by decide +kernel
theorem dJ7_fill_53178_5 : decode cJ7_fill_53178 5 = .ok (.iload_n 2, 1) := by decide +kernel
theorem dJ7_fill_53178_6 : decode cJ7_fill_53178 6 = .ok (.iload_n 3, 1) := by decide +kernel
theorem dJ7_fill_53178_7 : decode cJ7_fill_53178 7 = .ok (.if_icmp .ge 13, 3) := by decide +kernel
theorem dJ7_fill_53178_10 : decode cJ7_fill_53178 10 = .ok (.aload_n 0, 1) := by decide +kernel
theorem dJ7_fill_53178_11 : decode cJ7_fill_53178 11 = .ok (.iload_n 2, 1) := by decide +kernel
theorem dJ7_fill_53178_12 : decode cJ7_fill_53178 12 = .ok (.iload_n 1, 1) := by decide +kernel
theorem dJ7_fill_53178_13 : decode cJ7_fill_53178 13 = .ok (.iastore, 1) := by decide +kernel
theorem dJ7_fill_53178_14 : decode cJ7_fill_53178 14 = .ok (.iinc 2 1, 3) := by decide +kernel
theorem dJ7_fill_53178_17 : decode cJ7_fill_53178 17 = .ok (.goto (-12), 3) := by decide +kernel
theorem dJ7_fill_53178_20 : decode cJ7_fill_53178 20 = .ok (.return_, 1) := by decide +kernel
end
section
/-! ===== my rules: contracts over lists of cells, calls in one row ===== -/
def bI (b : Bool) : Int32 := if b then 1 else 0
theorem bI_0 {b : Bool} : bI b = 0 ↔ b = false := by cases b <;> decide
theorem bI_n {b : Bool} : ¬ bI b = 0 ↔ b = true := by cases b <;> decide
theorem bI_t {b : Bool} (h : b = true) : bI b = 1 := by rw [h]; rfl
theorem bI_f {b : Bool} (h : b = false) : bI b = 0 := by rw [h]; rfl
/-! worlds of families: a list of lists of cells -/
def fOff : List va_W → Nat → Nat
  | _, 0 => 0
  | [], _ + 1 => 0
  | F :: Fs, j + 1 => F.length + fOff Fs j
theorem fGet : ∀ (Fs : List va_W) (j : Nat) (F : va_W) (q : Nat) (e : Nat × va_E), Fs[j]? = some F → F[q]? = some e → Fs.flatten[fOff Fs j + q]? = some e := by
  intro Fs
  induction Fs with
  | nil => intro j F q e h; simp at h
  | cons G Fs ih =>
    intro j F q e h hq
    have hlt : ∀ {W : va_W}, W[q]? = some e → q < W.length := fun h => (List.getElem?_eq_some_iff.mp h).1
    cases j with
    | zero =>
      have h1 : G = F := by simpa using h
      subst h1
      rw [List.flatten_cons, show fOff (G :: Fs) 0 + q = q by simp [fOff], List.getElem?_append_left (hlt hq)]
      exact hq
    | succ j =>
      have h1 : Fs[j]? = some F := by simpa using h
      rw [List.flatten_cons, show fOff (G :: Fs) (j + 1) + q = G.length + (fOff Fs j + q) by simp [fOff]; omega, List.getElem?_append_right (by omega), show G.length + (fOff Fs j + q) - G.length = fOff Fs j + q by omega]
      exact ih j F q e h1 hq
theorem fSet : ∀ (Fs : List va_W) (j : Nat) (F : va_W) (q : Nat) (e : Nat × va_E), Fs[j]? = some F → q < F.length → Fs.flatten.set (fOff Fs j + q) e = (Fs.set j (F.set q e)).flatten := by
  intro Fs
  induction Fs with
  | nil => intro j F q e h; simp at h
  | cons G Fs ih =>
    intro j F q e h hq
    cases j with
    | zero =>
      have h1 : G = F := by simpa using h
      subst h1
      rw [show fOff (G :: Fs) 0 + q = q by simp [fOff], List.flatten_cons, List.set_cons_zero, List.flatten_cons, List.set_append_left _ _ hq]
    | succ j =>
      have h1 : Fs[j]? = some F := by simpa using h
      rw [show fOff (G :: Fs) (j + 1) + q = G.length + (fOff Fs j + q) by simp [fOff]; omega, List.flatten_cons, List.set_cons_succ, List.flatten_cons, List.set_append_right _ _ (by omega), show G.length + (fOff Fs j + q) - G.length = fOff Fs j + q by omega, ih j F q e h1 hq]
theorem fP {D : va_G} {cl : List vw_C} {Fs : List va_W} {H : Heap} {F : va_W} {j : Nat} (h : va_P D cl Fs.flatten H) (hj : Fs[j]? = some F) : va_P D cl F H := fun q e hq => h _ e (fGet Fs j F q e hj hq)
theorem fD {A : Nat → Prop} {Fs : List va_W} {F : va_W} {j : Nat} (h : va_D A Fs.flatten) (hj : Fs[j]? = some F) : va_D A F := ⟨fun i k x y hx hy hxy => by
    have := h.1 _ _ x y (fGet Fs j F i x hj hx) (fGet Fs j F k y hj hy) hxy
    omega, fun k x hx => h.2 _ x (fGet Fs j F k x hj hx)⟩
theorem fIn : ∀ (Fs : List va_W) (k : Nat) (e : Nat × va_E), Fs.flatten[k]? = some e → ∃ (j : Nat) (F : va_W) (q : Nat), Fs[j]? = some F ∧ F[q]? = some e ∧ k = fOff Fs j + q := by
  intro Fs
  induction Fs with
  | nil => intro k e h; simp at h
  | cons G Fs ih =>
    intro k e h
    rw [List.flatten_cons] at h
    by_cases hk : k < G.length
    · rw [List.getElem?_append_left hk] at h
      exact ⟨0, G, k, rfl, h, by simp [fOff]⟩
    · rw [List.getElem?_append_right (by omega)] at h
      obtain ⟨j, F, q, h1, h2, h3⟩ := ih _ e h
      exact ⟨j + 1, F, q, by simpa using h1, h2, by simp [fOff]; omega⟩
/-- the callee's families put back -/
def fBack (Fs : List va_W) : List Nat → List va_W → List va_W
  | j :: js, F :: Gs => fBack (Fs.set j F) js Gs
  | _, _ => Fs
theorem fBack_get : ∀ (js : List Nat) (Gs Fs : List va_W) (k : Nat) (F : va_W), js.length = Gs.length → (fBack Fs js Gs)[k]? = some F → (∃ m : Nat, js[m]? = some k ∧ Gs[m]? = some F) ∨ (k ∉ js ∧ Fs[k]? = some F) := by
  intro js
  induction js with
  | nil => intro Gs Fs k F _ h; exact Or.inr ⟨List.not_mem_nil, by simpa [fBack] using h⟩
  | cons j js ih =>
    intro Gs Fs k F hl h
    cases Gs with
    | nil => cases hl
    | cons G Gs =>
      rcases ih Gs (Fs.set j G) k F (by simpa using hl) h with ⟨m, h1, h2⟩ | ⟨h1, h2⟩
      · exact Or.inl ⟨m + 1, by simpa using h1, by simpa using h2⟩
      · by_cases hk : j = k
        · subst hk
          rw [List.getElem?_set_self'] at h2
          cases hw : Fs[j]? with
          | none => rw [hw] at h2; cases h2
          | some z => rw [hw] at h2; exact Or.inl ⟨0, rfl, by simpa using h2⟩
        · rw [List.getElem?_set_ne hk] at h2
          exact Or.inr ⟨fun h => by
            rcases List.mem_cons.mp h with h | h
            · exact hk h.symm
            · exact h1 h, h2⟩
theorem fAt {js : List Nat} {Fs Gs : List va_W} (hs : js.map (fun j => Fs[j]?) = Gs.map some) (m : Nat) (F : va_W) (hF : Gs[m]? = some F) : ∃ j, js[m]? = some j ∧ Fs[j]? = some F := by
  have h1 : (js.map (fun j => Fs[j]?))[m]? = some (some F) := by rw [hs, List.getElem?_map, hF]; rfl
  rw [List.getElem?_map] at h1
  cases hi : js[m]? with
  | none => rw [hi] at h1; cases h1
  | some i => rw [hi] at h1; exact ⟨i, rfl, Option.some.inj h1⟩
theorem fOff_inj {A : Nat → Prop} {Fs : List va_W} (hD : va_D A Fs.flatten) {j k : Nat} {F G : va_W} {q r : Nat} {x y : Nat × va_E} (h1 : Fs[j]? = some F) (h2 : F[q]? = some x) (h3 : Fs[k]? = some G) (h4 : G[r]? = some y) (h : x.1 = y.1) : fOff Fs j + q = fOff Fs k + r := hD.1 _ _ x y (fGet Fs j F q x h1 h2) (fGet Fs k G r y h3 h4) h
theorem fOff_lt : ∀ (Fs : List va_W) (j k : Nat) (F : va_W) (q : Nat), Fs[j]? = some F → q < F.length → j < k → k ≤ Fs.length → fOff Fs j + q < fOff Fs k := by
  intro Fs
  induction Fs with
  | nil => intro j k F q h; simp at h
  | cons G Fs ih =>
    intro j k F q h hq hjk hk
    cases k with
    | zero => omega
    | succ k =>
      cases j with
      | zero =>
        have h1 : G = F := by simpa using h
        subst h1
        simp only [fOff]; omega
      | succ j =>
        have := ih j k F q (by simpa using h) hq (by omega) (by simpa using hk)
        simp only [fOff]; omega
theorem fOff_ne {Fs : List va_W} {j k : Nat} {F G : va_W} {q r : Nat} (h1 : Fs[j]? = some F) (h2 : q < F.length) (h3 : Fs[k]? = some G) (h4 : r < G.length) (h : fOff Fs j + q = fOff Fs k + r) : j = k ∧ q = r := by
  have lj : j < Fs.length := (List.getElem?_eq_some_iff.mp h1).1
  have lk : k < Fs.length := (List.getElem?_eq_some_iff.mp h3).1
  rcases Nat.lt_trichotomy j k with h5 | h5 | h5
  · have := fOff_lt Fs j k F q h1 h2 h5 (by omega); omega
  · subst h5; exact ⟨rfl, by omega⟩
  · have := fOff_lt Fs k j G r h3 h4 h5 (by omega); omega
theorem fLt {F : va_W} {q : Nat} {x : Nat × va_E} (h : F[q]? = some x) : q < F.length := (List.getElem?_eq_some_iff.mp h).1
theorem fCalls {A0 : Nat → Prop} {D : va_G} {cl : List vw_C} {Fs Gs : List va_W} {H : Heap} (hP : va_P D cl Fs.flatten H) (hD : va_D A0 Fs.flatten) (js : List Nat) (hn : va_nd js = true) (hC : js.map (fun j => Fs[j]?) = Gs.map some) : va_P D cl Gs.flatten H ∧ va_D A0 Gs.flatten := by
  have at1 : ∀ (k : Nat) (e : Nat × va_E), Gs.flatten[k]? = some e → ∃ (m : Nat) (F : va_W) (q j : Nat), Gs[m]? = some F ∧ F[q]? = some e ∧ k = fOff Gs m + q ∧ js[m]? = some j ∧ Fs[j]? = some F := by
    intro k e h
    obtain ⟨m, F, q, h1, h2, h3⟩ := fIn Gs k e h
    obtain ⟨j, h4, h5⟩ := fAt hC m F h1
    exact ⟨m, F, q, j, h1, h2, h3, h4, h5⟩
  refine ⟨fun k e h => ?_, fun i k x y hx hy hxy => ?_, fun k e h => ?_⟩
  · obtain ⟨m, F, q, j, h1, h2, h3, h4, h5⟩ := at1 k e h
    exact hP _ e (fGet Fs j F q e h5 h2)
  · obtain ⟨m, F, q, j, h1, h2, h3, h4, h5⟩ := at1 i x hx
    obtain ⟨m', F', q', j', h1', h2', h3', h4', h5'⟩ := at1 k y hy
    obtain ⟨e1, e2⟩ := fOff_ne h5 (fLt h2) h5' (fLt h2') (fOff_inj hD h5 h2 h5' h2' hxy)
    subst e1
    have := va_nd_inj js hn m m' j h4 h4'
    subst this
    rw [h3, h3', e2]
  · obtain ⟨m, F, q, j, h1, h2, h3, h4, h5⟩ := at1 k e h
    exact hD.2 _ e (fGet Fs j F q e h5 h2)
theorem fBacks {A0 : Nat → Prop} {D : va_G} {cl : List vw_C} {Fs Gs Gs' Fs' : List va_W} {H H1 : Heap} (hP : va_P D cl Fs.flatten H) (hD : va_D A0 Fs.flatten) (js : List Nat) (hC : js.map (fun j => Fs[j]?) = Gs.map some) (hw : Gs'.map (List.map Prod.fst) = Gs.map (List.map Prod.fst)) (hF : fBack Fs js Gs' = Fs')
    (hk : ∀ q : Nat, q < H.size → ¬ va_A Gs.flatten H.size q → H1[q]? = H[q]?) (hP1 : va_P D cl Gs'.flatten H1) : va_P D cl Fs'.flatten H1 ∧ va_D A0 Fs'.flatten := by
  subst hF
  have hlen1 : js.length = Gs.length := by simpa using congrArg List.length hC
  have hlen2 : Gs'.length = Gs.length := by simpa using congrArg List.length hw
  have hlen : js.length = Gs'.length := by omega
  -- each cell behind stands over one ahead, at the same place of the same family
  have adr : ∀ (k : Nat) (F : va_W) (q : Nat) (x : Nat × va_E), (fBack Fs js Gs')[k]? = some F → F[q]? = some x → ∃ (F0 : va_W) (x0 : Nat × va_E), Fs[k]? = some F0 ∧ F0[q]? = some x0 ∧ x0.1 = x.1 := by
    intro k F q x hF hx
    rcases fBack_get js Gs' Fs k F hlen hF with ⟨m, h1, h2⟩ | ⟨_, h2⟩
    · have hm : (Gs.map (List.map Prod.fst))[m]? = some (F.map Prod.fst) := by rw [← hw, List.getElem?_map, h2]; rfl
      rw [List.getElem?_map] at hm
      cases hc : Gs[m]? with
      | none => rw [hc] at hm; cases hm
      | some F0 =>
        rw [hc] at hm
        have hm : F0.map Prod.fst = F.map Prod.fst := Option.some.inj hm
        obtain ⟨j, h3, h4⟩ := fAt hC m F0 hc
        rw [h1] at h3
        cases h3
        have hq : (F0.map Prod.fst)[q]? = some x.1 := by rw [hm, List.getElem?_map, hx]; rfl
        rw [List.getElem?_map] at hq
        cases h0 : F0[q]? with
        | none => rw [h0] at hq; cases hq
        | some x0 => rw [h0] at hq; exact ⟨F0, x0, h4, h0, Option.some.inj hq⟩
    · exact ⟨F, x, h2, hx, rfl⟩
  have hfo : ∀ (js : List Nat) (Gs' Fs : List va_W), js.length = Gs'.length → (fBack Fs js Gs').length = Fs.length := by
    intro js
    induction js with
    | nil => intro Gs' Fs _; simp [fBack]
    | cons j js ih =>
      intro Gs' Fs hl
      cases Gs' with
      | nil => cases hl
      | cons G Gs' => rw [fBack, ih Gs' (Fs.set j G) (by simpa using hl)]; simp
  refine ⟨fun k x hx => ?_, fun i k x y hx hy hxy => ?_, fun k x hx => ?_⟩
  · obtain ⟨j, F, q, h1, h2, h3⟩ := fIn _ k x hx
    rcases fBack_get js Gs' Fs j F hlen h1 with ⟨m, h4, h5⟩ | ⟨h4, h5⟩
    · exact hP1 _ x (fGet Gs' m F q x h5 h2)
    · have hat := hP _ x (fGet Fs j F q x h5 h2)
      refine hat.kept (hk x.1 hat.lt (fun h => ?_))
      rcases h with ⟨k2, e, h⟩ | h
      · obtain ⟨m, F2, q2, g1, g2, g3⟩ := fIn Gs k2 (x.1, e) h
        obtain ⟨j2, g4, g5⟩ := fAt hC m F2 g1
        obtain ⟨e1, -⟩ := fOff_ne h5 (fLt h2) g5 (fLt g2) (fOff_inj hD h5 h2 g5 g2 rfl)
        subst e1
        exact h4 (List.mem_of_getElem? g4)
      · have := hat.lt; omega
  · obtain ⟨j, F, q, h1, h2, h3⟩ := fIn _ i x hx
    obtain ⟨j', F', q', h1', h2', h3'⟩ := fIn _ k y hy
    obtain ⟨F0, x0, a1, a2, a3⟩ := adr j F q x h1 h2
    obtain ⟨F0', y0, b1, b2, b3⟩ := adr j' F' q' y h1' h2'
    obtain ⟨e1, e2⟩ := fOff_ne a1 (fLt a2) b1 (fLt b2) (fOff_inj hD a1 a2 b1 b2 (by rw [a3, b3, hxy]))
    subst e1; subst e2
    rw [h3, h3']
  · obtain ⟨j, F, q, h1, h2, h3⟩ := fIn _ k x hx
    obtain ⟨F0, x0, a1, a2, a3⟩ := adr j F q x h1 h2
    rw [← a3]
    exact hD.2 _ x0 (fGet Fs j F0 q x0 a1 a2)
def mPre (D : va_G) (tys : List (ClassId × FieldType)) (w : List va_W) (sz : Nat) : State → Prop := fun U => U.heap.size = sz ∧ va_P D vwCl w.flatten U.heap ∧ va_K D vwCl tys U ∧ va_D (fun _ => True) w.flatten
def mAt (D : va_G) (tys : List (ClassId × FieldType)) (A : Nat → Prop) (w : List va_W) (t : State) : Prop := va_P D vwCl w.flatten t.heap ∧ va_K D vwCl tys t ∧ va_D A w.flatten
abbrev rM (fr lo : Nat) : Room := { frames := fr, cells := 0, slots := 0, locals := lo }
/-- a contract: the method answers r and leaves the cells w' u, with post r u -/
def McI {S : Type} (l : Launch) (D : va_G) (tys : List (ClassId × FieldType)) (y : MethodName) (wy : List Cond) (fr lo : Nat) (av : List Value) (w : List va_W) (post : Int32 → S → Prop) (w' : S → List va_W) : Prop :=
  ∀ sz : Nat, Met l y wy (rM fr lo) (va_Pc av (mPre D tys w sz)) (va_Qi post (fun u t => mAt D tys (va_A w.flatten sz) (w' u) t) (va_A w.flatten sz)) 0 0 (va_A w.flatten sz)
def McL {S : Type} (l : Launch) (D : va_G) (tys : List (ClassId × FieldType)) (y : MethodName) (wy : List Cond) (fr lo : Nat) (av : List Value) (w : List va_W) (post : Int64 → S → Prop) (w' : S → List va_W) : Prop :=
  ∀ sz : Nat, Met l y wy (rM fr lo) (va_Pc av (mPre D tys w sz)) (va_Ql post (fun u t => mAt D tys (va_A w.flatten sz) (w' u) t) (va_A w.flatten sz)) 0 0 (va_A w.flatten sz)
def McV {S : Type} (l : Launch) (D : va_G) (tys : List (ClassId × FieldType)) (y : MethodName) (wy : List Cond) (fr lo : Nat) (av : List Value) (w : List va_W) (post : S → Prop) (w' : S → List va_W) : Prop :=
  ∀ sz : Nat, Met l y wy (rM fr lo) (va_Pc av (mPre D tys w sz)) (va_Qv post (fun u t => mAt D tys (va_A w.flatten sz) (w' u) t) (va_A w.flatten sz)) 0 0 (va_A w.flatten sz)
/-- the answer is a cell of the world: its address is x -/
def McR (l : Launch) (D : va_G) (tys : List (ClassId × FieldType)) (y : MethodName) (wy : List Cond) (fr lo : Nat) (av : List Value) (w : List va_W) (x : Nat) (w' : List va_W) : Prop :=
  ∀ sz : Nat, Met l y wy (rM fr lo) (va_Pc av (mPre D tys w sz)) (va_Qr (fun _ : Unit => True) (fun _ a t => a = x ∧ mAt D tys (va_A w.flatten sz) w' t) (va_A w.flatten sz)) 0 0 (va_A w.flatten sz)
theorem q_ofW {l : Launch} {D : va_G} {tys : List (ClassId × FieldType)} {y : MethodName} {wy wy' : List Cond} {fr lo : Nat} {av : List Value} {w : List va_W} {Qc : (Nat → Prop) → Array Value → State → Outcome → State → Prop} {cc : ByteArray} {maxL : Nat} {ret : Option FieldType}
    (hy : plainName y.cls = true) (hw : wy = Cond.code y cc maxL ret :: wy') (hlen : (lg_sl av).length ≤ maxL)
    (body : ∀ (p : Program) (e : Env) (s : State) (m : MethodId) (below : List Frame) (meth : Method) (c : Code), p.tables.exec = Jvm.exec → c.code = cc → c.maxLocals = maxL → meth.sig.returnType = ret → meth.locks = false → (∀ w ∈ wy, w.before av.toArray s = true) → s.vm.findClass y.cls = some m.cls →
      va_K D vwCl tys s → va_P D vwCl w.flatten s.heap → ∀ A : Nat → Prop, va_D A w.flatten → (∀ q : Nat, s.heap.size ≤ q → A q) → ∀ ls : Array Slot, lv_has ls maxL (lv_args 0 av) →
      W p l e (rM fr lo) s m av.toArray below meth c s.heap [] 0 0 (MQ below (Qc A) av.toArray s 0 0 A) (F0 m 0 ls [])) :
    ∀ sz : Nat, Met l y wy (rM fr lo) (va_Pc av (mPre D tys w sz)) (Qc (va_A w.flatten sz)) 0 0 (va_A w.flatten sz) := by
  intro sz
  refine Met.ofW (cc := cc) (maxL := maxL) (ret := ret) hy hw ?_
  intro p e s m args below meth c s₁ B hml hv
  obtain ⟨rfl, hsz, hP, hK, hD0⟩ := hv
  subst hsz
  have hl := lv_entry av (n := maxL) hlen
  rw [lg_entry_eq]
  exact body p e s m below meth c B.exec B.bytes hml B.returns B.notSynchronized (atoms_spec (ws := wy) B.pre) (findClass_of_methodNamed B.named) hK hP (va_A w.flatten s.heap.size) hD0.self (fun q h => Or.inr h) _ hl
section QR
variable {p : Program} {l : Launch} {e : Env} {R : Room} {s : State} {m : MethodId} {args : Array Value} {below : List Frame} {meth : Method} {c : Code} {H : Heap} {locs : List Loc} {cells slots : Nat} {Q : State → Prop}
variable {cc : ByteArray} {pc : Nat} {ls : Array Slot} {rest : List Value} {D : va_G} {A : Nat → Prop} {a : Nat} {tys : List (ClassId × FieldType)} {Fs Fs' : List va_W} {F F' : va_W} {H0 : Heap}
theorem q_iald (hexec : p.tables.exec = Jvm.exec) (hb : c.code = cc) (hK : va_K D vwCl tys s) (hP : va_P D vwCl Fs.flatten H) (j q0 t0 : Nat) (hj : Fs[j]? = some F) {cA : ClassId} {n : Nat} {f : Nat → Int32} (ha : F[q0]? = some (a, .inl (cA, n, .inl f))) (ht : tys[t0]? = some (cA, .int)) {i : Int32} {k : Nat} (hk : i.toNatClampNeg = k) (hin : vp_in i n) (hdg : decode cc pc = .ok (.iaload, 1))
    (kk : W p l e R s m args below meth c H locs cells slots Q (F0 m (pc + 1) ls (.int (f k) :: rest))) : W p l e R s m args below meth c H locs cells slots Q (F0 m pc ls (.int i :: .ref a :: rest)) := by
  subst hk; exact va_iald hexec hb hK (fP hP hj) q0 t0 ha ht hin hdg kk
theorem q_zald (hexec : p.tables.exec = Jvm.exec) (hb : c.code = cc) (hK : va_K D vwCl tys s) (hP : va_P D vwCl Fs.flatten H) (j q0 t0 : Nat) (hj : Fs[j]? = some F) {cA : ClassId} {n : Nat} {f : Nat → Int32} (ha : F[q0]? = some (a, .inl (cA, n, .inl f))) (ht : tys[t0]? = some (cA, .boolean)) {i : Int32} {k : Nat} (hk : i.toNatClampNeg = k) (hin : vp_in i n) (hdg : decode cc pc = .ok (.baload, 1))
    (kk : W p l e R s m args below meth c H locs cells slots Q (F0 m (pc + 1) ls (.int (f k) :: rest))) : W p l e R s m args below meth c H locs cells slots Q (F0 m pc ls (.int i :: .ref a :: rest)) := by
  subst hk; exact va_zald hexec hb hK (fP hP hj) q0 t0 ha ht hin hdg kk
theorem q_lald (hexec : p.tables.exec = Jvm.exec) (hb : c.code = cc) (hK : va_K D vwCl tys s) (hP : va_P D vwCl Fs.flatten H) (j q0 t0 : Nat) (hj : Fs[j]? = some F) {cA : ClassId} {n : Nat} {f : Nat → Int64} (ha : F[q0]? = some (a, .inl (cA, n, .inr (.inl f)))) (ht : tys[t0]? = some (cA, .long)) {i : Int32} {k : Nat} (hk : i.toNatClampNeg = k) (hin : vp_in i n) (hdg : decode cc pc = .ok (.laload, 1))
    (kk : W p l e R s m args below meth c H locs cells slots Q (F0 m (pc + 1) ls (.long (f k) :: rest))) : W p l e R s m args below meth c H locs cells slots Q (F0 m pc ls (.int i :: .ref a :: rest)) := by
  subst hk; exact va_lald hexec hb hK (fP hP hj) q0 t0 ha ht hin hdg kk
theorem q_iast (hexec : p.tables.exec = Jvm.exec) (hb : c.code = cc) (hK : va_K D vwCl tys s) (hP : va_P D vwCl Fs.flatten H) (hD : va_D A Fs.flatten) (hS : va_S A H0 H locs) (j q0 t0 : Nat) (hj : Fs[j]? = some F) {cA : ClassId} {n : Nat} {f : Nat → Int32} (ha : F[q0]? = some (a, .inl (cA, n, .inl f))) (ht : tys[t0]? = some (cA, .int)) {i x : Int32} {k : Nat} (hk : i.toNatClampNeg = k) (hin : vp_in i n) (hdg : decode cc pc = .ok (.iastore, 1))
    (hset : F.set q0 (a, .inl (cA, n, .inl (upd f k x))) = F') (hF : Fs.set j F' = Fs') (kk : ∀ (H1 : Heap) (locs1 : List Loc), va_P D vwCl Fs'.flatten H1 → va_D A Fs'.flatten → va_S A H0 H1 locs1 → W p l e R s m args below meth c H1 locs1 cells slots Q (F0 m (pc + 1) ls rest)) : W p l e R s m args below meth c H locs cells slots Q (F0 m pc ls (.int x :: .int i :: .ref a :: rest)) := by
  subst hk; subst hset; subst hF
  have kk9 := kk
  rw [← fSet Fs j F q0 _ hj (fLt ha)] at kk9
  exact va_iast hexec hb hK hP hD hS _ t0 (fGet Fs j F q0 _ hj ha) ht hin hdg kk9
theorem q_zast (hexec : p.tables.exec = Jvm.exec) (hb : c.code = cc) (hK : va_K D vwCl tys s) (hP : va_P D vwCl Fs.flatten H) (hD : va_D A Fs.flatten) (hS : va_S A H0 H locs) (j q0 t0 : Nat) (hj : Fs[j]? = some F) {cA : ClassId} {n : Nat} {f : Nat → Int32} (ha : F[q0]? = some (a, .inl (cA, n, .inl f))) (ht : tys[t0]? = some (cA, .boolean)) {i x : Int32} {k : Nat} (hk : i.toNatClampNeg = k) (hin : vp_in i n) (hz : vp_nar .boolean x = x) (hdg : decode cc pc = .ok (.bastore, 1))
    (hset : F.set q0 (a, .inl (cA, n, .inl (upd f k x))) = F') (hF : Fs.set j F' = Fs') (kk : ∀ (H1 : Heap) (locs1 : List Loc), va_P D vwCl Fs'.flatten H1 → va_D A Fs'.flatten → va_S A H0 H1 locs1 → W p l e R s m args below meth c H1 locs1 cells slots Q (F0 m (pc + 1) ls rest)) : W p l e R s m args below meth c H locs cells slots Q (F0 m pc ls (.int x :: .int i :: .ref a :: rest)) := by
  subst hk; subst hset; subst hF
  have kk9 := kk
  rw [← fSet Fs j F q0 _ hj (fLt ha)] at kk9
  exact va_zast hexec hb hK hP hD hS _ t0 (fGet Fs j F q0 _ hj ha) ht hin hdg (by rw [hz]; exact kk9)
theorem q_last (hexec : p.tables.exec = Jvm.exec) (hb : c.code = cc) (hK : va_K D vwCl tys s) (hP : va_P D vwCl Fs.flatten H) (hD : va_D A Fs.flatten) (hS : va_S A H0 H locs) (j q0 t0 : Nat) (hj : Fs[j]? = some F) {cA : ClassId} {n : Nat} {f : Nat → Int64} (ha : F[q0]? = some (a, .inl (cA, n, .inr (.inl f)))) (ht : tys[t0]? = some (cA, .long)) {i : Int32} {x : Int64} {k : Nat} (hk : i.toNatClampNeg = k) (hin : vp_in i n) (hdg : decode cc pc = .ok (.lastore, 1))
    (hset : F.set q0 (a, .inl (cA, n, .inr (.inl (vp_updL f k x)))) = F') (hF : Fs.set j F' = Fs') (kk : ∀ (H1 : Heap) (locs1 : List Loc), va_P D vwCl Fs'.flatten H1 → va_D A Fs'.flatten → va_S A H0 H1 locs1 → W p l e R s m args below meth c H1 locs1 cells slots Q (F0 m (pc + 1) ls rest)) : W p l e R s m args below meth c H locs cells slots Q (F0 m pc ls (.long x :: .int i :: .ref a :: rest)) := by
  subst hk; subst hset; subst hF
  have kk9 := kk
  rw [← fSet Fs j F q0 _ hj (fLt ha)] at kk9
  exact va_last hexec hb hK hP hD hS _ t0 (fGet Fs j F q0 _ hj ha) ht hin hdg kk9
theorem q_get (hexec : p.tables.exec = Jvm.exec) (hb : c.code = cc) {own ref C : String} {T : u_T} {N ci index : Nat} {Ts : List Cond} (hts : ∀ w ∈ Ts, w.before args s = true) (hin : ∀ w ∈ u_ws C T N, w ∈ Ts) (hown : s.vm.findClass own = some m.cls) (hK : va_K D vwCl tys s) (hP : va_P D vwCl Fs.flatten H) (j q0 : Nat) (hj : Fs[j]? = some F) {fs : List Value} (he : F[q0]? = some (a, .inr (ci, fs))) (hc : vwCl[ci]? = some (C, T, N)) (k : Nat) (hk : k < N) (hlink : (Cond.fieldLink own index ref (T k).2.1 (T k).2.2.1).before args s = true) (hsame : ∀ x, s.fieldFound? (T k).1 (T k).2.1 (T k).2.2.1 = some x → s.fieldFound? ref (T k).2.1 (T k).2.2.1 = some x) {v : Value} (hv : fs[k]? = some v) (hdg : decode cc pc = .ok (.getfield index, 3))
    (kk : W p l e R s m args below meth c H locs cells slots Q (F0 m (pc + 3) ls (v :: rest))) : W p l e R s m args below meth c H locs cells slots Q (F0 m pc ls (.ref a :: rest)) := va_get hexec hb hts hin hown hK (fP hP hj) q0 he hc k hk hlink hsame hv hdg kk
theorem q_put (hexec : p.tables.exec = Jvm.exec) (hb : c.code = cc) {own ref C : String} {T : u_T} {N ci index : Nat} {Ts : List Cond} (hts : ∀ w ∈ Ts, w.before args s = true) (hin : ∀ w ∈ u_ws C T N, w ∈ Ts) (ty0 : Nat → FieldType) (hty : ∀ k, k < N → parseFieldDescriptor (T k).2.2.1 = some (ty0 k)) (hnm : ∀ a, a < N → ∀ b, b < N → a ≠ b → (T a).2.1 ≠ (T b).2.1) (hown : s.vm.findClass own = some m.cls) (hK : va_K D vwCl tys s) (hP : va_P D vwCl Fs.flatten H) (hD : va_D A Fs.flatten) (hS0 : va_S A H0 H locs) (j q0 : Nat) (hj : Fs[j]? = some F) {fs : List Value} (he : F[q0]? = some (a, .inr (ci, fs))) (hc : vwCl[ci]? = some (C, T, N)) (k : Nat) (hk : k < N) (hlink : (Cond.fieldLink own index ref (T k).2.1 (T k).2.2.1).before args s = true) (hsame : ∀ x, s.fieldFound? (T k).1 (T k).2.1 (T k).2.2.1 = some x → s.fieldFound? ref (T k).2.1 (T k).2.2.1 = some x) (hfin : (T k).2.2.2 = false) {ty : FieldType} {v : Value} (hd : parseFieldDescriptor (T k).2.2.1 = some ty) (hn : narrow ty v = v) (hfit : fits ty v = true) (hl : k < fs.length)
    (hdg : decode cc pc = .ok (.putfield index, 3)) (hset : F.set q0 (a, .inr (ci, fs.set k v)) = F') (hF : Fs.set j F' = Fs') (kk : ∀ (H1 : Heap) (locs1 : List Loc), va_P D vwCl Fs'.flatten H1 → va_D A Fs'.flatten → va_S A H0 H1 locs1 → W p l e R s m args below meth c H1 locs1 cells slots Q (F0 m (pc + 3) ls rest)) : W p l e R s m args below meth c H locs cells slots Q (F0 m pc ls (v :: .ref a :: rest)) := by
  subst hset; subst hF
  have kk9 := kk
  rw [← fSet Fs j F q0 _ hj (fLt he)] at kk9
  exact va_put hexec hb hts hin ty0 hty hnm hown hK hP hD hS0 _ (fGet Fs j F q0 _ hj he) hc k hk hlink hsame hfin hd hn hfit hl hdg kk9
/-- a sum or a difference gets the name that its reader has for it -/
theorem q_iadd (hexec : p.tables.exec = Jvm.exec) (hb : c.code = cc) {x y z : Int32} (hdg : decode cc pc = .ok (.iadd, 1)) (hz : x + y = z)
    (kk : W p l e R s m args below meth c H locs cells slots Q (F0 m (pc + 1) ls (.int z :: rest))) : W p l e R s m args below meth c H locs cells slots Q (F0 m pc ls (.int y :: .int x :: rest)) := by
  subst hz; exact lv_iadd hexec hb hdg kk
theorem q_isub (hexec : p.tables.exec = Jvm.exec) (hb : c.code = cc) {x y z : Int32} (hdg : decode cc pc = .ok (.isub, 1)) (hz : x - y = z)
    (kk : W p l e R s m args below meth c H locs cells slots Q (F0 m (pc + 1) ls (.int z :: rest))) : W p l e R s m args below meth c H locs cells slots Q (F0 m pc ls (.int y :: .int x :: rest)) := by
  subst hz; exact lv_isub hexec hb hdg kk
theorem q_top {x z : Int32} (hz : x = z) (kk : W p l e R s m args below meth c H locs cells slots Q (F0 m pc ls (.int z :: rest))) : W p l e R s m args below meth c H locs cells slots Q (F0 m pc ls (.int x :: rest)) := by
  subst hz; exact kk
theorem q_iret {S : Type} {post : Int32 → S → Prop} {w' : S → List va_W} {v : Int32} (u : S) (hexec : p.tables.exec = Jvm.exec) (hb : c.code = cc) (hr : meth.sig.returnType = some .int) (hlocks : meth.locks = false) (hK : va_K D vwCl tys s) (hP : va_P D vwCl Fs.flatten H) (hD : va_D A Fs.flatten) (hS : va_S A s.heap H locs) (hpost : post v u) (hw : Fs = w' u)
    (hdg : decode cc pc = .ok (.ireturn, 1)) : W p l e R s m args below meth c H locs cells slots (MQ below (va_Qi post (fun u t => mAt D tys A (w' u) t) A) args s cells slots A) (F0 m pc ls [.int v]) := by
  subst hw
  exact W.iret hexec hb hr (fun t ht hW => ⟨⟨v, u, rfl, hpost, by rw [ht]; exact hP, va_K.moved hW.alike hK, hD⟩, hS.F ht⟩) hS.2.2 hdg
theorem q_zret {S : Type} {post : Int32 → S → Prop} {w' : S → List va_W} {v : Int32} (u : S) (hexec : p.tables.exec = Jvm.exec) (hb : c.code = cc) (hr : meth.sig.returnType = some .boolean) (hn : narrow .boolean (.int v) = .int v) (hlocks : meth.locks = false) (hK : va_K D vwCl tys s) (hP : va_P D vwCl Fs.flatten H) (hD : va_D A Fs.flatten) (hS : va_S A s.heap H locs) (hpost : post v u) (hw : Fs = w' u)
    (hdg : decode cc pc = .ok (.ireturn, 1)) : W p l e R s m args below meth c H locs cells slots (MQ below (va_Qi post (fun u t => mAt D tys A (w' u) t) A) args s cells slots A) (F0 m pc ls [.int v]) := by
  subst hw
  exact W.zret hexec hb hr hn (fun t ht hW => ⟨⟨v, u, rfl, hpost, by rw [ht]; exact hP, va_K.moved hW.alike hK, hD⟩, hS.F ht⟩) hS.2.2 hdg
theorem q_lret {S : Type} {post : Int64 → S → Prop} {w' : S → List va_W} {v : Int64} (u : S) (hexec : p.tables.exec = Jvm.exec) (hb : c.code = cc) (hr : meth.sig.returnType = some .long) (hlocks : meth.locks = false) (hK : va_K D vwCl tys s) (hP : va_P D vwCl Fs.flatten H) (hD : va_D A Fs.flatten) (hS : va_S A s.heap H locs) (hpost : post v u) (hw : Fs = w' u)
    (hdg : decode cc pc = .ok (.lreturn, 1)) : W p l e R s m args below meth c H locs cells slots (MQ below (va_Ql post (fun u t => mAt D tys A (w' u) t) A) args s cells slots A) (F0 m pc ls [.long v]) := by
  subst hw
  exact W.lret hexec hb hr (fun t ht hW => ⟨⟨v, u, rfl, hpost, by rw [ht]; exact hP, va_K.moved hW.alike hK, hD⟩, hS.F ht⟩) hS.2.2 hdg
theorem q_vret {S : Type} {post : S → Prop} {w' : S → List va_W} (u : S) (hexec : p.tables.exec = Jvm.exec) (hb : c.code = cc) (hr : meth.sig.returnType = none) (hlocks : meth.locks = false) (hK : va_K D vwCl tys s) (hP : va_P D vwCl Fs.flatten H) (hD : va_D A Fs.flatten) (hS : va_S A s.heap H locs) (hpost : post u) (hw : Fs = w' u)
    (hdg : decode cc pc = .ok (.return_, 1)) : W p l e R s m args below meth c H locs cells slots (MQ below (va_Qv post (fun u t => mAt D tys A (w' u) t) A) args s cells slots A) (F0 m pc ls []) := by
  subst hw
  exact W.vret hexec hb hr (fun t ht hW => ⟨⟨u, rfl, hpost, by rw [ht]; exact hP, va_K.moved hW.alike hK, hD⟩, hS.F ht⟩) hS.2.2 hdg
theorem q_aret {x v : Nat} {w' : List va_W} {nm : String} (hexec : p.tables.exec = Jvm.exec) (hb : c.code = cc) (hr : meth.sig.returnType = some (.object nm)) (hlocks : meth.locks = false) (hK : va_K D vwCl tys s) (hP : va_P D vwCl Fs.flatten H) (hD : va_D A Fs.flatten) (hS : va_S A s.heap H locs) (hv : v = x) (hw : Fs = w')
    (hdg : decode cc pc = .ok (.areturn, 1)) : W p l e R s m args below meth c H locs cells slots (MQ below (va_Qr (fun _ : Unit => True) (fun _ a t => a = x ∧ mAt D tys A w' t) A) args s cells slots A) (F0 m pc ls [.ref v]) := by
  subst hw; subst hv
  exact W.aret hexec hb hr (Or.inl ⟨nm, rfl⟩) (Or.inr ⟨v, rfl⟩) (fun t ht hW => ⟨⟨(), v, rfl, trivial, rfl, by rw [ht]; exact hP, va_K.moved hW.alike hK, hD⟩, hS.F ht⟩) hS.2.2 hdg
theorem q_blind {av : List Value} {w : List va_W} {sz : Nat} : FrameBlind (va_Pc av (mPre D tys w sz)) := by
  intro a U g mk q
  obtain ⟨q0, q1, qP, qK, qD⟩ := q
  exact ⟨q0, q1, qP, va_K.moved (u := U) (U := U.calling g mk a) (Vm.Alike.refl U.vm) qK, qD⟩
theorem q_pre {av : List Value} {w : List va_W} (hK : va_K D vwCl tys s) (hP : va_P D vwCl w.flatten H) (hD : va_D A w.flatten) : ∀ U : State, U.heap = H → s.WarmedH U.vm → va_Pc av (mPre D tys w H.size) av.toArray U := fun U hU hW => ⟨rfl, by rw [hU], by rw [hU]; exact hP, va_K.moved hW.alike hK, hD.weaken (fun _ _ _ _ => trivial)⟩
section Calls
variable {Ts wy wy' : List Cond} {own C : String} {y : MethodName} {bytes : ByteArray} {maxL nL n index fr lo : Nat} {ret : Option FieldType} {Gs : List va_W} {b : Nat} {As st : List Value} {js : List Nat} {q0 ci : Nat} {G0 : va_W} {Gt : List va_W} {fs : List Value} {cq : vw_C}
theorem q_callVi {S : Type} {post : Int32 → S → Prop} {w' : S → List va_W} (X : CallFix p m c cc nL s args Ts own) (hK : va_K D vwCl tys s) (hP : va_P D vwCl Fs.flatten H) (hD : va_D A Fs.flatten) (hS : va_S A H0 H locs) (hA : ∀ q, H0.size ≤ q → A q)
    (hM : McI l D tys y wy fr lo (.ref b :: As) Gs post w') (hC : js.map (fun j => Fs[j]?) = Gs.map some) (hnd : va_nd js = true) (hw : ∀ u, (w' u).map (List.map Prod.fst) = Gs.map (List.map Prod.fst)) (Fs' : S → List va_W) (hFs : ∀ u, fBack Fs js (w' u) = Fs' u)
    (hG : GoodIn Ts (wsV own index C y wy)) (hwy : wy = Cond.code y bytes maxL ret :: wy') (hd : y.cls = C ∧ y.cls ≠ "java/lang/invoke/MethodHandle" ∧ y.cls ≠ "java/lang/invoke/VarHandle" ∧ (parseMethodDescriptor y.desc).map (fun d => d.parameters.length) = some n) (hn : As.length = n) (hR : fr + 1 ≤ R.frames ∧ 8 + (maxL + 11) + lo ≤ R.locals)
    (hcl : vwCl[ci]? = some cq) (hCq : cq.1 = C) (hG0 : Gs = G0 :: Gt) (hrecv : G0[0]? = some (b, .inr (ci, fs))) (hls : ls.size = nL) (hrm : (rest.map fun v => v.category).sum ≤ 8) (hcells : cells ≤ R.cells ∧ slots ≤ R.slots) (hdg : decode cc pc = .ok (.invokevirtual index, 3)) (hst : st = As.reverse ++ .ref b :: rest)
    (kk : ∀ (r : Int32) (u : S) (H1 : Heap) (locs1 : List Loc), post r u → va_P D vwCl (Fs' u).flatten H1 → va_D A (Fs' u).flatten → va_S A H0 H1 locs1 → W p l e R s m args below meth c H1 locs1 cells slots Q (F0 m (pc + 3) ls (.int r :: rest))) : W p l e R s m args below meth c H locs cells slots Q (F0 m pc ls st) := by
  subst hCq
  obtain ⟨hPc, hDc⟩ := fCalls hP hD js hnd hC
  have hFc : ∀ q, va_A Gs.flatten H.size q → A q := fun q h => by
    rcases h with ⟨k, e, h⟩ | h
    · exact hDc.2 k _ h
    · exact hA q (Nat.le_trans hS.1 h)
  refine va_calli (va_runV (As := As) (rest := rest) X (hM H.size) (cwV n X.2.2.2.2 hG hwy rfl rfl hd hR) ⟨q_blind, va_recv hK (fP hPc (j := 0) (by rw [hG0]; rfl)) hcl hrecv, q_pre hK hPc hDc⟩ rfl hn hls hst (lv_room hrm) hdg hcells) hS (fun q _ h => hFc q h) hFc (fun r u t H1 locs1 ht hvm hw1 hB hz1 hk1 hS1 => ?_)
  obtain ⟨hP1, -, -⟩ := hB
  rw [ht] at hP1
  obtain ⟨hP2, hD2⟩ := fBacks hP hD js hC (hw u) (hFs u) hk1 hP1
  exact kk r u H1 locs1 hw1 hP2 hD2 hS1
theorem q_callVl {S : Type} {post : Int64 → S → Prop} {w' : S → List va_W} (X : CallFix p m c cc nL s args Ts own) (hK : va_K D vwCl tys s) (hP : va_P D vwCl Fs.flatten H) (hD : va_D A Fs.flatten) (hS : va_S A H0 H locs) (hA : ∀ q, H0.size ≤ q → A q)
    (hM : McL l D tys y wy fr lo (.ref b :: As) Gs post w') (hC : js.map (fun j => Fs[j]?) = Gs.map some) (hnd : va_nd js = true) (hw : ∀ u, (w' u).map (List.map Prod.fst) = Gs.map (List.map Prod.fst)) (Fs' : S → List va_W) (hFs : ∀ u, fBack Fs js (w' u) = Fs' u)
    (hG : GoodIn Ts (wsV own index C y wy)) (hwy : wy = Cond.code y bytes maxL ret :: wy') (hd : y.cls = C ∧ y.cls ≠ "java/lang/invoke/MethodHandle" ∧ y.cls ≠ "java/lang/invoke/VarHandle" ∧ (parseMethodDescriptor y.desc).map (fun d => d.parameters.length) = some n) (hn : As.length = n) (hR : fr + 1 ≤ R.frames ∧ 8 + (maxL + 11) + lo ≤ R.locals)
    (hcl : vwCl[ci]? = some cq) (hCq : cq.1 = C) (hG0 : Gs = G0 :: Gt) (hrecv : G0[0]? = some (b, .inr (ci, fs))) (hls : ls.size = nL) (hrm : (rest.map fun v => v.category).sum ≤ 8) (hcells : cells ≤ R.cells ∧ slots ≤ R.slots) (hdg : decode cc pc = .ok (.invokevirtual index, 3)) (hst : st = As.reverse ++ .ref b :: rest)
    (kk : ∀ (r : Int64) (u : S) (H1 : Heap) (locs1 : List Loc), post r u → va_P D vwCl (Fs' u).flatten H1 → va_D A (Fs' u).flatten → va_S A H0 H1 locs1 → W p l e R s m args below meth c H1 locs1 cells slots Q (F0 m (pc + 3) ls (.long r :: rest))) : W p l e R s m args below meth c H locs cells slots Q (F0 m pc ls st) := by
  subst hCq
  obtain ⟨hPc, hDc⟩ := fCalls hP hD js hnd hC
  have hFc : ∀ q, va_A Gs.flatten H.size q → A q := fun q h => by
    rcases h with ⟨k, e, h⟩ | h
    · exact hDc.2 k _ h
    · exact hA q (Nat.le_trans hS.1 h)
  refine va_calll (va_runV (As := As) (rest := rest) X (hM H.size) (cwV n X.2.2.2.2 hG hwy rfl rfl hd hR) ⟨q_blind, va_recv hK (fP hPc (j := 0) (by rw [hG0]; rfl)) hcl hrecv, q_pre hK hPc hDc⟩ rfl hn hls hst (lv_room hrm) hdg hcells) hS (fun q _ h => hFc q h) hFc (fun r u t H1 locs1 ht hvm hw1 hB hz1 hk1 hS1 => ?_)
  obtain ⟨hP1, -, -⟩ := hB
  rw [ht] at hP1
  obtain ⟨hP2, hD2⟩ := fBacks hP hD js hC (hw u) (hFs u) hk1 hP1
  exact kk r u H1 locs1 hw1 hP2 hD2 hS1
theorem q_callVv {S : Type} {post : S → Prop} {w' : S → List va_W} (X : CallFix p m c cc nL s args Ts own) (hK : va_K D vwCl tys s) (hP : va_P D vwCl Fs.flatten H) (hD : va_D A Fs.flatten) (hS : va_S A H0 H locs) (hA : ∀ q, H0.size ≤ q → A q)
    (hM : McV l D tys y wy fr lo (.ref b :: As) Gs post w') (hC : js.map (fun j => Fs[j]?) = Gs.map some) (hnd : va_nd js = true) (hw : ∀ u, (w' u).map (List.map Prod.fst) = Gs.map (List.map Prod.fst)) (Fs' : S → List va_W) (hFs : ∀ u, fBack Fs js (w' u) = Fs' u)
    (hG : GoodIn Ts (wsV own index C y wy)) (hwy : wy = Cond.code y bytes maxL ret :: wy') (hd : y.cls = C ∧ y.cls ≠ "java/lang/invoke/MethodHandle" ∧ y.cls ≠ "java/lang/invoke/VarHandle" ∧ (parseMethodDescriptor y.desc).map (fun d => d.parameters.length) = some n) (hn : As.length = n) (hR : fr + 1 ≤ R.frames ∧ 8 + (maxL + 11) + lo ≤ R.locals)
    (hcl : vwCl[ci]? = some cq) (hCq : cq.1 = C) (hG0 : Gs = G0 :: Gt) (hrecv : G0[0]? = some (b, .inr (ci, fs))) (hls : ls.size = nL) (hrm : (rest.map fun v => v.category).sum ≤ 8) (hcells : cells ≤ R.cells ∧ slots ≤ R.slots) (hdg : decode cc pc = .ok (.invokevirtual index, 3)) (hst : st = As.reverse ++ .ref b :: rest)
    (kk : ∀ (u : S) (H1 : Heap) (locs1 : List Loc), post u → va_P D vwCl (Fs' u).flatten H1 → va_D A (Fs' u).flatten → va_S A H0 H1 locs1 → W p l e R s m args below meth c H1 locs1 cells slots Q (F0 m (pc + 3) ls rest)) : W p l e R s m args below meth c H locs cells slots Q (F0 m pc ls st) := by
  subst hCq
  obtain ⟨hPc, hDc⟩ := fCalls hP hD js hnd hC
  have hFc : ∀ q, va_A Gs.flatten H.size q → A q := fun q h => by
    rcases h with ⟨k, e, h⟩ | h
    · exact hDc.2 k _ h
    · exact hA q (Nat.le_trans hS.1 h)
  refine va_callv (va_runV (As := As) (rest := rest) X (hM H.size) (cwV n X.2.2.2.2 hG hwy rfl rfl hd hR) ⟨q_blind, va_recv hK (fP hPc (j := 0) (by rw [hG0]; rfl)) hcl hrecv, q_pre hK hPc hDc⟩ rfl hn hls hst (lv_room hrm) hdg hcells) hS (fun q _ h => hFc q h) hFc (fun u t H1 locs1 ht hvm hw1 hB hz1 hk1 hS1 => ?_)
  obtain ⟨hP1, -, -⟩ := hB
  rw [ht] at hP1
  obtain ⟨hP2, hD2⟩ := fBacks hP hD js hC (hw u) (hFs u) hk1 hP1
  exact kk u H1 locs1 hw1 hP2 hD2 hS1
theorem q_callVr {x : Nat} {w' : List va_W} (X : CallFix p m c cc nL s args Ts own) (hK : va_K D vwCl tys s) (hP : va_P D vwCl Fs.flatten H) (hD : va_D A Fs.flatten) (hS : va_S A H0 H locs) (hA : ∀ q, H0.size ≤ q → A q)
    (hM : McR l D tys y wy fr lo (.ref b :: As) Gs x w') (hC : js.map (fun j => Fs[j]?) = Gs.map some) (hnd : va_nd js = true) (hw : w'.map (List.map Prod.fst) = Gs.map (List.map Prod.fst)) (Fs' : List va_W) (hFs : fBack Fs js w' = Fs')
    (hG : GoodIn Ts (wsV own index C y wy)) (hwy : wy = Cond.code y bytes maxL ret :: wy') (hd : y.cls = C ∧ y.cls ≠ "java/lang/invoke/MethodHandle" ∧ y.cls ≠ "java/lang/invoke/VarHandle" ∧ (parseMethodDescriptor y.desc).map (fun d => d.parameters.length) = some n) (hn : As.length = n) (hR : fr + 1 ≤ R.frames ∧ 8 + (maxL + 11) + lo ≤ R.locals)
    (hcl : vwCl[ci]? = some cq) (hCq : cq.1 = C) (hG0 : Gs = G0 :: Gt) (hrecv : G0[0]? = some (b, .inr (ci, fs))) (hls : ls.size = nL) (hrm : (rest.map fun v => v.category).sum ≤ 8) (hcells : cells ≤ R.cells ∧ slots ≤ R.slots) (hdg : decode cc pc = .ok (.invokevirtual index, 3)) (hst : st = As.reverse ++ .ref b :: rest)
    (kk : ∀ (H1 : Heap) (locs1 : List Loc), va_P D vwCl Fs'.flatten H1 → va_D A Fs'.flatten → va_S A H0 H1 locs1 → W p l e R s m args below meth c H1 locs1 cells slots Q (F0 m (pc + 3) ls (.ref x :: rest))) : W p l e R s m args below meth c H locs cells slots Q (F0 m pc ls st) := by
  subst hCq
  obtain ⟨hPc, hDc⟩ := fCalls hP hD js hnd hC
  have hFc : ∀ q, va_A Gs.flatten H.size q → A q := fun q h => by
    rcases h with ⟨k, e, h⟩ | h
    · exact hDc.2 k _ h
    · exact hA q (Nat.le_trans hS.1 h)
  refine va_callr (va_runV (As := As) (rest := rest) X (hM H.size) (cwV n X.2.2.2.2 hG hwy rfl rfl hd hR) ⟨q_blind, va_recv hK (fP hPc (j := 0) (by rw [hG0]; rfl)) hcl hrecv, q_pre hK hPc hDc⟩ rfl hn hls hst (lv_room hrm) hdg hcells) hS (fun q _ h => hFc q h) hFc (fun u a1 t H1 locs1 ht hvm hw1 hB hz1 hk1 hS1 => ?_)
  obtain ⟨hx1, hP1, -, -⟩ := hB
  subst hx1
  rw [ht] at hP1
  obtain ⟨hP2, hD2⟩ := fBacks hP hD js hC hw hFs hk1 hP1
  exact kk H1 locs1 hP2 hD2 hS1
theorem q_callSv {S : Type} {post : S → Prop} {w' : S → List va_W} (X : CallFix p m c cc nL s args Ts own) (hK : va_K D vwCl tys s) (hP : va_P D vwCl Fs.flatten H) (hD : va_D A Fs.flatten) (hS : va_S A H0 H locs) (hA : ∀ q, H0.size ≤ q → A q)
    (hM : McV l D tys y wy fr lo As Gs post w') (hC : js.map (fun j => Fs[j]?) = Gs.map some) (hnd : va_nd js = true) (hw : ∀ u, (w' u).map (List.map Prod.fst) = Gs.map (List.map Prod.fst)) (Fs' : S → List va_W) (hFs : ∀ u, fBack Fs js (w' u) = Fs' u)
    (hG : GoodIn Ts (va_wsS own index y wy)) (hwy : wy = Cond.code y bytes maxL ret :: wy') (hd : y.cls ≠ "java/lang/invoke/MethodHandle" ∧ y.cls ≠ "java/lang/invoke/VarHandle" ∧ (parseMethodDescriptor y.desc).map (fun d => d.parameters.length) = some n) (hn : As.length = n) (hR : fr + 1 ≤ R.frames ∧ 8 + (maxL + 11) + lo ≤ R.locals)
    (hls : ls.size = nL) (hrm : (rest.map fun v => v.category).sum ≤ 8) (hcells : cells ≤ R.cells ∧ slots ≤ R.slots) (hdg : decode cc pc = .ok (.invokestatic index, 3)) (hst : st = As.reverse ++ rest)
    (kk : ∀ (u : S) (H1 : Heap) (locs1 : List Loc), post u → va_P D vwCl (Fs' u).flatten H1 → va_D A (Fs' u).flatten → va_S A H0 H1 locs1 → W p l e R s m args below meth c H1 locs1 cells slots Q (F0 m (pc + 3) ls rest)) : W p l e R s m args below meth c H locs cells slots Q (F0 m pc ls st) := by
  obtain ⟨hPc, hDc⟩ := fCalls hP hD js hnd hC
  have hFc : ∀ q, va_A Gs.flatten H.size q → A q := fun q h => by
    rcases h with ⟨k, e, h⟩ | h
    · exact hDc.2 k _ h
    · exact hA q (Nat.le_trans hS.1 h)
  refine va_callv (va_runS (As := As) (rest := rest) X (hM H.size) (va_cwS n X.2.2.2.2 hG hwy rfl rfl hd hR) ⟨q_blind, q_pre hK hPc hDc⟩ rfl hn hls hst (lv_room hrm) hdg hcells) hS (fun q _ h => hFc q h) hFc (fun u t H1 locs1 ht hvm hw1 hB hz1 hk1 hS1 => ?_)
  obtain ⟨hP1, -, -⟩ := hB
  rw [ht] at hP1
  obtain ⟨hP2, hD2⟩ := fBacks hP hD js hC (hw u) (hFs u) hk1 hP1
  exact kk u H1 locs1 hw1 hP2 hD2 hS1
end Calls
end QR
end
section
/-! ===== what the cells are: lists of cells, by class ===== -/
abbrev tY (cI cZ cL : ClassId) : List (ClassId × FieldType) := [(cI, .int), (cZ, .boolean), (cL, .long)]
def wA (cI cZ : ClassId) (q : Nat → Nat) (c : Nat) (fr : Nat → Int32) (tt : Nat → Int32) (sa : Nat → Int32) (tk : Nat → Int32) : va_W := [(q 0, .inr (0, [.ref (q 1), .ref (q 2), .ref (q 3), .ref (q 4), .int (nI c)])), (q 1, .inl (cI, 160, .inl fr)), (q 2, .inl (cI, 160, .inl tt)), (q 3, .inl (cI, 160, .inl sa)), (q 4, .inl (cZ, 160, .inl tk))]
theorem wA_fst {cI cZ : ClassId} {q : Nat → Nat} {c : Nat} {fr : Nat → Int32} {tt : Nat → Int32} {sa : Nat → Int32} {tk : Nat → Int32} : (wA cI cZ q c fr tt sa tk).map Prod.fst = [q 0, q 1, q 2, q 3, q 4] := rfl
theorem wA_s_c {cI cZ : ClassId} {q : Nat → Nat} {c : Nat} {fr : Nat → Int32} {tt : Nat → Int32} {sa : Nat → Int32} {tk : Nat → Int32} {g9 : Nat} : (wA cI cZ q c fr tt sa tk).set 0 (q 0, .inr (0, List.set [.ref (q 1), .ref (q 2), .ref (q 3), .ref (q 4), .int (nI c)] 4 (.int (nI g9)))) = wA cI cZ q g9 fr tt sa tk := rfl
theorem wA_s_fr {cI cZ : ClassId} {q : Nat → Nat} {c : Nat} {fr : Nat → Int32} {tt : Nat → Int32} {sa : Nat → Int32} {tk : Nat → Int32} {g9 : Nat → Int32} : (wA cI cZ q c fr tt sa tk).set 1 (q 1, .inl (cI, 160, .inl g9)) = wA cI cZ q c g9 tt sa tk := rfl
theorem wA_s_tt {cI cZ : ClassId} {q : Nat → Nat} {c : Nat} {fr : Nat → Int32} {tt : Nat → Int32} {sa : Nat → Int32} {tk : Nat → Int32} {g9 : Nat → Int32} : (wA cI cZ q c fr tt sa tk).set 2 (q 2, .inl (cI, 160, .inl g9)) = wA cI cZ q c fr g9 sa tk := rfl
theorem wA_s_sa {cI cZ : ClassId} {q : Nat → Nat} {c : Nat} {fr : Nat → Int32} {tt : Nat → Int32} {sa : Nat → Int32} {tk : Nat → Int32} {g9 : Nat → Int32} : (wA cI cZ q c fr tt sa tk).set 3 (q 3, .inl (cI, 160, .inl g9)) = wA cI cZ q c fr tt g9 tk := rfl
theorem wA_s_tk {cI cZ : ClassId} {q : Nat → Nat} {c : Nat} {fr : Nat → Int32} {tt : Nat → Int32} {sa : Nat → Int32} {tk : Nat → Int32} {g9 : Nat → Int32} : (wA cI cZ q c fr tt sa tk).set 4 (q 4, .inl (cZ, 160, .inl g9)) = wA cI cZ q c fr tt sa g9 := rfl
def wS (cI : ClassId) (q : Nat → Nat) (pa : Nat) (po : Nat) (pf : Nat) (N : Nat) (rw : Nat → Int32) (nm : Nat → Int32) (bf : Nat → Int32) (fe : Nat → Int32) : va_W := [(q 0, .inr (3, [.ref pa, .ref po, .ref pf, .ref (q 1), .ref (q 2), .ref (q 3), .ref (q 4), .ref (q 5)])), (q 2, .inl (cI, 160, .inl rw)), (q 3, .inl (cI, 160, .inl nm)), (q 4, .inl (cI, 160, .inl bf)), (q 5, .inl (cI, N + 1, .inl fe))]
theorem wS_fst {cI : ClassId} {q : Nat → Nat} {pa : Nat} {po : Nat} {pf : Nat} {N : Nat} {rw : Nat → Int32} {nm : Nat → Int32} {bf : Nat → Int32} {fe : Nat → Int32} : (wS cI q pa po pf N rw nm bf fe).map Prod.fst = [q 0, q 2, q 3, q 4, q 5] := rfl
theorem wS_s_rw {cI : ClassId} {q : Nat → Nat} {pa : Nat} {po : Nat} {pf : Nat} {N : Nat} {rw : Nat → Int32} {nm : Nat → Int32} {bf : Nat → Int32} {fe : Nat → Int32} {g9 : Nat → Int32} : (wS cI q pa po pf N rw nm bf fe).set 1 (q 2, .inl (cI, 160, .inl g9)) = wS cI q pa po pf N g9 nm bf fe := rfl
theorem wS_s_nm {cI : ClassId} {q : Nat → Nat} {pa : Nat} {po : Nat} {pf : Nat} {N : Nat} {rw : Nat → Int32} {nm : Nat → Int32} {bf : Nat → Int32} {fe : Nat → Int32} {g9 : Nat → Int32} : (wS cI q pa po pf N rw nm bf fe).set 2 (q 3, .inl (cI, 160, .inl g9)) = wS cI q pa po pf N rw g9 bf fe := rfl
theorem wS_s_bf {cI : ClassId} {q : Nat → Nat} {pa : Nat} {po : Nat} {pf : Nat} {N : Nat} {rw : Nat → Int32} {nm : Nat → Int32} {bf : Nat → Int32} {fe : Nat → Int32} {g9 : Nat → Int32} : (wS cI q pa po pf N rw nm bf fe).set 3 (q 4, .inl (cI, 160, .inl g9)) = wS cI q pa po pf N rw nm g9 fe := rfl
theorem wS_s_fe {cI : ClassId} {q : Nat → Nat} {pa : Nat} {po : Nat} {pf : Nat} {N : Nat} {rw : Nat → Int32} {nm : Nat → Int32} {bf : Nat → Int32} {fe : Nat → Int32} {g9 : Nat → Int32} : (wS cI q pa po pf N rw nm bf fe).set 4 (q 5, .inl (cI, N + 1, .inl g9)) = wS cI q pa po pf N rw nm bf g9 := rfl
def wI (cI cZ : ClassId) (q : Nat → Nat) (op : Nat → Int32) (sl : Nat → Int32) (oi : Nat → Int32) (nd : Nat → Int32) (lp : Nat → Int32) (tl : Nat → Int32) : va_W := [(q 0, .inr (2, [.ref (q 1), .ref (q 2), .ref (q 3), .ref (q 4), .ref (q 5), .ref (q 6)])), (q 1, .inl (cZ, 8, .inl op)), (q 2, .inl (cZ, 8, .inl sl)), (q 3, .inl (cZ, 8, .inl oi)), (q 4, .inl (cI, 8, .inl nd)), (q 5, .inl (cI, 8, .inl lp)), (q 6, .inl (cI, 8, .inl tl))]
theorem wI_fst {cI cZ : ClassId} {q : Nat → Nat} {op : Nat → Int32} {sl : Nat → Int32} {oi : Nat → Int32} {nd : Nat → Int32} {lp : Nat → Int32} {tl : Nat → Int32} : (wI cI cZ q op sl oi nd lp tl).map Prod.fst = [q 0, q 1, q 2, q 3, q 4, q 5, q 6] := rfl
theorem wI_s_op {cI cZ : ClassId} {q : Nat → Nat} {op : Nat → Int32} {sl : Nat → Int32} {oi : Nat → Int32} {nd : Nat → Int32} {lp : Nat → Int32} {tl : Nat → Int32} {g9 : Nat → Int32} : (wI cI cZ q op sl oi nd lp tl).set 1 (q 1, .inl (cZ, 8, .inl g9)) = wI cI cZ q g9 sl oi nd lp tl := rfl
theorem wI_s_sl {cI cZ : ClassId} {q : Nat → Nat} {op : Nat → Int32} {sl : Nat → Int32} {oi : Nat → Int32} {nd : Nat → Int32} {lp : Nat → Int32} {tl : Nat → Int32} {g9 : Nat → Int32} : (wI cI cZ q op sl oi nd lp tl).set 2 (q 2, .inl (cZ, 8, .inl g9)) = wI cI cZ q op g9 oi nd lp tl := rfl
theorem wI_s_oi {cI cZ : ClassId} {q : Nat → Nat} {op : Nat → Int32} {sl : Nat → Int32} {oi : Nat → Int32} {nd : Nat → Int32} {lp : Nat → Int32} {tl : Nat → Int32} {g9 : Nat → Int32} : (wI cI cZ q op sl oi nd lp tl).set 3 (q 3, .inl (cZ, 8, .inl g9)) = wI cI cZ q op sl g9 nd lp tl := rfl
theorem wI_s_nd {cI cZ : ClassId} {q : Nat → Nat} {op : Nat → Int32} {sl : Nat → Int32} {oi : Nat → Int32} {nd : Nat → Int32} {lp : Nat → Int32} {tl : Nat → Int32} {g9 : Nat → Int32} : (wI cI cZ q op sl oi nd lp tl).set 4 (q 4, .inl (cI, 8, .inl g9)) = wI cI cZ q op sl oi g9 lp tl := rfl
theorem wI_s_lp {cI cZ : ClassId} {q : Nat → Nat} {op : Nat → Int32} {sl : Nat → Int32} {oi : Nat → Int32} {nd : Nat → Int32} {lp : Nat → Int32} {tl : Nat → Int32} {g9 : Nat → Int32} : (wI cI cZ q op sl oi nd lp tl).set 5 (q 5, .inl (cI, 8, .inl g9)) = wI cI cZ q op sl oi nd g9 tl := rfl
theorem wI_s_tl {cI cZ : ClassId} {q : Nat → Nat} {op : Nat → Int32} {sl : Nat → Int32} {oi : Nat → Int32} {nd : Nat → Int32} {lp : Nat → Int32} {tl : Nat → Int32} {g9 : Nat → Int32} : (wI cI cZ q op sl oi nd lp tl).set 6 (q 6, .inl (cI, 8, .inl g9)) = wI cI cZ q op sl oi nd lp g9 := rfl
def wG (cI : ClassId) (q : Nat → Nat) (go : Nat → Int32) (gt : Nat → Int32) : va_W := [(q 0, .inr (1, [.ref (q 1), .ref (q 2)])), (q 1, .inl (cI, 25, .inl go)), (q 2, .inl (cI, 160, .inl gt))]
theorem wG_fst {cI : ClassId} {q : Nat → Nat} {go : Nat → Int32} {gt : Nat → Int32} : (wG cI q go gt).map Prod.fst = [q 0, q 1, q 2] := rfl
theorem wG_s_go {cI : ClassId} {q : Nat → Nat} {go : Nat → Int32} {gt : Nat → Int32} {g9 : Nat → Int32} : (wG cI q go gt).set 1 (q 1, .inl (cI, 25, .inl g9)) = wG cI q g9 gt := rfl
theorem wG_s_gt {cI : ClassId} {q : Nat → Nat} {go : Nat → Int32} {gt : Nat → Int32} {g9 : Nat → Int32} : (wG cI q go gt).set 2 (q 2, .inl (cI, 160, .inl g9)) = wG cI q go g9 := rfl
def wO (q : Nat → Nat) (xa : Nat) (xb : Nat) (xd : Nat) (xi : Nat) (xg : Nat) (N : Nat) (tn : Nat) : va_W := [(q 0, .inr (4, [.int (nI N), .ref xa, .ref xb, .ref xd, .ref xi, .ref xg, .ref (q 1), .int (nI tn), .ref (q 2), .ref (q 3), .ref (q 4)]))]
theorem wO_fst {q : Nat → Nat} {xa : Nat} {xb : Nat} {xd : Nat} {xi : Nat} {xg : Nat} {N : Nat} {tn : Nat} : (wO q xa xb xd xi xg N tn).map Prod.fst = [q 0] := rfl
theorem wO_s_tn {q : Nat → Nat} {xa : Nat} {xb : Nat} {xd : Nat} {xi : Nat} {xg : Nat} {N : Nat} {tn : Nat} {g9 : Nat} : (wO q xa xb xd xi xg N tn).set 0 (q 0, .inr (4, List.set [.int (nI N), .ref xa, .ref xb, .ref xd, .ref xi, .ref xg, .ref (q 1), .int (nI tn), .ref (q 2), .ref (q 3), .ref (q 4)] 7 (.int (nI g9)))) = wO q xa xb xd xi xg N g9 := rfl
def wM (cI cZ cL : ClassId) (q : Nat → Nat) (th : Nat) (N : Nat) (c : Nat) (fr : Nat → Int32) (tt : Nat → Int32) (sa : Nat → Int32) (tk : Nat → Int32) (tn : Nat) (tr : Nat → Int32) (op : Nat → Int32) (sl : Nat → Int32) (nd : Nat → Int32) (oi : Nat → Int32) (il : Nat → Int32) (tl : Nat → Int32) (go : Nat → Int32) (gt : Nat → Int32) (fa : Nat → Int32) (mn : Nat → Int64) (nx : Nat → Int64) : va_W := [(q 0, .inr (5, [.int (nI th), .int (nI N), .int (nI c), .ref (q 1), .ref (q 2), .ref (q 3), .ref (q 4), .int (nI tn), .ref (q 5), .ref (q 6), .ref (q 7), .ref (q 8), .ref (q 9), .ref (q 10), .ref (q 11), .ref (q 12), .ref (q 13), .ref (q 14), .ref (q 15), .ref (q 16)])), (q 1, .inl (cI, 160, .inl fr)), (q 2, .inl (cI, 160, .inl tt)), (q 3, .inl (cI, 160, .inl sa)), (q 4, .inl (cZ, 160, .inl tk)), (q 5, .inl (cI, 160, .inl tr)), (q 6, .inl (cZ, 8, .inl op)), (q 7, .inl (cZ, 8, .inl sl)), (q 8, .inl (cI, 8, .inl nd)), (q 9, .inl (cZ, 8, .inl oi)), (q 10, .inl (cI, 8, .inl il)), (q 11, .inl (cI, 8, .inl tl)), (q 12, .inl (cI, 25, .inl go)), (q 13, .inl (cI, 160, .inl gt)), (q 14, .inl (cI, 24, .inl fa)), (q 15, .inl (cL, 24, .inr (.inl mn))), (q 16, .inl (cL, 24, .inr (.inl nx)))]
theorem wM_fst {cI cZ cL : ClassId} {q : Nat → Nat} {th : Nat} {N : Nat} {c : Nat} {fr : Nat → Int32} {tt : Nat → Int32} {sa : Nat → Int32} {tk : Nat → Int32} {tn : Nat} {tr : Nat → Int32} {op : Nat → Int32} {sl : Nat → Int32} {nd : Nat → Int32} {oi : Nat → Int32} {il : Nat → Int32} {tl : Nat → Int32} {go : Nat → Int32} {gt : Nat → Int32} {fa : Nat → Int32} {mn : Nat → Int64} {nx : Nat → Int64} : (wM cI cZ cL q th N c fr tt sa tk tn tr op sl nd oi il tl go gt fa mn nx).map Prod.fst = [q 0, q 1, q 2, q 3, q 4, q 5, q 6, q 7, q 8, q 9, q 10, q 11, q 12, q 13, q 14, q 15, q 16] := rfl
theorem wM_s_th {cI cZ cL : ClassId} {q : Nat → Nat} {th : Nat} {N : Nat} {c : Nat} {fr : Nat → Int32} {tt : Nat → Int32} {sa : Nat → Int32} {tk : Nat → Int32} {tn : Nat} {tr : Nat → Int32} {op : Nat → Int32} {sl : Nat → Int32} {nd : Nat → Int32} {oi : Nat → Int32} {il : Nat → Int32} {tl : Nat → Int32} {go : Nat → Int32} {gt : Nat → Int32} {fa : Nat → Int32} {mn : Nat → Int64} {nx : Nat → Int64} {g9 : Nat} : (wM cI cZ cL q th N c fr tt sa tk tn tr op sl nd oi il tl go gt fa mn nx).set 0 (q 0, .inr (5, List.set [.int (nI th), .int (nI N), .int (nI c), .ref (q 1), .ref (q 2), .ref (q 3), .ref (q 4), .int (nI tn), .ref (q 5), .ref (q 6), .ref (q 7), .ref (q 8), .ref (q 9), .ref (q 10), .ref (q 11), .ref (q 12), .ref (q 13), .ref (q 14), .ref (q 15), .ref (q 16)] 0 (.int (nI g9)))) = wM cI cZ cL q g9 N c fr tt sa tk tn tr op sl nd oi il tl go gt fa mn nx := rfl
theorem wM_s_c {cI cZ cL : ClassId} {q : Nat → Nat} {th : Nat} {N : Nat} {c : Nat} {fr : Nat → Int32} {tt : Nat → Int32} {sa : Nat → Int32} {tk : Nat → Int32} {tn : Nat} {tr : Nat → Int32} {op : Nat → Int32} {sl : Nat → Int32} {nd : Nat → Int32} {oi : Nat → Int32} {il : Nat → Int32} {tl : Nat → Int32} {go : Nat → Int32} {gt : Nat → Int32} {fa : Nat → Int32} {mn : Nat → Int64} {nx : Nat → Int64} {g9 : Nat} : (wM cI cZ cL q th N c fr tt sa tk tn tr op sl nd oi il tl go gt fa mn nx).set 0 (q 0, .inr (5, List.set [.int (nI th), .int (nI N), .int (nI c), .ref (q 1), .ref (q 2), .ref (q 3), .ref (q 4), .int (nI tn), .ref (q 5), .ref (q 6), .ref (q 7), .ref (q 8), .ref (q 9), .ref (q 10), .ref (q 11), .ref (q 12), .ref (q 13), .ref (q 14), .ref (q 15), .ref (q 16)] 2 (.int (nI g9)))) = wM cI cZ cL q th N g9 fr tt sa tk tn tr op sl nd oi il tl go gt fa mn nx := rfl
theorem wM_s_tn {cI cZ cL : ClassId} {q : Nat → Nat} {th : Nat} {N : Nat} {c : Nat} {fr : Nat → Int32} {tt : Nat → Int32} {sa : Nat → Int32} {tk : Nat → Int32} {tn : Nat} {tr : Nat → Int32} {op : Nat → Int32} {sl : Nat → Int32} {nd : Nat → Int32} {oi : Nat → Int32} {il : Nat → Int32} {tl : Nat → Int32} {go : Nat → Int32} {gt : Nat → Int32} {fa : Nat → Int32} {mn : Nat → Int64} {nx : Nat → Int64} {g9 : Nat} : (wM cI cZ cL q th N c fr tt sa tk tn tr op sl nd oi il tl go gt fa mn nx).set 0 (q 0, .inr (5, List.set [.int (nI th), .int (nI N), .int (nI c), .ref (q 1), .ref (q 2), .ref (q 3), .ref (q 4), .int (nI tn), .ref (q 5), .ref (q 6), .ref (q 7), .ref (q 8), .ref (q 9), .ref (q 10), .ref (q 11), .ref (q 12), .ref (q 13), .ref (q 14), .ref (q 15), .ref (q 16)] 7 (.int (nI g9)))) = wM cI cZ cL q th N c fr tt sa tk g9 tr op sl nd oi il tl go gt fa mn nx := rfl
theorem wM_s_fr {cI cZ cL : ClassId} {q : Nat → Nat} {th : Nat} {N : Nat} {c : Nat} {fr : Nat → Int32} {tt : Nat → Int32} {sa : Nat → Int32} {tk : Nat → Int32} {tn : Nat} {tr : Nat → Int32} {op : Nat → Int32} {sl : Nat → Int32} {nd : Nat → Int32} {oi : Nat → Int32} {il : Nat → Int32} {tl : Nat → Int32} {go : Nat → Int32} {gt : Nat → Int32} {fa : Nat → Int32} {mn : Nat → Int64} {nx : Nat → Int64} {g9 : Nat → Int32} : (wM cI cZ cL q th N c fr tt sa tk tn tr op sl nd oi il tl go gt fa mn nx).set 1 (q 1, .inl (cI, 160, .inl g9)) = wM cI cZ cL q th N c g9 tt sa tk tn tr op sl nd oi il tl go gt fa mn nx := rfl
theorem wM_s_tt {cI cZ cL : ClassId} {q : Nat → Nat} {th : Nat} {N : Nat} {c : Nat} {fr : Nat → Int32} {tt : Nat → Int32} {sa : Nat → Int32} {tk : Nat → Int32} {tn : Nat} {tr : Nat → Int32} {op : Nat → Int32} {sl : Nat → Int32} {nd : Nat → Int32} {oi : Nat → Int32} {il : Nat → Int32} {tl : Nat → Int32} {go : Nat → Int32} {gt : Nat → Int32} {fa : Nat → Int32} {mn : Nat → Int64} {nx : Nat → Int64} {g9 : Nat → Int32} : (wM cI cZ cL q th N c fr tt sa tk tn tr op sl nd oi il tl go gt fa mn nx).set 2 (q 2, .inl (cI, 160, .inl g9)) = wM cI cZ cL q th N c fr g9 sa tk tn tr op sl nd oi il tl go gt fa mn nx := rfl
theorem wM_s_sa {cI cZ cL : ClassId} {q : Nat → Nat} {th : Nat} {N : Nat} {c : Nat} {fr : Nat → Int32} {tt : Nat → Int32} {sa : Nat → Int32} {tk : Nat → Int32} {tn : Nat} {tr : Nat → Int32} {op : Nat → Int32} {sl : Nat → Int32} {nd : Nat → Int32} {oi : Nat → Int32} {il : Nat → Int32} {tl : Nat → Int32} {go : Nat → Int32} {gt : Nat → Int32} {fa : Nat → Int32} {mn : Nat → Int64} {nx : Nat → Int64} {g9 : Nat → Int32} : (wM cI cZ cL q th N c fr tt sa tk tn tr op sl nd oi il tl go gt fa mn nx).set 3 (q 3, .inl (cI, 160, .inl g9)) = wM cI cZ cL q th N c fr tt g9 tk tn tr op sl nd oi il tl go gt fa mn nx := rfl
theorem wM_s_tk {cI cZ cL : ClassId} {q : Nat → Nat} {th : Nat} {N : Nat} {c : Nat} {fr : Nat → Int32} {tt : Nat → Int32} {sa : Nat → Int32} {tk : Nat → Int32} {tn : Nat} {tr : Nat → Int32} {op : Nat → Int32} {sl : Nat → Int32} {nd : Nat → Int32} {oi : Nat → Int32} {il : Nat → Int32} {tl : Nat → Int32} {go : Nat → Int32} {gt : Nat → Int32} {fa : Nat → Int32} {mn : Nat → Int64} {nx : Nat → Int64} {g9 : Nat → Int32} : (wM cI cZ cL q th N c fr tt sa tk tn tr op sl nd oi il tl go gt fa mn nx).set 4 (q 4, .inl (cZ, 160, .inl g9)) = wM cI cZ cL q th N c fr tt sa g9 tn tr op sl nd oi il tl go gt fa mn nx := rfl
theorem wM_s_tr {cI cZ cL : ClassId} {q : Nat → Nat} {th : Nat} {N : Nat} {c : Nat} {fr : Nat → Int32} {tt : Nat → Int32} {sa : Nat → Int32} {tk : Nat → Int32} {tn : Nat} {tr : Nat → Int32} {op : Nat → Int32} {sl : Nat → Int32} {nd : Nat → Int32} {oi : Nat → Int32} {il : Nat → Int32} {tl : Nat → Int32} {go : Nat → Int32} {gt : Nat → Int32} {fa : Nat → Int32} {mn : Nat → Int64} {nx : Nat → Int64} {g9 : Nat → Int32} : (wM cI cZ cL q th N c fr tt sa tk tn tr op sl nd oi il tl go gt fa mn nx).set 5 (q 5, .inl (cI, 160, .inl g9)) = wM cI cZ cL q th N c fr tt sa tk tn g9 op sl nd oi il tl go gt fa mn nx := rfl
theorem wM_s_op {cI cZ cL : ClassId} {q : Nat → Nat} {th : Nat} {N : Nat} {c : Nat} {fr : Nat → Int32} {tt : Nat → Int32} {sa : Nat → Int32} {tk : Nat → Int32} {tn : Nat} {tr : Nat → Int32} {op : Nat → Int32} {sl : Nat → Int32} {nd : Nat → Int32} {oi : Nat → Int32} {il : Nat → Int32} {tl : Nat → Int32} {go : Nat → Int32} {gt : Nat → Int32} {fa : Nat → Int32} {mn : Nat → Int64} {nx : Nat → Int64} {g9 : Nat → Int32} : (wM cI cZ cL q th N c fr tt sa tk tn tr op sl nd oi il tl go gt fa mn nx).set 6 (q 6, .inl (cZ, 8, .inl g9)) = wM cI cZ cL q th N c fr tt sa tk tn tr g9 sl nd oi il tl go gt fa mn nx := rfl
theorem wM_s_sl {cI cZ cL : ClassId} {q : Nat → Nat} {th : Nat} {N : Nat} {c : Nat} {fr : Nat → Int32} {tt : Nat → Int32} {sa : Nat → Int32} {tk : Nat → Int32} {tn : Nat} {tr : Nat → Int32} {op : Nat → Int32} {sl : Nat → Int32} {nd : Nat → Int32} {oi : Nat → Int32} {il : Nat → Int32} {tl : Nat → Int32} {go : Nat → Int32} {gt : Nat → Int32} {fa : Nat → Int32} {mn : Nat → Int64} {nx : Nat → Int64} {g9 : Nat → Int32} : (wM cI cZ cL q th N c fr tt sa tk tn tr op sl nd oi il tl go gt fa mn nx).set 7 (q 7, .inl (cZ, 8, .inl g9)) = wM cI cZ cL q th N c fr tt sa tk tn tr op g9 nd oi il tl go gt fa mn nx := rfl
theorem wM_s_nd {cI cZ cL : ClassId} {q : Nat → Nat} {th : Nat} {N : Nat} {c : Nat} {fr : Nat → Int32} {tt : Nat → Int32} {sa : Nat → Int32} {tk : Nat → Int32} {tn : Nat} {tr : Nat → Int32} {op : Nat → Int32} {sl : Nat → Int32} {nd : Nat → Int32} {oi : Nat → Int32} {il : Nat → Int32} {tl : Nat → Int32} {go : Nat → Int32} {gt : Nat → Int32} {fa : Nat → Int32} {mn : Nat → Int64} {nx : Nat → Int64} {g9 : Nat → Int32} : (wM cI cZ cL q th N c fr tt sa tk tn tr op sl nd oi il tl go gt fa mn nx).set 8 (q 8, .inl (cI, 8, .inl g9)) = wM cI cZ cL q th N c fr tt sa tk tn tr op sl g9 oi il tl go gt fa mn nx := rfl
theorem wM_s_oi {cI cZ cL : ClassId} {q : Nat → Nat} {th : Nat} {N : Nat} {c : Nat} {fr : Nat → Int32} {tt : Nat → Int32} {sa : Nat → Int32} {tk : Nat → Int32} {tn : Nat} {tr : Nat → Int32} {op : Nat → Int32} {sl : Nat → Int32} {nd : Nat → Int32} {oi : Nat → Int32} {il : Nat → Int32} {tl : Nat → Int32} {go : Nat → Int32} {gt : Nat → Int32} {fa : Nat → Int32} {mn : Nat → Int64} {nx : Nat → Int64} {g9 : Nat → Int32} : (wM cI cZ cL q th N c fr tt sa tk tn tr op sl nd oi il tl go gt fa mn nx).set 9 (q 9, .inl (cZ, 8, .inl g9)) = wM cI cZ cL q th N c fr tt sa tk tn tr op sl nd g9 il tl go gt fa mn nx := rfl
theorem wM_s_il {cI cZ cL : ClassId} {q : Nat → Nat} {th : Nat} {N : Nat} {c : Nat} {fr : Nat → Int32} {tt : Nat → Int32} {sa : Nat → Int32} {tk : Nat → Int32} {tn : Nat} {tr : Nat → Int32} {op : Nat → Int32} {sl : Nat → Int32} {nd : Nat → Int32} {oi : Nat → Int32} {il : Nat → Int32} {tl : Nat → Int32} {go : Nat → Int32} {gt : Nat → Int32} {fa : Nat → Int32} {mn : Nat → Int64} {nx : Nat → Int64} {g9 : Nat → Int32} : (wM cI cZ cL q th N c fr tt sa tk tn tr op sl nd oi il tl go gt fa mn nx).set 10 (q 10, .inl (cI, 8, .inl g9)) = wM cI cZ cL q th N c fr tt sa tk tn tr op sl nd oi g9 tl go gt fa mn nx := rfl
theorem wM_s_tl {cI cZ cL : ClassId} {q : Nat → Nat} {th : Nat} {N : Nat} {c : Nat} {fr : Nat → Int32} {tt : Nat → Int32} {sa : Nat → Int32} {tk : Nat → Int32} {tn : Nat} {tr : Nat → Int32} {op : Nat → Int32} {sl : Nat → Int32} {nd : Nat → Int32} {oi : Nat → Int32} {il : Nat → Int32} {tl : Nat → Int32} {go : Nat → Int32} {gt : Nat → Int32} {fa : Nat → Int32} {mn : Nat → Int64} {nx : Nat → Int64} {g9 : Nat → Int32} : (wM cI cZ cL q th N c fr tt sa tk tn tr op sl nd oi il tl go gt fa mn nx).set 11 (q 11, .inl (cI, 8, .inl g9)) = wM cI cZ cL q th N c fr tt sa tk tn tr op sl nd oi il g9 go gt fa mn nx := rfl
theorem wM_s_go {cI cZ cL : ClassId} {q : Nat → Nat} {th : Nat} {N : Nat} {c : Nat} {fr : Nat → Int32} {tt : Nat → Int32} {sa : Nat → Int32} {tk : Nat → Int32} {tn : Nat} {tr : Nat → Int32} {op : Nat → Int32} {sl : Nat → Int32} {nd : Nat → Int32} {oi : Nat → Int32} {il : Nat → Int32} {tl : Nat → Int32} {go : Nat → Int32} {gt : Nat → Int32} {fa : Nat → Int32} {mn : Nat → Int64} {nx : Nat → Int64} {g9 : Nat → Int32} : (wM cI cZ cL q th N c fr tt sa tk tn tr op sl nd oi il tl go gt fa mn nx).set 12 (q 12, .inl (cI, 25, .inl g9)) = wM cI cZ cL q th N c fr tt sa tk tn tr op sl nd oi il tl g9 gt fa mn nx := rfl
theorem wM_s_gt {cI cZ cL : ClassId} {q : Nat → Nat} {th : Nat} {N : Nat} {c : Nat} {fr : Nat → Int32} {tt : Nat → Int32} {sa : Nat → Int32} {tk : Nat → Int32} {tn : Nat} {tr : Nat → Int32} {op : Nat → Int32} {sl : Nat → Int32} {nd : Nat → Int32} {oi : Nat → Int32} {il : Nat → Int32} {tl : Nat → Int32} {go : Nat → Int32} {gt : Nat → Int32} {fa : Nat → Int32} {mn : Nat → Int64} {nx : Nat → Int64} {g9 : Nat → Int32} : (wM cI cZ cL q th N c fr tt sa tk tn tr op sl nd oi il tl go gt fa mn nx).set 13 (q 13, .inl (cI, 160, .inl g9)) = wM cI cZ cL q th N c fr tt sa tk tn tr op sl nd oi il tl go g9 fa mn nx := rfl
theorem wM_s_fa {cI cZ cL : ClassId} {q : Nat → Nat} {th : Nat} {N : Nat} {c : Nat} {fr : Nat → Int32} {tt : Nat → Int32} {sa : Nat → Int32} {tk : Nat → Int32} {tn : Nat} {tr : Nat → Int32} {op : Nat → Int32} {sl : Nat → Int32} {nd : Nat → Int32} {oi : Nat → Int32} {il : Nat → Int32} {tl : Nat → Int32} {go : Nat → Int32} {gt : Nat → Int32} {fa : Nat → Int32} {mn : Nat → Int64} {nx : Nat → Int64} {g9 : Nat → Int32} : (wM cI cZ cL q th N c fr tt sa tk tn tr op sl nd oi il tl go gt fa mn nx).set 14 (q 14, .inl (cI, 24, .inl g9)) = wM cI cZ cL q th N c fr tt sa tk tn tr op sl nd oi il tl go gt g9 mn nx := rfl
theorem wM_s_mn {cI cZ cL : ClassId} {q : Nat → Nat} {th : Nat} {N : Nat} {c : Nat} {fr : Nat → Int32} {tt : Nat → Int32} {sa : Nat → Int32} {tk : Nat → Int32} {tn : Nat} {tr : Nat → Int32} {op : Nat → Int32} {sl : Nat → Int32} {nd : Nat → Int32} {oi : Nat → Int32} {il : Nat → Int32} {tl : Nat → Int32} {go : Nat → Int32} {gt : Nat → Int32} {fa : Nat → Int32} {mn : Nat → Int64} {nx : Nat → Int64} {g9 : Nat → Int64} : (wM cI cZ cL q th N c fr tt sa tk tn tr op sl nd oi il tl go gt fa mn nx).set 15 (q 15, .inl (cL, 24, .inr (.inl g9))) = wM cI cZ cL q th N c fr tt sa tk tn tr op sl nd oi il tl go gt fa g9 nx := rfl
theorem wM_s_nx {cI cZ cL : ClassId} {q : Nat → Nat} {th : Nat} {N : Nat} {c : Nat} {fr : Nat → Int32} {tt : Nat → Int32} {sa : Nat → Int32} {tk : Nat → Int32} {tn : Nat} {tr : Nat → Int32} {op : Nat → Int32} {sl : Nat → Int32} {nd : Nat → Int32} {oi : Nat → Int32} {il : Nat → Int32} {tl : Nat → Int32} {go : Nat → Int32} {gt : Nat → Int32} {fa : Nat → Int32} {mn : Nat → Int64} {nx : Nat → Int64} {g9 : Nat → Int64} : (wM cI cZ cL q th N c fr tt sa tk tn tr op sl nd oi il tl go gt fa mn nx).set 16 (q 16, .inl (cL, 24, .inr (.inl g9))) = wM cI cZ cL q th N c fr tt sa tk tn tr op sl nd oi il tl go gt fa mn g9 := rfl
def wT (cI : ClassId) (q : Nat) (tl : Nat) (tr : Nat → Int32) : va_W := [(q, .inl (cI, tl, .inl tr))]
theorem wT_fst {cI : ClassId} {q : Nat} {tl : Nat} {tr : Nat → Int32} : (wT cI q tl tr).map Prod.fst = [q] := rfl
theorem wT_s_tr {cI : ClassId} {q : Nat} {tl : Nat} {tr : Nat → Int32} {g9 : Nat → Int32} : (wT cI q tl tr).set 0 (q, .inl (cI, tl, .inl g9)) = wT cI q tl g9 := rfl
def wU (cL : ClassId) (q : Nat) (tl : Nat) (tr : Nat → Int64) : va_W := [(q, .inl (cL, tl, .inr (.inl tr)))]
theorem wU_fst {cL : ClassId} {q : Nat} {tl : Nat} {tr : Nat → Int64} : (wU cL q tl tr).map Prod.fst = [q] := rfl
theorem wU_s_tr {cL : ClassId} {q : Nat} {tl : Nat} {tr : Nat → Int64} {g9 : Nat → Int64} : (wU cL q tl tr).set 0 (q, .inl (cL, tl, .inr (.inl g9))) = wU cL q tl g9 := rfl
theorem wCast {D : va_G} {cl : List vw_C} {ws ws' : List va_W} {H : Heap} (h : va_P D cl ws.flatten H) (e : ws = ws') : va_P D cl ws'.flatten H := e ▸ h
theorem dCast {A : Nat → Prop} {ws ws' : List va_W} (h : va_D A ws.flatten) (e : ws = ws') : va_D A ws'.flatten := e ▸ h
/-! ===== the words for numbers, counts, states ===== -/
def cN : Nat → (Nat → Bool) → Nat
  | 0, _ => 0
  | n + 1, P => cN n P + (if P n then 1 else 0)
def hasB (c : Nat) (x : Int32) : Bool := !(decide (x < 0)) && !(decide (nI c ≤ x))
theorem hasB_of {c : Nat} {x : Int32} (h : hasB c x = true) (hc : c < 2 ^ 31) : ∃ j : Nat, j < c ∧ x = nI j := by
  simp only [hasB, Bool.and_eq_true, Bool.not_eq_true', decide_eq_false_iff_not] at h
  obtain ⟨j, hj, rfl⟩ := nI_of h.1
  refine ⟨j, ?_, rfl⟩
  have := mt (nI_leI hc hj).mpr h.2
  omega
theorem hasB_in {c n : Nat} {x : Int32} (h : hasB c x = true) (hc : c ≤ n) (hn : n < 2 ^ 31) : vp_in x n := by
  obtain ⟨j, hj, rfl⟩ := hasB_of h (by omega)
  exact vp_in_nI (by omega) hn
theorem hasB_nI {c j : Nat} (hc : c < 2 ^ 31) (hj : j < 2 ^ 31) : hasB c (nI j) = decide (j < c) := by
  have h1 : ¬ nI j < 0 := nI_pos hj
  have h2 := nI_leI (a := c) (b := j) hc hj
  by_cases h : j < c
  · have h3 : ¬ nI c ≤ nI j := fun h4 => absurd (h2.mp h4) (by omega)
    simp [hasB, h1, h3, h]
  · have h3 : nI c ≤ nI j := h2.mpr (by omega)
    simp [hasB, h3, h]
theorem hasB_m1 {c : Nat} : hasB c (-1) = false := by
  have : (-1 : Int32) < 0 := by decide
  simp [hasB, this]
def isLv (c : Nat) (sa tk : Nat → Int32) (x : Int32) : Bool := hasB c x && (!(decide (sa x.toNatClampNeg = 2)) && decide (tk x.toNatClampNeg = 0))
def isWt (c : Nat) (sa : Nat → Int32) (x : Int32) : Bool := hasB c x && decide (sa x.toNatClampNeg = 0)
def lvB (sa tk : Nat → Int32) (a : Nat) : Bool := !(decide (sa a = 2)) && decide (tk a = 0)
theorem isLv_nI {c : Nat} {sa tk : Nat → Int32} {j : Nat} (hj : j < c) (hc : c < 2 ^ 31) : isLv c sa tk (nI j) = lvB sa tk j := by
  simp [isLv, lvB, hasB_nI hc (show j < 2 ^ 31 by omega), hj, nI_clamp (show j < 2 ^ 31 by omega)]
def apR (c : Nat) : Int32 := if c < 160 then nI c else -6
def apC (c : Nat) : Nat := if c < 160 then c + 1 else c
def apF (c : Nat) (f : Nat → Int32) (v : Int32) : Nat → Int32 := if c < 160 then upd f c v else f
def sv (tk : Nat → Int32) (a : Nat) : Int32 := if tk a = 0 then 1 else 2
def stS (tk sa : Nat → Int32) (i : Nat) : Nat → Int32 := fun a => if a < i then sv tk a else sa a
theorem stS_0 {tk sa : Nat → Int32} : stS tk sa 0 = sa := by funext a; simp [stS]
theorem stS_i {tk sa : Nat → Int32} {i : Nat} : stS tk sa i i = sa i := by simp [stS]
theorem stS_w {tk sa : Nat → Int32} {i : Nat} {v : Int32} (h : v = sv tk i) : upd (stS tk sa i) i v = stS tk sa (i + 1) := by
  funext a; simp only [upd, stS]
  by_cases h1 : a = i
  · subst h1; simp [h]
  · by_cases h2 : a < i
    · simp [h1, h2, show a < i + 1 by omega]
    · simp [h1, h2, show ¬ a < i + 1 by omega]
theorem stS_k {tk sa : Nat → Int32} {i : Nat} (h : sa i = sv tk i) : stS tk sa i = stS tk sa (i + 1) := by
  funext a; simp only [stS]
  by_cases h1 : a = i
  · subst h1; simp [h]
  · by_cases h2 : a < i
    · simp [h2, show a < i + 1 by omega]
    · simp [h2, show ¬ a < i + 1 by omega]
end
section
/-! ===== words for loops: a prefix overwritten, the first that fits, numbers packed ===== -/
def pfx {α : Type} (v f : Nat → α) (i : Nat) : Nat → α := fun j => if j < i then v j else f j
theorem pfx_0 {α : Type} {v f : Nat → α} : pfx v f 0 = f := by funext j; simp [pfx]
theorem pfx_i {α : Type} {v f : Nat → α} {i : Nat} : pfx v f i i = f i := by simp [pfx]
theorem pfx_lt {α : Type} {v f : Nat → α} {i j : Nat} (h : j < i) : pfx v f i j = v j := by simp [pfx, h]
theorem pfx_ge {α : Type} {v f : Nat → α} {i j : Nat} (h : i ≤ j) : pfx v f i j = f j := by simp [pfx, show ¬ j < i by omega]
theorem pfx_w {v f : Nat → Int32} {i : Nat} {x : Int32} (h : x = v i) : upd (pfx v f i) i x = pfx v f (i + 1) := by
  funext j; simp only [upd, pfx]
  by_cases h1 : j = i
  · subst h1; simp [h]
  · by_cases h2 : j < i
    · simp [h1, h2, show j < i + 1 by omega]
    · simp [h1, h2, show ¬ j < i + 1 by omega]
theorem pfx_w2 {v f : Nat → Int32} {i : Nat} {x y : Int32} (h : x = v i) : upd (upd (pfx v f i) i y) i x = pfx v f (i + 1) := by
  rw [← pfx_w h]; funext j; simp only [upd]; by_cases h1 : j = i <;> simp [h1]
theorem pfx_wL {v f : Nat → Int64} {i : Nat} {x : Int64} (h : x = v i) : vp_updL (pfx v f i) i x = pfx v f (i + 1) := by
  funext j; simp only [vp_updL, pfx]
  by_cases h1 : j = i
  · subst h1; simp [h]
  · by_cases h2 : j < i
    · simp [h1, h2, show j < i + 1 by omega]
    · simp [h1, h2, show ¬ j < i + 1 by omega]
def stl (sl : Nat → Int32) : Nat → Int32 := pfx (fun _ => 1) sl 8
def fsv (Q : Nat → Bool) (V : Nat → Int32) : Nat → Nat → Int32
  | 0, _ => -1
  | f + 1, i => if Q i then V i else fsv Q V f (i + 1)
theorem fsv_yes {Q : Nat → Bool} {V : Nat → Int32} {n i : Nat} (h : i < n) (hq : Q i = true) : fsv Q V (n - i) i = V i := by
  rw [show n - i = (n - (i + 1)) + 1 by omega]; simp [fsv, hq]
theorem fsv_no {Q : Nat → Bool} {V : Nat → Int32} {n i : Nat} (h : i < n) (hq : Q i = false) : fsv Q V (n - i) i = fsv Q V (n - (i + 1)) (i + 1) := by
  rw [show n - i = (n - (i + 1)) + 1 by omega]; simp [fsv, hq]
theorem fsv_end {Q : Nat → Bool} {V : Nat → Int32} {n i : Nat} (h : n ≤ i) : fsv Q V (n - i) i = -1 := by
  rw [show n - i = 0 by omega]; rfl
theorem cN_le (n : Nat) (P : Nat → Bool) : cN n P ≤ n := by
  induction n with
  | zero => simp [cN]
  | succ n ih => simp only [cN]; split <;> omega
def pkG (P : Nat → Bool) (v f : Nat → Int32) : Nat → Nat → Int32
  | 0 => f
  | i + 1 => if P i then upd (pkG P v f i) (cN i P) (v i) else pkG P v f i
theorem pkG_ge {P : Nat → Bool} {v f : Nat → Int32} : ∀ {i j : Nat}, i ≤ j → pkG P v f i j = f j := by
  intro i
  induction i with
  | zero => intro j _; rfl
  | succ i ih =>
    intro j h
    have h1 := cN_le i P
    simp only [pkG]
    split
    · simp only [upd]; rw [if_neg (by omega)]; exact ih (by omega)
    · exact ih (by omega)
theorem pkG_y {P : Nat → Bool} {v f : Nat → Int32} {i : Nat} {x : Int32} (h : P i = true) (hx : x = v i) : upd (pkG P v f i) (cN i P) x = pkG P v f (i + 1) := by simp [pkG, h, hx]
theorem pkG_n {P : Nat → Bool} {v f : Nat → Int32} {i : Nat} (h : P i = false) : pkG P v f i = pkG P v f (i + 1) := by simp [pkG, h]
theorem cN_y {P : Nat → Bool} {i : Nat} (h : P i = true) : cN i P + 1 = cN (i + 1) P := by simp [cN, h]
theorem cN_n {P : Nat → Bool} {i : Nat} (h : P i = false) : cN i P = cN (i + 1) P := by simp [cN, h]
theorem in_mono {x : Int32} {n k : Nat} (h : vp_in x n) (hk : n ≤ k) : vp_in x k := by
  rw [vp_in_iff] at h ⊢; omega
theorem sw5 (x : Int32) : x = 0 ∨ x = 1 ∨ x = 2 ∨ x = 3 ∨ x = 4 ∨ (x.toInt < 0 ∨ 4 < x.toInt) := by
  by_cases h : x.toInt < 0 ∨ 4 < x.toInt
  · exact Or.inr (Or.inr (Or.inr (Or.inr (Or.inr h))))
  · have e : x = Int32.ofInt x.toInt := (Int32.ofInt_toInt x).symm
    have h2 : x.toInt = 0 ∨ x.toInt = 1 ∨ x.toInt = 2 ∨ x.toInt = 3 ∨ x.toInt = 4 := by omega
    rcases h2 with h2 | h2 | h2 | h2 | h2 <;> rw [h2] at e <;> subst e
    · exact Or.inl rfl
    · exact Or.inr (Or.inl rfl)
    · exact Or.inr (Or.inr (Or.inl rfl))
    · exact Or.inr (Or.inr (Or.inr (Or.inl rfl)))
    · exact Or.inr (Or.inr (Or.inr (Or.inr (Or.inl rfl))))
theorem sw6 (x : Int32) : x = 0 ∨ x = 1 ∨ x = 2 ∨ x = 3 ∨ x = 4 ∨ x = 5 ∨ (x.toInt < 0 ∨ 5 < x.toInt) := by
  rcases sw5 x with h | h | h | h | h | h
  · exact Or.inl h
  · exact Or.inr (Or.inl h)
  · exact Or.inr (Or.inr (Or.inl h))
  · exact Or.inr (Or.inr (Or.inr (Or.inl h)))
  · exact Or.inr (Or.inr (Or.inr (Or.inr (Or.inl h))))
  · by_cases h5 : x.toInt = 5
    · have e : x = Int32.ofInt x.toInt := (Int32.ofInt_toInt x).symm
      rw [h5] at e; subst e
      exact Or.inr (Or.inr (Or.inr (Or.inr (Or.inr (Or.inl rfl)))))
    · exact Or.inr (Or.inr (Or.inr (Or.inr (Or.inr (Or.inr (by omega))))))
/-! ===== what the calls answer, in words ===== -/
def arB (N : Nat) (x y : Int32) : Bool := hasB N x && hasB N y
def arR (N c : Nat) (x y : Int32) : Int32 := if arB N x y then apR c else -2
def arC (N c : Nat) (x y : Int32) : Nat := if arB N x y then apC c else c
def arF (N c : Nat) (x y : Int32) (f : Nat → Int32) (v : Int32) : Nat → Int32 := if arB N x y then apF c f v else f
def mtR (c : Nat) (sa tk : Nat → Int32) (x z : Int32) : Int32 := if hasB c x then (if sa x.toNatClampNeg = 2 then -5 else (if tk x.toNatClampNeg = 0 then z else 1 - z)) else -2
def mtF (c : Nat) (sa tk : Nat → Int32) (x z : Int32) : Nat → Int32 := if hasB c x && !(decide (sa x.toNatClampNeg = 2)) then upd tk x.toNatClampNeg z else tk
def mv (tk sa : Nat → Int32) (j : Nat) : Int32 := if sa j = 2 then 2 else if tk j = 0 then 1 else 2
def mvB (tk sa : Nat → Int32) (j : Nat) : Bool := !(decide (mv tk sa j = sa j))
def msS (tk sa : Nat → Int32) (c : Nat) : Nat → Int32 := pfx (mv tk sa) sa c
def stB (sa : Nat → Int32) (x : Int32) (j : Nat) : Bool := decide (sa j = x)
def nlB (sa : Nat → Int32) (j : Nat) : Bool := !(decide (sa j = 2))
def trV (P : Nat → Bool) (j : Nat) : Int32 := if P j then nI (cN j P) else -1
def tdR (tn : Nat) (tr : Nat → Int32) (x : Int32) : Int32 := if hasB tn x then tr x.toNatClampNeg else -2
def ownI (fr tt : Nat → Int32) (z : Int32) (j : Nat) : Int32 := if z = 0 then fr j else tt j
def othI (fr tt : Nat → Int32) (z : Int32) (j : Nat) : Int32 := if z = 0 then tt j else fr j
def ahB (fr tt sa : Nat → Int32) (z : Int32) (j k : Nat) : Bool := if sa j = sa k then (if sa j = 1 ∧ ¬ othI fr tt z j = othI fr tt z k then !(decide (othI fr tt z k ≤ othI fr tt z j)) else !(decide (k ≤ j))) else decide (sa j = 1)
def ofB (fr tt sa tk : Nat → Int32) (x z w : Int32) (j : Nat) : Bool := decide (ownI fr tt z j = x) && (if w = 0 then decide (sa j = 1) else lvB sa tk j)
def anB (fr tt sa tk : Nat → Int32) (x z w : Int32) (j k : Nat) : Bool := ofB fr tt sa tk x z w k && ahB fr tt sa z k j
def plB (c : Nat) (fr tt sa tk : Nat → Int32) (x z w k : Int32) (j : Nat) : Bool := ofB fr tt sa tk x z w j && decide (nI (cN c (anB fr tt sa tk x z w j)) = k)
def plR (c : Nat) (fr tt sa tk : Nat → Int32) (x z w k : Int32) : Int32 := fsv (plB c fr tt sa tk x z w k) nI c 0
def irA (N c : Nat) (fr tt sa tk : Nat → Int32) (x z k : Int32) : Int32 := if hasB N x && !(decide (k < 0)) then plR c fr tt sa tk x z 0 k else -1
def irT (N c : Nat) (fr tt sa tk : Nat → Int32) (x z k : Int32) : Nat := if irA N c fr tt sa tk x z k = -1 then 1 else 0
def irR (N c : Nat) (fr tt sa tk : Nat → Int32) (x z k : Int32) : Int32 := if irA N c fr tt sa tk x z k = -1 then 0 else irA N c fr tt sa tk x z k
def ofsB (fr tt sa : Nat → Int32) (z x : Int32) (j : Nat) : Bool := decide (sa j = 1) && !(decide (x ≤ ownI fr tt z j))
def ofsR (N c : Nat) (fr tt sa : Nat → Int32) (x z : Int32) : Int32 := if x < 0 then -2 else if ¬ x ≤ nI N then -2 else nI (cN c (ofsB fr tt sa z x))
def toR (c : Nat) (fr tt sa tk : Nat → Int32) (x y : Int32) : Int32 := if hasB c x then (if y = 0 then fr x.toNatClampNeg else if y = 1 then tt x.toNatClampNeg else if y = 2 then (if sa x.toNatClampNeg = 1 then 1 else 0) else if y = 3 then (if tk x.toNatClampNeg = 0 then 0 else 1) else if y = 4 then (if sa x.toNatClampNeg = 2 then 1 else 0) else -3) else -2
def dgR (N c : Nat) (fr tt sa tk : Nat → Int32) (x z : Int32) : Int32 := if hasB N x then nI (cN c (ofB fr tt sa tk x z 1)) else -2
def lvR (N c : Nat) (fr tt sa tk : Nat → Int32) (x z k : Int32) : Int32 := if hasB N x then (if k < 0 then -3 else plR c fr tt sa tk x z 1 k) else -2
def ldB (fr tt sa tk : Nat → Int32) (x y : Int32) (j : Nat) : Bool := ofB fr tt sa tk x 0 1 j && decide (tt j = y)
def btR (N c : Nat) (fr tt sa tk : Nat → Int32) (x y : Int32) : Int32 := if arB N x y then nI (cN c (ldB fr tt sa tk x y)) else -2
theorem ofB_self {fr tt sa tk : Nat → Int32} {j : Nat} : ofB fr tt sa tk (fr j) 0 1 j = lvB sa tk j := by simp [ofB, ownI]
def nrI (fr tt sa tk : Nat → Int32) (n : Nat) : Nat → (Nat → Int32) → Nat → Int32
  | 0, F => F
  | i + 1, F => if lvB sa tk i && (decide (nrI fr tt sa tk n i F (fr i).toNatClampNeg = nI n) && decide (nrI fr tt sa tk n i F (tt i).toNatClampNeg = -1)) then upd (nrI fr tt sa tk n i F) (tt i).toNatClampNeg (nI (n + 1)) else nrI fr tt sa tk n i F
def nrO (c : Nat) (fr tt sa tk : Nat → Int32) : Nat → (Nat → Int32) → Nat → Int32
  | 0, F => F
  | n + 1, F => nrI fr tt sa tk n c (nrO c fr tt sa tk n F)
def nr0 (x : Int32) (j : Nat) : Int32 := if nI j = x then 0 else -1
def nrR (N c : Nat) (fr tt sa tk fa : Nat → Int32) (x y : Int32) : Int32 := if arB N x y then nrO c fr tt sa tk N (pfx (nr0 x) fa N) y.toNatClampNeg else -2
def nrF (N c : Nat) (fr tt sa tk fa : Nat → Int32) (x y : Int32) : Nat → Int32 := if arB N x y then nrO c fr tt sa tk N (pfx (nr0 x) fa N) else fa
def wyI (fr tt sa tk : Nat → Int32) (M : Nat → Int64) : Nat → (Nat → Int64) → Nat → Int64
  | 0, X => X
  | i + 1, X => vp_updL (wyI fr tt sa tk M i X) (tt i).toNatClampNeg (wyI fr tt sa tk M i X (tt i).toNatClampNeg + (if lvB sa tk i then M (fr i).toNatClampNeg else 0))
/-- both rows behind n rounds: (many, next) -/
def wyO (N c : Nat) (fr tt sa tk : Nat → Int32) (mn nx : Nat → Int64) : Nat → (Nat → Int64) × (Nat → Int64)
  | 0 => (mn, nx)
  | n + 1 => (pfx (wyI fr tt sa tk (wyO N c fr tt sa tk mn nx n).1 c (pfx (fun _ => 0) (wyO N c fr tt sa tk mn nx n).2 N)) (wyO N c fr tt sa tk mn nx n).1 N, wyI fr tt sa tk (wyO N c fr tt sa tk mn nx n).1 c (pfx (fun _ => 0) (wyO N c fr tt sa tk mn nx n).2 N))
def wy0 (x : Int32) (j : Nat) : Int64 := if nI j = x then 1 else 0
def wyB (N : Nat) (x y k : Int32) : Bool := arB N x y && (!(decide (k < 0)) && decide (k ≤ 60))
def wyE (N c : Nat) (fr tt sa tk : Nat → Int32) (mn nx : Nat → Int64) (x k : Int32) : (Nat → Int64) × (Nat → Int64) := wyO N c fr tt sa tk (pfx (wy0 x) mn N) nx k.toNatClampNeg
def wyR (N c : Nat) (fr tt sa tk : Nat → Int32) (mn nx : Nat → Int64) (x y k : Int32) : Int64 := if wyB N x y k then (wyE N c fr tt sa tk mn nx x k).1 y.toNatClampNeg else if arB N x y then -3 else -2
def wyM (N c : Nat) (fr tt sa tk : Nat → Int32) (mn nx : Nat → Int64) (x y k : Int32) : Nat → Int64 := if wyB N x y k then (wyE N c fr tt sa tk mn nx x k).1 else mn
def wyX (N c : Nat) (fr tt sa tk : Nat → Int32) (mn nx : Nat → Int64) (x y k : Int32) : Nat → Int64 := if wyB N x y k then (wyE N c fr tt sa tk mn nx x k).2 else nx
def opB (op : Nat → Int32) (j : Nat) : Bool := decide (op j = 0)
def opA (op : Nat → Int32) : Int32 := fsv (opB op) nI 8 0
def opR (N : Nat) (op : Nat → Int32) (x : Int32) : Int32 := if hasB N x then (if opA op = -1 then -6 else opA op) else -2
def opF (N : Nat) (op : Nat → Int32) (x : Int32) (f : Nat → Int32) (v : Int32) : Nat → Int32 := if hasB N x && !(decide (opA op = -1)) then upd f (opA op).toNatClampNeg v else f
def itB (op : Nat → Int32) (x : Int32) : Bool := hasB 8 x && !(decide (op x.toNatClampNeg = 0))
def clR (op tl : Nat → Int32) (x : Int32) : Int32 := if itB op x then tl x.toNatClampNeg else -2
def clF (op : Nat → Int32) (x : Int32) : Nat → Int32 := if itB op x then upd op x.toNatClampNeg 0 else op
def gvB (z k : Int32) : Bool := hasB (if z = 0 then 25 else 160) k
def gvR (go gt : Nat → Int32) (z k : Int32) : Int32 := if gvB z k then (if z = 0 then go k.toNatClampNeg else gt k.toNatClampNeg) else -3
def gvO (go : Nat → Int32) (z k v : Int32) : Nat → Int32 := if gvB z k then (if z = 0 then upd go k.toNatClampNeg v else go) else go
def gvT (gt : Nat → Int32) (z k v : Int32) : Nat → Int32 := if gvB z k then (if z = 0 then gt else upd gt k.toNatClampNeg v) else gt
end
section
theorem nI_8 : nI 8 = 8 := rfl
theorem nI_25 : nI 25 = 25 := rfl
theorem nI_160 : nI 160 = 160 := rfl
theorem nI_ne_m1 {i : Nat} (h : i < 2 ^ 31) : ¬ nI i = -1 := by
  intro h1
  have h2 := nI_pos (n := i) h
  rw [h1] at h2
  exact h2 (by decide)
theorem in_lt {k : Int32} {n : Nat} (h0 : ¬ k < 0) (h : k < nI n) (hn : n < 2 ^ 31) : vp_in k n := by
  obtain ⟨j, hj, rfl⟩ := nI_of h0
  exact vp_in_nI ((nI_ltI hj hn).mp h) hn
theorem in_le {k : Int32} {n m : Nat} (h0 : ¬ k < 0) (h : k ≤ nI n) (hn : n < 2 ^ 31) (hm : n < m) (hm2 : m < 2 ^ 31) : vp_in k m := by
  obtain ⟨j, hj, rfl⟩ := nI_of h0
  exact vp_in_nI (Nat.lt_of_le_of_lt ((nI_leI hj hn).mp h) hm) hm2
def nxB (fr tt sa tk : Nat → Int32) (x z lv b : Int32) (i : Nat) : Bool := (ofB fr tt sa tk x z 1 i && (decide (lv = -1) || ahB fr tt sa z lv.toNatClampNeg i)) && (decide (b = -1) || ahB fr tt sa z i b.toNatClampNeg)
def nxV (fr tt sa tk : Nat → Int32) (x z lv : Int32) : Nat → Int32
  | 0 => -1
  | i + 1 => if nxB fr tt sa tk x z lv (nxV fr tt sa tk x z lv i) i then nI i else nxV fr tt sa tk x z lv i
theorem nxV_in {fr tt sa tk : Nat → Int32} {x z lv : Int32} : ∀ i : Nat, nxV fr tt sa tk x z lv i = -1 ∨ ∃ j : Nat, j < i ∧ nxV fr tt sa tk x z lv i = nI j := by
  intro i
  induction i with
  | zero => exact Or.inl rfl
  | succ i ih =>
    simp only [nxV]
    split
    · exact Or.inr ⟨i, by omega, rfl⟩
    · rcases ih with h | ⟨j, h1, h2⟩
      · exact Or.inl h
      · exact Or.inr ⟨j, by omega, h2⟩
def nxG (op sl : Nat → Int32) (x : Int32) : Bool := itB op x && decide (sl x.toNatClampNeg = 0)
def nxA (c : Nat) (fr tt sa tk nd oi il : Nat → Int32) (x : Int32) : Int32 := nxV fr tt sa tk (nd x.toNatClampNeg) (oi x.toNatClampNeg) (il x.toNatClampNeg) c
def nxR (c : Nat) (fr tt sa tk op sl nd oi il : Nat → Int32) (x : Int32) : Int32 := if itB op x then (if sl x.toNatClampNeg = 0 then nxA c fr tt sa tk nd oi il x else -4) else -2
def nxF (c : Nat) (fr tt sa tk op sl nd oi il : Nat → Int32) (x : Int32) : Nat → Int32 := if nxG op sl x && !(decide (nxA c fr tt sa tk nd oi il x = -1)) then upd il x.toNatClampNeg (nxA c fr tt sa tk nd oi il x) else il
def nxT (c : Nat) (fr tt sa tk op sl nd oi il tl : Nat → Int32) (x : Int32) : Nat → Int32 := if nxG op sl x && !(decide (nxA c fr tt sa tk nd oi il x = -1)) then upd tl x.toNatClampNeg (tl x.toNatClampNeg + 1) else tl
def gwB (z k : Int32) : Bool := !(decide (k < 0)) && decide (k < (if z = 0 then 25 else 160))
def gwR (go gt : Nat → Int32) (z k : Int32) : Int32 := if gwB z k then (if z = 0 then go k.toNatClampNeg else gt k.toNatClampNeg) else -3
def gwO (go : Nat → Int32) (z k v : Int32) : Nat → Int32 := if gwB z k && decide (z = 0) then upd go k.toNatClampNeg v else go
def gwT (gt : Nat → Int32) (z k v : Int32) : Nat → Int32 := if gwB z k && !(decide (z = 0)) then upd gt k.toNatClampNeg v else gt
/-- the given offset i is as it must be -/
def jgR (N m : Nat) (go : Nat → Int32) (i : Nat) : Prop := ((i = 0 ∧ go i = 0) ∨ (¬ i = 0 ∧ go (i - 1) ≤ go i)) ∧ go i ≤ nI m ∧ (i < N ∨ go i = nI m)
def jgB (N m : Nat) (go : Nat → Int32) (i : Nat) : Bool := !(decide (((i = 0 ∧ go i = 0) ∨ (¬ i = 0 ∧ go (i - 1) ≤ go i)) ∧ go i ≤ nI m ∧ (i < N ∨ go i = nI m)))
theorem jg_y {N m : Nat} {go : Nat → Int32} {i : Nat} (h : ¬ jgR N m go i) : jgB N m go i = true := by unfold jgR at h; unfold jgB; simp only [decide_eq_false h, Bool.not_false]
theorem jg_n {N m : Nat} {go : Nat → Int32} {i : Nat} (h : jgR N m go i) : jgB N m go i = false := by unfold jgR at h; unfold jgB; simp only [decide_eq_true h, Bool.not_true]
def j1V (i : Nat) : Int32 := nI (1 + i)
def jtB (N : Nat) (gt : Nat → Int32) (i : Nat) : Bool := !(hasB N (gt i))
def j2V (i : Nat) : Int32 := nI (100 + i)
def j1A (N m : Nat) (go : Nat → Int32) : Int32 := fsv (jgB N m go) j1V (N + 1) 0
def j2A (N m : Nat) (gt : Nat → Int32) : Int32 := fsv (jtB N gt) j2V m 0
def jdR (N m : Nat) (go gt : Nat → Int32) : Int32 := if j1A N m go = -1 then (if j2A N m gt = -1 then 0 else j2A N m gt) else j1A N m go
theorem fsv_m1 {Q : Nat → Bool} {V : Nat → Int32} (hV : ∀ i, ¬ V i = -1) : ∀ (n i : Nat), fsv Q V n i = -1 → ∀ j, i ≤ j → j < i + n → Q j = false := by
  intro n
  induction n with
  | zero => intro i _ j h1 h2; omega
  | succ n ih =>
    intro i h j h1 h2
    simp only [fsv] at h
    split at h
    · exact absurd h (hV i)
    · rename_i hq
      by_cases hj : j = i
      · subst hj; simpa using hq
      · exact ih (i + 1) h j (by omega) (by omega)
def lsN (Q : Nat → Bool) : Nat → Nat → Nat
  | 0, v => v
  | f + 1, v => if Q v then v else lsN Q f (v + 1)
theorem lsN_yes {Q : Nat → Bool} {n v : Nat} (h : v < n) (hq : Q v = true) : lsN Q (n - v) v = v := by
  rw [show n - v = (n - (v + 1)) + 1 by omega]; simp [lsN, hq]
theorem lsN_no {Q : Nat → Bool} {n v : Nat} (h : v < n) (hq : Q v = false) : lsN Q (n - v) v = lsN Q (n - (v + 1)) (v + 1) := by
  rw [show n - v = (n - (v + 1)) + 1 by omega]; simp [lsN, hq]
def loQ (go : Nat → Int32) (i v : Nat) : Bool := !(decide (go (v + 1) ≤ nI i))
def loV (N : Nat) (go : Nat → Int32) (i : Nat) : Int32 := nI (lsN (loQ go i) N 0)
def loB (N : Nat) (go gt : Nat → Int32) (x : Int32) : Bool := (!(decide (x < 0)) && decide (x ≤ 160)) && decide (jdR N x.toNatClampNeg go gt = 0)
def loR (N : Nat) (go gt : Nat → Int32) (x : Int32) : Int32 := if !(decide (x < 0)) && decide (x ≤ 160) then jdR N x.toNatClampNeg go gt else -3
def loC (N c : Nat) (go gt : Nat → Int32) (x : Int32) (k : Nat) : Nat := if loB N go gt x then k else c
def loF (N : Nat) (go gt : Nat → Int32) (x : Int32) (f v : Nat → Int32) : Nat → Int32 := if loB N go gt x then pfx v f x.toNatClampNeg else f
def loS (N : Nat) (go gt : Nat → Int32) (x : Int32) (sl : Nat → Int32) : Nat → Int32 := if loB N go gt x then stl sl else sl
def opC (op : Nat → Int32) (j : Nat) : Bool := !(decide (op j = 0))
def abB (sa tk : Nat → Int32) (x : Int32) (j : Nat) : Bool := if x = 2 then decide (sa j = 1) else if x = 3 then decide (sa j = 0) else lvB sa tk j
def abR (N c : Nat) (sa tk op : Nat → Int32) (x : Int32) : Int32 := if x = 0 then nI N else if x = 1 then nI c else if x = 5 then nI (cN 8 (opC op)) else if x < 2 then -3 else if 4 < x then -3 else nI (cN c (abB sa tk x))
theorem nxB_y {fr tt sa tk : Nat → Int32} {x z lv b : Int32} {i : Nat} (h1 : ofB fr tt sa tk x z 1 i = true) (h2 : lv = -1 ∨ ahB fr tt sa z lv.toNatClampNeg i = true) (h3 : b = -1 ∨ ahB fr tt sa z i b.toNatClampNeg = true) : nxB fr tt sa tk x z lv b i = true := by
  unfold nxB; rw [h1]; simp only [Bool.true_and, Bool.and_eq_true, Bool.or_eq_true, decide_eq_true_eq]; exact ⟨h2, h3⟩
theorem nxB_n1 {fr tt sa tk : Nat → Int32} {x z lv b : Int32} {i : Nat} (h1 : ofB fr tt sa tk x z 1 i = false) : nxB fr tt sa tk x z lv b i = false := by unfold nxB; rw [h1]; rfl
theorem nxB_n2 {fr tt sa tk : Nat → Int32} {x z lv b : Int32} {i : Nat} (h1 : ¬ lv = -1) (h2 : ahB fr tt sa z lv.toNatClampNeg i = false) : nxB fr tt sa tk x z lv b i = false := by unfold nxB; rw [h2, decide_eq_false h1]; simp
theorem nxB_n3 {fr tt sa tk : Nat → Int32} {x z lv b : Int32} {i : Nat} (h1 : ¬ b = -1) (h2 : ahB fr tt sa z i b.toNatClampNeg = false) : nxB fr tt sa tk x z lv b i = false := by unfold nxB; rw [h2, decide_eq_false h1]; simp
theorem nxV_y {fr tt sa tk : Nat → Int32} {x z lv : Int32} {i : Nat} (h : nxB fr tt sa tk x z lv (nxV fr tt sa tk x z lv i) i = true) : nI i = nxV fr tt sa tk x z lv (i + 1) := by simp [nxV, h]
theorem nxV_n {fr tt sa tk : Nat → Int32} {x z lv : Int32} {i : Nat} (h : nxB fr tt sa tk x z lv (nxV fr tt sa tk x z lv i) i = false) : nxV fr tt sa tk x z lv i = nxV fr tt sa tk x z lv (i + 1) := by simp [nxV, h]
end
section
theorem fsv_or (Q : Nat → Bool) (V : Nat → Int32) : ∀ (n i : Nat), (fsv Q V n i = -1 ∧ ∀ t, i ≤ t → t < i + n → Q t = false) ∨ ∃ j, i ≤ j ∧ j < i + n ∧ Q j = true ∧ fsv Q V n i = V j ∧ ∀ t, i ≤ t → t < j → Q t = false := by
  intro n
  induction n with
  | zero => intro i; exact Or.inl ⟨rfl, fun t h1 h2 => by omega⟩
  | succ n ih =>
    intro i
    by_cases hq : Q i = true
    · exact Or.inr ⟨i, Nat.le_refl i, by omega, hq, by simp [fsv, hq], fun t h1 h2 => by omega⟩
    · have hq : Q i = false := by simpa using hq
      rcases ih (i + 1) with ⟨h1, h2⟩ | ⟨j, h1, h2, h3, h4, h5⟩
      · exact Or.inl ⟨by simp [fsv, hq, h1], fun t h3 h4 => by
          by_cases ht : t = i
          · subst ht; exact hq
          · exact h2 t (by omega) (by omega)⟩
      · exact Or.inr ⟨j, by omega, by omega, h3, by simp [fsv, hq, h4], fun t h6 h7 => by
          by_cases ht : t = i
          · subst ht; exact hq
          · exact h5 t (by omega) h7⟩
theorem jdR_0 {N m : Nat} {go gt : Nat → Int32} (hN : N ≤ 24) (hm : m ≤ 160) (h : jdR N m go gt = 0) : (∀ i, i ≤ N → jgR N m go i) ∧ ∀ k, k < m → hasB N (gt k) = true := by
  have n0 : ∀ k : Nat, 0 < k → k < 2 ^ 31 → ¬ nI k = 0 := fun k h1 h2 => nI_ne0 h1 h2
  rcases fsv_or (jgB N m go) j1V (N + 1) 0 with ⟨h1, h2⟩ | ⟨j, h1, h2, h3, h4, h5⟩
  · refine ⟨fun i hi => ?_, ?_⟩
    · have := h2 i (by omega) (by omega)
      by_cases h9 : jgR N m go i
      · exact h9
      · rw [jg_y h9] at this; cases this
    · have e1 : j1A N m go = -1 := h1
      rw [jdR, if_pos e1] at h
      rcases fsv_or (jtB N gt) j2V m 0 with ⟨g1, g2⟩ | ⟨j, g1, g2, g3, g4, g5⟩
      · intro k hk
        have := g2 k (by omega) (by omega)
        simpa [jtB] using this
      · have e2 : j2A N m gt = nI (100 + j) := g4
        rw [e2, if_neg (nI_ne_m1 (by omega))] at h
        exact absurd h (n0 _ (by omega) (by omega))
  · have e1 : j1A N m go = nI (1 + j) := h4
    rw [jdR, e1, if_neg (nI_ne_m1 (by omega))] at h
    exact absurd h (n0 _ (by omega) (by omega))
theorem jgR_N {N m : Nat} {go : Nat → Int32} (h : jgR N m go N) : go N = nI m := by
  rcases h.2.2 with h | h
  · omega
  · exact h
end
section
theorem apC_y {P : Nat → Bool} {i : Nat} (h : P i = true) (hc : cN i P < 160) : apC (cN i P) = cN (i + 1) P := by simp [apC, hc, cN, h]
theorem apF_y {P : Nat → Bool} {v f : Nat → Int32} {i : Nat} {x : Int32} (h : P i = true) (hc : cN i P < 160) (hx : x = v i) : apF (cN i P) (pkG P v f i) x = pkG P v f (i + 1) := by simp [apF, hc, pkG, h, hx]
theorem apC_t {t : Nat} (h : t < 160) : apC t = t + 1 := by simp [apC, h]
theorem apF_t {v f : Nat → Int32} {t : Nat} {x : Int32} (h : t < 160) (hx : x = v t) : apF t (pfx v f t) x = pfx v f (t + 1) := by rw [apF, if_pos h]; exact pfx_w hx
theorem z_eq {x : Int32} (h1 : ¬ x < 0) (h2 : ¬ 0 < x) : x = 0 := by
  have a := k2_le h1; have b := k2_le h2
  rw [Int32.le_iff_toInt_le] at a b
  exact Int32.toInt_inj.mp (Int.le_antisymm b a)
def jrB (N m : Nat) (go : Nat → Int32) (i : Nat) : Bool := !(jgB N m go i)
theorem jr_t {N m : Nat} {go : Nat → Int32} {i : Nat} (h : jgR N m go i) : jrB N m go i = true := by rw [jrB, jg_n h]; rfl
theorem jr_f {N m : Nat} {go : Nat → Int32} {i : Nat} (h : ¬ jgR N m go i) : jrB N m go i = false := by rw [jrB, jg_y h]; rfl
theorem lsN_at {Q : Nat → Bool} {n v : Nat} : ∀ {k i : Nat}, i + k = n → i ≤ v → v < n → Q v = true → (∀ t, i ≤ t → t < v → Q t = false) → lsN Q k i = v := by
  intro k
  induction k with
  | zero => intro i h1 h2 h3 _ _; omega
  | succ k ih =>
    intro i h1 h2 h3 h4 h5
    by_cases h : i = v
    · subst h; simp [lsN, h4]
    · simp only [lsN, h5 i (Nat.le_refl i) (by omega)]
      exact ih (by omega) (by omega) h3 h4 (fun t h6 h7 => h5 t (by omega) h7)
theorem loV_at {N m : Nat} {go : Nat → Int32} {gN : Nat → Nat} (hN : N ≤ 24) (hm : m ≤ 160) (hg : ∀ i, i ≤ N → go i = nI (gN i) ∧ gN i ≤ m) (hmo : ∀ i, i < N → gN i ≤ gN (i + 1)) {v t : Nat} (hv : v < N) (h1 : gN v ≤ t) (h2 : t < gN (v + 1)) : nI v = loV N go t := by
  have mono : ∀ j i, i ≤ j → j ≤ N → gN i ≤ gN j := by
    intro j
    induction j with
    | zero => intro i h _; rw [show i = 0 by omega]; exact Nat.le_refl _
    | succ j ih =>
      intro i h hj
      by_cases h3 : i = j + 1
      · subst h3; exact Nat.le_refl _
      · exact Nat.le_trans (ih i (by omega) (by omega)) (hmo j (by omega))
  have hb : gN (v + 1) ≤ m := (hg (v + 1) (by omega)).2
  have q : ∀ u, u < N → loQ go t u = !(decide (gN (u + 1) ≤ t)) := by
    intro u hu
    have h3 := hg (u + 1) (by omega)
    unfold loQ
    rw [h3.1]
    congr 1
    exact decide_eq_decide.mpr (nI_leI (by omega) (by omega))
  rw [loV, lsN_at (n := N) (v := v) (by omega) (by omega) hv (by rw [q v hv]; simp; omega) (fun u _ hu => by
    rw [q u (by omega)]
    have := mono v (u + 1) (by omega) (by omega)
    simp; omega)]
theorem vpc_eq {cA : ClassId} {n : Nat} {f g : Nat → Int32} (hf : ∀ k, k < n → f k = g k) : vp_cell cA (n, .inl f) = vp_cell cA (n, .inl g) := by
  show arrV cA n (fun j => .int (f j)) = arrV cA n (fun j => .int (g j))
  unfold arrV
  have e : (fun j : Fin n => Value.int (f j.val)) = fun j : Fin n => Value.int (g j.val) := funext fun j => by rw [hf j.val j.isLt]
  rw [e]
theorem x_ext {D : va_G} {Fs Fs' : List va_W} {F F' : va_W} {H : Heap} {a : Nat} {cA : ClassId} {n : Nat} {f g : Nat → Int32} (hP : va_P D vwCl Fs.flatten H) (j q0 : Nat) (hj : Fs[j]? = some F) (ha : F[q0]? = some (a, .inl (cA, n, .inl f))) (hf : ∀ k, k < n → f k = g k) (hset : F.set q0 (a, .inl (cA, n, .inl g)) = F') (hF : Fs.set j F' = Fs') : va_P D vwCl Fs'.flatten H := by
  subst hset; subst hF
  rw [← fSet Fs j F q0 _ hj (fLt ha)]
  intro k q hk
  by_cases hkk : fOff Fs j + q0 = k
  · subst hkk
    have h1 := fGet Fs j F q0 _ hj ha
    have h2 := hP _ _ h1
    rw [List.getElem?_set_self', h1] at hk
    have hk : (a, Sum.inl (cA, n, Sum.inl g)) = q := by simpa using hk
    subst hk
    have h3 : H[a]? = some (vp_cell cA (n, .inl f)) := h2
    show H[a]? = some (vp_cell cA (n, .inl g))
    rw [h3, vpc_eq hf]
  · rw [List.getElem?_set_ne hkk] at hk
    exact hP k q hk
theorem d_ext {A : Nat → Prop} {Fs Fs' : List va_W} {F F' : va_W} {a : Nat} {e e' : va_E} (hD : va_D A Fs.flatten) (j q0 : Nat) (hj : Fs[j]? = some F) (ha : F[q0]? = some (a, e)) (hset : F.set q0 (a, e') = F') (hF : Fs.set j F' = Fs') : va_D A Fs'.flatten := by
  subst hset; subst hF
  rw [← fSet Fs j F q0 _ hj (fLt ha)]
  exact hD.set (fGet Fs j F q0 _ hj ha)
end
section
/-! ===== a node's places; rows built by counting ===== -/
def nF (oo : Nat → Nat) : Nat → Int32 := fun j => nI (oo j)
def atV (c : Nat) (sa ow rw : Nat → Int32) (oo : Nat → Nat) (v p : Nat) : Int32 := if p < oo (v + 1) - oo v then rw (oo v + p) else if isWt c sa (nI (p - (oo (v + 1) - oo v))) && decide (ow (p - (oo (v + 1) - oo v)) = nI v) then nI (p - (oo (v + 1) - oo v)) else -1
def atL (c : Nat) (sa tk ow rw : Nat → Int32) (oo : Nat → Nat) (v p : Nat) : Bool := isLv c sa tk (atV c sa ow rw oo v p)
def plN (c : Nat) (oo : Nat → Nat) (v : Nat) : Nat := oo (v + 1) - oo v + c
def lpR (c : Nat) (sa tk ow rw : Nat → Int32) (oo : Nat → Nat) (v q : Nat) : Int32 := fsv (atL c sa tk ow rw oo v) nI (plN c oo v - q) q
def laB (c : Nat) (sa tk ow rw : Nat → Int32) (oo : Nat → Nat) (v k p : Nat) : Bool := atL c sa tk ow rw oo v p && decide (cN p (atL c sa tk ow rw oo v) = k)
def laR (c : Nat) (sa tk ow rw : Nat → Int32) (oo : Nat → Nat) (v k : Nat) : Int32 := fsv (laB c sa tk ow rw oo v k) (atV c sa ow rw oo v) (plN c oo v) 0
theorem isWt_lt {c j : Nat} {sa : Nat → Int32} (h : isWt c sa (nI j) = true) (hc : c < 2 ^ 31) (hj : j < 2 ^ 31) : j < c := by
  simp only [isWt, Bool.and_eq_true] at h
  have := h.1
  rw [hasB_nI hc hj] at this
  simpa using this
def eqB (kk : Nat → Nat) (x t : Nat) : Bool := decide (kk t + 1 = x)
def ltB (kk : Nat → Nat) (x t : Nat) : Bool := decide (kk t < x)
def eq0 (kk : Nat → Nat) (x t : Nat) : Bool := decide (kk t = x)
def o1F (kk : Nat → Nat) (i x : Nat) : Nat := cN i (eqB kk x)
def o2F (n : Nat) (kk : Nat → Nat) (w x : Nat) : Nat := if x < w then cN n (ltB kk x) else cN n (eqB kk x)
def psN (n : Nat) (kk : Nat → Nat) (x : Nat) : Nat := cN n (ltB kk x)
def f3F (n : Nat) (kk : Nat → Nat) (i x : Nat) : Nat := cN n (ltB kk x) + cN i (eq0 kk x)
def rkN (n : Nat) (kk : Nat → Nat) (i : Nat) : Nat := f3F n kk i (kk i)
def srF (R sn : Nat → Nat) (f : Nat → Int32) : Nat → Nat → Int32
  | 0 => f
  | i + 1 => upd (srF R sn f i) (R i) (nI (sn i))
theorem cN_add {P Q R : Nat → Bool} (n : Nat) (h : ∀ t, t < n → (if P t then 1 else 0) + (if Q t then 1 else 0) = (if R t then 1 else 0 : Nat)) : cN n P + cN n Q = cN n R := by
  induction n with
  | zero => rfl
  | succ n ih =>
    have h1 := ih (fun t ht => h t (by omega))
    have h2 := h n (by omega)
    simp only [cN]; omega
theorem cN_congr {P Q : Nat → Bool} {n : Nat} (h : ∀ t, t < n → P t = Q t) : cN n P = cN n Q := by
  induction n with
  | zero => rfl
  | succ n ih => simp only [cN]; rw [ih (fun t ht => h t (by omega)), h n (by omega)]
theorem o1_w {kk : Nat → Nat} {i : Nat} : upd (nF (o1F kk i)) (kk i + 1) (nI (o1F kk i (kk i + 1) + 1)) = nF (o1F kk (i + 1)) := by
  funext x
  simp only [upd, nF, o1F, cN]
  by_cases h : x = kk i + 1
  · subst h; simp [eqB]
  · rw [if_neg h]; simp [eqB, show ¬ kk i + 1 = x by omega]
theorem o2_s {n w : Nat} {kk : Nat → Nat} (hw : 1 ≤ w) : cN n (eqB kk w) + cN n (ltB kk (w - 1)) = cN n (ltB kk w) := by
  refine cN_add n (fun t _ => ?_)
  simp only [eqB, ltB, decide_eq_true_eq]
  by_cases h1 : kk t + 1 = w
  · simp [h1, show ¬ kk t < w - 1 by omega, show kk t < w by omega]
  · by_cases h2 : kk t < w - 1
    · simp [h1, h2, show kk t < w by omega]
    · simp [h1, h2, show ¬ kk t < w by omega]
theorem o2_w {n w : Nat} {kk : Nat → Nat} (hw : 1 ≤ w) : upd (nF (o2F n kk w)) w (nI (cN n (eqB kk w) + cN n (ltB kk (w - 1)))) = nF (o2F n kk (w + 1)) := by
  funext x
  simp only [upd, nF, o2F]
  by_cases h : x = w
  · subst h; rw [if_pos rfl, o2_s hw, if_pos (by omega)]
  · rw [if_neg h]
    by_cases h2 : x < w
    · rw [if_pos h2, if_pos (by omega)]
    · rw [if_neg h2, if_neg (by omega)]
theorem o2_1 {n : Nat} {kk : Nat → Nat} : nF (o1F kk n) = nF (o2F n kk 1) := by
  funext x
  simp only [nF, o1F, o2F]
  by_cases h : x < 1
  · rw [if_pos h]
    congr 1
    exact cN_congr (fun t _ => by simp only [eqB, ltB]; rw [show x = 0 by omega]; simp)
  · rw [if_neg h]
theorem f3_w {n i : Nat} {kk : Nat → Nat} : upd (nF (f3F n kk i)) (kk i) (nI (f3F n kk i (kk i) + 1)) = nF (f3F n kk (i + 1)) := by
  funext x
  simp only [upd, nF, f3F, cN]
  by_cases h : x = kk i
  · subst h; simp [eq0, Nat.add_assoc]
  · rw [if_neg h]; simp [eq0, show ¬ kk i = x by omega]
theorem cN_mono {P : Nat → Bool} {n m : Nat} (h : n ≤ m) : cN n P ≤ cN m P := by
  induction m with
  | zero => rw [show n = 0 by omega]; exact Nat.le_refl _
  | succ m ih =>
    by_cases h1 : n = m + 1
    · subst h1; exact Nat.le_refl _
    · have := ih (by omega); simp only [cN]; omega
theorem cN_imp {P Q : Nat → Bool} {n : Nat} (h : ∀ t, t < n → P t = true → Q t = true) : cN n P ≤ cN n Q := by
  induction n with
  | zero => exact Nat.le_refl _
  | succ n ih =>
    have h1 := ih (fun t ht => h t (by omega))
    simp only [cN]
    cases hp : P n
    · simp; omega
    · rw [h n (by omega) hp]; simp; omega
theorem rk_lt {n i : Nat} {kk : Nat → Nat} (h : i < n) : rkN n kk i < n := by
  have h1 : cN i (eq0 kk (kk i)) + 1 ≤ cN n (eq0 kk (kk i)) := by
    have : cN (i + 1) (eq0 kk (kk i)) ≤ cN n (eq0 kk (kk i)) := cN_mono (by omega)
    simp only [cN, eq0] at this ⊢
    simpa using this
  have h2 : cN n (ltB kk (kk i)) + cN n (eq0 kk (kk i)) = cN n (ltB kk (kk i + 1)) := by
    refine cN_add n (fun t _ => ?_)
    simp only [ltB, eq0, decide_eq_true_eq]
    by_cases g1 : kk t < kk i
    · simp [g1, show ¬ kk t = kk i by omega, show kk t < kk i + 1 by omega]
    · by_cases g2 : kk t = kk i
      · simp [g2]
      · simp [g1, g2, show ¬ kk t < kk i + 1 by omega]
  have h3 := cN_le n (ltB kk (kk i + 1))
  unfold rkN f3F
  omega
section QC
variable {p : Program} {l : Launch} {e : Env} {R : Room} {s : State} {m : MethodId} {args : Array Value} {below : List Frame} {meth : Method} {c : Code} {H : Heap} {locs : List Loc} {cells slots : Nat} {Q : State → Prop}
variable {pc : Nat} {ls : Array Slot} {rest : List Value} {D : va_G} {A : Nat → Prop} {a : Nat} {tys : List (ClassId × FieldType)} {Fs Fs' : List va_W} {F F' G : va_W} {H0 : Heap}
theorem q_copyi {cc : ByteArray} (hexec : p.tables.exec = Jvm.exec) (hb : c.code = cc) (hml : c.maxLocals = ls.size) {own : String} {index : Nat} (hown : s.vm.findClass own = some m.cls) (hlink : (Cond.methodLink own index arraycopyName).before args s = true) (hnat : (Cond.native arraycopyName).before args s = true) (hstat : (Cond.static arraycopyName).before args s = true) (hini : (Cond.initialized "java/lang/System").before args s = true)
    (hK : va_K D vwCl tys s) (hP : va_P D vwCl Fs.flatten H) (hD : va_D A Fs.flatten) (hS : va_S A H0 H locs) (j0 p0 j1 p1 t0 : Nat) (hj0 : Fs[j0]? = some G) (hj1 : Fs[j1]? = some F) {a0 : Nat} {c0 : ClassId} {n0 n1 : Nat} {f g : Nat → Int32} (ha0 : G[p0]? = some (a0, .inl (c0, n0, .inl f))) (ha1 : F[p1]? = some (a, .inl (c0, n1, .inl g))) (ht0 : tys[t0]? = some (c0, .int))
    {n : Int32} {k : Nat} (hk : n.toNatClampNeg = k) (h3 : ¬ n < 0) (h4 : k ≤ n0) (h5 : k ≤ n1)
    (hframes : 1 ≤ R.frames) (hlocals : (rest.map fun v => v.category).sum + (nativeFrameWords "java/lang/System" "arraycopy" 5 + 11) ≤ R.locals) (hdg : decode cc pc = .ok (.invokestatic index, 3))
    (hset : F.set p1 (a, .inl (c0, n1, .inl (va_cpy f g 0 0 k))) = F') (hF : Fs.set j1 F' = Fs') (kk : ∀ (H1 : Heap) (locs1 : List Loc), va_P D vwCl Fs'.flatten H1 → va_D A Fs'.flatten → va_S A H0 H1 locs1 → W p l e R s m args below meth c H1 locs1 cells slots Q (F0 m (pc + 3) ls rest)) : W p l e R s m args below meth c H locs cells slots Q (F0 m pc ls (.int n :: .int 0 :: .ref a :: .int 0 :: .ref a0 :: rest)) := by
  subst hk; subst hset; subst hF
  have kk9 := kk
  rw [← fSet Fs j1 F p1 _ hj1 (fLt ha1)] at kk9
  exact va_copyi hexec hb hml hown hlink hnat hstat hini hK hP hD hS (fOff Fs j0 + p0) (fOff Fs j1 + p1) t0 t0 (fGet Fs j0 G p0 _ hj0 ha0) (fGet Fs j1 F p1 _ hj1 ha1) ht0 ht0 rfl (by decide) (by decide) h3 (by simpa using h4) (by simpa using h5) (fun i _ => rfl) hframes hlocals hdg kk9
theorem q_copyl {cc : ByteArray} (hexec : p.tables.exec = Jvm.exec) (hb : c.code = cc) (hml : c.maxLocals = ls.size) {own : String} {index : Nat} (hown : s.vm.findClass own = some m.cls) (hlink : (Cond.methodLink own index arraycopyName).before args s = true) (hnat : (Cond.native arraycopyName).before args s = true) (hstat : (Cond.static arraycopyName).before args s = true) (hini : (Cond.initialized "java/lang/System").before args s = true)
    (hK : va_K D vwCl tys s) (hP : va_P D vwCl Fs.flatten H) (hD : va_D A Fs.flatten) (hS : va_S A H0 H locs) (j0 p0 j1 p1 t0 : Nat) (hj0 : Fs[j0]? = some G) (hj1 : Fs[j1]? = some F) {a0 : Nat} {c0 : ClassId} {n0 n1 : Nat} {f g : Nat → Int64} (ha0 : G[p0]? = some (a0, .inl (c0, n0, .inr (.inl f)))) (ha1 : F[p1]? = some (a, .inl (c0, n1, .inr (.inl g)))) (ht0 : tys[t0]? = some (c0, .long))
    {n : Int32} {k : Nat} (hk : n.toNatClampNeg = k) (h3 : ¬ n < 0) (h4 : k ≤ n0) (h5 : k ≤ n1)
    (hframes : 1 ≤ R.frames) (hlocals : (rest.map fun v => v.category).sum + (nativeFrameWords "java/lang/System" "arraycopy" 5 + 11) ≤ R.locals) (hdg : decode cc pc = .ok (.invokestatic index, 3))
    (hset : F.set p1 (a, .inl (c0, n1, .inr (.inl (va_cpy f g 0 0 k)))) = F') (hF : Fs.set j1 F' = Fs') (kk : ∀ (H1 : Heap) (locs1 : List Loc), va_P D vwCl Fs'.flatten H1 → va_D A Fs'.flatten → va_S A H0 H1 locs1 → W p l e R s m args below meth c H1 locs1 cells slots Q (F0 m (pc + 3) ls rest)) : W p l e R s m args below meth c H locs cells slots Q (F0 m pc ls (.int n :: .int 0 :: .ref a :: .int 0 :: .ref a0 :: rest)) := by
  subst hk; subst hset; subst hF
  have kk9 := kk
  rw [← fSet Fs j1 F p1 _ hj1 (fLt ha1)] at kk9
  exact va_copyl hexec hb hml hown hlink hnat hstat hini hK hP hD hS (fOff Fs j0 + p0) (fOff Fs j1 + p1) t0 t0 (fGet Fs j0 G p0 _ hj0 ha0) (fGet Fs j1 F p1 _ hj1 ha1) ht0 ht0 rfl (by decide) (by decide) h3 (by simpa using h4) (by simpa using h5) (fun i _ => rfl) hframes hlocals hdg kk9
end QC
end
section
/-! ===== counting: injections, selections, ranks ===== -/
theorem cN_rm {F : Nat → Bool} {x : Nat} : ∀ {m : Nat}, x < m → F x = true → cN m F = cN m (fun p => F p && !(decide (p = x))) + 1 := by
  intro m
  induction m with
  | zero => intro h; omega
  | succ m ih =>
    intro h hF
    by_cases hx : x = m
    · subst hx
      have e : cN x (fun p => F p && !(decide (p = x))) = cN x F := cN_congr (fun t ht => by simp [show ¬ t = x by omega])
      simp only [cN]; rw [e]; simp [hF]
    · simp only [cN]
      rw [ih (by omega) hF]
      simp only [show ¬ m = x by omega, decide_false, Bool.not_false, Bool.and_true]; omega
theorem cN_inj {R : Nat → Nat} : ∀ (n m : Nat) (Q F : Nat → Bool), (∀ i, i < n → Q i = true → R i < m ∧ F (R i) = true) → (∀ i j, i < n → j < n → Q i = true → Q j = true → R i = R j → i = j) → cN n Q ≤ cN m F := by
  intro n
  induction n with
  | zero => intro m Q F _ _; simp [cN]
  | succ n ih =>
    intro m Q F h1 h2
    simp only [cN]
    cases hq : Q n
    · have := ih m Q F (fun i hi hQ => h1 i (by omega) hQ) (fun i j hi hj => h2 i j (by omega) (by omega))
      simpa using this
    · obtain ⟨g1, g2⟩ := h1 n (by omega) hq
      rw [cN_rm g1 g2]
      have := ih m Q (fun p => F p && !(decide (p = R n))) (fun i hi hQ => by
        obtain ⟨k1, k2⟩ := h1 i (by omega) hQ
        refine ⟨k1, ?_⟩
        have hne : ¬ R i = R n := fun he => by
          have := h2 i n (by omega) (by omega) hQ hq he
          omega
        simp [k2, hne]) (fun i j hi hj => h2 i j (by omega) (by omega))
      simp; omega
theorem cN_not (n : Nat) (F : Nat → Bool) : cN n F + cN n (fun t => !(F t)) = n := by
  induction n with
  | zero => rfl
  | succ n ih => simp only [cN]; by_cases h : F n = true <;> simp [h] <;> omega
/-- a domain D that an injection R carries onto [0, m): counts over [0, m) are counts over D -/
theorem cN_dom {R : Nat → Nat} {n m : Nat} {D F : Nat → Bool} (h1 : ∀ i, i < n → D i = true → R i < m) (h2 : ∀ i j, i < n → j < n → D i = true → D j = true → R i = R j → i = j) (hm : cN n D = m) : cN m F = cN n (fun i => D i && F (R i)) := by
  have a := cN_inj (R := R) n m (fun i => D i && F (R i)) F (fun i hi h => by simp only [Bool.and_eq_true] at h; exact ⟨h1 i hi h.1, h.2⟩) (fun i j hi hj hQ hQ' => by simp only [Bool.and_eq_true] at hQ hQ'; exact h2 i j hi hj hQ.1 hQ'.1)
  have b := cN_inj (R := R) n m (fun i => D i && !(F (R i))) (fun p => !(F p)) (fun i hi h => by simp only [Bool.and_eq_true] at h; exact ⟨h1 i hi h.1, h.2⟩) (fun i j hi hj hQ hQ' => by simp only [Bool.and_eq_true] at hQ hQ'; exact h2 i j hi hj hQ.1 hQ'.1)
  have c1 := cN_not m F
  have c2 : cN n (fun i => D i && F (R i)) + cN n (fun i => D i && !(F (R i))) = cN n D := cN_add n (fun t _ => by cases D t <;> cases F (R t) <;> simp)
  omega
theorem cN_true (n : Nat) : cN n (fun _ => true) = n := by
  induction n with
  | zero => rfl
  | succ n ih => simp only [cN]; simp [ih]
theorem cN_perm {R : Nat → Nat} {n : Nat} {F : Nat → Bool} (h1 : ∀ i, i < n → R i < n) (h2 : ∀ i j, i < n → j < n → R i = R j → i = j) : cN n F = cN n (fun i => F (R i)) := by
  have := cN_dom (R := R) (n := n) (m := n) (D := fun _ => true) (F := F) (fun i hi _ => h1 i hi) (fun i j hi hj _ _ => h2 i j hi hj) (cN_true n)
  simpa using this
theorem cN_pos {n : Nat} {F : Nat → Bool} (h : 0 < cN n F) : ∃ i, i < n ∧ F i = true := by
  induction n with
  | zero => simp [cN] at h
  | succ n ih =>
    cases hf : F n
    · simp only [cN, hf] at h
      obtain ⟨i, h1, h2⟩ := ih (by simpa using h)
      exact ⟨i, by omega, h2⟩
    · exact ⟨n, by omega, hf⟩
theorem cN_one {n x : Nat} (h : x < n) : cN n (fun p => decide (p = x)) = 1 := by
  rw [cN_rm h (by simp)]
  have : cN n (fun p => decide (p = x) && !(decide (p = x))) = 0 := by
    have e : cN n (fun p => decide (p = x) && !(decide (p = x))) = cN n (fun _ => false) := cN_congr (fun t _ => by cases decide (t = x) <;> rfl)
    rw [e]
    clear e h
    induction n with
    | zero => rfl
    | succ n ih => simp only [cN, ih]; simp
  omega
theorem perm_onto {R : Nat → Nat} {n : Nat} (h1 : ∀ i, i < n → R i < n) (h2 : ∀ i j, i < n → j < n → R i = R j → i = j) {p : Nat} (hp : p < n) : ∃ i, i < n ∧ R i = p := by
  have := cN_perm (F := fun q => decide (q = p)) h1 h2
  rw [cN_one hp] at this
  obtain ⟨i, a, b⟩ := cN_pos (n := n) (F := fun i => decide (R i = p)) (by omega)
  exact ⟨i, a, by simpa using b⟩
def selN (P : Nat → Bool) : Nat → Nat → Nat
  | 0, _ => 0
  | i + 1, k => if P i && decide (cN i P = k) then i else selN P i k
theorem sel_spec {P : Nat → Bool} : ∀ {i k : Nat}, k < cN i P → selN P i k < i ∧ P (selN P i k) = true ∧ cN (selN P i k) P = k := by
  intro i
  induction i with
  | zero => intro k h; simp [cN] at h
  | succ i ih =>
    intro k h
    simp only [selN]
    by_cases hq : (P i && decide (cN i P = k)) = true
    · rw [if_pos hq]
      simp only [Bool.and_eq_true, decide_eq_true_eq] at hq
      exact ⟨by omega, hq.1, hq.2⟩
    · rw [if_neg hq]
      simp only [Bool.and_eq_true, decide_eq_true_eq, not_and] at hq
      have hk : k < cN i P := by
        simp only [cN] at h
        cases hp : P i
        · rw [hp] at h; simpa using h
        · have := hq hp; rw [hp] at h; simp at h; omega
      obtain ⟨a, b, c⟩ := ih hk
      exact ⟨by omega, b, c⟩
theorem cN_strict {P : Nat → Bool} {i j : Nat} (h : i < j) (hp : P i = true) : cN i P < cN j P := by
  have : cN (i + 1) P ≤ cN j P := cN_mono (by omega)
  simp only [cN, hp] at this
  simp at this; omega
theorem sel_inv {P : Nat → Bool} {n j : Nat} (hj : j < n) (hp : P j = true) : selN P n (cN j P) = j := by
  obtain ⟨a, b, c⟩ := sel_spec (P := P) (i := n) (k := cN j P) (cN_strict hj hp)
  rcases Nat.lt_trichotomy (selN P n (cN j P)) j with h | h | h
  · have := cN_strict h b; omega
  · exact h
  · have := cN_strict h hp; omega
theorem pkG_sel {P : Nat → Bool} {f : Nat → Int32} : ∀ {i k : Nat}, k < cN i P → pkG P nI f i k = nI (selN P i k) := by
  intro i
  induction i with
  | zero => intro k h; simp [cN] at h
  | succ i ih =>
    intro k h
    simp only [pkG, selN]
    cases hp : P i
    · simp only [cN, hp] at h
      simpa [hp] using ih (by simpa using h)
    · simp only [cN, hp] at h
      by_cases hk : cN i P = k
      · simp [hk, upd]
      · simp only [if_true, upd, Bool.true_and, decide_eq_true_eq, if_neg hk]
        rw [if_neg (by omega)]
        exact ih (by simp at h; omega)
theorem cN_sel {P Q : Nat → Bool} {n : Nat} : cN (cN n P) (fun k => Q (selN P n k)) = cN n (fun j => P j && Q j) := by
  refine (cN_dom (R := fun j => cN j P) (n := n) (m := cN n P) (D := P) (fun i hi hp => cN_strict hi hp) (fun i j hi hj hp hp' h => ?_) rfl).trans ?_
  · rcases Nat.lt_trichotomy i j with h1 | h1 | h1
    · have := cN_strict h1 hp; omega
    · exact h1
    · have := cN_strict h1 hp'; omega
  · exact cN_congr (fun t ht => by
      cases hp : P t
      · rfl
      · simp only [Bool.true_and]; rw [sel_inv ht hp])
theorem cN_split (a b : Nat) (P : Nat → Bool) : cN (a + b) P = cN a P + cN b (fun t => P (a + t)) := by
  induction b with
  | zero => simp [cN]
  | succ b ih => rw [← Nat.add_assoc]; simp only [cN]; rw [ih]; omega
theorem cN_below {p n : Nat} {Q : Nat → Bool} (h : p ≤ n) : cN p Q = cN n (fun t => decide (t < p) && Q t) := by
  obtain ⟨b, rfl⟩ : ∃ b, n = p + b := ⟨n - p, by omega⟩
  rw [cN_split]
  have e1 : cN p (fun t => decide (t < p) && Q t) = cN p Q := cN_congr (fun t ht => by simp [ht])
  have e2 : cN b (fun t => decide (p + t < p) && Q (p + t)) = 0 := by
    have : cN b (fun t => decide (p + t < p) && Q (p + t)) = cN b (fun _ => false) := by
      refine cN_congr (fun t _ => ?_)
      have h9 : ¬ p + t < p := by omega
      simp [h9]
    rw [this]
    clear this h
    induction b with
    | zero => rfl
    | succ b ih => simp only [cN, ih]; simp
  omega
/-! ranks of a stable counting pass -/
theorem rk_lex {n : Nat} {kk : Nat → Nat} {i j : Nat} (hi : i < n) (h : kk i < kk j ∨ (kk i = kk j ∧ i < j)) : rkN n kk i < rkN n kk j := by
  unfold rkN f3F
  rcases h with h | ⟨h1, h2⟩
  · have a1 : cN i (eq0 kk (kk i)) < cN n (eq0 kk (kk i)) := cN_strict hi (by simp [eq0])
    have a2 : cN n (ltB kk (kk i)) + cN n (eq0 kk (kk i)) = cN n (ltB kk (kk i + 1)) := by
      refine cN_add n (fun t _ => ?_)
      simp only [ltB, eq0, decide_eq_true_eq]
      by_cases g1 : kk t < kk i
      · simp [g1, show ¬ kk t = kk i by omega, show kk t < kk i + 1 by omega]
      · by_cases g2 : kk t = kk i
        · simp [g2]
        · simp [g1, g2, show ¬ kk t < kk i + 1 by omega]
    have a3 : cN n (ltB kk (kk i + 1)) ≤ cN n (ltB kk (kk j)) := cN_imp (fun t _ ht => by simp only [ltB, decide_eq_true_eq] at ht ⊢; omega)
    omega
  · rw [h1]
    have : cN i (eq0 kk (kk j)) < cN j (eq0 kk (kk j)) := cN_strict h2 (by simp [eq0, h1])
    omega
theorem rk_iff {n : Nat} {kk : Nat → Nat} {i j : Nat} (hi : i < n) (hj : j < n) : rkN n kk i < rkN n kk j ↔ (kk i < kk j ∨ (kk i = kk j ∧ i < j)) := by
  constructor
  · intro h
    by_cases h1 : kk i < kk j ∨ (kk i = kk j ∧ i < j)
    · exact h1
    · by_cases h2 : kk j < kk i ∨ (kk j = kk i ∧ j < i)
      · have := rk_lex hj h2; omega
      · have : i = j := by omega
        subst this; omega
  · exact rk_lex hi
theorem rk_inj {n : Nat} {kk : Nat → Nat} {i j : Nat} (hi : i < n) (hj : j < n) (h : rkN n kk i = rkN n kk j) : i = j := by
  by_cases h1 : kk i < kk j ∨ (kk i = kk j ∧ i < j)
  · have := rk_lex hi h1; omega
  · by_cases h2 : kk j < kk i ∨ (kk j = kk i ∧ j < i)
    · have := rk_lex hj h2; omega
    · omega
theorem srF_get {R sn : Nat → Nat} {f : Nat → Int32} {n : Nat} (inj : ∀ i j, i < n → j < n → R i = R j → i = j) : ∀ {m i : Nat}, m ≤ n → i < m → srF R sn f m (R i) = nI (sn i) := by
  intro m
  induction m with
  | zero => intro i _ h; omega
  | succ m ih =>
    intro i hm hi
    simp only [srF, upd]
    by_cases h : R i = R m
    · rw [if_pos h, inj i m (by omega) (by omega) h]
    · rw [if_neg h]
      have : i ≠ m := fun e => h (by rw [e])
      exact ih (by omega) (by omega)
/-! the rows -/
def nC (f : Nat → Int32) (j : Nat) : Nat := (f j).toNatClampNeg
def boB (sa ow : Nat → Int32) (x j : Nat) : Bool := stB sa 1 j && decide (nC ow j < x)
def lxB (ow fa : Nat → Int32) (j b : Nat) : Bool := decide (nC ow b < nC ow j ∨ (nC ow b = nC ow j ∧ (nC fa b < nC fa j ∨ (nC fa b = nC fa j ∧ b < j))))
def rnk (c : Nat) (sa ow fa : Nat → Int32) (j : Nat) : Nat := cN c (fun b => stB sa 1 b && lxB ow fa j b)
def rowsOK (c : Nat) (sa ow fa : Nat → Int32) (oo : Nat → Nat) (rw : Nat → Int32) : Prop := (∀ x, oo x = cN c (boB sa ow x)) ∧ ∀ j, j < c → stB sa 1 j = true → rw (rnk c sa ow fa j) = nI j
def sn1 (c : Nat) (sa : Nat → Int32) : Nat → Nat := selN (stB sa 1) c
def kk1 (c : Nat) (sa fa : Nat → Int32) (k : Nat) : Nat := nC fa (sn1 c sa k)
def nB (c : Nat) (sa : Nat → Int32) : Nat := cN c (stB sa 1)
def iv1 (c : Nat) (sa fa : Nat → Int32) (p : Nat) : Nat := selN (fun i => decide (rkN (nB c sa) (kk1 c sa fa) i = p)) (nB c sa) 0
def sn2 (c : Nat) (sa fa : Nat → Int32) (p : Nat) : Nat := sn1 c sa (iv1 c sa fa p)
def kk2 (c : Nat) (sa ow fa : Nat → Int32) (p : Nat) : Nat := nC ow (sn2 c sa fa p)
theorem sn1_ok {c : Nat} {sa : Nat → Int32} {k : Nat} (h : k < nB c sa) : sn1 c sa k < c ∧ stB sa 1 (sn1 c sa k) = true ∧ cN (sn1 c sa k) (stB sa 1) = k := sel_spec h
theorem rk1_lt {c : Nat} {sa fa : Nat → Int32} {i : Nat} (h : i < nB c sa) : rkN (nB c sa) (kk1 c sa fa) i < nB c sa := rk_lt h
theorem iv1_ok {c : Nat} {sa fa : Nat → Int32} {p : Nat} (h : p < nB c sa) : iv1 c sa fa p < nB c sa ∧ rkN (nB c sa) (kk1 c sa fa) (iv1 c sa fa p) = p := by
  obtain ⟨i, h1, h2⟩ := perm_onto (R := rkN (nB c sa) (kk1 c sa fa)) (fun i hi => rk_lt hi) (fun i j hi hj => rk_inj hi hj) h
  have hpos : 0 < cN (nB c sa) (fun i => decide (rkN (nB c sa) (kk1 c sa fa) i = p)) := by
    have := cN_strict (P := fun i => decide (rkN (nB c sa) (kk1 c sa fa) i = p)) h1 (by simp [h2])
    omega
  obtain ⟨a, b, _⟩ := sel_spec hpos
  simp only [decide_eq_true_eq] at b
  exact ⟨a, b⟩
theorem iv1_rk {c : Nat} {sa fa : Nat → Int32} {i : Nat} (h : i < nB c sa) : iv1 c sa fa (rkN (nB c sa) (kk1 c sa fa) i) = i := by
  obtain ⟨a, b⟩ := iv1_ok (fa := fa) (rk1_lt (fa := fa) h)
  exact rk_inj a h b
theorem sn2_ok {c : Nat} {sa fa : Nat → Int32} {p : Nat} (h : p < nB c sa) : sn2 c sa fa p < c := (sn1_ok (iv1_ok (fa := fa) h).1).1
theorem re12 {c : Nat} {sa fa : Nat → Int32} {Q : Nat → Bool} : cN (nB c sa) (fun p => Q (sn2 c sa fa p)) = cN c (fun j => stB sa 1 j && Q j) := by
  rw [cN_perm (R := rkN (nB c sa) (kk1 c sa fa)) (fun i hi => rk_lt hi) (fun i j hi hj => rk_inj hi hj)]
  rw [← cN_sel (P := stB sa 1) (Q := Q) (n := c)]
  exact cN_congr (fun i hi => by simp only [sn2]; rw [iv1_rk hi]; rfl)
theorem build_ok {c : Nat} {sa ow fa : Nat → Int32} {f : Nat → Int32} : rowsOK c sa ow fa (psN (nB c sa) (kk2 c sa ow fa)) (srF (rkN (nB c sa) (kk2 c sa ow fa)) (sn2 c sa fa) f (nB c sa)) := by
  constructor
  · intro x
    exact re12 (Q := fun j => decide (nC ow j < x))
  · intro j hj hb
    have hi : cN j (stB sa 1) < nB c sa := cN_strict hj hb
    have e1 : sn1 c sa (cN j (stB sa 1)) = j := sel_inv hj hb
    have hp := rk1_lt (fa := fa) hi
    have e2 : sn2 c sa fa (rkN (nB c sa) (kk1 c sa fa) (cN j (stB sa 1))) = j := by rw [sn2, iv1_rk hi, e1]
    have hr : rnk c sa ow fa j = rkN (nB c sa) (kk2 c sa ow fa) (rkN (nB c sa) (kk1 c sa fa) (cN j (stB sa 1))) := by
      show _ = cN (nB c sa) (ltB (kk2 c sa ow fa) _) + cN _ (eq0 (kk2 c sa ow fa) _)
      have ek : kk2 c sa ow fa (rkN (nB c sa) (kk1 c sa fa) (cN j (stB sa 1))) = nC ow j := by rw [kk2, e2]
      rw [ek]
      have s1 : cN (nB c sa) (ltB (kk2 c sa ow fa) (nC ow j)) = cN c (fun b => stB sa 1 b && decide (nC ow b < nC ow j)) := re12 (Q := fun b => decide (nC ow b < nC ow j))
      have s2 : cN (rkN (nB c sa) (kk1 c sa fa) (cN j (stB sa 1))) (eq0 (kk2 c sa ow fa) (nC ow j)) = cN c (fun b => stB sa 1 b && (decide (nC fa b < nC fa j ∨ (nC fa b = nC fa j ∧ b < j)) && decide (nC ow b = nC ow j))) := by
        rw [cN_below (Nat.le_of_lt hp), ← re12 (fa := fa)]
        refine cN_congr (fun p hpp => ?_)
        obtain ⟨a, b⟩ := iv1_ok (fa := fa) hpp
        simp only [eq0, kk2]
        congr 1
        refine decide_eq_decide.mpr ?_
        obtain ⟨u1, u2, u3⟩ := sn1_ok a
        have hiff := rk_iff (kk := kk1 c sa fa) a hi
        rw [b] at hiff
        rw [hiff]
        have ea : kk1 c sa fa (iv1 c sa fa p) = nC fa (sn2 c sa fa p) := rfl
        have eb : kk1 c sa fa (cN j (stB sa 1)) = nC fa j := by rw [kk1, e1]
        rw [ea, eb]
        have ec : iv1 c sa fa p < cN j (stB sa 1) ↔ sn2 c sa fa p < j := by
          show iv1 c sa fa p < _ ↔ sn1 c sa (iv1 c sa fa p) < j
          constructor
          · intro h
            rcases Nat.lt_trichotomy (sn1 c sa (iv1 c sa fa p)) j with h3 | h3 | h3
            · exact h3
            · rw [h3] at u3; omega
            · have := cN_strict h3 hb; omega
          · intro h
            have := cN_strict h u2
            omega
        rw [ec]
      rw [s1, s2]
      unfold rnk
      symm
      refine cN_add c (fun b _ => ?_)
      cases stB sa 1 b
      · simp
      · simp only [Bool.true_and, lxB, Bool.and_eq_true, decide_eq_true_eq]
        by_cases g1 : nC ow b < nC ow j
        · simp [g1, show ¬ nC ow b = nC ow j by omega]
        · by_cases g2 : nC ow b = nC ow j
          · simp [g1, g2]
          · simp [g1, g2]
    rw [hr, srF_get (n := nB c sa) (fun i k h1 h2 => rk_inj h1 h2) (Nat.le_refl _) hp, e2]
end
section
/-! ===== words for OffsetRows' own methods ===== -/
abbrev uT : Type := (Nat → Nat) × (Nat → Int32) × (Nat → Int32) × (Nat → Int32) × (Nat → Int32)
theorem in_nC {f : Nat → Int32} {j N : Nat} (h : vp_in (f j) N) (hN : N < 2 ^ 31) : f j = nI (nC f j) ∧ nC f j < N := by
  obtain ⟨k, h1, h2⟩ := vp_in_of h hN
  have e : nC f j = k := by unfold nC; rw [h2]; exact nI_clamp (by omega)
  rw [e]; exact ⟨h2, h1⟩
theorem b_hs1 {c : Nat} {sa nm : Nat → Int32} (hc : c ≤ 160) : ∀ i, i < nB c sa → pkG (stB sa 1) nI nm c i = nI (sn1 c sa i) ∧ sn1 c sa i < 160 := fun i h => ⟨pkG_sel h, by have := (sn1_ok h).1; omega⟩
theorem b_hk1 {c N : Nat} {sa fa : Nat → Int32} (hN : N ≤ 24) (h : ∀ j, j < c → vp_in (fa j) N) : ∀ i, i < nB c sa → fa (sn1 c sa i) = nI (kk1 c sa fa i) ∧ kk1 c sa fa i < N := fun i hi => in_nC (h _ (sn1_ok hi).1) (by omega)
theorem b_hs2 {c : Nat} {sa fa bf : Nat → Int32} (hc : c ≤ 160) : ∀ i, i < nB c sa → srF (rkN (nB c sa) (kk1 c sa fa)) (sn1 c sa) bf (nB c sa) i = nI (sn2 c sa fa i) ∧ sn2 c sa fa i < 160 := fun p h => by
  obtain ⟨a, b⟩ := iv1_ok (fa := fa) h
  refine ⟨?_, by have := sn2_ok (fa := fa) h; omega⟩
  have := srF_get (R := rkN (nB c sa) (kk1 c sa fa)) (sn := sn1 c sa) (f := bf) (n := nB c sa) (fun i k h1 h2 => rk_inj h1 h2) (Nat.le_refl _) a
  rw [b] at this
  exact this
theorem b_hk2 {c N : Nat} {sa ow fa : Nat → Int32} (hN : N ≤ 24) (h : ∀ j, j < c → vp_in (ow j) N) : ∀ i, i < nB c sa → ow (sn2 c sa fa i) = nI (kk2 c sa ow fa i) ∧ kk2 c sa ow fa i < N := fun i hi => in_nC (h _ (sn2_ok hi)) (by omega)
theorem nB_le {c : Nat} {sa : Nat → Int32} (hc : c ≤ 160) : nB c sa ≤ 160 := Nat.le_trans (cN_le c _) hc
def mkR (c : Nat) (sa tk : Nat → Int32) (x z : Int32) : Int32 := if hasB c x then (if sa x.toNatClampNeg = 2 then -5 else (if tk x.toNatClampNeg = z then 0 else 1)) else -2
def mkF (c : Nat) (sa tk : Nat → Int32) (x z : Int32) : Nat → Int32 := if hasB c x && (!(decide (sa x.toNatClampNeg = 2)) && !(decide (tk x.toNatClampNeg = z))) then upd tk x.toNatClampNeg z else tk
theorem pkG_all {P : Nat → Bool} {v f : Nat → Int32} {Q : Int32 → Prop} : ∀ {i : Nat}, (∀ j, j < i → Q (v j)) → (∀ j, j < i → Q (f j)) → ∀ j, j < i → Q (pkG P v f i j) := by
  intro i
  induction i with
  | zero => intro _ _ j h; omega
  | succ i ih =>
    intro h1 h2 j hj
    simp only [pkG]
    have hle := cN_le i P
    by_cases hij : j = i
    · subst hij
      split
      · simp only [upd]; split
        · exact h1 j (by omega)
        · rw [pkG_ge (Nat.le_refl j)]; exact h2 j (by omega)
      · rw [pkG_ge (Nat.le_refl j)]; exact h2 j (by omega)
    · have := ih (fun t ht => h1 t (by omega)) (fun t ht => h2 t (by omega)) j (by omega)
      split
      · simp only [upd]; split
        · exact h1 i (by omega)
        · exact this
      · exact this
theorem pkG_in {P : Nat → Bool} {f : Nat → Int32} {c N : Nat} (h : ∀ j, j < c → vp_in (f j) N) : ∀ j, j < cN c P → vp_in (pkG P f f c j) N := fun j hj => pkG_all (Q := fun x => vp_in x N) h h j (Nat.lt_of_lt_of_le hj (cN_le c P))
def ofC (N : Nat) (oo : Nat → Nat) (x : Int32) : Int32 := if x = nI N ∨ hasB N x = true then nI (oo x.toNatClampNeg) else -2
def dcR (N c : Nat) (sa tk ow rw : Nat → Int32) (oo : Nat → Nat) (x : Int32) : Int32 := if hasB N x then nI (cN (plN c oo x.toNatClampNeg) (atL c sa tk ow rw oo x.toNatClampNeg)) else -2
def lvC (N c : Nat) (sa tk ow rw : Nat → Int32) (oo : Nat → Nat) (x k : Int32) : Int32 := if hasB N x then (if k < 0 then -3 else laR c sa tk ow rw oo x.toNatClampNeg k.toNatClampNeg) else -2
def bwB (fr tt sa tk : Nat → Int32) (x y : Int32) (j : Nat) : Bool := lvB sa tk j && (decide (fr j = x) && decide (tt j = y))
def bwR (N c : Nat) (fr tt sa tk : Nat → Int32) (x y : Int32) : Int32 := if arB N x y then nI (cN c (bwB fr tt sa tk x y)) else -2
def cr0 (N : Nat) (sp : Nat → Int32) (x : Int32) : Nat → Int32 := upd (pfx (fun _ => (-1 : Int32)) sp N) x.toNatClampNeg (0 : Int32)
def crR (N c : Nat) (fr tt sa tk sp : Nat → Int32) (x y : Int32) : Int32 := if arB N x y then nrO c fr tt sa tk N (cr0 N sp x) y.toNatClampNeg else -2
theorem nrI_stay {fr tt sa tk : Nat → Int32} {n : Nat} {F : Nat → Int32} {y : Nat} : ∀ {i : Nat}, ¬ F y = -1 → nrI fr tt sa tk n i F y = F y := by
  intro i
  induction i with
  | zero => intro _; rfl
  | succ i ih =>
    intro h
    have h1 := ih h
    simp only [nrI]
    split
    · rename_i hq
      simp only [Bool.and_eq_true, decide_eq_true_eq] at hq
      simp only [upd]
      by_cases hy : y = (tt i).toNatClampNeg
      · rw [← hy, h1] at hq; exact absurd hq.2.2 h
      · rw [if_neg hy]; exact h1
    · exact h1
theorem nrO_stay {c : Nat} {fr tt sa tk F : Nat → Int32} {y n : Nat} : ∀ {m : Nat}, n ≤ m → ¬ nrO c fr tt sa tk n F y = -1 → nrO c fr tt sa tk m F y = nrO c fr tt sa tk n F y := by
  intro m
  induction m with
  | zero => intro h _; rw [show n = 0 by omega]
  | succ m ih =>
    intro h h1
    by_cases hn : n = m + 1
    · rw [hn]
    · have h2 := ih (by omega) h1
      simp only [nrO]
      rw [nrI_stay (by rw [h2]; exact h1), h2]
def wcI (fr tt sa tk : Nat → Int32) (M : Nat → Int64) : Nat → (Nat → Int64) → Nat → Int64
  | 0, X => X
  | i + 1, X => if lvB sa tk i then vp_updL (wcI fr tt sa tk M i X) (tt i).toNatClampNeg (wcI fr tt sa tk M i X (tt i).toNatClampNeg + M (fr i).toNatClampNeg) else wcI fr tt sa tk M i X
def wcO (N c : Nat) (fr tt sa tk : Nat → Int32) (h o : Nat → Int64) : Nat → (Nat → Int64) × (Nat → Int64)
  | 0 => (h, o)
  | n + 1 => (va_cpy (wcI fr tt sa tk (wcO N c fr tt sa tk h o n).1 c (pfx (fun _ => 0) (wcO N c fr tt sa tk h o n).2 N)) (wcO N c fr tt sa tk h o n).1 0 0 N, wcI fr tt sa tk (wcO N c fr tt sa tk h o n).1 c (pfx (fun _ => 0) (wcO N c fr tt sa tk h o n).2 N))
def wc0 (N : Nat) (hr : Nat → Int64) (x : Int32) : Nat → Int64 := vp_updL (pfx (fun _ => (0 : Int64)) hr N) x.toNatClampNeg (1 : Int64)
def wcR (N c : Nat) (fr tt sa tk : Nat → Int32) (hr ow : Nat → Int64) (x y k : Int32) : Int64 := if wyB N x y k then (wcO N c fr tt sa tk (wc0 N hr x) ow k.toNatClampNeg).1 y.toNatClampNeg else if arB N x y then -3 else -2
theorem opA_in {op : Nat → Int32} (h : ¬ opA op = -1) : vp_in (opA op) 8 := by
  rcases fsv_or (opB op) nI 8 0 with ⟨h1, _⟩ | ⟨j, _, h2, _, h4, _⟩
  · exact absurd h1 h
  · have : opA op = nI j := h4
    rw [this]; exact vp_in_nI (by omega) (by decide)
theorem lpR_in {c : Nat} {sa tk ow rw : Nat → Int32} {oo : Nat → Nat} {v q : Nat} (h : ¬ lpR c sa tk ow rw oo v q = -1) : ∃ p, q ≤ p ∧ p < plN c oo v ∧ lpR c sa tk ow rw oo v q = nI p := by
  rcases fsv_or (atL c sa tk ow rw oo v) nI (plN c oo v - q) q with ⟨h1, _⟩ | ⟨j, h1, h2, _, h4, _⟩
  · exact absurd h1 h
  · exact ⟨j, h1, by omega, h4⟩
def ncR (c : Nat) (sa tk ow rw : Nat → Int32) (oo : Nat → Nat) (op sl : Nat → Int32) (v q : Nat) (x : Int32) : Int32 := if itB op x then (if sl x.toNatClampNeg = 0 then (if lpR c sa tk ow rw oo v q = -1 then -1 else atV c sa ow rw oo v (lpR c sa tk ow rw oo v q).toNatClampNeg) else -4) else -2
def ncB (c : Nat) (sa tk ow rw : Nat → Int32) (oo : Nat → Nat) (op sl : Nat → Int32) (v q : Nat) (x : Int32) : Bool := itB op x && (decide (sl x.toNatClampNeg = 0) && !(decide (lpR c sa tk ow rw oo v q = -1)))
def ncF (b : Bool) (f : Nat → Int32) (x v : Int32) : Nat → Int32 := if b then upd f x.toNatClampNeg v else f
theorem gv_ok {N m : Nat} {go : Nat → Int32} (hm : m ≤ 160) (h : ∀ i, i ≤ N → jgR N m go i) : (∀ i, i ≤ N → go i = nI (nC go i) ∧ nC go i ≤ m) ∧ nC go 0 = 0 ∧ (∀ i, i < N → nC go i ≤ nC go (i + 1)) ∧ nC go N = m := by
  have z0 : go 0 = 0 := by
    rcases (h 0 (by omega)).1 with ⟨_, h1⟩ | ⟨h1, _⟩
    · exact h1
    · exact absurd rfl h1
  have pos : ∀ i, i ≤ N → 0 ≤ go i := by
    intro i
    induction i with
    | zero => intro _; rw [z0]; decide
    | succ i ih =>
      intro hi
      rcases (h (i + 1) hi).1 with ⟨h1, _⟩ | ⟨_, h1⟩
      · omega
      · have := ih (by omega)
        simp only [Nat.add_sub_cancel] at h1
        rw [Int32.le_iff_toInt_le] at *
        omega
  have nat : ∀ i, i ≤ N → go i = nI (nC go i) ∧ nC go i ≤ m := by
    intro i hi
    obtain ⟨j, hj, e⟩ := nI_of (k2_nlt (pos i hi))
    have e2 : nC go i = j := by unfold nC; rw [e]; exact nI_clamp hj
    rw [e2]
    refine ⟨e, ?_⟩
    have := (h i hi).2.1
    rw [e] at this
    exact (nI_leI hj (by omega)).mp this
  refine ⟨nat, by unfold nC; rw [z0]; rfl, fun i hi => ?_, ?_⟩
  · obtain ⟨a1, a2⟩ := nat i (by omega)
    obtain ⟨b1, b2⟩ := nat (i + 1) (by omega)
    rcases (h (i + 1) (by omega)).1 with ⟨h1, _⟩ | ⟨_, h1⟩
    · omega
    · simp only [Nat.add_sub_cancel] at h1
      rw [a1, b1] at h1
      exact (nI_leI (by omega) (by omega)).mp h1
  · unfold nC; rw [jgR_N (h N (Nat.le_refl N))]; exact nI_clamp (by omega)
theorem lo_lt {N m : Nat} {go : Nat → Int32} (hN1 : 1 ≤ N) (hm : m ≤ 160) (hgN : go N = nI m) {t : Nat} (ht : t < m) : lsN (loQ go t) N 0 < N := by
  have key : ∀ k i, i + k = N → 1 ≤ k → lsN (loQ go t) k i < N := by
    intro k
    induction k with
    | zero => intro i _ h; omega
    | succ k ih =>
      intro i h1 _
      simp only [lsN]
      split
      · omega
      · rename_i hq
        by_cases hk : k = 0
        · subst hk
          exfalso
          apply hq
          have : ¬ go (i + 1) ≤ nI t := by
            rw [show i + 1 = N by omega, hgN]
            exact nI_ge ht (by omega)
          simp [loQ, this]
        · exact ih (i + 1) (by omega) (by omega)
  exact key N 0 (by omega) hN1
theorem lo_in1 {N m : Nat} {go fr : Nat → Int32} (hN : N ≤ 24) (hN1 : 1 ≤ N) (hm : m ≤ 160) (hgN : go N = nI m) : ∀ j, j < m → vp_in (pfx (loV N go) fr m j) N := fun j hj => by
  rw [pfx_lt hj]; exact vp_in_nI (lo_lt hN1 hm hgN hj) (by omega)
theorem lo_in2 {N m : Nat} {gt tt : Nat → Int32} (hN : N ≤ 24) (h : ∀ k, k < m → hasB N (gt k) = true) : ∀ j, j < m → vp_in (pfx gt tt m j) N := fun j hj => by
  rw [pfx_lt hj]; exact hasB_in (h j hj) (Nat.le_refl N) (by omega)
theorem ab_def {x w : Int32} (h : x.toInt < 0 ∨ 5 < x.toInt) : (-3 : Int32) = if x < 2 then -3 else if 4 < x then -3 else w := by
  rcases h with h | h
  · rw [if_pos]; rw [Int32.lt_iff_toInt_lt]; show x.toInt < (2 : Int32).toInt; have : (2 : Int32).toInt = 2 := by decide
    omega
  · have h4 : 4 < x := by
      rw [Int32.lt_iff_toInt_lt]; have : (4 : Int32).toInt = 4 := by decide
      omega
    rw [if_pos h4]; split <;> rfl
end
section
/-! ===== class and model answer alike: places and ranks ===== -/
theorem cN_ss {P Q : Nat → Bool} {n x : Nat} (h : ∀ t, t < n → P t = true → Q t = true) (hx : x < n) (hQ : Q x = true) (hP : P x = false) : cN n P < cN n Q := by
  rw [cN_rm hx hQ]
  have : cN n P ≤ cN n (fun p => Q p && !(decide (p = x))) := cN_imp (fun t ht hp => by
    have hne : ¬ t = x := fun e => by rw [e, hP] at hp; cases hp
    simp [h t ht hp, hne])
  omega
def d0B (sa ow : Nat → Int32) (v j : Nat) : Bool := stB sa 1 j && decide (nC ow j = v)
def l2B (fa : Nat → Int32) (a b : Nat) : Bool := decide (nC fa b < nC fa a ∨ (nC fa b = nC fa a ∧ b < a))
def rk2 (c : Nat) (sa ow fa : Nat → Int32) (v a : Nat) : Nat := cN c (fun b => d0B sa ow v b && l2B fa a b)
theorem rnk_split {c : Nat} {sa ow fa rw : Nat → Int32} {oo : Nat → Nat} {v a : Nat} (hR : rowsOK c sa ow fa oo rw) (hv : nC ow a = v) : rnk c sa ow fa a = oo v + rk2 c sa ow fa v a := by
  rw [hR.1 v]
  unfold rnk rk2
  symm
  refine cN_add c (fun b _ => ?_)
  simp only [boB, d0B, l2B, lxB, hv]
  by_cases hs : stB sa 1 b = true
  case neg => simp [hs]
  · simp only [hs, Bool.true_and, Bool.and_eq_true, decide_eq_true_eq]
    by_cases g1 : nC ow b < v
    · simp [g1, show ¬ nC ow b = v by omega]
    · by_cases g2 : nC ow b = v
      · simp [g2]
      · simp [g1, g2]
theorem oo_L {c : Nat} {sa ow fa rw : Nat → Int32} {oo : Nat → Nat} (hR : rowsOK c sa ow fa oo rw) (v : Nat) : oo v + cN c (d0B sa ow v) = oo (v + 1) := by
  rw [hR.1 v, hR.1 (v + 1)]
  refine cN_add c (fun b _ => ?_)
  simp only [boB, d0B]
  by_cases hs : stB sa 1 b = true
  case neg => simp [hs]
  · simp only [hs, Bool.true_and, decide_eq_true_eq]
    by_cases g1 : nC ow b < v
    · simp [g1, show ¬ nC ow b = v by omega, show nC ow b < v + 1 by omega]
    · by_cases g2 : nC ow b = v
      · simp [g2]
      · simp [g1, g2, show ¬ nC ow b < v + 1 by omega]
theorem oo_ok {c : Nat} {sa ow fa rw : Nat → Int32} {oo : Nat → Nat} (hR : rowsOK c sa ow fa oo rw) (hc : c ≤ 160) (v : Nat) : oo v ≤ oo (v + 1) ∧ oo (v + 1) ≤ 160 := by
  have h1 := oo_L hR v
  have h2 : oo (v + 1) ≤ c := by rw [hR.1 (v + 1)]; exact cN_le c _
  omega
theorem rk2_lt {c : Nat} {sa ow fa : Nat → Int32} {v a : Nat} (ha : a < c) (hd : d0B sa ow v a = true) : rk2 c sa ow fa v a < cN c (d0B sa ow v) :=
  cN_ss (fun t _ h => by simp only [Bool.and_eq_true] at h; exact h.1) ha hd (by simp [l2B])
theorem rk2_lex {c : Nat} {sa ow fa : Nat → Int32} {v a b : Nat} (ha : a < c) (hd : d0B sa ow v a = true) (h : l2B fa b a = true) : rk2 c sa ow fa v a < rk2 c sa ow fa v b :=
  cN_ss (fun t _ ht => by
    simp only [Bool.and_eq_true] at ht ⊢
    refine ⟨ht.1, ?_⟩
    have h2 := ht.2
    simp only [l2B, decide_eq_true_eq] at h h2 ⊢
    omega) ha (by simp [hd, h]) (by simp [l2B])
theorem l2_tot {fa : Nat → Int32} {a b : Nat} (h : a ≠ b) : l2B fa b a = true ∨ l2B fa a b = true := by
  simp only [l2B, decide_eq_true_eq]; omega
/-- an arc's place at its node -/
def plA (c : Nat) (sa ow fa : Nat → Int32) (oo : Nat → Nat) (v a : Nat) : Nat := if sa a = 1 then rk2 c sa ow fa v a else (oo (v + 1) - oo v) + a
/-- a is an arc of v that is built or waits -/
def atN (c : Nat) (sa ow : Nat → Int32) (v a : Nat) : Prop := a < c ∧ nC ow a = v ∧ (sa a = 1 ∨ sa a = 0)
section Places
variable {c N : Nat} {sa tk ow fa rw : Nat → Int32} {oo : Nat → Nat} {v : Nat}
theorem at_d0 {a : Nat} (h : atN c sa ow v a) (h1 : sa a = 1) : d0B sa ow v a = true := by simp [d0B, stB, h1, h.2.1]
theorem pl_lt (hR : rowsOK c sa ow fa oo rw) {a : Nat} (h : atN c sa ow v a) : plA c sa ow fa oo v a < plN c oo v := by
  have hL := oo_L hR v
  unfold plA plN
  split
  · rename_i h1
    have := rk2_lt (fa := fa) h.1 (at_d0 h h1)
    omega
  · have := h.1; omega
theorem pl_at (hR : rowsOK c sa ow fa oo rw) (hc : c ≤ 160) (hN : N ≤ 24) (hv : v < N) (how : ∀ j, j < c → vp_in (ow j) N) {a : Nat} (h : atN c sa ow v a) : atV c sa ow rw oo v (plA c sa ow fa oo v a) = nI a := by
  have hL := oo_L hR v
  unfold plA
  by_cases h1 : sa a = 1
  · have hl := rk2_lt (fa := fa) h.1 (at_d0 h h1)
    rw [if_pos h1, atV, if_pos (by omega), ← rnk_split hR h.2.1]
    exact hR.2 a h.1 (by simp [stB, h1])
  · have h0 : sa a = 0 := h.2.2.resolve_left h1
    rw [if_neg h1, atV, if_neg (by omega), show oo (v + 1) - oo v + a - (oo (v + 1) - oo v) = a by omega]
    have hw : isWt c sa (nI a) = true := by
      rw [isWt, hasB_nI (by omega) (by have := h.1; omega), nI_clamp (by have := h.1; omega)]
      simp [h.1, h0]
    have ho : ow a = nI v := by rw [(in_nC (how a h.1) (by omega)).1, h.2.1]
    simp [hw, ho]
theorem pl_iff (hR : rowsOK c sa ow fa oo rw) (hN : N ≤ 24) (hfa : ∀ j, j < c → vp_in (fa j) N) {a b : Nat} (ha : atN c sa ow v a) (hb : atN c sa ow v b) : (plA c sa ow fa oo v a < plA c sa ow fa oo v b ↔ ahB ow fa sa 0 a b = true) := by
  have hL := oo_L hR v
  have fA := in_nC (hfa a ha.1) (show N < 2 ^ 31 by omega)
  have fB := in_nC (hfa b hb.1) (show N < 2 ^ 31 by omega)
  unfold plA ahB
  by_cases ea : sa a = 1
  · by_cases eb : sa b = 1
    · have e : sa a = sa b := by rw [ea, eb]
      rw [if_pos ea, if_pos eb, if_pos e]
      have hl : l2B fa b a = true ↔ (if sa a = 1 ∧ ¬ othI ow fa 0 a = othI ow fa 0 b then !(decide (othI ow fa 0 b ≤ othI ow fa 0 a)) else !(decide (b ≤ a))) = true := by
        have o1 : othI ow fa 0 a = nI (nC fa a) := by simp only [othI, if_true]; exact fA.1
        have o2 : othI ow fa 0 b = nI (nC fa b) := by simp only [othI, if_true]; exact fB.1
        have o3 := nI_eq (a := nC fa a) (b := nC fa b) (by omega) (by omega)
        have o4 := nI_leI (a := nC fa b) (b := nC fa a) (by omega) (by omega)
        rw [o1, o2]
        by_cases q : nC fa a = nC fa b
        · rw [if_neg (by rw [o3]; exact fun h => h.2 q)]
          simp only [l2B, decide_eq_true_eq, Bool.not_eq_true', decide_eq_false_iff_not]; omega
        · rw [if_pos ⟨ea, by rw [o3]; exact q⟩]
          simp only [l2B, decide_eq_true_eq, Bool.not_eq_true', decide_eq_false_iff_not, o4]; omega
      rw [← hl]
      constructor
      · intro h
        by_cases hab : a = b
        · subst hab; omega
        · rcases l2_tot (fa := fa) hab with g | g
          · exact g
          · have := rk2_lex (fa := fa) hb.1 (at_d0 hb eb) g; omega
      · exact rk2_lex ha.1 (at_d0 ha ea)
    · have e0 : sa b = 0 := hb.2.2.resolve_left eb
      have hl := rk2_lt (fa := fa) ha.1 (at_d0 ha ea)
      rw [if_pos ea, if_neg eb, if_neg (by rw [ea]; exact fun h => eb h.symm)]
      simp only [ea]
      constructor
      · intro _; decide
      · intro _; omega
  · have e0 : sa a = 0 := ha.2.2.resolve_left ea
    by_cases eb : sa b = 1
    · have hl := rk2_lt (fa := fa) hb.1 (at_d0 hb eb)
      rw [if_neg ea, if_pos eb, if_neg (by rw [eb]; exact ea)]
      simp only [e0]
      constructor
      · intro h; omega
      · intro h; exact absurd h (by decide)
    · have e1 : sa b = 0 := hb.2.2.resolve_left eb
      rw [if_neg ea, if_neg eb, if_pos (by rw [e0, e1]), if_neg (by rw [e0]; exact fun h => absurd h.1 (by decide))]
      simp only [Bool.not_eq_true', decide_eq_false_iff_not]
      omega
theorem pl_inj (hR : rowsOK c sa ow fa oo rw) {a b : Nat} (ha : atN c sa ow v a) (hb : atN c sa ow v b) (h : plA c sa ow fa oo v a = plA c sa ow fa oo v b) : a = b := by
  have hL := oo_L hR v
  unfold plA at h
  by_cases ea : sa a = 1
  · have la := rk2_lt (fa := fa) ha.1 (at_d0 ha ea)
    by_cases eb : sa b = 1
    · rw [if_pos ea, if_pos eb] at h
      by_cases hab : a = b
      · exact hab
      · rcases l2_tot (fa := fa) hab with g | g
        · have := rk2_lex ha.1 (at_d0 ha ea) g; omega
        · have := rk2_lex hb.1 (at_d0 hb eb) g; omega
    · rw [if_pos ea, if_neg eb] at h; omega
  · by_cases eb : sa b = 1
    · have lb := rk2_lt (fa := fa) hb.1 (at_d0 hb eb)
      rw [if_neg ea, if_pos eb] at h; omega
    · rw [if_neg ea, if_neg eb] at h; omega
theorem pl_onto (hR : rowsOK c sa ow fa oo rw) {p : Nat} (hp : p < oo (v + 1) - oo v) : ∃ a, a < c ∧ d0B sa ow v a = true ∧ rk2 c sa ow fa v a = p := by
  have hL := oo_L hR v
  have := cN_dom (R := rk2 c sa ow fa v) (n := c) (m := cN c (d0B sa ow v)) (D := d0B sa ow v) (F := fun q => decide (q = p)) (fun i hi hd => rk2_lt hi hd) (fun i j hi hj hd hd' e => by
    by_cases hab : i = j
    · exact hab
    · rcases l2_tot (fa := fa) hab with g | g
      · have := rk2_lex hi hd g; omega
      · have := rk2_lex hj hd' g; omega) rfl
  rw [cN_one (by omega)] at this
  obtain ⟨a, h1, h2⟩ := cN_pos (n := c) (F := fun i => d0B sa ow v i && decide (rk2 c sa ow fa v i = p)) (by omega)
  simp only [Bool.and_eq_true, decide_eq_true_eq] at h2
  exact ⟨a, h1, h2.1, h2.2⟩
theorem d0_at {a : Nat} (ha : a < c) (h : d0B sa ow v a = true) : atN c sa ow v a ∧ sa a = 1 := by
  simp only [d0B, stB, Bool.and_eq_true, decide_eq_true_eq] at h
  exact ⟨⟨ha, h.2, Or.inl h.1⟩, h.1⟩
/-- a place at which something live stands is an arc's own -/
theorem pl_of (hR : rowsOK c sa ow fa oo rw) (hc : c ≤ 160) (hN : N ≤ 24) (hv : v < N) (how : ∀ j, j < c → vp_in (ow j) N) {p : Nat} (hp : p < plN c oo v) (h : atL c sa tk ow rw oo v p = true) : ∃ a, atN c sa ow v a ∧ lvB sa tk a = true ∧ plA c sa ow fa oo v a = p ∧ atV c sa ow rw oo v p = nI a := by
  have hL := oo_L hR v
  by_cases h1 : p < oo (v + 1) - oo v
  · obtain ⟨a, a1, a2, a3⟩ := pl_onto (fa := fa) hR h1
    obtain ⟨a4, a5⟩ := d0_at a1 a2
    have e : plA c sa ow fa oo v a = p := by rw [plA, if_pos a5, a3]
    have e2 := pl_at hR hc hN hv how a4
    rw [e] at e2
    refine ⟨a, a4, ?_, e, e2⟩
    unfold atL at h
    rw [e2, isLv_nI a1 (by omega)] at h
    exact h
  · unfold atL at h
    rw [atV, if_neg h1] at h
    by_cases h2 : (isWt c sa (nI (p - (oo (v + 1) - oo v))) && decide (ow (p - (oo (v + 1) - oo v)) = nI v)) = true
    · rw [if_pos h2] at h
      simp only [Bool.and_eq_true, decide_eq_true_eq] at h2
      unfold plN at hp
      have ha : p - (oo (v + 1) - oo v) < c := by omega
      have hw := h2.1
      rw [isWt, nI_clamp (by omega)] at hw
      simp only [Bool.and_eq_true, decide_eq_true_eq] at hw
      have hat : atN c sa ow v (p - (oo (v + 1) - oo v)) := ⟨ha, by unfold nC; rw [h2.2]; exact nI_clamp (by omega), Or.inr hw.2⟩
      rw [isLv_nI ha (by omega)] at h
      have e : plA c sa ow fa oo v (p - (oo (v + 1) - oo v)) = p := by
        rw [plA, if_neg (by rw [hw.2]; decide)]; omega
      have e2 := pl_at (fa := fa) hR hc hN hv how hat
      rw [e] at e2
      exact ⟨_, hat, h, e, e2⟩
    · rw [if_neg h2, isLv, hasB_m1] at h
      cases h
theorem of_iff (hN : N ≤ 24) (hv : v < N) (how : ∀ j, j < c → vp_in (ow j) N) (hsa : ∀ j, j < c → sa j = 0 ∨ sa j = 1 ∨ sa j = 2) {a : Nat} (ha : a < c) : ofB ow fa sa tk (nI v) 0 1 a = true ↔ (atN c sa ow v a ∧ lvB sa tk a = true) := by
  have f := in_nC (how a ha) (show N < 2 ^ 31 by omega)
  have e := nI_eq (a := nC ow a) (b := v) (by omega) (by omega)
  unfold ofB ownI
  rw [if_pos rfl, if_neg (by decide), f.1, Bool.and_eq_true, decide_eq_true_eq, e]
  constructor
  · intro h
    refine ⟨⟨ha, h.1, ?_⟩, h.2⟩
    have h2 := h.2
    simp only [lvB, Bool.and_eq_true, Bool.not_eq_true', decide_eq_false_iff_not] at h2
    rcases hsa a ha with g | g | g
    · exact Or.inr g
    · exact Or.inl g
    · exact absurd g h2.1
  · intro h; exact ⟨h.1.2.1, h.2⟩
theorem at_live (hR : rowsOK c sa ow fa oo rw) (hc : c ≤ 160) (hN : N ≤ 24) (hv : v < N) (how : ∀ j, j < c → vp_in (ow j) N) {a : Nat} (h : atN c sa ow v a) : atL c sa tk ow rw oo v (plA c sa ow fa oo v a) = lvB sa tk a := by
  unfold atL
  rw [pl_at hR hc hN hv how h, isLv_nI h.1 (by omega)]
/-- how many live ones stand ahead of a place: as many as go ahead of its arc -/
theorem cnt_at (hR : rowsOK c sa ow fa oo rw) (hc : c ≤ 160) (hN : N ≤ 24) (hv : v < N) (how : ∀ j, j < c → vp_in (ow j) N) (hsa : ∀ j, j < c → sa j = 0 ∨ sa j = 1 ∨ sa j = 2) {m : Nat} (hm : m ≤ plN c oo v) {D : Nat → Bool} (hD : ∀ b, b < c → (D b = true ↔ (atN c sa ow v b ∧ lvB sa tk b = true ∧ plA c sa ow fa oo v b < m))) : cN m (atL c sa tk ow rw oo v) = cN c D := by
  refine Nat.le_antisymm ?_ ?_
  · refine cN_inj (R := fun p => (atV c sa ow rw oo v p).toNatClampNeg) m c _ _ (fun p hp h => ?_) (fun p q hp hq h1 h2 e => ?_)
    · obtain ⟨a, a1, a2, a3, a4⟩ := pl_of (fa := fa) hR hc hN hv how (by omega) h
      have e : (atV c sa ow rw oo v p).toNatClampNeg = a := by rw [a4]; exact nI_clamp (by have := a1.1; omega)
      simp only [e]
      exact ⟨a1.1, (hD a a1.1).mpr ⟨a1, a2, by omega⟩⟩
    · obtain ⟨a, a1, a2, a3, a4⟩ := pl_of (fa := fa) hR hc hN hv how (show p < plN c oo v by omega) h1
      obtain ⟨b, b1, b2, b3, b4⟩ := pl_of (fa := fa) hR hc hN hv how (show q < plN c oo v by omega) h2
      have e1 : (atV c sa ow rw oo v p).toNatClampNeg = a := by rw [a4]; exact nI_clamp (by have := a1.1; omega)
      have e2 : (atV c sa ow rw oo v q).toNatClampNeg = b := by rw [b4]; exact nI_clamp (by have := b1.1; omega)
      have : a = b := by rw [← e1, ← e2]; exact e
      subst this
      omega
  · refine cN_inj (R := plA c sa ow fa oo v) c m _ _ (fun b hb h => ?_) (fun a b ha hb h1 h2 e => ?_)
    · obtain ⟨h1, h2, h3⟩ := (hD b hb).mp h
      exact ⟨h3, by rw [at_live hR hc hN hv how h1]; exact h2⟩
    · exact pl_inj hR ((hD a ha).mp h1).1 ((hD b hb).mp h2).1 e
theorem T_deg (hR : rowsOK c sa ow fa oo rw) (hc : c ≤ 160) (hN : N ≤ 24) (hv : v < N) (how : ∀ j, j < c → vp_in (ow j) N) (hsa : ∀ j, j < c → sa j = 0 ∨ sa j = 1 ∨ sa j = 2) : cN (plN c oo v) (atL c sa tk ow rw oo v) = cN c (ofB ow fa sa tk (nI v) 0 1) :=
  cnt_at (fa := fa) hR hc hN hv how hsa (Nat.le_refl _) (fun b hb => by
    rw [of_iff hN hv how hsa hb]
    exact ⟨fun h => ⟨h.1, h.2, pl_lt hR h.1⟩, fun h => ⟨h.1, h.2.1⟩⟩)
theorem cnt_pl (hR : rowsOK c sa ow fa oo rw) (hc : c ≤ 160) (hN : N ≤ 24) (hv : v < N) (how : ∀ j, j < c → vp_in (ow j) N) (hfa : ∀ j, j < c → vp_in (fa j) N) (hsa : ∀ j, j < c → sa j = 0 ∨ sa j = 1 ∨ sa j = 2) {a : Nat} (ha : atN c sa ow v a) : cN (plA c sa ow fa oo v a) (atL c sa tk ow rw oo v) = cN c (anB ow fa sa tk (nI v) 0 1 a) :=
  cnt_at (fa := fa) hR hc hN hv how hsa (Nat.le_of_lt (pl_lt hR ha)) (fun b hb => by
    unfold anB
    rw [Bool.and_eq_true, of_iff hN hv how hsa hb]
    constructor
    · intro h; exact ⟨h.1.1, h.1.2, (pl_iff hR hN hfa h.1.1 ha).mpr h.2⟩
    · intro h; exact ⟨⟨h.1, h.2.1⟩, (pl_iff hR hN hfa h.1 ha).mp h.2.2⟩)
theorem fsv_one {Q : Nat → Bool} {V : Nat → Int32} {n p : Nat} (hp : p < n) (hq : Q p = true) (hu : ∀ t, t < n → Q t = true → t = p) : fsv Q V n 0 = V p := by
  rcases fsv_or Q V n 0 with ⟨_, h2⟩ | ⟨j, _, h2, h3, h4, _⟩
  · have := h2 p (by omega) (by omega); rw [hq] at this; cases this
  · rw [h4, hu j (by omega) h3]
theorem fsv_nil {Q : Nat → Bool} {V : Nat → Int32} {n : Nat} (hu : ∀ t, t < n → Q t = false) : fsv Q V n 0 = -1 := by
  rcases fsv_or Q V n 0 with ⟨h1, _⟩ | ⟨j, _, h2, h3, _, _⟩
  · exact h1
  · rw [hu j (by omega)] at h3; cases h3
theorem T_live (hR : rowsOK c sa ow fa oo rw) (hc : c ≤ 160) (hN : N ≤ 24) (hv : v < N) (how : ∀ j, j < c → vp_in (ow j) N) (hfa : ∀ j, j < c → vp_in (fa j) N) (hsa : ∀ j, j < c → sa j = 0 ∨ sa j = 1 ∨ sa j = 2) {k : Nat} (hk : k < 2 ^ 31) : laR c sa tk ow rw oo v k = plR c ow fa sa tk (nI v) 0 1 (nI k) := by
  have cnk : ∀ a, cN c (anB ow fa sa tk (nI v) 0 1 a) < 2 ^ 31 := fun a => by have := cN_le c (anB ow fa sa tk (nI v) 0 1 a); omega
  -- the model's test, in words of places
  have mt : ∀ a, a < c → (plB c ow fa sa tk (nI v) 0 1 (nI k) a = true ↔ (atN c sa ow v a ∧ lvB sa tk a = true ∧ cN (plA c sa ow fa oo v a) (atL c sa tk ow rw oo v) = k)) := by
    intro a ha
    unfold plB
    rw [Bool.and_eq_true, of_iff hN hv how hsa ha, decide_eq_true_eq, nI_eq (cnk a) hk]
    constructor
    · intro h; exact ⟨h.1.1, h.1.2, by rw [cnt_pl hR hc hN hv how hfa hsa h.1.1]; exact h.2⟩
    · intro h; exact ⟨⟨h.1, h.2.1⟩, by rw [← cnt_pl (rw := rw) hR hc hN hv how hfa hsa h.1]; exact h.2.2⟩
  have uq : ∀ p q, atL c sa tk ow rw oo v p = true → atL c sa tk ow rw oo v q = true → cN p (atL c sa tk ow rw oo v) = cN q (atL c sa tk ow rw oo v) → p = q := by
    intro p q h1 h2 e
    rcases Nat.lt_trichotomy p q with h | h | h
    · have := cN_strict h h1; omega
    · exact h
    · have := cN_strict h h2; omega
  unfold laR plR
  by_cases hex : ∃ a, a < c ∧ plB c ow fa sa tk (nI v) 0 1 (nI k) a = true
  · obtain ⟨a, ha, hb⟩ := hex
    obtain ⟨h1, h2, h3⟩ := (mt a ha).mp hb
    have hl : atL c sa tk ow rw oo v (plA c sa ow fa oo v a) = true := by rw [at_live hR hc hN hv how h1]; exact h2
    rw [fsv_one (p := plA c sa ow fa oo v a) (pl_lt hR h1) (by simp [laB, hl, h3]) (fun t ht hq => by
      simp only [laB, Bool.and_eq_true, decide_eq_true_eq] at hq
      exact uq _ _ hq.1 hl (by rw [hq.2, h3])), pl_at hR hc hN hv how h1]
    rw [fsv_one (p := a) ha hb (fun t ht hq => by
      obtain ⟨g1, g2, g3⟩ := (mt t ht).mp hq
      have gl : atL c sa tk ow rw oo v (plA c sa ow fa oo v t) = true := by rw [at_live hR hc hN hv how g1]; exact g2
      exact pl_inj hR g1 h1 (uq _ _ gl hl (by rw [g3, h3])))]
  · rw [fsv_nil (fun p hp => ?_), fsv_nil (fun a ha => ?_)]
    · cases hb : plB c ow fa sa tk (nI v) 0 1 (nI k) a
      · rfl
      · exact absurd ⟨a, ha, hb⟩ hex
    · cases hb : laB c sa tk ow rw oo v k p
      · rfl
      · exfalso
        simp only [laB, Bool.and_eq_true, decide_eq_true_eq] at hb
        obtain ⟨a, a1, a2, a3, a4⟩ := pl_of (fa := fa) hR hc hN hv how hp hb.1
        exact hex ⟨a, a1.1, (mt a a1.1).mpr ⟨a1, a2, by rw [a3]; exact hb.2⟩⟩
/-- the row itself: place k of the row, and the model's search -/
theorem an0 (hR : rowsOK c sa ow fa oo rw) (hN : N ≤ 24) (hv : v < N) (how : ∀ j, j < c → vp_in (ow j) N) (hfa : ∀ j, j < c → vp_in (fa j) N) {a : Nat} (ha : atN c sa ow v a) (h1 : sa a = 1) : cN c (anB ow fa sa tk (nI v) 0 0 a) = rk2 c sa ow fa v a := by
  refine cN_congr (fun b hb => ?_)
  have fO := in_nC (how b hb) (show N < 2 ^ 31 by omega)
  have e := nI_eq (a := nC ow b) (b := v) (by omega) (by omega)
  have eo : ofB ow fa sa tk (nI v) 0 0 b = d0B sa ow v b := by
    unfold ofB ownI d0B stB
    rw [if_pos rfl, if_pos rfl, Bool.and_comm]
    congr 1
    refine decide_eq_decide.mpr ?_
    rw [fO.1, e]
  unfold anB
  rw [eo]
  cases hd : d0B sa ow v b
  · rfl
  · simp only [Bool.true_and]
    obtain ⟨b1, b2⟩ := d0_at hb hd
    have := pl_iff (rw := rw) (oo := oo) hR hN hfa b1 ha
    unfold plA at this
    rw [if_pos b2, if_pos h1] at this
    -- order of ranks is the order of the keys
    have hl : rk2 c sa ow fa v b < rk2 c sa ow fa v a ↔ l2B fa a b = true := by
      constructor
      · intro h
        by_cases hab : b = a
        · subst hab; omega
        · rcases l2_tot (fa := fa) hab with g | g
          · exact g
          · have := rk2_lex (fa := fa) ha.1 (at_d0 ha h1) g; omega
      · exact rk2_lex hb hd
    have h2 : ahB ow fa sa 0 b a = true ↔ l2B fa a b = true := this.symm.trans hl
    cases h3 : ahB ow fa sa 0 b a <;> cases h4 : l2B fa a b <;> simp_all
theorem T_row (hR : rowsOK c sa ow fa oo rw) (hc : c ≤ 160) (hN : N ≤ 24) (hv : v < N) (how : ∀ j, j < c → vp_in (ow j) N) (hfa : ∀ j, j < c → vp_in (fa j) N) {k : Nat} (hk : k < 2 ^ 31) : plR c ow fa sa tk (nI v) 0 0 (nI k) = (if k < oo (v + 1) - oo v then atV c sa ow rw oo v k else -1) := by
  have hL := oo_L hR v
  have mt : ∀ a, a < c → (plB c ow fa sa tk (nI v) 0 0 (nI k) a = true ↔ (d0B sa ow v a = true ∧ rk2 c sa ow fa v a = k)) := by
    intro a ha
    have fO := in_nC (how a ha) (show N < 2 ^ 31 by omega)
    have e := nI_eq (a := nC ow a) (b := v) (by omega) (by omega)
    have eo : ofB ow fa sa tk (nI v) 0 0 a = d0B sa ow v a := by
      unfold ofB ownI d0B stB
      rw [if_pos rfl, if_pos rfl, Bool.and_comm]
      congr 1
      refine decide_eq_decide.mpr ?_
      rw [fO.1, e]
    have cnk : cN c (anB ow fa sa tk (nI v) 0 0 a) < 2 ^ 31 := by have := cN_le c (anB ow fa sa tk (nI v) 0 0 a); omega
    unfold plB
    rw [Bool.and_eq_true, eo, decide_eq_true_eq, nI_eq cnk hk]
    constructor
    · intro h
      obtain ⟨b1, b2⟩ := d0_at ha h.1
      exact ⟨h.1, by rw [← an0 (tk := tk) hR hN hv how hfa b1 b2]; exact h.2⟩
    · intro h
      obtain ⟨b1, b2⟩ := d0_at ha h.1
      exact ⟨h.1, by rw [an0 hR hN hv how hfa b1 b2]; exact h.2⟩
  unfold plR
  by_cases h : k < oo (v + 1) - oo v
  · rw [if_pos h]
    obtain ⟨a, a1, a2, a3⟩ := pl_onto (fa := fa) hR h
    obtain ⟨b1, b2⟩ := d0_at a1 a2
    have e := pl_at hR hc hN hv how b1 (fa := fa)
    rw [plA, if_pos b2, a3] at e
    rw [e]
    refine fsv_one (p := a) a1 ((mt a a1).mpr ⟨a2, a3⟩) (fun t ht hq => ?_)
    obtain ⟨q1, q2⟩ := (mt t ht).mp hq
    by_cases hab : t = a
    · exact hab
    · rcases l2_tot (fa := fa) hab with g | g
      · have := rk2_lex ht q1 g; omega
      · have := rk2_lex a1 a2 g; omega
  · rw [if_neg h]
    refine fsv_nil (fun a ha => ?_)
    cases hb : plB c ow fa sa tk (nI v) 0 0 (nI k) a
    · rfl
    · obtain ⟨q1, q2⟩ := (mt a ha).mp hb
      have := rk2_lt (fa := fa) ha q1
      omega
end Places
end
section
/-! ===== walks ===== -/
def itR (c : Nat) (sa ow fa : Nat → Int32) (oo : Nat → Nat) (v : Nat) (lp il : Int32) : Prop := (lp = -1 ∧ il = -1) ∨ ∃ a, atN c sa ow v a ∧ il = nI a ∧ lp = nI (plA c sa ow fa oo v a)
def qN (lp : Int32) : Nat := (lp + 1).toNatClampNeg
theorem m1_1 : (-1 : Int32) + 1 = nI 0 := by decide
section Walk
variable {c N : Nat} {sa tk ow fa rw : Nat → Int32} {oo : Nat → Nat} {v : Nat} {lp il : Int32}
theorem it_q (hR : rowsOK c sa ow fa oo rw) (hc : c ≤ 160) (h : itR c sa ow fa oo v lp il) : lp + 1 = nI (qN lp) ∧ qN lp ≤ plN c oo v ∧ (lp = -1 → qN lp = 0) := by
  have hb := (oo_ok hR hc v).2
  rcases h with ⟨h1, _⟩ | ⟨a, h1, _, h3⟩
  · have e : qN lp = 0 := by unfold qN; rw [h1, m1_1]; exact nI_clamp (by decide)
    rw [e, h1]
    exact ⟨m1_1, Nat.zero_le _, fun _ => rfl⟩
  · have hl := pl_lt hR h1
    have hp : plN c oo v ≤ 320 := by unfold plN; omega
    have e : qN lp = plA c sa ow fa oo v a + 1 := by unfold qN; rw [h3, nI_1]; exact nI_clamp (by omega)
    rw [e, h3, nI_1]
    exact ⟨rfl, by omega, fun h => absurd h (nI_ne_m1 (by omega))⟩
/-- what the model may tell next, in words of places -/
theorem cand_iff (hR : rowsOK c sa ow fa oo rw) (hc : c ≤ 160) (hN : N ≤ 24) (hv : v < N) (how : ∀ j, j < c → vp_in (ow j) N) (hfa : ∀ j, j < c → vp_in (fa j) N) (hsa : ∀ j, j < c → sa j = 0 ∨ sa j = 1 ∨ sa j = 2) (hI : itR c sa ow fa oo v lp il) {a : Nat} (ha : a < c) :
    ((ofB ow fa sa tk (nI v) 0 1 a && (decide (il = -1) || ahB ow fa sa 0 il.toNatClampNeg a)) = true ↔ (atN c sa ow v a ∧ lvB sa tk a = true ∧ qN lp ≤ plA c sa ow fa oo v a)) := by
  have hb := (oo_ok hR hc v).2
  rw [Bool.and_eq_true, of_iff hN hv how hsa ha, Bool.or_eq_true, decide_eq_true_eq]
  rcases hI with ⟨h1, h2⟩ | ⟨b, h1, h2, h3⟩
  · have e : qN lp = 0 := by unfold qN; rw [h1, m1_1]; exact nI_clamp (by decide)
    rw [e]
    exact ⟨fun h => ⟨h.1.1, h.1.2, Nat.zero_le _⟩, fun h => ⟨⟨h.1, h.2.1⟩, Or.inl h2⟩⟩
  · have hl := pl_lt hR h1
    have hp : plN c oo v ≤ 320 := by unfold plN; omega
    have e : qN lp = plA c sa ow fa oo v b + 1 := by unfold qN; rw [h3, nI_1]; exact nI_clamp (by omega)
    have e2 : il.toNatClampNeg = b := by rw [h2]; exact nI_clamp (by have := h1.1; omega)
    have e3 : ¬ il = -1 := by rw [h2]; exact nI_ne_m1 (by have := h1.1; omega)
    rw [e, e2]
    constructor
    · intro h
      exact ⟨h.1.1, h.1.2, (pl_iff hR hN hfa h1 h.1.1).mpr (h.2.resolve_left e3)⟩
    · intro h
      exact ⟨⟨h.1, h.2.1⟩, Or.inr ((pl_iff hR hN hfa h1 h.1).mp h.2.2)⟩
theorem nxV_min (hR : rowsOK c sa ow fa oo rw) (hc : c ≤ 160) (hN : N ≤ 24) (hv : v < N) (how : ∀ j, j < c → vp_in (ow j) N) (hfa : ∀ j, j < c → vp_in (fa j) N) (hsa : ∀ j, j < c → sa j = 0 ∨ sa j = 1 ∨ sa j = 2) (hI : itR c sa ow fa oo v lp il) : ∀ i, i ≤ c →
    (nxV ow fa sa tk (nI v) 0 il i = -1 ∧ ∀ j, j < i → ¬ (atN c sa ow v j ∧ lvB sa tk j = true ∧ qN lp ≤ plA c sa ow fa oo v j)) ∨
    ∃ b, b < i ∧ nxV ow fa sa tk (nI v) 0 il i = nI b ∧ (atN c sa ow v b ∧ lvB sa tk b = true ∧ qN lp ≤ plA c sa ow fa oo v b) ∧ ∀ j, j < i → (atN c sa ow v j ∧ lvB sa tk j = true ∧ qN lp ≤ plA c sa ow fa oo v j) → plA c sa ow fa oo v b ≤ plA c sa ow fa oo v j := by
  intro i
  induction i with
  | zero => intro _; exact Or.inl ⟨rfl, fun j h => by omega⟩
  | succ i ih =>
    intro hi
    have ic := cand_iff (tk := tk) hR hc hN hv how hfa hsa hI (show i < c by omega)
    simp only [nxV]
    rcases ih (by omega) with ⟨h1, h2⟩ | ⟨b, b1, b2, b3, b4⟩
    · by_cases hq : (ofB ow fa sa tk (nI v) 0 1 i && (decide (il = -1) || ahB ow fa sa 0 il.toNatClampNeg i)) = true
      · rw [if_pos (by unfold nxB; rw [hq, h1]; rfl)]
        refine Or.inr ⟨i, by omega, rfl, ic.mp hq, fun j hj hcj => ?_⟩
        by_cases hji : j = i
        · subst hji; exact Nat.le_refl _
        · exact absurd hcj (h2 j (by omega))
      · rw [if_neg (by unfold nxB; intro h; rw [Bool.and_eq_true] at h; exact hq h.1)]
        refine Or.inl ⟨h1, fun j hj => ?_⟩
        by_cases hji : j = i
        · subst hji; exact fun h => hq (ic.mpr h)
        · exact h2 j (by omega)
    · have eb : (nxV ow fa sa tk (nI v) 0 il i).toNatClampNeg = b := by rw [b2]; exact nI_clamp (by omega)
      have en : ¬ nxV ow fa sa tk (nI v) 0 il i = -1 := by rw [b2]; exact nI_ne_m1 (by omega)
      by_cases hq : (ofB ow fa sa tk (nI v) 0 1 i && (decide (il = -1) || ahB ow fa sa 0 il.toNatClampNeg i)) = true
      · have hci := ic.mp hq
        by_cases hah : ahB ow fa sa 0 i b = true
        · have hlt := (pl_iff hR hN hfa hci.1 b3.1).mpr hah
          rw [if_pos (by unfold nxB; rw [hq, eb, hah]; simp)]
          refine Or.inr ⟨i, by omega, rfl, hci, fun j hj hcj => ?_⟩
          by_cases hji : j = i
          · subst hji; exact Nat.le_refl _
          · have := b4 j (by omega) hcj; omega
        · have hge : ¬ plA c sa ow fa oo v i < plA c sa ow fa oo v b := fun h => hah ((pl_iff hR hN hfa hci.1 b3.1).mp h)
          rw [if_neg (by unfold nxB; rw [eb]; simp [en, hah])]
          refine Or.inr ⟨b, by omega, b2, b3, fun j hj hcj => ?_⟩
          by_cases hji : j = i
          · subst hji; omega
          · exact b4 j (by omega) hcj
      · rw [if_neg (by unfold nxB; intro h; rw [Bool.and_eq_true] at h; exact hq h.1)]
        refine Or.inr ⟨b, by omega, b2, b3, fun j hj hcj => ?_⟩
        by_cases hji : j = i
        · subst hji; exact absurd (ic.mpr hcj) hq
        · exact b4 j (by omega) hcj
theorem T_next (hR : rowsOK c sa ow fa oo rw) (hc : c ≤ 160) (hN : N ≤ 24) (hv : v < N) (how : ∀ j, j < c → vp_in (ow j) N) (hfa : ∀ j, j < c → vp_in (fa j) N) (hsa : ∀ j, j < c → sa j = 0 ∨ sa j = 1 ∨ sa j = 2) (hI : itR c sa ow fa oo v lp il) :
    (lpR c sa tk ow rw oo v (qN lp) = -1 ∧ nxV ow fa sa tk (nI v) 0 il c = -1) ∨
    ∃ a, atN c sa ow v a ∧ lpR c sa tk ow rw oo v (qN lp) = nI (plA c sa ow fa oo v a) ∧ nxV ow fa sa tk (nI v) 0 il c = nI a ∧ atV c sa ow rw oo v (plA c sa ow fa oo v a) = nI a := by
  obtain ⟨-, hq, -⟩ := it_q hR hc hI
  have hb := (oo_ok hR hc v).2
  rcases fsv_or (atL c sa tk ow rw oo v) nI (plN c oo v - qN lp) (qN lp) with ⟨h1, h2⟩ | ⟨p, p1, p2, p3, p4, p5⟩
  · refine Or.inl ⟨h1, ?_⟩
    rcases nxV_min (tk := tk) hR hc hN hv how hfa hsa hI c (Nat.le_refl c) with ⟨g1, _⟩ | ⟨b, b1, b2, b3, b4⟩
    · exact g1
    · have hl := pl_lt hR b3.1
      have := h2 _ b3.2.2 (by omega)
      rw [at_live hR hc hN hv how b3.1, b3.2.1] at this
      cases this
  · obtain ⟨a, a1, a2, a3, a4⟩ := pl_of (fa := fa) hR hc hN hv how (show p < plN c oo v by omega) p3
    refine Or.inr ⟨a, a1, by rw [a3]; exact p4, ?_, by rw [a3]; exact a4⟩
    rcases nxV_min (tk := tk) hR hc hN hv how hfa hsa hI c (Nat.le_refl c) with ⟨_, g2⟩ | ⟨b, b1, b2, b3, b4⟩
    · exact absurd ⟨a1, a2, by omega⟩ (g2 a a1.1)
    · have h1 := b4 a a1.1 ⟨a1, a2, by omega⟩
      have h2 : ¬ plA c sa ow fa oo v b < p := fun h => by
        have := p5 _ b3.2.2 h
        rw [at_live hR hc hN hv how b3.1, b3.2.1] at this
        cases this
      have : b = a := pl_inj hR b3.1 a1 (by omega)
      rw [b2, this]
end Walk
/-! ===== an arc more ===== -/
theorem upd_lt {f : Nat → Int32} {c j : Nat} {x : Int32} (h : j < c) : upd f c x j = f j := by simp [upd, show ¬ j = c by omega]
theorem nC_lt {f : Nat → Int32} {c j : Nat} {x : Int32} (h : j < c) : nC (upd f c x) j = nC f j := by unfold nC; rw [upd_lt h]
theorem st_lt {sa : Nat → Int32} {c j : Nat} {x : Int32} (h : j < c) : stB (upd sa c x) 1 j = stB sa 1 j := by unfold stB; rw [upd_lt h]
theorem st_at {sa : Nat → Int32} {c : Nat} : stB (upd sa c 0) 1 c = false := by simp [stB, upd]
theorem cN_more {c : Nat} {P Q : Nat → Bool} (h : ∀ t, t < c → P t = Q t) (hc : P c = false) : cN (c + 1) P = cN c Q := by
  simp only [cN, hc]; rw [cN_congr h]; simp
theorem rows_more {c : Nat} {sa ow fa rw : Nat → Int32} {oo : Nat → Nat} {x y : Int32} (hR : rowsOK c sa ow fa oo rw) : rowsOK (c + 1) (upd sa c 0) (upd ow c x) (upd fa c y) oo rw := by
  refine ⟨fun v => ?_, fun j hj hb => ?_⟩
  · rw [hR.1 v]
    symm
    exact cN_more (fun t ht => by simp only [boB, st_lt ht, nC_lt ht]) (by simp [boB, st_at])
  · have hjc : j < c := by
      rcases Nat.lt_or_ge j c with h | h
      · exact h
      · rw [show j = c by omega, st_at] at hb; cases hb
    rw [st_lt hjc] at hb
    have e : rnk (c + 1) (upd sa c 0) (upd ow c x) (upd fa c y) j = rnk c sa ow fa j := cN_more (fun t ht => by simp only [lxB, st_lt ht, nC_lt ht, nC_lt hjc]) (by simp [st_at])
    rw [e]; exact hR.2 j hjc hb
theorem it_more {c : Nat} {sa ow fa : Nat → Int32} {oo : Nat → Nat} {x y lp il : Int32} {v : Nat} (h : itR c sa ow fa oo v lp il) : itR (c + 1) (upd sa c 0) (upd ow c x) (upd fa c y) oo v lp il := by
  rcases h with h | ⟨a, h1, h2, h3⟩
  · exact Or.inl h
  · refine Or.inr ⟨a, ⟨by have := h1.1; omega, by rw [nC_lt h1.1]; exact h1.2.1, by rw [upd_lt h1.1]; exact h1.2.2⟩, h2, ?_⟩
    have e : rk2 (c + 1) (upd sa c 0) (upd ow c x) (upd fa c y) v a = rk2 c sa ow fa v a := cN_more (fun t ht => by simp only [d0B, l2B, st_lt ht, nC_lt ht, nC_lt h1.1]) (by simp [d0B, st_at])
    rw [h3]
    unfold plA
    rw [upd_lt h1.1, e]
/-! ===== the invariant of the law's loop ===== -/
def itI (N c : Nat) (fr tt sa op sl nd oi lp il : Nat → Int32) (oo ox : Nat → Nat) : Prop := ∀ t, t < 8 → ¬ op t = 0 → sl t = 0 → ∃ v, v < N ∧ nd t = nI v ∧ (oi t = 0 → itR c sa fr tt oo v (lp t) (il t)) ∧ (¬ oi t = 0 → itR c sa tt fr ox v (lp t) (il t))
def Inv (N c tn : Nat) (fr tt sa tk op sl nd oi lp il : Nat → Int32) (oo ox : Nat → Nat) (rw rx : Nat → Int32) : Prop :=
  (1 ≤ N ∧ N ≤ 24) ∧ c ≤ 160 ∧ tn ≤ 160 ∧ (∀ j, j < c → vp_in (fr j) N) ∧ (∀ j, j < c → vp_in (tt j) N) ∧ (∀ j, j < c → sa j = 0 ∨ sa j = 1 ∨ sa j = 2) ∧ (∀ j, j < c → sa j = 2 → ¬ tk j = 0) ∧ (∀ j, tk j = 0 ∨ tk j = 1) ∧ rowsOK c sa fr tt oo rw ∧ rowsOK c sa tt fr ox rx ∧ itI N c fr tt sa op sl nd oi lp il oo ox
section Steps
variable {N c tn : Nat} {fr tt sa tk op sl nd oi lp il tr tl go gt : Nat → Int32} {oo ox : Nat → Nat} {rw rx : Nat → Int32}
theorem E_arc (h : Inv N c tn fr tt sa tk op sl nd oi lp il oo ox rw rx) (x y : Int32) : Inv N (arC N c x y) tn (arF N c x y fr x) (arF N c x y tt y) (arF N c x y sa 0) (arF N c x y tk 0) op sl nd oi lp il oo ox rw rx := by
  obtain ⟨hN, hc, htn, hfr, htt, hsa, hlt, htk, hR, hR2, hI⟩ := h
  unfold arC arF apC apF
  by_cases hb : arB N x y = true
  · simp only [hb, if_true]
    by_cases h1 : c < 160
    · simp only [h1, if_true]
      simp only [arB, Bool.and_eq_true] at hb
      have hlast : ∀ {P : Nat → Prop}, (∀ j, j < c → P j) → P c → ∀ j, j < c + 1 → P j := fun h1 h2 j hj => by
        by_cases hjc : j = c
        · rw [hjc]; exact h2
        · exact h1 j (by omega)
      refine ⟨hN, by omega, htn, hlast (fun j hj => by rw [upd_lt hj]; exact hfr j hj) (by simp only [upd, if_true]; exact hasB_in hb.1 (Nat.le_refl N) (by omega)), hlast (fun j hj => by rw [upd_lt hj]; exact htt j hj) (by simp only [upd, if_true]; exact hasB_in hb.2 (Nat.le_refl N) (by omega)), hlast (fun j hj => by rw [upd_lt hj]; exact hsa j hj) (by simp [upd]), hlast (fun j hj => by rw [upd_lt hj, upd_lt hj]; exact hlt j hj) (by simp [upd]), fun j => ?_, rows_more hR, rows_more hR2, fun t ht h1 h2 => ?_⟩
      · simp only [upd]; split
        · exact Or.inl rfl
        · exact htk j
      · obtain ⟨v, v1, v2, v3, v4⟩ := hI t ht h1 h2
        exact ⟨v, v1, v2, fun h => it_more (v3 h), fun h => it_more (v4 h)⟩
    · simp only [h1, if_false]
      exact ⟨hN, hc, htn, hfr, htt, hsa, hlt, htk, hR, hR2, hI⟩
  · have hb : arB N x y = false := by simpa using hb
    simp only [hb, Bool.false_eq_true, if_false]
    exact ⟨hN, hc, htn, hfr, htt, hsa, hlt, htk, hR, hR2, hI⟩
theorem E_mark (h : Inv N c tn fr tt sa tk op sl nd oi lp il oo ox rw rx) (x z : Int32) (hz : z = 0 ∨ z = 1) : mkR c sa tk x z = mtR c sa tk x z ∧ mkF c sa tk x z = mtF c sa tk x z ∧ Inv N c tn fr tt sa (mtF c sa tk x z) op sl nd oi lp il oo ox rw rx := by
  obtain ⟨hN, hc, htn, hfr, htt, hsa, hlt, htk, hR, hR2, hI⟩ := h
  refine ⟨?_, ?_, hN, hc, htn, hfr, htt, hsa, fun j hj h2 => ?_, fun j => ?_, hR, hR2, hI⟩
  · unfold mkR mtR
    rcases hz with rfl | rfl <;> rcases htk x.toNatClampNeg with h | h <;> simp [h]
  · unfold mkF mtF
    by_cases hb : hasB c x = true
    · by_cases h2 : sa x.toNatClampNeg = 2
      · simp [hb, h2]
      · by_cases h3 : tk x.toNatClampNeg = z
        · simp only [hb, h2, h3, decide_true, decide_false, Bool.not_false, Bool.not_true, Bool.and_self, Bool.and_false, Bool.false_eq_true, if_true, if_false]
          funext j; simp only [upd]; split
          · rename_i e; rw [e]; exact h3
          · rfl
        · simp [hb, h2, h3]
    · simp [hb]
  · unfold mtF
    split
    · rename_i hq
      simp only [Bool.and_eq_true, Bool.not_eq_true', decide_eq_false_iff_not] at hq
      simp only [upd]
      by_cases e : j = x.toNatClampNeg
      · rw [e] at h2; exact absurd h2 hq.2
      · rw [if_neg e]; exact hlt j hj h2
    · exact hlt j hj h2
  · unfold mtF
    split
    · simp only [upd]; split
      · exact hz
      · exact htk j
    · exact htk j
theorem mv_sv (h : Inv N c tn fr tt sa tk op sl nd oi lp il oo ox rw rx) {j : Nat} (hj : j < c) : mv tk sa j = sv tk j := by
  obtain ⟨hN, hc, htn, hfr, htt, hsa, hlt, htk, hR, hR2, hI⟩ := h
  unfold mv sv
  by_cases h2 : sa j = 2
  · rw [if_pos h2, if_neg (hlt j hj h2)]
  · rw [if_neg h2]
theorem ms_st (h : Inv N c tn fr tt sa tk op sl nd oi lp il oo ox rw rx) : msS tk sa c = stS tk sa c := by
  funext j
  unfold msS pfx stS
  split
  · rename_i hj; exact mv_sv h hj
  · rfl
theorem E_cnt (h : Inv N c tn fr tt sa tk op sl nd oi lp il oo ox rw rx) : cN c (fun a => !(decide (sa a = sv tk a))) = cN c (mvB tk sa) :=
  cN_congr (fun t ht => by unfold mvB; rw [mv_sv h ht]; congr 1; exact decide_eq_decide.mpr ⟨Eq.symm, Eq.symm⟩)
theorem it_stale {op' nd' oi' lp' il' fr' tt' sa' : Nat → Int32} {c' : Nat} {oo' ox' : Nat → Nat} : itI N c' fr' tt' sa' op' (stl sl) nd' oi' lp' il' oo' ox' := fun t ht _ h2 => by
  simp [stl, pfx, ht] at h2
theorem E_merge (h : Inv N c tn fr tt sa tk op sl nd oi lp il oo ox rw rx) {oo' ox' : Nat → Nat} {rw' rx' : Nat → Int32} (h1 : rowsOK c (stS tk sa c) fr tt oo' rw') (h2 : rowsOK c (stS tk sa c) tt fr ox' rx') : Inv N c tn fr tt (stS tk sa c) tk op (stl sl) nd oi lp il oo' ox' rw' rx' := by
  obtain ⟨hN, hc, htn, hfr, htt, hsa, hlt, htk, hR, hR2, hI⟩ := h
  refine ⟨hN, hc, htn, hfr, htt, fun j hj => ?_, fun j hj h3 => ?_, htk, h1, h2, it_stale⟩
  · simp only [stS, hj, if_true, sv]; split
    · exact Or.inr (Or.inl rfl)
    · exact Or.inr (Or.inr rfl)
  · simp only [stS, hj, if_true, sv] at h3
    by_cases h0 : tk j = 0
    · rw [if_pos h0] at h3; exact absurd h3 (by decide)
    · exact h0
theorem pk_one (P : Nat → Bool) (v w f : Nat → Int32) : ∀ i : Nat, (∀ j, j < i → P j = true → v j = w j) → pkG P v f i = pkG P w f i := by
  intro i
  induction i with
  | zero => intro _; rfl
  | succ i ih =>
    intro h
    simp only [pkG]
    rw [ih (fun j hj => h j (by omega))]
    by_cases hp : P i = true
    · rw [if_pos hp, if_pos hp, h i (by omega) hp]
    · rw [if_neg hp, if_neg hp]
theorem pk_sa : pkG (nlB (stS tk sa c)) (stS tk sa c) (stS tk sa c) c = pkG (nlB (stS tk sa c)) (fun _ => 1) (stS tk sa c) c :=
  pk_one _ _ _ _ c (fun j hj hp => by
    simp only [nlB, stS, hj, if_true, sv, Bool.not_eq_true', decide_eq_false_iff_not] at hp ⊢
    by_cases h0 : tk j = 0
    · rw [if_pos h0]
    · rw [if_neg h0] at hp; exact absurd rfl hp)
theorem pkG_new {P : Nat → Bool} {v f : Nat → Int32} : ∀ {i j : Nat}, j < cN i P → ∃ t, t < i ∧ P t = true ∧ pkG P v f i j = v t := by
  intro i
  induction i with
  | zero => intro j h; simp [cN] at h
  | succ i ih =>
    intro j h
    simp only [cN] at h
    by_cases hp : P i = true
    · simp only [hp, if_true] at h
      simp only [pkG, hp, if_true, upd]
      by_cases hj : j = cN i P
      · rw [if_pos hj]; exact ⟨i, by omega, hp, rfl⟩
      · rw [if_neg hj]
        obtain ⟨t, t1, t2, t3⟩ := ih (show j < cN i P by omega)
        exact ⟨t, by omega, t2, t3⟩
    · have hp : P i = false := by simpa using hp
      simp only [hp, Bool.false_eq_true, if_false] at h
      simp only [pkG, hp, Bool.false_eq_true, if_false]
      obtain ⟨t, t1, t2, t3⟩ := ih (show j < cN i P by omega)
      exact ⟨t, by omega, t2, t3⟩
theorem E_pack (h : Inv N c tn fr tt sa tk op sl nd oi lp il oo ox rw rx) {S : Nat → Int32} (hS : S = stS tk sa c) {oo' ox' : Nat → Nat} {rw' rx' : Nat → Int32}
    (h1 : rowsOK (cN c (nlB S)) (pkG (nlB S) S S c) (pkG (nlB S) fr fr c) (pkG (nlB S) tt tt c) oo' rw') (h2 : rowsOK (cN c (nlB S)) (pkG (nlB S) S S c) (pkG (nlB S) tt tt c) (pkG (nlB S) fr fr c) ox' rx') :
    Inv N (cN c (nlB S)) c (pkG (nlB S) fr fr c) (pkG (nlB S) tt tt c) (pkG (nlB S) S S c) (pkG (nlB S) (fun _ => 0) tk c) op (stl sl) nd oi lp il oo' ox' rw' rx' := by
  obtain ⟨hN, hc, htn, hfr, htt, hsa, hlt, htk, hR, hR2, hI⟩ := h
  have one : ∀ j, j < cN c (nlB S) → pkG (nlB S) S S c j = 1 := fun j hj => by
    rw [hS] at hj ⊢
    rw [pk_sa]
    obtain ⟨t, _, _, t3⟩ := pkG_new (P := nlB (stS tk sa c)) (v := fun _ => (1 : Int32)) (f := stS tk sa c) hj
    exact t3
  refine ⟨hN, Nat.le_trans (cN_le c _) hc, hc, pkG_in hfr, pkG_in htt, fun j hj => Or.inr (Or.inl (one j hj)), fun j hj h3 => ?_, fun j => ?_, h1, h2, it_stale⟩
  · rw [one j hj] at h3; exact absurd h3 (by decide)
  · rcases Nat.lt_or_ge j c with hj | hj
    · exact pkG_all (Q := fun x => x = 0 ∨ x = 1) (fun _ _ => Or.inl rfl) (fun j _ => htk j) j hj
    · rw [pkG_ge hj]; exact htk j
theorem E_load (h : Inv N c tn fr tt sa tk op sl nd oi lp il oo ox rw rx) (x : Int32) {oo' ox' : Nat → Nat} {rw' rx' : Nat → Int32}
    (h1 : loB N go gt x = true → rowsOK (loC N c go gt x x.toNatClampNeg) (loF N go gt x sa (fun _ => 1)) (loF N go gt x fr (loV N go)) (loF N go gt x tt gt) oo' rw' ∧ rowsOK (loC N c go gt x x.toNatClampNeg) (loF N go gt x sa (fun _ => 1)) (loF N go gt x tt gt) (loF N go gt x fr (loV N go)) ox' rx')
    (h2 : loB N go gt x = false → (oo' = oo ∧ rw' = rw) ∧ ox' = ox ∧ rx' = rx) :
    Inv N (loC N c go gt x x.toNatClampNeg) (loC N tn go gt x 0) (loF N go gt x fr (loV N go)) (loF N go gt x tt gt) (loF N go gt x sa (fun _ => 1)) (loF N go gt x tk (fun _ => 0)) op (loS N go gt x sl) nd oi lp il oo' ox' rw' rx' := by
  obtain ⟨hN, hc, htn, hfr, htt, hsa, hlt, htk, hR, hR2, hI⟩ := h
  cases hb : loB N go gt x
  · obtain ⟨⟨rfl, rfl⟩, rfl, rfl⟩ := h2 hb
    simp only [loC, loF, loS, hb, Bool.false_eq_true, if_false]
    exact ⟨hN, hc, htn, hfr, htt, hsa, hlt, htk, hR, hR2, hI⟩
  · obtain ⟨g1, g2⟩ := h1 hb
    simp only [loC, loF, loS, hb, if_true] at g1 g2 ⊢
    simp only [loB, Bool.and_eq_true, Bool.not_eq_true', decide_eq_false_iff_not, decide_eq_true_eq] at hb
    obtain ⟨m, hm, hxm⟩ := nI_of2 (M := 160) (n := 160) (by decide) hb.1.1 hb.1.2
    have hxc : x.toNatClampNeg = m := by rw [hxm]; exact nI_clamp (by omega)
    rw [hxc] at hb g1 g2 ⊢
    obtain ⟨j1, j2⟩ := jdR_0 hN.2 hm hb.2
    refine ⟨hN, hm, by omega, lo_in1 hN.2 hN.1 hm (jgR_N (j1 N (Nat.le_refl N))), lo_in2 hN.2 j2, fun j hj => by rw [pfx_lt hj]; exact Or.inr (Or.inl rfl), fun j hj h3 => by rw [pfx_lt hj] at h3; exact absurd h3 (by decide), fun j => ?_, g1, g2, it_stale⟩
    unfold pfx; split
    · exact Or.inl rfl
    · exact htk j
theorem E_open (h : Inv N c tn fr tt sa tk op sl nd oi lp il oo ox rw rx) (x z : Int32) : Inv N c tn fr tt sa tk (opF N op x op 1) (opF N op x sl 0) (opF N op x nd x) (opF N op x oi z) (opF N op x lp (-1)) (opF N op x il (-1)) oo ox rw rx := by
  obtain ⟨hN, hc, htn, hfr, htt, hsa, hlt, htk, hR, hR2, hI⟩ := h
  refine ⟨hN, hc, htn, hfr, htt, hsa, hlt, htk, hR, hR2, ?_⟩
  unfold opF
  by_cases hb : (hasB N x && !(decide (opA op = -1))) = true
  · simp only [hb, if_true]
    simp only [Bool.and_eq_true, Bool.not_eq_true', decide_eq_false_iff_not] at hb
    intro t ht h1 h2
    by_cases e : t = (opA op).toNatClampNeg
    · simp only [upd, e, if_true]
      obtain ⟨v, v1, v2⟩ := hasB_of hb.1 (by omega)
      exact ⟨v, v1, v2, fun _ => Or.inl ⟨rfl, rfl⟩, fun _ => Or.inl ⟨rfl, rfl⟩⟩
    · simp only [upd, e, if_false] at h1 h2 ⊢
      exact hI t ht h1 h2
  · simp only [hb, if_false]
    exact hI
theorem E_close (h : Inv N c tn fr tt sa tk op sl nd oi lp il oo ox rw rx) (x : Int32) : Inv N c tn fr tt sa tk (clF op x) sl nd oi lp il oo ox rw rx := by
  obtain ⟨hN, hc, htn, hfr, htt, hsa, hlt, htk, hR, hR2, hI⟩ := h
  refine ⟨hN, hc, htn, hfr, htt, hsa, hlt, htk, hR, hR2, ?_⟩
  unfold clF
  split
  · intro t ht h1 h2
    simp only [upd] at h1
    split at h1
    · exact absurd rfl h1
    · exact hI t ht h1 h2
  · exact hI
end Steps
end

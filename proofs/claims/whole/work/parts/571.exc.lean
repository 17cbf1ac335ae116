/-! ===== a throw that leaves, a throw that is caught ===== -/
def LL9 : List Cond := vx_atS RX4 222 "java/lang/IndexOutOfBoundsException" ["java/lang/RuntimeException", "java/lang/Exception"]
def NG9 : List Cond := LL9.filter (fun w => !goodWord w)
def isCs : Cond → Bool
  | .castable _ _ => true
  | .declares _ => true
  | _ => false
theorem NG9_cs : ∀ w ∈ NG9, isCs w = true := by decide +kernel
def xPre (A : Nat → Prop) (U : State) : Prop := vx_Zq Bundle.tN "UNASSIGNED_STACK" Bundle.steD A U U.heap ∧ vx_Zq Bundle.tN "SUPPRESSED_SENTINEL" Bundle.listD A U U.heap ∧ (∃ sa, vk_R RX4 220 "no such node" sa U) ∧ (∃ sa, vk_R RX4 228 "no such place in the row" sa U) ∧ ∀ w ∈ NG9, va_Nw w U
theorem xPre.calling {A : Nat → Prop} {U : State} {g : JFrame} {mk : MethodId} {a : Array Value} (h : xPre A U) : xPre A (U.calling g mk a) := by
  obtain ⟨h1, h2, ⟨s1, h3⟩, ⟨s2, h4⟩, h5⟩ := h
  refine ⟨vx_Zq.moved (u := U) (U := U.calling g mk a) (Vm.Alike.refl U.vm) h1, vx_Zq.moved (u := U) (U := U.calling g mk a) (Vm.Alike.refl U.vm) h2, ⟨s1, vk_R.same rfl h3⟩, ⟨s2, vk_R.same rfl h4⟩, fun w hw => ?_⟩
  have hc := NG9_cs w hw
  have hn := h5 w hw
  cases w with
  | castable C T => exact va_Nw.same rfl rfl hn
  | declares x => exact va_Nw.same rfl rfl hn
  | _ => simp [isCs] at hc
theorem xPre.call {A A1 : Nat → Prop} {s U : State} {H : Heap} {locs : List Loc} (h : xPre A s) (hS : va_S A s.heap H locs) (hA : ∀ q, A1 q → A q) (hU : U.heap = H) (hW : s.WarmedH U.vm) : xPre A1 U := by
  obtain ⟨h1, h2, ⟨s1, h3⟩, ⟨s2, h4⟩, h5⟩ := h
  refine ⟨?_, ?_, ⟨s1, vk_R.warm hW h3⟩, ⟨s2, vk_R.warm hW h4⟩, fun w hw => ?_⟩
  · rw [hU]; exact vx_Zq.moved hW.alike (vx_Zq.narrow (vx_Zq.kept h1 (fun a ha hA => hS.2.1 a ha hA)) hA)
  · rw [hU]; exact vx_Zq.moved hW.alike (vx_Zq.narrow (vx_Zq.kept h2 (fun a ha hA => hS.2.1 a ha hA)) hA)
  · have hc := NG9_cs w hw
    have hn := h5 w hw
    cases w with
    | castable C T => exact va_Nw.warmC hW hn
    | declares x => exact va_Nw.warmD hW hn
    | _ => simp [isCs] at hc
abbrev IOOBE : String := "java/lang/IndexOutOfBoundsException"
def McX (l : Launch) (D : va_G) (tys : List (ClassId × FieldType)) (y : MethodName) (wy : List Cond) (fr lo : Nat) (av : List Value) (w : List va_W) (post : Int32 → Prop) (PX : Prop) : Prop :=
  ∀ sz : Nat, vx_Met l y wy (rC fr 1 6 lo) (va_Pc av (fun U => mPre D tys w sz U ∧ xPre (va_A w.flatten sz) U)) (va_Qi (fun r (_ : Unit) => post r) (fun _ t => mAt D tys (va_A w.flatten sz) w t) (va_A w.flatten sz)) (vx_X (fun _ : Unit => PX) (fun E _ t => E = IOOBE ∧ mAt D tys (va_A w.flatten sz) w t) (va_A w.flatten sz)) 1 6 (va_A w.flatten sz)
theorem q_ofX {l : Launch} {D : va_G} {tys : List (ClassId × FieldType)} {y : MethodName} {wy wy' : List Cond} {fr lo : Nat} {av : List Value} {w : List va_W} {post : Int32 → Prop} {PX : Prop} {cc : ByteArray} {maxL : Nat} {ret : Option FieldType}
    (hy : plainName y.cls = true) (hw : wy = Cond.code y cc maxL ret :: wy') (hlen : (lg_sl av).length ≤ maxL)
    (body : ∀ (p : Program) (e : Env) (s : State) (m : MethodId) (below : List Frame) (meth : Method) (c : Code), p.tables.exec = Jvm.exec → c.code = cc → c.maxLocals = maxL → meth.sig.returnType = ret → meth.locks = false → (∀ x ∈ c.exceptionTable.toList, False) → (∀ w ∈ wy, w.before av.toArray s = true) → s.vm.findClass y.cls = some m.cls →
      va_K D vwCl tys s → va_P D vwCl w.flatten s.heap → ∀ A : Nat → Prop, va_D A w.flatten → (∀ q : Nat, s.heap.size ≤ q → A q) → xPre A s → ∀ ls : Array Slot, lv_has ls maxL (lv_args 0 av) →
      W p l e (rC fr 1 6 lo) s m av.toArray below meth c s.heap [] 0 0 (vx_MQ below (va_Qi (fun r (_ : Unit) => post r) (fun _ t => mAt D tys A w t) A) (vx_X (fun _ : Unit => PX) (fun E _ t => E = IOOBE ∧ mAt D tys A w t) A) av.toArray s 1 6 A) (F0 m 0 ls [])) :
    McX l D tys y wy fr lo av w post PX := by
  intro sz
  refine vx_ofW (cc := cc) (maxL := maxL) (ret := ret) hy hw ?_
  intro p e s m args below meth c s₁ B hml hxt hv
  obtain ⟨rfl, ⟨hsz, hP, hK, hD0⟩, h9⟩ := hv
  subst hsz
  have hl := lv_entry av (n := maxL) hlen
  rw [lg_entry_eq]
  exact body p e s m below meth c B.exec B.bytes hml B.returns B.notSynchronized hxt (atoms_spec (ws := wy) B.pre) (findClass_of_methodNamed B.named) hK hP (va_A w.flatten s.heap.size) hD0.self (fun q h => Or.inr h) h9 _ hl
section QX
variable {p : Program} {l : Launch} {e : Env} {R : Room} {s : State} {m : MethodId} {args : Array Value} {below : List Frame} {meth : Method} {c : Code} {H : Heap} {locs : List Loc} {cells slots : Nat} {Q : State → Prop}
variable {cc : ByteArray} {pc : Nat} {ls : Array Slot} {rest : List Value} {D : va_G} {A : Nat → Prop} {a : Nat} {tys : List (ClassId × FieldType)} {Fs w : List va_W} {F F' : va_W} {H0 : Heap} {post : Int32 → Prop} {PX : Prop}
theorem q_iretX {v : Int32} {XC : String → State → State → Prop} (hexec : p.tables.exec = Jvm.exec) (hb : c.code = cc) (hr : meth.sig.returnType = some .int) (hlocks : meth.locks = false) (hK : va_K D vwCl tys s) (hP : va_P D vwCl Fs.flatten H) (hD : va_D A Fs.flatten) (hS : va_S A s.heap H locs) (hc : cells ≤ 1) (hs : slots ≤ 6) (hpost : post v) (hw : Fs = w)
    (hdg : decode cc pc = .ok (.ireturn, 1)) : W p l e R s m args below meth c H locs cells slots (vx_MQ below (va_Qi (fun r (_ : Unit) => post r) (fun _ t => mAt D tys A w t) A) XC args s 1 6 A) (F0 m pc ls [.int v]) := by
  subst hw
  refine vx_ret (W.widen (k := 1) (n := 6) hc hs ?_)
  exact W.iret hexec hb hr (fun t ht hW => ⟨⟨v, (), rfl, hpost, by rw [ht]; exact hP, va_K.moved hW.alike hK, hD⟩, hS.F ht⟩) hS.2.2 hdg
theorem mAt_more {t : State} (hK : va_K D vwCl tys s) (hP : va_P D vwCl w.flatten H) (hD : va_D A w.flatten) (hvm : s.vm.Alike t.vm) (hk : ∀ q : Nat, q < H.size → t.heap[q]? = H[q]?) : mAt D tys A w t := ⟨hP.kept (fun k q h => hk q.1 (hP k q h).lt), va_K.moved hvm hK, hD⟩
theorem q_throwX {Qc : Array Value → State → Outcome → State → Prop} {is sa : Nat} {text : String} {Ts : List Cond} (hexec : p.tables.exec = Jvm.exec) (hb : c.code = cc) (hl : l.stackTraces = false) (hown : s.vm.findClass RX4 = some m.cls) (hts : ∀ w ∈ Ts, w.before args s = true) (hg : ∀ w ∈ LL9.filter goodWord, w ∈ Ts) (hcl : Cond.classLink RX4 218 IOOBE ∈ Ts) (hin : Cond.initialized IOOBE ∈ Ts) (hX : xPre A s) (hstr : vk_R RX4 is text sa s)
    (hK : va_K D vwCl tys s) (hP : va_P D vwCl w.flatten H) (hD : va_D A w.flatten) (hS : va_S A s.heap H locs) (hsize : ls.size = c.maxLocals)
    (d0 : decode cc pc = .ok (.new 218, 3)) (d3 : decode cc (pc + 3) = .ok (.dup, 1)) (d4 : decode cc (pc + 4) = .ok (.ldc is, 2)) (d6 : decode cc (pc + 6) = .ok (.invokespecial 222, 3)) (d9 : decode cc (pc + 9) = .ok (.athrow, 1)) (hno : ∀ x ∈ c.exceptionTable.toList, False)
    (hRf : 5 < R.frames) (hRl : (rest.map fun v => v.category).sum + 82 ≤ R.locals) (hRc : cells + 1 ≤ R.cells) (hRs : slots + 6 ≤ R.slots) (hlocks : meth.locks = false) (hc : cells + 1 ≤ 1) (hs : slots + 6 ≤ 6) (hPX : PX) :
    W p l e R s m args below meth c H locs cells slots (vx_MQ below Qc (vx_X (fun _ : Unit => PX) (fun E _ t => E = IOOBE ∧ mAt D tys A w t) A) args s 1 6 A) (F0 m pc ls rest) := by
  obtain ⟨hU, hN, -, -, h5⟩ := hX
  refine vx_throwS hexec hb hl (own := RX4) (cls := IOOBE) (text := text) (names := ["java/lang/RuntimeException", "java/lang/Exception"]) (ik := 218) (is := is) (ic := 222) (sa := sa) (A := A) hown (by decide) (by decide) (hts _ hcl) (hts _ hin) hstr
    (vx_hat (L := LL9) (B := NG9) (fun w hw => hts w (hg w hw)) (fun w hw => hw) (fun w hw => ?_)) (by decide +kernel) hU hN hS hsize d0 d3 d4 d6 d9 (fun x hx => (hno x hx).elim) hRf hRl hRc hRs hlocks (fun t hvm hsz hk => ⟨(), hPX, ⟨rfl, mAt_more hK hP hD hvm hk⟩, ⟨Nat.le_trans hS.1 hsz, fun q h1 h2 => by rw [hk q (Nat.lt_of_lt_of_le h1 hS.1)]; exact hS.2.1 q h1 h2⟩⟩) hS.2.2 hc hs
  have hc := NG9_cs w hw
  have hn := h5 w hw
  cases w with
  | castable C T => exact va_Nw.use rfl hn
  | declares x => exact va_Nw.use rfl hn
  | _ => simp [isCs] at hc
theorem q_blindX {av : List Value} {sz : Nat} {A1 : Nat → Prop} : FrameBlind (va_Pc av (fun U => mPre D tys w sz U ∧ xPre A1 U)) := by
  intro a U g mk q
  obtain ⟨q0, ⟨q1, qP, qK, qD⟩, q9⟩ := q
  exact ⟨q0, ⟨q1, qP, va_K.moved (u := U) (U := U.calling g mk a) (Vm.Alike.refl U.vm) qK, qD⟩, q9.calling⟩
/-- a call of one that may throw, over the caller's whole world -/
theorem q_callX {Ts wy wy' : List Cond} {own C : String} {y : MethodName} {bytes : ByteArray} {maxL nL n index fr lo : Nat} {ret : Option FieldType} {b : Nat} {As st : List Value} {Gs : List va_W} {js : List Nat} {ci : Nat} {fs : List Value} {cq : vw_C} {G0 : va_W} {Gt : List va_W} (X : CallFix p m c cc nL s args Ts own) (hK : va_K D vwCl tys s) (hP : va_P D vwCl Fs.flatten H) (hD : va_D A Fs.flatten) (hS : va_S A s.heap H locs) (hA : ∀ q, s.heap.size ≤ q → A q) (hX : xPre A s)
    (hM : McX l D tys y wy fr lo (.ref b :: As) Gs post PX) (hC : js.map (fun j => Fs[j]?) = Gs.map some) (hnd : va_nd js = true) (hFs : fBack Fs js Gs = Fs)
    (hG : GoodIn Ts (wsV own index C y wy)) (hwy : wy = Cond.code y bytes maxL ret :: wy') (hd : y.cls = C ∧ y.cls ≠ "java/lang/invoke/MethodHandle" ∧ y.cls ≠ "java/lang/invoke/VarHandle" ∧ (parseMethodDescriptor y.desc).map (fun d => d.parameters.length) = some n) (hn : As.length = n) (hR : fr + 1 ≤ R.frames ∧ 8 + (maxL + 11) + lo ≤ R.locals)
    (hcl : vwCl[ci]? = some cq) (hCq : cq.1 = C) (hG0 : Gs = G0 :: Gt) (hrecv : G0[0]? = some (b, .inr (ci, fs))) (hls : ls.size = nL) (hrm : (rest.map fun v => v.category).sum ≤ 8) (hcells : cells + 1 ≤ R.cells ∧ slots + 6 ≤ R.slots) (hdg : decode cc pc = .ok (.invokevirtual index, 3)) (hst : st = As.reverse ++ .ref b :: rest)
    (kx : ∀ (ce : Cell) (q9 : Addr) (H1 : Heap) (locs1 : List Loc), PX → va_P D vwCl Fs.flatten H1 → va_D A Fs.flatten → va_S A s.heap H1 locs1 → H1[q9]? = some ce → ce.vm = .none → s.vm.findClass IOOBE = some ce.cls → vx_W p l e R s m args below meth c H1 locs1 (cells + 1) (slots + 6) Q (F0 m pc ls rest) q9)
    (kk : ∀ (r : Int32) (H1 : Heap) (locs1 : List Loc), post r → va_P D vwCl Fs.flatten H1 → va_D A Fs.flatten → va_S A s.heap H1 locs1 → W p l e R s m args below meth c H1 locs1 (cells + 1) (slots + 6) Q (F0 m (pc + 3) ls (.int r :: rest))) : W p l e R s m args below meth c H locs cells slots Q (F0 m pc ls st) := by
  subst hCq
  obtain ⟨hPc, hDc⟩ := fCalls hP hD js hnd hC
  have hFc : ∀ q, va_A Gs.flatten H.size q → A q := fun q h => by
    rcases h with ⟨k, e, h⟩ | h
    · exact hDc.2 k _ h
    · exact hA q (Nat.le_trans hS.1 h)
  refine vx_calli (vx_runV (As := As) (rest := rest) X (hM H.size) (cwV n X.2.2.2.2 hG hwy rfl rfl hd hR) ⟨q_blindX, va_recv hK (fP hPc (j := 0) (by rw [hG0]; rfl)) hcl hrecv, fun U hU hW => ⟨rfl, ⟨by rw [hU], by rw [hU]; exact hPc, va_K.moved hW.alike hK, hDc.weaken (fun _ _ _ _ => trivial)⟩, hX.call hS hFc hU hW⟩⟩ rfl hn hls hst (lv_room hrm) hdg hcells) hS (fun q _ h => hFc q h) hFc (fun q _ h => hFc q h)
    (fun E ce q9 u t H1 locs1 ht hvm hp hB hz1 hk1 hS1 hce hcv hcf => ?_) (fun r u t H1 locs1 ht hvm hw1 hB hz1 hk1 hS1 => ?_)
  · obtain ⟨rfl, hP1, -, -⟩ := hB
    rw [ht] at hP1
    obtain ⟨hP2, hD2⟩ := fBacks hP hD js hC rfl hFs hk1 hP1
    exact kx ce q9 H1 locs1 hp hP2 hD2 hS1 hce hcv hcf
  · obtain ⟨hP1, -, -⟩ := hB
    rw [ht] at hP1
    obtain ⟨hP2, hD2⟩ := fBacks hP hD js hC rfl hFs hk1 hP1
    exact kk r H1 locs1 hw1 hP2 hD2 hS1
/-- it goes on to the caller -/
theorem q_outX {Qc : Array Value → State → Outcome → State → Prop} {ce : Cell} {q : Addr} (hno : ∀ x ∈ c.exceptionTable.toList, False) (hlocks : meth.locks = false) (hK : va_K D vwCl tys s) (hP : va_P D vwCl w.flatten H) (hD : va_D A w.flatten) (hS : va_S A s.heap H locs) (hcell : H[q]? = some ce) (hv : ce.vm = .none) (hcl : s.vm.findClass IOOBE = some ce.cls) (hPX : PX) (hc : cells ≤ 1) (hs : slots ≤ 6) :
    vx_W p l e R s m args below meth c H locs cells slots (vx_MQ below Qc (vx_X (fun _ : Unit => PX) (fun E _ t => E = IOOBE ∧ mAt D tys A w t) A) args s 1 6 A) (F0 m pc ls rest) q :=
  vx_out (fun x hx => (hno x hx).elim) hlocks hcell hv hcl (fun t ht hvm => ⟨(), hPX, ⟨rfl, by rw [show mAt D tys A w t = (va_P D vwCl w.flatten t.heap ∧ va_K D vwCl tys t ∧ va_D A w.flatten) from rfl, ht]; exact ⟨hP, va_K.moved hvm hK, hD⟩⟩, hS.F ht⟩) hS.2.2 hc hs
/-- caught by the one row of the method's own table: the search, and the step that it makes -/
theorem q_catch {own name : String} {E : String} {ce : Cell} {q : Addr} (hown : s.vm.findClass own = some m.cls) (x : ExceptionTableEntry) (htab : c.exceptionTable.toList = [x]) (hx : covers x pc = true) (h0 : x.catchType ≠ 0)
    (hlink : (Cond.classLink own x.catchType name).before args s = true) (hcast : (Cond.castable E name).before args s = true) (hcell : H[q]? = some ce) (hv : ce.vm = .none) (hcl : s.vm.findClass E = some ce.cls)
    (kk : W p l e R s m args below meth c H locs cells slots Q (F0 m x.handlerPc ls [.ref q])) : vx_W p l e R s m args below meth c H locs cells slots Q (F0 m pc ls rest) q := by
  intro T hT X
  have hpl : e.platform.magicAccessors = ({} : Platform).magicAccessors := by rw [X.admits.platform]
  obtain ⟨c3, c4, hc3, hc4, hasg⟩ := Cond.castable_spec hcast
  cases Option.some.inj (hc3.symm.trans hcl)
  obtain ⟨c5, hc5, hcl5⟩ := Cond.classLink_spec hown hlink e.platform hpl
  cases Option.some.inj (hc4.symm.trans hc5)
  obtain ⟨k9, h9, -⟩ := Vm.findClass_spec hcl
  obtain ⟨k9', hk9', -⟩ := X.warmed.alike.2.2 _ _ h9
  obtain ⟨dk, _, _, kt, hd, _, _, _, _, hkt, _, hopen⟩ := hcl5.here
  obtain ⟨kt', hkt', -⟩ := X.warmed.alike.2.2 _ _ hkt
  have hl' := X.warmed.classLinks hcl5
  have hfit : T.vm.assignable ce.cls c4 = true := by rw [X.warmed.alike.assignable]; exact hasg
  have hobj : ∀ k, ce.vm ≠ .statics k := fun k => by rw [hv]; exact fun h => by cases h
  obtain ⟨vm', hvm'⟩ : ∃ v, v = T.vm.noted m.cls x.catchType (.cls c4) := ⟨_, rfl⟩
  have hfind : ∀ (Q9 : Handler → Pre) (E9 : CtlPost) (d : Bool) (acts : List Action), wp (findHandler (F0 m pc ls rest) q) Q9 E9 e d acts ((T.setTop (F0 m pc ls rest)).pushFrame (.throwing q)) ↔ Q9 (.found x.handlerPc) d acts (((T.setTop (F0 m pc ls rest)).pushFrame (.throwing q)).setVm vm') := by
    intro Q9 E9 d acts
    have hmm : ((T.setTop (F0 m pc ls rest)).pushFrame (.throwing q)).vm.method? (F0 m pc ls rest).method = some meth := X.method'
    rw [Jvm.W.findHandler_eq hmm X.code, htab]
    simp only [covers] at hx
    obtain ⟨ha, ht⟩ := (resolveClass_links e.toSetting hl').op (op := VmOp.resolveClass m.cls x.catchType) rfl
    have hal : T.vm.Alike (T.vm.noted m.cls x.catchType (.cls c4)) := (Vm.Alike.refl T.vm).noted _ _ _
    obtain ⟨k1', hk1', -⟩ := hal.2.2 _ _ hk9'
    obtain ⟨k2', hk2', -⟩ := hal.2.2 _ _ hkt'
    have hfit' : (T.vm.noted m.cls x.catchType (.cls c4)).assignable ce.cls c4 = true := by rw [hal.assignable]; exact hfit
    have hcell' : ((T.setTop (F0 m pc ls rest)).pushFrame (.throwing q)).heap[q]? = some ce := by
      show T.heap[q]? = some ce
      rw [hT]; exact hcell
    have hvm2 : ((T.setTop (F0 m pc ls rest)).pushFrame (.throwing q)).vm = T.vm := rfl
    subst hvm'
    simp [findHandler.go, hx, h0, ha, ht, hcell', hobj, hk1', hk2', hfit', VmOp.dirties, VmOp.acts, hvm2]
  have X' := X.noted (vm' := vm') (by rw [hvm']; exact X.warmed.noted hd hopen (State.rightAt_cls hcl5))
  obtain ⟨t, a1, b1⟩ := kk (T.setVm vm') hT X'
  refine ⟨t, ?_, b1⟩
  have h := X.here
  obtain ⟨hgo, hw⟩ := h.throwing (g := F0 m pc ls rest) q
  refine Steps.head hgo hw ?_
  have hst : (stepThrowing e ((T.setTop (F0 m pc ls rest)).pushFrame (.throwing q)) q (.java (F0 m pc ls rest) :: T.frames.tail)).Is ((((T.setTop (F0 m pc ls rest)).pushFrame (.throwing q)).setVm vm').setFrames (.java { F0 m pc ls rest with pc := x.handlerPc, stack := [.ref q] } :: T.frames.tail)) [] := by
    simp only [stepThrowing, searchFrame, vmDo]
    generalize hr : Sem.go _ e false [] _ = res
    obtain ⟨as, rfl, ha⟩ := Sem.eq_ok_of hr (a := Handler.found x.handlerPc) (s' := ((T.setTop (F0 m pc ls rest)).pushFrame (.throwing q)).setVm vm') (acts' := []) (by simp [hfind _ _ _ _])
    exact ⟨rfl, ha⟩
  rw [stepThread_throwing (frames_entered h.top _), hst.1]
  obtain ⟨g₀, hg⟩ := Option.isSome_iff_exists.mp h.top
  obtain ⟨r, hr⟩ := State.topJava?_eq_some.mp hg
  have hr' : (T.setVm vm').frames = .java g₀ :: r := hr
  rw [State.setTop_of_frames _ hr'] at a1
  have e1 : ∀ (u : State) (F G : List Frame), ((u.setFrames F).setVm vm').setFrames G = (u.setVm vm').setFrames G := fun u F G => by
    have h1 : (u.setFrames F).setVm vm' = (u.setVm vm').setFrames F := rfl
    rw [h1, State.setFrames_setFrames]
  rw [hr, List.tail_cons, State.pushFrame, e1, State.setTop_of_frames _ hr, e1]
  exact a1
end QX

/-! ===== makers: contracts that bring cells ===== -/
abbrev rC (fr mc ms lo : Nat) : Room := { frames := fr, cells := mc, slots := ms, locals := lo }
def McC {S : Type} (l : Launch) (D : va_G) (tys : List (ClassId × FieldType)) (y : MethodName) (wy : List Cond) (fr lo mc ms : Nat) (av : List Value) (w : List va_W) (N9 : State → Prop) (post : S → Prop) (w' : S → List va_W) : Prop :=
  ∀ sz : Nat, Met l y wy (rC fr mc ms lo) (va_Pc av (fun U => mPre D tys w sz U ∧ N9 U)) (va_Qv post (fun u t => mAt D tys (va_A w.flatten sz) (w' u) t) (va_A w.flatten sz)) mc ms (va_A w.flatten sz)
theorem q_ofC {l : Launch} {D : va_G} {tys : List (ClassId × FieldType)} {y : MethodName} {wy wy' : List Cond} {fr lo mc ms : Nat} {av : List Value} {w : List va_W} {N9 : State → Prop} {Qc : (Nat → Prop) → Array Value → State → Outcome → State → Prop} {cc : ByteArray} {maxL : Nat} {ret : Option FieldType}
    (hy : plainName y.cls = true) (hw : wy = Cond.code y cc maxL ret :: wy') (hlen : (lg_sl av).length ≤ maxL)
    (body : ∀ (p : Program) (e : Env) (s : State) (m : MethodId) (below : List Frame) (meth : Method) (c : Code), p.tables.exec = Jvm.exec → c.code = cc → c.maxLocals = maxL → meth.sig.returnType = ret → meth.locks = false → meth.name = y.name → (∀ w ∈ wy, w.before av.toArray s = true) → s.vm.findClass y.cls = some m.cls →
      va_K D vwCl tys s → va_P D vwCl w.flatten s.heap → N9 s → ∀ A : Nat → Prop, va_D A w.flatten → (∀ q : Nat, s.heap.size ≤ q → A q) → ∀ ls : Array Slot, lv_has ls maxL (lv_args 0 av) →
      W p l e (rC fr mc ms lo) s m av.toArray below meth c s.heap [] 0 0 (MQ below (Qc A) av.toArray s mc ms A) (F0 m 0 ls [])) :
    ∀ sz : Nat, Met l y wy (rC fr mc ms lo) (va_Pc av (fun U => mPre D tys w sz U ∧ N9 U)) (Qc (va_A w.flatten sz)) mc ms (va_A w.flatten sz) := by
  intro sz
  refine Met.ofW (cc := cc) (maxL := maxL) (ret := ret) hy hw ?_
  intro p e s m args below meth c s₁ B hml hv
  obtain ⟨rfl, ⟨hsz, hP, hK, hD0⟩, h9⟩ := hv
  subst hsz
  have hl := lv_entry av (n := maxL) hlen
  rw [lg_entry_eq]
  exact body p e s m below meth c B.exec B.bytes hml B.returns B.notSynchronized (name_of_methodNamed B.named B.method).1 (atoms_spec (ws := wy) B.pre) (findClass_of_methodNamed B.named) hK hP h9 (va_A w.flatten s.heap.size) hD0.self (fun q h => Or.inr h) _ hl
theorem fJoin {A0 : Nat → Prop} {D : va_G} {cl : List vw_C} {Ks Gs Gs' : List va_W} {H H1 : Heap} (hP : va_P D cl (Ks ++ Gs).flatten H) (hD : va_D A0 (Ks ++ Gs).flatten) (hk : ∀ q : Nat, q < H.size → ¬ va_A Gs.flatten H.size q → H1[q]? = H[q]?) (hF : ∀ q, va_A Gs.flatten H.size q → A0 q) (hP1 : va_P D cl Gs'.flatten H1) (hD1 : va_D (va_A Gs.flatten H.size) Gs'.flatten) : va_P D cl (Ks ++ Gs').flatten H1 ∧ va_D A0 (Ks ++ Gs').flatten := by
  rw [List.flatten_append] at hP hD ⊢
  have inL : ∀ (k : Nat) (q : Nat × va_E), Ks.flatten[k]? = some q → (Ks.flatten ++ Gs.flatten)[k]? = some q := fun k q h => by rw [List.getElem?_append_left (List.getElem?_eq_some_iff.mp h).1]; exact h
  have apart : ∀ (k : Nat) (q : Nat × va_E), Ks.flatten[k]? = some q → q.1 < H.size ∧ ¬ va_A Gs.flatten H.size q.1 := by
    intro k q h
    have hl := (hP k q (inL k q h)).lt
    refine ⟨hl, fun h2 => ?_⟩
    rcases h2 with ⟨k2, e, h2⟩ | h2
    · have h3 : (Ks.flatten ++ Gs.flatten)[Ks.flatten.length + k2]? = some (q.1, e) := by rw [List.getElem?_append_right (by omega)]; simpa using h2
      have := hD.1 _ _ _ _ (inL k q h) h3 rfl
      have := (List.getElem?_eq_some_iff.mp h).1
      omega
    · omega
  refine ⟨va_P.app (fun k q h => (hP k q (inL k q h)).kept (hk q.1 (apart k q h).1 (apart k q h).2)) hP1, va_D.app ⟨fun i j x y hx hy => hD.1 i j x y (inL i x hx) (inL j y hy), fun k q h => hD.2 k q (inL k q h)⟩ (hD1.weaken (fun k q _ h => hF q.1 h)) (fun i j x y hx hy hxy => ?_)⟩
  exact (apart i x hx).2 (by rw [hxy]; exact hD1.2 j y hy)
theorem kUniq {D : va_G} {cl : List vw_C} {tys : List (ClassId × FieldType)} {s : State} (hK : va_K D cl tys s) {i j : Nat} {c1 c2 : ClassId} {ty : FieldType} (hty : ty = .int ∨ ty = .boolean ∨ ty = .long) (h1 : tys[i]? = some (c1, ty)) (h2 : tys[j]? = some (c2, ty)) : c1 = c2 := by
  have a := (hK.2 i _ h1).2
  have b := (hK.2 j _ h2).2
  rcases hty with rfl | rfl | rfl <;> exact Option.some.inj (a.symm.trans b)
def wN (q ci : Nat) (fs : List Value) : va_W := [(q, .inr (ci, fs))]
section QN
variable {p : Program} {l : Launch} {e : Env} {R : Room} {s : State} {m : MethodId} {args : Array Value} {below : List Frame} {meth : Method} {c : Code} {H : Heap} {locs : List Loc} {cells slots : Nat} {Q : State → Prop}
variable {cc : ByteArray} {pc : Nat} {ls : Array Slot} {rest : List Value} {D : va_G} {A : Nat → Prop} {a : Nat} {tys : List (ClassId × FieldType)} {Fs Fs' : List va_W} {F F' : va_W} {H0 : Heap} {cI cZ cL : ClassId}
theorem q_newI (hexec : p.tables.exec = Jvm.exec) (hb : c.code = cc) (harr : (Cond.arrayClass .int).before args s = true) (hK : va_K D vwCl (tY cI cZ cL) s) (hP : va_P D vwCl Fs.flatten H) (hD : va_D A Fs.flatten) (hS : va_S A H0 H locs) (hA : ∀ q, H0.size ≤ q → A q) {n : Int32} {N' : Nat} (hn : ¬ n < 0) (hN : n.toNatClampNeg = N') (hb2 : N' ≤ 1000) (hcells : cells + 1 ≤ R.cells) (hslots : slots + N' ≤ R.slots) (hdg : decode cc pc = .ok (.newarray .int, 2))
    (kk : ∀ (q : Nat) (H1 : Heap), va_P D vwCl (Fs ++ [wT cI q N' (fun _ => 0)]).flatten H1 → va_D A (Fs ++ [wT cI q N' (fun _ => 0)]).flatten → va_S A H0 H1 locs → W p l e R s m args below meth c H1 locs (cells + 1) (slots + N') Q (F0 m (pc + 2) ls (.ref q :: rest))) : W p l e R s m args below meth c H locs cells slots Q (F0 m pc ls (.int n :: rest)) := by
  refine va_newa hexec hb (atype := .int) harr (ty := .int) rfl hK hP hD hS hA (N' := N') (a0 := (N', .inl (fun _ => 0))) (fun cA => rfl) hn hN (by show N' * 4 ≤ _; omega) hcells hslots hdg (fun q cA H1 hK1 hP1 hD1 hS1 => ?_)
  have e : cA = cI := kUniq hK1 (i := 3) (j := 0) (Or.inl rfl) rfl rfl
  subst e
  have kk := kk q H1
  rw [List.flatten_append] at kk
  exact kk (by simpa [wT] using hP1) (by simpa [wT] using hD1) hS1
theorem q_newZ (hexec : p.tables.exec = Jvm.exec) (hb : c.code = cc) (harr : (Cond.arrayClass .boolean).before args s = true) (hK : va_K D vwCl (tY cI cZ cL) s) (hP : va_P D vwCl Fs.flatten H) (hD : va_D A Fs.flatten) (hS : va_S A H0 H locs) (hA : ∀ q, H0.size ≤ q → A q) {n : Int32} {N' : Nat} (hn : ¬ n < 0) (hN : n.toNatClampNeg = N') (hb2 : N' ≤ 1000) (hcells : cells + 1 ≤ R.cells) (hslots : slots + N' ≤ R.slots) (hdg : decode cc pc = .ok (.newarray .boolean, 2))
    (kk : ∀ (q : Nat) (H1 : Heap), va_P D vwCl (Fs ++ [wT cZ q N' (fun _ => 0)]).flatten H1 → va_D A (Fs ++ [wT cZ q N' (fun _ => 0)]).flatten → va_S A H0 H1 locs → W p l e R s m args below meth c H1 locs (cells + 1) (slots + N') Q (F0 m (pc + 2) ls (.ref q :: rest))) : W p l e R s m args below meth c H locs cells slots Q (F0 m pc ls (.int n :: rest)) := by
  refine va_newa hexec hb (atype := .boolean) harr (ty := .boolean) rfl hK hP hD hS hA (N' := N') (a0 := (N', .inl (fun _ => 0))) (fun cA => rfl) hn hN (by show N' * 1 ≤ _; omega) hcells hslots hdg (fun q cA H1 hK1 hP1 hD1 hS1 => ?_)
  have e : cA = cZ := kUniq hK1 (i := 3) (j := 1) (Or.inr (Or.inl rfl)) rfl rfl
  subst e
  have kk := kk q H1
  rw [List.flatten_append] at kk
  exact kk (by simpa [wT] using hP1) (by simpa [wT] using hD1) hS1
theorem q_newL (hexec : p.tables.exec = Jvm.exec) (hb : c.code = cc) (harr : (Cond.arrayClass .long).before args s = true) (hK : va_K D vwCl (tY cI cZ cL) s) (hP : va_P D vwCl Fs.flatten H) (hD : va_D A Fs.flatten) (hS : va_S A H0 H locs) (hA : ∀ q, H0.size ≤ q → A q) {n : Int32} {N' : Nat} (hn : ¬ n < 0) (hN : n.toNatClampNeg = N') (hb2 : N' ≤ 1000) (hcells : cells + 1 ≤ R.cells) (hslots : slots + N' ≤ R.slots) (hdg : decode cc pc = .ok (.newarray .long, 2))
    (kk : ∀ (q : Nat) (H1 : Heap), va_P D vwCl (Fs ++ [wU cL q N' (fun _ => 0)]).flatten H1 → va_D A (Fs ++ [wU cL q N' (fun _ => 0)]).flatten → va_S A H0 H1 locs → W p l e R s m args below meth c H1 locs (cells + 1) (slots + N') Q (F0 m (pc + 2) ls (.ref q :: rest))) : W p l e R s m args below meth c H locs cells slots Q (F0 m pc ls (.int n :: rest)) := by
  refine va_newa hexec hb (atype := .long) harr (ty := .long) rfl hK hP hD hS hA (N' := N') (a0 := (N', .inr (.inl (fun _ => 0)))) (fun cA => rfl) hn hN (by show N' * 8 ≤ _; omega) hcells hslots hdg (fun q cA H1 hK1 hP1 hD1 hS1 => ?_)
  have e : cA = cL := kUniq hK1 (i := 3) (j := 2) (Or.inr (Or.inr rfl)) rfl rfl
  subst e
  have kk := kk q H1
  rw [List.flatten_append] at kk
  exact kk (by simpa [wU] using hP1) (by simpa [wU] using hD1) hS1
theorem q_newO (hexec : p.tables.exec = Jvm.exec) (hb : c.code = cc) {own C : String} {T : u_T} {N ci index : Nat} {Ts : List Cond} (hts : ∀ w ∈ Ts, w.before args s = true) (hin : ∀ w ∈ u_ws C T N, w ∈ Ts) (ty : Nat → FieldType) (hty : ∀ k, k < N → parseFieldDescriptor (T k).2.2.1 = some (ty k)) (hown : s.vm.findClass own = some m.cls) (hcl : (Cond.classLink own index C).before args s = true) (hinst : (Cond.instantiable C N).before args s = true) (hini : (Cond.initialized C).before args s = true)
    (hK : va_K D vwCl tys s) (hP : va_P D vwCl Fs.flatten H) (hD : va_D A Fs.flatten) (hS : va_S A H0 H locs) (hA : ∀ q, H0.size ≤ q → A q) (hc : vwCl[ci]? = some (C, T, N)) {fs : List Value} (hfs : ∀ j, j < N → defaultValue (ty j) = vp_V fs j) (hcells : cells + 1 ≤ R.cells) (hslots : slots + N ≤ R.slots) (hdg : decode cc pc = .ok (.new index, 3))
    (kk : ∀ (q : Nat) (H1 : Heap), va_P D vwCl (Fs ++ [wN q ci fs]).flatten H1 → va_D A (Fs ++ [wN q ci fs]).flatten → va_S A H0 H1 locs →
      W p l e R s m args below meth c H1 locs (cells + 1) (slots + N) Q (F0 m (pc + 3) ls (.ref q :: rest))) : W p l e R s m args below meth c H locs cells slots Q (F0 m pc ls rest) := by
  refine va_new hexec hb hts hin ty hty hown hcl hinst hini hK hP hD hS hA hc hfs hcells hslots hdg (fun q H1 hP1 hD1 hS1 => ?_)
  have kk := kk q H1
  rw [List.flatten_append] at kk
  exact kk (by simpa [wN] using hP1) (by simpa [wN] using hD1) hS1
theorem q_putF (hexec : p.tables.exec = Jvm.exec) (hb : c.code = cc) {own ref C : String} {T : u_T} {N ci index : Nat} {Ts : List Cond} (hts : ∀ w ∈ Ts, w.before args s = true) (hin : ∀ w ∈ u_ws C T N, w ∈ Ts) (ty0 : Nat → FieldType) (hty : ∀ k, k < N → parseFieldDescriptor (T k).2.2.1 = some (ty0 k)) (hnm : ∀ a, a < N → ∀ b, b < N → a ≠ b → (T a).2.1 ≠ (T b).2.1) (hown : s.vm.findClass own = some m.cls) (hK : va_K D vwCl tys s) (hP : va_P D vwCl Fs.flatten H) (hD : va_D A Fs.flatten) (hS0 : va_S A H0 H locs) (j q0 : Nat) (hj : Fs[j]? = some F) {fs : List Value} (he : F[q0]? = some (a, .inr (ci, fs))) (hc : vwCl[ci]? = some (C, T, N)) (k : Nat) (hk : k < N) (hlink : (Cond.fieldLink own index ref (T k).2.1 (T k).2.2.1).before args s = true) (hsame : ∀ x, s.fieldFound? (T k).1 (T k).2.1 (T k).2.2.1 = some x → s.fieldFound? ref (T k).2.1 (T k).2.2.1 = some x) (hfin : (T k).2.2.2 = true) (hin2 : meth.name = "<init>") (hdecl : (T k).1 = own) {ty : FieldType} {v : Value} (hd : parseFieldDescriptor (T k).2.2.1 = some ty) (hn : narrow ty v = v) (hfit : fits ty v = true) (hl : k < fs.length)
    (hdg : decode cc pc = .ok (.putfield index, 3)) (hset : F.set q0 (a, .inr (ci, fs.set k v)) = F') (hF : Fs.set j F' = Fs') (kk : ∀ (H1 : Heap) (locs1 : List Loc), va_P D vwCl Fs'.flatten H1 → va_D A Fs'.flatten → va_S A H0 H1 locs1 → W p l e R s m args below meth c H1 locs1 cells slots Q (F0 m (pc + 3) ls rest)) : W p l e R s m args below meth c H locs cells slots Q (F0 m pc ls (v :: .ref a :: rest)) := by
  subst hset; subst hF
  have kk9 := kk
  rw [← fSet Fs j F q0 _ hj (fLt he)] at kk9
  exact va_putF hexec hb hts hin ty0 hty hnm hown hK hP hD hS0 _ (fGet Fs j F q0 _ hj he) hc k hk hlink hsame hfin hin2 hdecl hd hn hfit hl hdg kk9
theorem q_vretC {S : Type} {post : S → Prop} {w' : S → List va_W} {mc ms : Nat} (u : S) (hexec : p.tables.exec = Jvm.exec) (hb : c.code = cc) (hr : meth.sig.returnType = none) (hlocks : meth.locks = false) (hK : va_K D vwCl tys s) (hP : va_P D vwCl Fs.flatten H) (hD : va_D A Fs.flatten) (hS : va_S A s.heap H locs) (hmc : cells ≤ mc) (hms : slots ≤ ms) (hpost : post u) (hw : Fs = w' u)
    (hdg : decode cc pc = .ok (.return_, 1)) : W p l e R s m args below meth c H locs cells slots (MQ below (va_Qv post (fun u t => mAt D tys A (w' u) t) A) args s mc ms A) (F0 m pc ls []) := by
  subst hw
  refine W.widen (k := mc) (n := ms) hmc hms ?_
  exact W.vret hexec hb hr (fun t ht hW => ⟨⟨u, rfl, hpost, by rw [ht]; exact hP, va_K.moved hW.alike hK, hD⟩, hS.F ht⟩) hS.2.2 hdg
section CallC
variable {Ts wy wy' : List Cond} {own C host : String} {y : MethodName} {bytes : ByteArray} {maxL nL n index fr lo mc ms : Nat} {Ks Gs : List va_W} {b : Nat} {As st : List Value} {N9 : State → Prop} {S : Type} {post : S → Prop} {w' : S → List va_W}
theorem q_callCore {aa : Array Value} (hr : va_Run p l e R s m args below meth c H locs cells slots mc ms (F0 m pc ls st) rest (va_Qv post (fun u t => mAt D tys (va_A Gs.flatten H.size) (w' u) t) (va_A Gs.flatten H.size) aa) (va_A Gs.flatten H.size)) (hP : va_P D vwCl (Ks ++ Gs).flatten H) (hD : va_D A (Ks ++ Gs).flatten) (hS : va_S A H0 H locs) (hA : ∀ q, H0.size ≤ q → A q)
    (kk : ∀ (u : S) (H1 : Heap) (locs1 : List Loc), post u → va_P D vwCl (Ks ++ w' u).flatten H1 → va_D A (Ks ++ w' u).flatten → va_S A H0 H1 locs1 → W p l e R s m args below meth c H1 locs1 (cells + mc) (slots + ms) Q (F0 m (pc + 3) ls rest)) : W p l e R s m args below meth c H locs cells slots Q (F0 m pc ls st) := by
  have hFc : ∀ q, va_A Gs.flatten H.size q → A q := fun q h => by
    rcases h with ⟨k, e, h⟩ | h
    · have h3 : (Ks ++ Gs).flatten[Ks.flatten.length + k]? = some (q, e) := by rw [List.flatten_append, List.getElem?_append_right (by omega)]; simpa using h
      exact hD.2 _ _ h3
    · exact hA q (Nat.le_trans hS.1 h)
  refine va_callv hr hS (fun q _ h => hFc q h) hFc (fun u t H1 locs1 ht hvm hw1 hB hz1 hk1 hS1 => ?_)
  obtain ⟨hP1, -, hD1⟩ := hB
  rw [ht] at hP1
  obtain ⟨hP2, hD2⟩ := fJoin hP hD hk1 hFc hP1 hD1
  exact kk u H1 locs1 hw1 hP2 hD2 hS1
theorem q_preC (hK : va_K D vwCl tys s) (hP : va_P D vwCl (Ks ++ Gs).flatten H) (hD : va_D A (Ks ++ Gs).flatten) (hbl : ∀ (U : State) (g : JFrame) (mk : MethodId) (a : Array Value), N9 U → N9 (U.calling g mk a)) (h9 : ∀ U : State, s.WarmedH U.vm → N9 U) {av : List Value} : PreS s H (va_Pc av (fun U => mPre D tys Gs H.size U ∧ N9 U)) av := by
  have hPc : va_P D vwCl Gs.flatten H := fun k q h => hP (Ks.flatten.length + k) q (by rw [List.flatten_append, List.getElem?_append_right (by omega)]; simpa using h)
  have hDc : va_D (fun _ => True) Gs.flatten := ⟨fun i j x y hx hy hxy => by
    have := hD.1 (Ks.flatten.length + i) (Ks.flatten.length + j) x y (by rw [List.flatten_append, List.getElem?_append_right (by omega)]; simpa using hx) (by rw [List.flatten_append, List.getElem?_append_right (by omega)]; simpa using hy) hxy
    omega, fun _ _ _ => trivial⟩
  refine ⟨fun a U g mk q => ?_, fun U hU hW => ⟨rfl, ⟨by rw [hU], by rw [hU]; exact hPc, va_K.moved hW.alike hK, hDc⟩, h9 U hW⟩⟩
  obtain ⟨q0, ⟨q1, qP, qK, qD⟩, q9⟩ := q
  exact ⟨q0, ⟨q1, qP, va_K.moved (u := U) (U := U.calling g mk a) (Vm.Alike.refl U.vm) qK, qD⟩, hbl U g mk a q9⟩
theorem q_callC (X : CallFix p m c cc nL s args Ts own) (hK : va_K D vwCl tys s) (hP : va_P D vwCl Fs.flatten H) (hD : va_D A Fs.flatten) (hS : va_S A H0 H locs) (hA : ∀ q, H0.size ≤ q → A q) (Ks : List va_W) (hFs : Fs = Ks ++ Gs)
    (hM : McC l D tys y wy fr lo mc ms (.ref b :: As) Gs N9 post w') (hbl : ∀ (U : State) (g : JFrame) (mk : MethodId) (a : Array Value), N9 U → N9 (U.calling g mk a)) (h9 : ∀ U : State, s.WarmedH U.vm → N9 U)
    (hG : GoodIn Ts wy) (hwy : wy = Cond.code y bytes maxL none :: wy') (hini : (Cond.initialized y.cls).before args s = true) (hl : (Cond.methodLink own index y).before args s = true) (hin : (Cond.instanceMethod y).before args s = true) (hy1 : y.name = "<init>") (hd : y.cls ≠ "java/lang/invoke/MethodHandle" ∧ y.cls ≠ "java/lang/invoke/VarHandle" ∧ (parseMethodDescriptor y.desc).map (fun d => d.parameters.length) = some n) (hn : As.length = n) (hR : fr + 1 ≤ R.frames ∧ 8 + (maxL + 11) + lo ≤ R.locals)
    (hls : ls.size = nL) (hrm : (rest.map fun v => v.category).sum ≤ 8) (hcells : cells + mc ≤ R.cells ∧ slots + ms ≤ R.slots) (hdg : decode cc pc = .ok (.invokespecial index, 3)) (hst : st = As.reverse ++ .ref b :: rest)
    (kk : ∀ (u : S) (H1 : Heap) (locs1 : List Loc), post u → va_P D vwCl (Ks ++ w' u).flatten H1 → va_D A (Ks ++ w' u).flatten → va_S A H0 H1 locs1 → W p l e R s m args below meth c H1 locs1 (cells + mc) (slots + ms) Q (F0 m (pc + 3) ls rest)) : W p l e R s m args below meth c H locs cells slots Q (F0 m pc ls st) := by
  subst hFs
  exact q_callCore (va_runI (As := As) (rest := rest) X (hM H.size) (cwI n X.2.2.2.2 hG hwy rfl rfl hini hl hin hy1 hd hR) (q_preC hK hP hD hbl h9) rfl hn hls hst (lv_room hrm) hdg hcells) hP hD hS hA kk
theorem q_callN (X : CallFix p m c cc nL s args Ts own) (hK : va_K D vwCl tys s) (hP : va_P D vwCl Fs.flatten H) (hD : va_D A Fs.flatten) (hS : va_S A H0 H locs) (hA : ∀ q, H0.size ≤ q → A q) (Ks : List va_W) (hFs : Fs = Ks ++ Gs)
    (hM : McC l D tys y wy fr lo mc ms (.ref b :: As) Gs N9 post w') (hbl : ∀ (U : State) (g : JFrame) (mk : MethodId) (a : Array Value), N9 U → N9 (U.calling g mk a)) (h9 : ∀ U : State, s.WarmedH U.vm → N9 U)
    (hG : GoodIn Ts wy) (hwy : wy = Cond.code y bytes maxL none :: wy') (hini : (Cond.initialized y.cls).before args s = true) (hl : va_Nw (.methodLinkNest own index y host) s) (hin : (Cond.instanceMethod y).before args s = true) (hy1 : y.name = "<init>") (hd : y.cls ≠ "java/lang/invoke/MethodHandle" ∧ y.cls ≠ "java/lang/invoke/VarHandle" ∧ (parseMethodDescriptor y.desc).map (fun d => d.parameters.length) = some n) (hn : As.length = n) (hR : fr + 1 ≤ R.frames ∧ 8 + (maxL + 11) + lo ≤ R.locals)
    (hls : ls.size = nL) (hrm : (rest.map fun v => v.category).sum ≤ 8) (hcells : cells + mc ≤ R.cells ∧ slots + ms ≤ R.slots) (hdg : decode cc pc = .ok (.invokespecial index, 3)) (hst : st = As.reverse ++ .ref b :: rest)
    (kk : ∀ (u : S) (H1 : Heap) (locs1 : List Loc), post u → va_P D vwCl (Ks ++ w' u).flatten H1 → va_D A (Ks ++ w' u).flatten → va_S A H0 H1 locs1 → W p l e R s m args below meth c H1 locs1 (cells + mc) (slots + ms) Q (F0 m (pc + 3) ls rest)) : W p l e R s m args below meth c H locs cells slots Q (F0 m pc ls st) := by
  subst hFs
  exact q_callCore (va_runIN (As := As) (rest := rest) X (hM H.size) ⟨va_cnB n X.2.2.2.2 hG hwy rfl rfl hl hini hd hR, hy1, hin⟩ (q_preC hK hP hD hbl h9) rfl hn hls hst (lv_room hrm) hdg hcells) hP hD hS hA kk
end CallC
end QN
/-- addresses in a row -/
def adr (l : List Nat) (k : Nat) : Nat := l.getD k 0
def ndN (x : Int32) : Nat := if x < 1 then 1 else if 24 < x then 24 else x.toNatClampNeg
theorem nd_nI {x : Int32} (h1 : ¬ x < 1) : x = nI x.toNatClampNeg ∧ 1 ≤ x.toNatClampNeg := by
  have h0 : ¬ x < 0 := fun h => h1 (by rw [Int32.lt_iff_toInt_lt] at *; have : (1 : Int32).toInt = 1 := by decide
                                       have : (0 : Int32).toInt = 0 := by decide
                                       omega)
  obtain ⟨j, hj, e⟩ := nI_of h0
  have e2 : x.toNatClampNeg = j := by rw [e]; exact nI_clamp hj
  rw [e2]
  refine ⟨e, ?_⟩
  rcases Nat.lt_or_ge j 1 with h | h
  · exfalso; apply h1; rw [e, show j = 0 by omega]; decide
  · exact h
theorem nd_le {x : Int32} : 1 ≤ ndN x ∧ ndN x ≤ 24 := by
  unfold ndN
  split
  · omega
  · rename_i h1
    obtain ⟨e, h2⟩ := nd_nI h1
    split
    · omega
    · rename_i h3
      refine ⟨h2, ?_⟩
      rcases Nat.lt_or_ge 24 x.toNatClampNeg with h | h
      · exfalso; apply h3; rw [e]
        have hb : x.toNatClampNeg < 2 ^ 31 := by
          have := Int32.toInt_lt x
          have : x.toNatClampNeg = x.toInt.toNat := rfl
          omega
        exact nI_lt h hb
      · exact h
theorem nd_max {x : Int32} : (if (1 : Int32) < (if x < 24 then x else 24) then (if x < 24 then x else 24) else 1) = nI (ndN x) := by
  have t1 : (1 : Int32).toInt = 1 := by decide
  have t24 : (24 : Int32).toInt = 24 := by decide
  unfold ndN
  by_cases h1 : x < 1
  · have a : ¬ (1 : Int32) < x := by rw [Int32.lt_iff_toInt_lt] at *; omega
    have b : x < 24 := by rw [Int32.lt_iff_toInt_lt] at *; omega
    simp only [if_pos b, if_neg a, if_pos h1]; rfl
  · obtain ⟨e, h2⟩ := nd_nI h1
    by_cases h2 : 24 < x
    · have b : ¬ x < 24 := by rw [Int32.lt_iff_toInt_lt] at *; omega
      simp only [if_neg b, if_neg h1, if_pos h2]; rfl
    · simp only [if_neg h1, if_neg h2]
      rw [← e]
      by_cases b : x < 24
      · simp only [if_pos b]
        by_cases a : (1 : Int32) < x
        · rw [if_pos a]
        · rw [if_neg a]
          apply Int32.toInt_inj.mp
          rw [Int32.lt_iff_toInt_lt] at *; omega
      · simp only [if_neg b]
        rw [if_pos (by decide)]
        apply Int32.toInt_inj.mp
        rw [Int32.lt_iff_toInt_lt] at *; omega

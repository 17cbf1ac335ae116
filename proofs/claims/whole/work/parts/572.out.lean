def okB (N : Nat) (oo : Nat → Nat) (x k : Int32) : Bool := hasB N x && (!(decide (k < 0)) && decide (k < nI (oo (x.toNatClampNeg + 1) - oo x.toNatClampNeg)))
def McW {S : Type} (l : Launch) (D : va_G) (tys : List (ClassId × FieldType)) (y : MethodName) (wy : List Cond) (fr lo : Nat) (av : List Value) (w : List va_W) (post : Int32 → S → Prop) (w' : S → List va_W) : Prop :=
  ∀ sz : Nat, vx_Met l y wy (rC fr 1 6 lo) (va_Pc av (fun U => mPre D tys w sz U ∧ xPre (va_A w.flatten sz) U)) (va_Qi post (fun u t => mAt D tys (va_A w.flatten sz) (w' u) t) (va_A w.flatten sz)) (vx_X (fun _ : Unit => False) (fun _ _ _ => True) (va_A w.flatten sz)) 1 6 (va_A w.flatten sz)
theorem q_ofWt {S : Type} {l : Launch} {D : va_G} {tys : List (ClassId × FieldType)} {y : MethodName} {wy wy' : List Cond} {fr lo : Nat} {av : List Value} {w : List va_W} {post : Int32 → S → Prop} {w' : S → List va_W} {cc : ByteArray} {maxL : Nat} {ret : Option FieldType} {hh : List (Nat × Nat × Nat × Nat)}
    (hy : plainName y.cls = true) (hw : wy = Cond.codeWith y cc maxL ret hh :: wy') (hlen : (lg_sl av).length ≤ maxL)
    (body : ∀ (p : Program) (e : Env) (s : State) (m : MethodId) (below : List Frame) (meth : Method) (c : Code), p.tables.exec = Jvm.exec → c.code = cc → c.maxLocals = maxL → meth.sig.returnType = ret → meth.locks = false → c.exceptionTable.toList = tableOf hh → (∀ w ∈ wy, w.before av.toArray s = true) → s.vm.findClass y.cls = some m.cls →
      va_K D vwCl tys s → va_P D vwCl w.flatten s.heap → ∀ A : Nat → Prop, va_D A w.flatten → (∀ q : Nat, s.heap.size ≤ q → A q) → xPre A s → ∀ ls : Array Slot, lv_has ls maxL (lv_args 0 av) →
      W p l e (rC fr 1 6 lo) s m av.toArray below meth c s.heap [] 0 0 (vx_MQ below (va_Qi post (fun u t => mAt D tys A (w' u) t) A) (vx_X (fun _ : Unit => False) (fun _ _ _ => True) A) av.toArray s 1 6 A) (F0 m 0 ls [])) :
    McW l D tys y wy fr lo av w post w' := by
  intro sz
  refine vx_ofWH (cc := cc) (maxL := maxL) (ret := ret) (hh := hh) hy hw ?_
  intro p e s m args below meth c s₁ B hml hv
  obtain ⟨rfl, ⟨hsz, hP, hK, hD0⟩, h9⟩ := hv
  subst hsz
  have hl := lv_entry av (n := maxL) hlen
  have hts := atoms_spec (ws := wy) B.pre
  have htab := vx_table (x := y) B (hts (Cond.codeWith y cc maxL ret hh) (by rw [hw]; exact List.mem_cons_self))
  rw [lg_entry_eq]
  exact body p e s m below meth c B.exec B.bytes hml B.returns B.notSynchronized htab hts (findClass_of_methodNamed B.named) hK hP (va_A w.flatten s.heap.size) hD0.self (fun q h => Or.inr h) h9 _ hl
section QW
variable {p : Program} {l : Launch} {e : Env} {R : Room} {s : State} {m : MethodId} {args : Array Value} {below : List Frame} {meth : Method} {c : Code} {H : Heap} {locs : List Loc} {cells slots : Nat} {Q : State → Prop}
variable {cc : ByteArray} {pc : Nat} {ls : Array Slot} {rest : List Value} {D : va_G} {A : Nat → Prop} {a : Nat} {tys : List (ClassId × FieldType)} {Fs w : List va_W}
theorem q_iretW {S : Type} {post : Int32 → S → Prop} {w' : S → List va_W} {v : Int32} {XC : String → State → State → Prop} (u : S) (hexec : p.tables.exec = Jvm.exec) (hb : c.code = cc) (hr : meth.sig.returnType = some .int) (hlocks : meth.locks = false) (hK : va_K D vwCl tys s) (hP : va_P D vwCl Fs.flatten H) (hD : va_D A Fs.flatten) (hS : va_S A s.heap H locs) (hc : cells ≤ 1) (hs : slots ≤ 6) (hpost : post v u) (hw : Fs = w' u)
    (hdg : decode cc pc = .ok (.ireturn, 1)) : W p l e R s m args below meth c H locs cells slots (vx_MQ below (va_Qi post (fun u t => mAt D tys A (w' u) t) A) XC args s 1 6 A) (F0 m pc ls [.int v]) := by
  subst hw
  refine vx_ret (W.widen (k := 1) (n := 6) hc hs ?_)
  exact W.iret hexec hb hr (fun t ht hW => ⟨⟨v, u, rfl, hpost, by rw [ht]; exact hP, va_K.moved hW.alike hK, hD⟩, hS.F ht⟩) hS.2.2 hdg
theorem q_callW {S : Type} {post : Int32 → S → Prop} {w' : S → List va_W} {Ts wy wy' : List Cond} {own : String} {y : MethodName} {bytes : ByteArray} {maxL nL n index fr lo : Nat} {ret : Option FieldType} {hh : List (Nat × Nat × Nat × Nat)} {As st : List Value} {Gs : List va_W} {js : List Nat} (X : CallFix p m c cc nL s args Ts own) (hK : va_K D vwCl tys s) (hP : va_P D vwCl Fs.flatten H) (hD : va_D A Fs.flatten) (hS : va_S A s.heap H locs) (hA : ∀ q, s.heap.size ≤ q → A q) (hX : xPre A s)
    (hM : McW l D tys y wy fr lo As Gs post w') (hC : js.map (fun j => Fs[j]?) = Gs.map some) (hnd : va_nd js = true) (hw : ∀ u, (w' u).map (List.map Prod.fst) = Gs.map (List.map Prod.fst)) (Fs' : S → List va_W) (hFs : ∀ u, fBack Fs js (w' u) = Fs' u)
    (hG : GoodIn Ts (va_wsS own index y wy)) (hwy : wy = Cond.codeWith y bytes maxL ret hh :: wy') (hd : y.cls ≠ "java/lang/invoke/MethodHandle" ∧ y.cls ≠ "java/lang/invoke/VarHandle" ∧ (parseMethodDescriptor y.desc).map (fun d => d.parameters.length) = some n) (hn : As.length = n) (hR : fr + 1 ≤ R.frames ∧ 8 + (maxL + 11) + lo ≤ R.locals)
    (hls : ls.size = nL) (hrm : (rest.map fun v => v.category).sum ≤ 8) (hcells : cells + 1 ≤ R.cells ∧ slots + 6 ≤ R.slots) (hdg : decode cc pc = .ok (.invokestatic index, 3)) (hst : st = As.reverse ++ rest)
    (kk : ∀ (r : Int32) (u : S) (H1 : Heap) (locs1 : List Loc), post r u → va_P D vwCl (Fs' u).flatten H1 → va_D A (Fs' u).flatten → va_S A s.heap H1 locs1 → W p l e R s m args below meth c H1 locs1 (cells + 1) (slots + 6) Q (F0 m (pc + 3) ls (.int r :: rest))) : W p l e R s m args below meth c H locs cells slots Q (F0 m pc ls st) := by
  obtain ⟨hPc, hDc⟩ := fCalls hP hD js hnd hC
  have hFc : ∀ q, va_A Gs.flatten H.size q → A q := fun q h => by
    rcases h with ⟨k, e, h⟩ | h
    · exact hDc.2 k _ h
    · exact hA q (Nat.le_trans hS.1 h)
  refine vx_calli (vx_runSX (hh := hh) (As := As) (rest := rest) X (hM H.size) (vx_cwSW n X.2.2.2.2 hG hwy rfl rfl hd hR) ⟨q_blindX, fun U hU hW => ⟨rfl, ⟨by rw [hU], by rw [hU]; exact hPc, va_K.moved hW.alike hK, hDc.weaken (fun _ _ _ _ => trivial)⟩, hX.call hS hFc hU hW⟩⟩ rfl hn hls hst (lv_room hrm) hdg hcells) hS (fun q _ h => hFc q h) hFc (fun q _ h => hFc q h)
    (fun E ce q9 u t H1 locs1 ht hvm hp => hp.elim) (fun r u t H1 locs1 ht hvm hw1 hB hz1 hk1 hS1 => ?_)
  obtain ⟨hP1, -, -⟩ := hB
  rw [ht] at hP1
  obtain ⟨hP2, hD2⟩ := fBacks hP hD js hC (hw u) (hFs u) hk1 hP1
  exact kk r u H1 locs1 hw1 hP2 hD2 hS1
end QW

set_option maxHeartbeats 8000000 in
set_option maxRecDepth 100000 in
theorem k4_arcInRowo (l : Launch) (D : va_G) (cI cZ cL : ClassId) (o : Nat → Nat) (N : Nat) (tn : Nat) (tr : Nat → Int32) (sp : Nat → Int32) (wh : Nat → Int64) (ow : Nat → Int64) (b : Nat → Nat) (rw : Nat → Int32) (nm : Nat → Int32) (bf : Nat → Int32) (fe : Nat → Int32) (d : Nat → Nat) (rx : Nat → Int32) (nn : Nat → Int32) (bg : Nat → Int32) (fx : Nat → Int32) (a : Nat → Nat) (c : Nat) (fr : Nat → Int32) (tt : Nat → Int32) (sa : Nat → Int32) (tk : Nat → Int32) (i : Nat → Nat) (op : Nat → Int32) (sl : Nat → Int32) (oi : Nat → Int32) (nd : Nat → Int32) (lp : Nat → Int32) (tl : Nat → Int32) (g : Nat → Nat) (go : Nat → Int32) (gt : Nat → Int32) (oo : Nat → Nat) (ox : Nat → Nat) (x : Int32) (k : Int32) (hst : l.stackTraces = false) (hc : c ≤ 160) (hN : N ≤ 24) (hm : ∀ v, v < N → oo v ≤ oo (v + 1) ∧ oo (v + 1) ≤ 160) : McX l D (tY cI cZ cL) yX4_arcInRow wsX4_arcInRow 6 90 [.ref (o 0), .ref (b 0), .int x, .int k] ([wO o (a 0) (b 0) (d 0) (i 0) (g 0) N tn, wT cI (o 1) 160 tr, wT cI (o 2) N sp, wU cL (o 3) N wh, wU cL (o 4) N ow, wS cI b (a 0) (a 1) (a 2) N rw nm bf fe, wT cI (b 1) (N + 1) (nF oo), wS cI d (a 0) (a 2) (a 1) N rx nn bg fx, wT cI (d 1) (N + 1) (nF ox), wA cI cZ a c fr tt sa tk, wI cI cZ i op sl oi nd lp tl, wG cI g go gt]) (fun r => okB N oo x k = true ∧ r = atV c sa fr rw oo x.toNatClampNeg k.toNatClampNeg) (okB N oo x k = false) := by
  refine q_ofX (cc := cX4_arcInRow) (maxL := 4) (ret := some .int) (by decide) rfl (Nat.le_of_ble_eq_true rfl) ?_
  intro pz ez sz mz bz tz cz hx hb hml hr hlocks hno hts hown hK hP A hD hA hX ls hl
  have hS : va_S A sz.heap sz.heap [] := va_S.rf
  have hl : lv_has ls 4 [(0, .ref (o 0)), (1, .ref (b 0)), (2, .int x), (3, .int k)] := hl
  refine lv_aload_n hx hb dX4_arcInRow_0 rfl (lv_at hl 0 rfl) ?_
  refine lv_iload_n hx hb dX4_arcInRow_1 rfl (lv_at hl 2 rfl) ?_
  refine q_callVi (index := 78) (n := 1) (As := [.int x]) (rest := []) (js := [0, 1, 2, 3, 4, 5, 6, 7, 8, 9, 10, 11]) (ci := 4) ⟨hx, hb, hml, hown, hts⟩ hK hP hD hS hA (k4_isNode l D cI cZ cL o N tn tr sp wh ow b rw nm bf fe d rx nn bg fx a c fr tt sa tk i op sl oi nd lp tl g go gt oo ox x) rfl (by decide) (fun _ => by simp only [List.map_cons, List.map_nil, wA_fst, wG_fst, wI_fst, wO_fst, wS_fst, wT_fst, wU_fst]) (fun (_ : Unit) => [wO o (a 0) (b 0) (d 0) (i 0) (g 0) N tn, wT cI (o 1) 160 tr, wT cI (o 2) N sp, wU cL (o 3) N wh, wU cL (o 4) N ow, wS cI b (a 0) (a 1) (a 2) N rw nm bf fe, wT cI (b 1) (N + 1) (nF oo), wS cI d (a 0) (a 2) (a 1) N rx nn bg fx, wT cI (d 1) (N + 1) (nF ox), wA cI cZ a c fr tt sa tk, wI cI cZ i op sl oi nd lp tl, wG cI g go gt]) (fun _ => rfl) gX4_arcInRow_X4_isNode rfl (by decide +kernel) rfl ⟨by decide, by decide⟩ rfl rfl rfl rfl hl.1 (Nat.le_of_ble_eq_true rfl) ⟨(Nat.zero_le _), (Nat.zero_le _)⟩ dX4_arcInRow_2 rfl (fun r _ H locs hw hP hD hS => ?_)
  have hw : r = bI (hasB N x) := hw
  subst hw
  refine lv_if_ne (tgt := 18) hx hb dX4_arcInRow_5 (by decide) (fun c_5 => ?_) (fun c_5 => ?_)
  ·
    have n_5 : (hasB N x) = true := bI_n.mp c_5
    obtain ⟨v, hv, hxv⟩ := hasB_of n_5 (by omega)
    have hl : lv_has ls 4 [(0, .ref (o 0)), (1, .ref (b 0)), (2, .int (nI v)), (3, .int k)] := by rw [← hxv]; exact hl
    have hxc : x.toNatClampNeg = v := by rw [hxv]; exact nI_clamp (by omega)
    refine lv_iload_n hx hb dX4_arcInRow_18 rfl (lv_at hl 3 rfl) ?_
    refine lv_if_lt (tgt := 31) hx hb dX4_arcInRow_19 (by decide) (fun c_19 => ?_) (fun c_19 => ?_)
    ·
      obtain ⟨sa9, hs9⟩ := hX.2.2.2.1
      exact q_throwX (is := 228) hx hb hst hown hts (fun w h => List.mem_cons_of_mem _ (List.mem_append_right _ h)) (by decide +kernel) (by decide +kernel) hX hs9 hK hP hD hS (hl.1.trans hml.symm) dX4_arcInRow_31 dX4_arcInRow_34 dX4_arcInRow_35 dX4_arcInRow_37 dX4_arcInRow_40 hno (by decide) (Nat.le_of_ble_eq_true rfl) (by decide) (by decide) hlocks (by decide) (by decide) (by simp [okB, c_19])
    ·
      refine lv_iload_n hx hb dX4_arcInRow_22 rfl (lv_at hl 3 rfl) ?_
      refine lv_aload_n hx hb dX4_arcInRow_23 rfl (lv_at hl 1 rfl) ?_
      refine lv_iload_n hx hb dX4_arcInRow_24 rfl (lv_at hl 2 rfl) ?_
      refine q_callVi (index := 225) (n := 1) (As := [.int (nI v)]) (rest := [.int k]) (js := [5, 6, 9]) (ci := 3) ⟨hx, hb, hml, hown, hts⟩ hK hP hD hS hA (k3o_rowLength l D cI cZ cL b N rw nm bf fe a c fr tt sa tk oo v (by omega) (by omega) (by omega) (hm v hv).1 (hm v hv).2) rfl (by decide) (fun _ => by simp only [List.map_cons, List.map_nil, wA_fst, wS_fst, wT_fst]) (fun (_ : Unit) => [wO o (a 0) (b 0) (d 0) (i 0) (g 0) N tn, wT cI (o 1) 160 tr, wT cI (o 2) N sp, wU cL (o 3) N wh, wU cL (o 4) N ow, wS cI b (a 0) (a 1) (a 2) N rw nm bf fe, wT cI (b 1) (N + 1) (nF oo), wS cI d (a 0) (a 2) (a 1) N rx nn bg fx, wT cI (d 1) (N + 1) (nF ox), wA cI cZ a c fr tt sa tk, wI cI cZ i op sl oi nd lp tl, wG cI g go gt]) (fun _ => rfl) gX4_arcInRow_X3_rowLength rfl (by decide +kernel) rfl ⟨by decide, by decide⟩ rfl rfl rfl rfl hl.1 (Nat.le_of_ble_eq_true rfl) ⟨(Nat.zero_le _), (Nat.zero_le _)⟩ dX4_arcInRow_25 rfl (fun r _ H locs hw hP hD hS => ?_)
      have hw : r = nI (oo (v + 1) - oo v) := hw
      subst hw
      refine lv_icmp_lt (tgt := 41) hx hb dX4_arcInRow_28 (by decide) (fun c_28 => ?_) (fun c_28 => ?_)
      ·
        obtain ⟨p, hp, hkp⟩ := nI_of c_19
        have hl : lv_has ls 4 [(0, .ref (o 0)), (1, .ref (b 0)), (2, .int (nI v)), (3, .int (nI p))] := by rw [← hkp]; exact hl
        have hkc : k.toNatClampNeg = p := by rw [hkp]; exact nI_clamp hp
        have hpl : p < oo (v + 1) - oo v := by have h9 := c_28; rw [hkp] at h9; exact (nI_ltI hp (by have := (hm v hv).2; omega)).mp h9
        have hp9 : p ≤ 1000 := by have := (hm v hv).2; omega
        refine lv_aload_n hx hb dX4_arcInRow_41 rfl (lv_at hl 1 rfl) ?_
        refine lv_iload_n hx hb dX4_arcInRow_42 rfl (lv_at hl 2 rfl) ?_
        refine lv_iload_n hx hb dX4_arcInRow_43 rfl (lv_at hl 3 rfl) ?_
        refine q_callVi (index := 182) (n := 2) (As := [.int (nI v), .int (nI p)]) (rest := []) (js := [5, 6, 9]) (ci := 3) ⟨hx, hb, hml, hown, hts⟩ hK hP hD hS hA (k3o_arcAt l D cI cZ cL b N rw nm bf fe a c fr tt sa tk oo v p (by omega) (by omega) (by omega) (hm v hv).1 (hm v hv).2 hp9) rfl (by decide) (fun _ => by simp only [List.map_cons, List.map_nil, wA_fst, wS_fst, wT_fst]) (fun (_ : Unit) => [wO o (a 0) (b 0) (d 0) (i 0) (g 0) N tn, wT cI (o 1) 160 tr, wT cI (o 2) N sp, wU cL (o 3) N wh, wU cL (o 4) N ow, wS cI b (a 0) (a 1) (a 2) N rw nm bf fe, wT cI (b 1) (N + 1) (nF oo), wS cI d (a 0) (a 2) (a 1) N rx nn bg fx, wT cI (d 1) (N + 1) (nF ox), wA cI cZ a c fr tt sa tk, wI cI cZ i op sl oi nd lp tl, wG cI g go gt]) (fun _ => rfl) gX4_arcInRow_X3_arcAt rfl (by decide +kernel) rfl ⟨by decide, by decide⟩ rfl rfl rfl rfl hl.1 (Nat.le_of_ble_eq_true rfl) ⟨(Nat.zero_le _), (Nat.zero_le _)⟩ dX4_arcInRow_44 rfl (fun r _ H locs hw hP hD hS => ?_)
        have hw : r = atV c sa fr rw oo v p := hw
        subst hw
        exact q_iretX hx hb hr hlocks hK hP hD hS (by decide) (by decide) (⟨by simp [okB, n_5, c_19, hxc, c_28], by rw [hxc, hkc]⟩) rfl dX4_arcInRow_47
      ·
        obtain ⟨sa9, hs9⟩ := hX.2.2.2.1
        exact q_throwX (is := 228) hx hb hst hown hts (fun w h => List.mem_cons_of_mem _ (List.mem_append_right _ h)) (by decide +kernel) (by decide +kernel) hX hs9 hK hP hD hS (hl.1.trans hml.symm) dX4_arcInRow_31 dX4_arcInRow_34 dX4_arcInRow_35 dX4_arcInRow_37 dX4_arcInRow_40 hno (by decide) (Nat.le_of_ble_eq_true rfl) (by decide) (by decide) hlocks (by decide) (by decide) (by simp [okB, hxc, c_28])
  ·
    have n_5 : (hasB N x) = false := bI_0.mp c_5
    obtain ⟨sa9, hs9⟩ := hX.2.2.1
    exact q_throwX (is := 220) hx hb hst hown hts (fun w h => List.mem_cons_of_mem _ (List.mem_append_right _ h)) (by decide +kernel) (by decide +kernel) hX hs9 hK hP hD hS (hl.1.trans hml.symm) dX4_arcInRow_8 dX4_arcInRow_11 dX4_arcInRow_12 dX4_arcInRow_14 dX4_arcInRow_17 hno (by decide) (Nat.le_of_ble_eq_true rfl) (by decide) (by decide) hlocks (by decide) (by decide) (by simp [okB, n_5])

set_option maxHeartbeats 8000000 in
set_option maxRecDepth 100000 in
theorem k4_out (l : Launch) (D : va_G) (cI cZ cL : ClassId) (o : Nat → Nat) (N : Nat) (tn : Nat) (tr : Nat → Int32) (sp : Nat → Int32) (wh : Nat → Int64) (ow : Nat → Int64) (b : Nat → Nat) (rw : Nat → Int32) (nm : Nat → Int32) (bf : Nat → Int32) (fe : Nat → Int32) (d : Nat → Nat) (rx : Nat → Int32) (nn : Nat → Int32) (bg : Nat → Int32) (fx : Nat → Int32) (a : Nat → Nat) (c : Nat) (fr : Nat → Int32) (tt : Nat → Int32) (sa : Nat → Int32) (tk : Nat → Int32) (i : Nat → Nat) (op : Nat → Int32) (sl : Nat → Int32) (oi : Nat → Int32) (nd : Nat → Int32) (lp : Nat → Int32) (tl : Nat → Int32) (g : Nat → Nat) (go : Nat → Int32) (gt : Nat → Int32) (oo : Nat → Nat) (ox : Nat → Nat) (x : Int32) (k : Int32) (hst : l.stackTraces = false) (hc : c ≤ 160) (hN : N ≤ 24) (hm : ∀ v, v < N → oo v ≤ oo (v + 1) ∧ oo (v + 1) ≤ 160) : McX l D (tY cI cZ cL) yX4_out wsX4_out 7 113 [.ref (o 0), .int x, .int k] ([wO o (a 0) (b 0) (d 0) (i 0) (g 0) N tn, wT cI (o 1) 160 tr, wT cI (o 2) N sp, wU cL (o 3) N wh, wU cL (o 4) N ow, wS cI b (a 0) (a 1) (a 2) N rw nm bf fe, wT cI (b 1) (N + 1) (nF oo), wS cI d (a 0) (a 2) (a 1) N rx nn bg fx, wT cI (d 1) (N + 1) (nF ox), wA cI cZ a c fr tt sa tk, wI cI cZ i op sl oi nd lp tl, wG cI g go gt]) (fun r => okB N oo x k = true ∧ r = atV c sa fr rw oo x.toNatClampNeg k.toNatClampNeg) (okB N oo x k = false) := by
  refine q_ofX (cc := cX4_out) (maxL := 3) (ret := some .int) (by decide) rfl (Nat.le_of_ble_eq_true rfl) ?_
  intro pz ez sz mz bz tz cz hx hb hml hr hlocks hno hts hown hK hP A hD hA hX ls hl
  have hS : va_S A sz.heap sz.heap [] := va_S.rf
  have hl : lv_has ls 3 [(0, .ref (o 0)), (1, .int x), (2, .int k)] := hl
  refine lv_aload_n hx hb dX4_out_0 rfl (lv_at hl 0 rfl) ?_
  refine lv_aload_n hx hb dX4_out_1 rfl (lv_at hl 0 rfl) ?_
  refine q_get (D := D) (ci := 4) (v := .ref (b 0)) (C := RX4) (T := TX4) (N := 11) hx hb hts (by decide +kernel) hown hK hP 0 0 rfl rfl rfl 2 (by decide) (hts (.fieldLink RX4 41 "OffsetRows" "outSide" "LOffsetRows$Side;") (by decide +kernel)) (fun _ h9 => h9) rfl dX4_out_2 ?_
  refine lv_iload_n hx hb dX4_out_5 rfl (lv_at hl 1 rfl) ?_
  refine lv_iload_n hx hb dX4_out_6 rfl (lv_at hl 2 rfl) ?_
  refine q_callX (index := 104) (n := 3) (As := [.ref (b 0), .int x, .int k]) (rest := []) (js := [0, 1, 2, 3, 4, 5, 6, 7, 8, 9, 10, 11]) (ci := 4) ⟨hx, hb, hml, hown, hts⟩ hK hP hD hS hA hX (k4_arcInRowo l D cI cZ cL o N tn tr sp wh ow b rw nm bf fe d rx nn bg fx a c fr tt sa tk i op sl oi nd lp tl g go gt oo ox x k hst hc hN hm) rfl (by decide) rfl gX4_out_X4_arcInRow rfl (by decide +kernel) rfl ⟨by decide, by decide⟩ rfl rfl rfl rfl hl.1 (Nat.le_of_ble_eq_true rfl) ⟨by decide, by decide⟩ dX4_out_7 rfl
    (fun ce q9 H locs hPX hP hD hS hce hcv hcf => q_outX hno hlocks hK hP hD hS hce hcv hcf hPX (by decide) (by decide)) (fun r H locs hpost hP hD hS => ?_)
  exact q_iretX hx hb hr hlocks hK hP hD hS (by decide) (by decide) hpost rfl dX4_out_10

set_option maxHeartbeats 8000000 in
set_option maxRecDepth 100000 in
theorem kL_out (l : Launch) (D : va_G) (cI cZ cL : ClassId) (o : Nat → Nat) (N : Nat) (tn : Nat) (tr : Nat → Int32) (sp : Nat → Int32) (wh : Nat → Int64) (ow : Nat → Int64) (b : Nat → Nat) (rw : Nat → Int32) (nm : Nat → Int32) (bf : Nat → Int32) (fe : Nat → Int32) (d : Nat → Nat) (rx : Nat → Int32) (nn : Nat → Int32) (bg : Nat → Int32) (fx : Nat → Int32) (a : Nat → Nat) (c : Nat) (fr : Nat → Int32) (tt : Nat → Int32) (sa : Nat → Int32) (tk : Nat → Int32) (i : Nat → Nat) (op : Nat → Int32) (sl : Nat → Int32) (oi : Nat → Int32) (nd : Nat → Int32) (lp : Nat → Int32) (tl : Nat → Int32) (g : Nat → Nat) (go : Nat → Int32) (gt : Nat → Int32) (oo : Nat → Nat) (ox : Nat → Nat) (x : Int32) (k : Int32) (hst : l.stackTraces = false) (hc : c ≤ 160) (hN : N ≤ 24) (hm : ∀ v, v < N → oo v ≤ oo (v + 1) ∧ oo (v + 1) ≤ 160) (t1 : Nat) (f9 : Nat → Int64) : McW l D (tY cI cZ cL) yL_out wsL_out 8 135 [.ref (o 0), .int x, .int k, .ref t1] ([wO o (a 0) (b 0) (d 0) (i 0) (g 0) N tn, wT cI (o 1) 160 tr, wT cI (o 2) N sp, wU cL (o 3) N wh, wU cL (o 4) N ow, wS cI b (a 0) (a 1) (a 2) N rw nm bf fe, wT cI (b 1) (N + 1) (nF oo), wS cI d (a 0) (a 2) (a 1) N rx nn bg fx, wT cI (d 1) (N + 1) (nF ox), wA cI cZ a c fr tt sa tk, wI cI cZ i op sl oi nd lp tl, wG cI g go gt, wU cL t1 1 f9]) (fun r (u : Nat → Int64) => (okB N oo x k = true ∧ r = 0 ∧ u 0 = (atV c sa fr rw oo x.toNatClampNeg k.toNatClampNeg).toInt64) ∨ (okB N oo x k = false ∧ r = 1)) (fun u : Nat → Int64 => [wO o (a 0) (b 0) (d 0) (i 0) (g 0) N tn, wT cI (o 1) 160 tr, wT cI (o 2) N sp, wU cL (o 3) N wh, wU cL (o 4) N ow, wS cI b (a 0) (a 1) (a 2) N rw nm bf fe, wT cI (b 1) (N + 1) (nF oo), wS cI d (a 0) (a 2) (a 1) N rx nn bg fx, wT cI (d 1) (N + 1) (nF ox), wA cI cZ a c fr tt sa tk, wI cI cZ i op sl oi nd lp tl, wG cI g go gt, wU cL t1 1 u]) := by
  refine q_ofWt (cc := cL_out) (maxL := 5) (ret := some .int) (hh := [(0, 10, 13, 13)]) (by decide) rfl (Nat.le_of_ble_eq_true rfl) ?_
  intro pz ez sz mz bz tz cz hx hb hml hr hlocks htab hts hown hK hP A hD hA hX ls hl
  have hS : va_S A sz.heap sz.heap [] := va_S.rf
  have hl : lv_has ls 5 [(0, .ref (o 0)), (1, .int x), (2, .int k), (3, .ref t1)] := hl
  refine lv_aload_n hx hb dL_out_0 rfl (lv_at hl 3 rfl) ?_
  refine lv_iconst (v := (0 : Int32)) hx hb dL_out_1 (by decide) ?_
  refine lv_aload_n hx hb dL_out_2 rfl (lv_at hl 0 rfl) ?_
  refine lv_iload_n hx hb dL_out_3 rfl (lv_at hl 1 rfl) ?_
  refine lv_iload_n hx hb dL_out_4 rfl (lv_at hl 2 rfl) ?_
  refine q_callX (index := 7) (n := 2) (As := [.int x, .int k]) (rest := [.int (0 : Int32), .ref t1]) (js := [0, 1, 2, 3, 4, 5, 6, 7, 8, 9, 10, 11]) (ci := 4) ⟨hx, hb, hml, hown, hts⟩ hK hP hD hS hA hX (k4_out l D cI cZ cL o N tn tr sp wh ow b rw nm bf fe d rx nn bg fx a c fr tt sa tk i op sl oi nd lp tl g go gt oo ox x k hst hc hN hm) rfl (by decide) rfl gL_out_X4_out rfl (by decide +kernel) rfl ⟨by decide, by decide⟩ rfl rfl rfl rfl hl.1 (Nat.le_of_ble_eq_true rfl) ⟨by decide, by decide⟩ dL_out_5 rfl
    (fun ce q9 H locs hPX hP hD hS hce hcv hcf => ?_) (fun r H locs hpost hP hD hS => ?_)
  · refine q_catch (own := RL) (name := IOOBE) (E := IOOBE) hown ⟨0, 10, 13, 13⟩ htab (by decide) (by decide) (hts (.classLink RL 13 IOOBE) (by decide +kernel)) (va_Nw.use rfl (hX.2.2.2.2 (.castable IOOBE IOOBE) (by decide +kernel))) hce hcv hcf ?_
    refine lv_astore (lv' := [(4, .ref q9), (0, .ref (o 0)), (1, .int x), (2, .int k), (3, .ref t1)]) hx hb dL_out_13 hl (by decide) rfl (fun ls hl => ?_)
    refine lv_iconst (v := (1 : Int32)) hx hb dL_out_15 (by decide) ?_
    exact q_iretW f9 hx hb hr hlocks hK hP hD hS (by decide) (by decide) (Or.inr ⟨hPX, rfl⟩) rfl dL_out_16
  · refine lv_i2l hx hb dL_out_8 rfl ?_
    refine q_last hx hb hK hP hD hS 12 0 2 rfl (f := f9) rfl rfl (k := 0) rfl (vp_in_nI (n := 0) (N := 1) (by decide) (by decide)) dL_out_9 wU_s_tr (Fs' := [wO o (a 0) (b 0) (d 0) (i 0) (g 0) N tn, wT cI (o 1) 160 tr, wT cI (o 2) N sp, wU cL (o 3) N wh, wU cL (o 4) N ow, wS cI b (a 0) (a 1) (a 2) N rw nm bf fe, wT cI (b 1) (N + 1) (nF oo), wS cI d (a 0) (a 2) (a 1) N rx nn bg fx, wT cI (d 1) (N + 1) (nF ox), wA cI cZ a c fr tt sa tk, wI cI cZ i op sl oi nd lp tl, wG cI g go gt, wU cL t1 1 (vp_updL f9 0 r.toInt64)]) rfl (fun H locs hP hD hS => ?_)
    refine lv_goto (tgt := 17) hx hb dL_out_10 (by decide) ?_
    refine lv_iconst (v := (0 : Int32)) hx hb dL_out_17 (by decide) ?_
    exact q_iretW (vp_updL f9 0 r.toInt64) hx hb hr hlocks hK hP hD hS (by decide) (by decide) (Or.inl ⟨hpost.1, rfl, by rw [← hpost.2]; rfl⟩) rfl dL_out_18

set_option maxHeartbeats 8000000 in
set_option maxRecDepth 100000 in
theorem k4_arcInRowi (l : Launch) (D : va_G) (cI cZ cL : ClassId) (o : Nat → Nat) (N : Nat) (tn : Nat) (tr : Nat → Int32) (sp : Nat → Int32) (wh : Nat → Int64) (ow : Nat → Int64) (b : Nat → Nat) (rw : Nat → Int32) (nm : Nat → Int32) (bf : Nat → Int32) (fe : Nat → Int32) (d : Nat → Nat) (rx : Nat → Int32) (nn : Nat → Int32) (bg : Nat → Int32) (fx : Nat → Int32) (a : Nat → Nat) (c : Nat) (fr : Nat → Int32) (tt : Nat → Int32) (sa : Nat → Int32) (tk : Nat → Int32) (i : Nat → Nat) (op : Nat → Int32) (sl : Nat → Int32) (oi : Nat → Int32) (nd : Nat → Int32) (lp : Nat → Int32) (tl : Nat → Int32) (g : Nat → Nat) (go : Nat → Int32) (gt : Nat → Int32) (oo : Nat → Nat) (ox : Nat → Nat) (x : Int32) (k : Int32) (hst : l.stackTraces = false) (hc : c ≤ 160) (hN : N ≤ 24) (hm : ∀ v, v < N → ox v ≤ ox (v + 1) ∧ ox (v + 1) ≤ 160) : McX l D (tY cI cZ cL) yX4_arcInRow wsX4_arcInRow 6 90 [.ref (o 0), .ref (d 0), .int x, .int k] ([wO o (a 0) (b 0) (d 0) (i 0) (g 0) N tn, wT cI (o 1) 160 tr, wT cI (o 2) N sp, wU cL (o 3) N wh, wU cL (o 4) N ow, wS cI b (a 0) (a 1) (a 2) N rw nm bf fe, wT cI (b 1) (N + 1) (nF oo), wS cI d (a 0) (a 2) (a 1) N rx nn bg fx, wT cI (d 1) (N + 1) (nF ox), wA cI cZ a c fr tt sa tk, wI cI cZ i op sl oi nd lp tl, wG cI g go gt]) (fun r => okB N ox x k = true ∧ r = atV c sa tt rx ox x.toNatClampNeg k.toNatClampNeg) (okB N ox x k = false) := by
  refine q_ofX (cc := cX4_arcInRow) (maxL := 4) (ret := some .int) (by decide) rfl (Nat.le_of_ble_eq_true rfl) ?_
  intro pz ez sz mz bz tz cz hx hb hml hr hlocks hno hts hown hK hP A hD hA hX ls hl
  have hS : va_S A sz.heap sz.heap [] := va_S.rf
  have hl : lv_has ls 4 [(0, .ref (o 0)), (1, .ref (d 0)), (2, .int x), (3, .int k)] := hl
  refine lv_aload_n hx hb dX4_arcInRow_0 rfl (lv_at hl 0 rfl) ?_
  refine lv_iload_n hx hb dX4_arcInRow_1 rfl (lv_at hl 2 rfl) ?_
  refine q_callVi (index := 78) (n := 1) (As := [.int x]) (rest := []) (js := [0, 1, 2, 3, 4, 5, 6, 7, 8, 9, 10, 11]) (ci := 4) ⟨hx, hb, hml, hown, hts⟩ hK hP hD hS hA (k4_isNode l D cI cZ cL o N tn tr sp wh ow b rw nm bf fe d rx nn bg fx a c fr tt sa tk i op sl oi nd lp tl g go gt oo ox x) rfl (by decide) (fun _ => by simp only [List.map_cons, List.map_nil, wA_fst, wG_fst, wI_fst, wO_fst, wS_fst, wT_fst, wU_fst]) (fun (_ : Unit) => [wO o (a 0) (b 0) (d 0) (i 0) (g 0) N tn, wT cI (o 1) 160 tr, wT cI (o 2) N sp, wU cL (o 3) N wh, wU cL (o 4) N ow, wS cI b (a 0) (a 1) (a 2) N rw nm bf fe, wT cI (b 1) (N + 1) (nF oo), wS cI d (a 0) (a 2) (a 1) N rx nn bg fx, wT cI (d 1) (N + 1) (nF ox), wA cI cZ a c fr tt sa tk, wI cI cZ i op sl oi nd lp tl, wG cI g go gt]) (fun _ => rfl) gX4_arcInRow_X4_isNode rfl (by decide +kernel) rfl ⟨by decide, by decide⟩ rfl rfl rfl rfl hl.1 (Nat.le_of_ble_eq_true rfl) ⟨(Nat.zero_le _), (Nat.zero_le _)⟩ dX4_arcInRow_2 rfl (fun r _ H locs hw hP hD hS => ?_)
  have hw : r = bI (hasB N x) := hw
  subst hw
  refine lv_if_ne (tgt := 18) hx hb dX4_arcInRow_5 (by decide) (fun c_5 => ?_) (fun c_5 => ?_)
  ·
    have n_5 : (hasB N x) = true := bI_n.mp c_5
    obtain ⟨v, hv, hxv⟩ := hasB_of n_5 (by omega)
    have hl : lv_has ls 4 [(0, .ref (o 0)), (1, .ref (d 0)), (2, .int (nI v)), (3, .int k)] := by rw [← hxv]; exact hl
    have hxc : x.toNatClampNeg = v := by rw [hxv]; exact nI_clamp (by omega)
    refine lv_iload_n hx hb dX4_arcInRow_18 rfl (lv_at hl 3 rfl) ?_
    refine lv_if_lt (tgt := 31) hx hb dX4_arcInRow_19 (by decide) (fun c_19 => ?_) (fun c_19 => ?_)
    ·
      obtain ⟨sa9, hs9⟩ := hX.2.2.2.1
      exact q_throwX (is := 228) hx hb hst hown hts (fun w h => List.mem_cons_of_mem _ (List.mem_append_right _ h)) (by decide +kernel) (by decide +kernel) hX hs9 hK hP hD hS (hl.1.trans hml.symm) dX4_arcInRow_31 dX4_arcInRow_34 dX4_arcInRow_35 dX4_arcInRow_37 dX4_arcInRow_40 hno (by decide) (Nat.le_of_ble_eq_true rfl) (by decide) (by decide) hlocks (by decide) (by decide) (by simp [okB, c_19])
    ·
      refine lv_iload_n hx hb dX4_arcInRow_22 rfl (lv_at hl 3 rfl) ?_
      refine lv_aload_n hx hb dX4_arcInRow_23 rfl (lv_at hl 1 rfl) ?_
      refine lv_iload_n hx hb dX4_arcInRow_24 rfl (lv_at hl 2 rfl) ?_
      refine q_callVi (index := 225) (n := 1) (As := [.int (nI v)]) (rest := [.int k]) (js := [7, 8, 9]) (ci := 3) ⟨hx, hb, hml, hown, hts⟩ hK hP hD hS hA (k3i_rowLength l D cI cZ cL d N rx nn bg fx a c fr tt sa tk ox v (by omega) (by omega) (by omega) (hm v hv).1 (hm v hv).2) rfl (by decide) (fun _ => by simp only [List.map_cons, List.map_nil, wA_fst, wS_fst, wT_fst]) (fun (_ : Unit) => [wO o (a 0) (b 0) (d 0) (i 0) (g 0) N tn, wT cI (o 1) 160 tr, wT cI (o 2) N sp, wU cL (o 3) N wh, wU cL (o 4) N ow, wS cI b (a 0) (a 1) (a 2) N rw nm bf fe, wT cI (b 1) (N + 1) (nF oo), wS cI d (a 0) (a 2) (a 1) N rx nn bg fx, wT cI (d 1) (N + 1) (nF ox), wA cI cZ a c fr tt sa tk, wI cI cZ i op sl oi nd lp tl, wG cI g go gt]) (fun _ => rfl) gX4_arcInRow_X3_rowLength rfl (by decide +kernel) rfl ⟨by decide, by decide⟩ rfl rfl rfl rfl hl.1 (Nat.le_of_ble_eq_true rfl) ⟨(Nat.zero_le _), (Nat.zero_le _)⟩ dX4_arcInRow_25 rfl (fun r _ H locs hw hP hD hS => ?_)
      have hw : r = nI (ox (v + 1) - ox v) := hw
      subst hw
      refine lv_icmp_lt (tgt := 41) hx hb dX4_arcInRow_28 (by decide) (fun c_28 => ?_) (fun c_28 => ?_)
      ·
        obtain ⟨p, hp, hkp⟩ := nI_of c_19
        have hl : lv_has ls 4 [(0, .ref (o 0)), (1, .ref (d 0)), (2, .int (nI v)), (3, .int (nI p))] := by rw [← hkp]; exact hl
        have hkc : k.toNatClampNeg = p := by rw [hkp]; exact nI_clamp hp
        have hpl : p < ox (v + 1) - ox v := by have h9 := c_28; rw [hkp] at h9; exact (nI_ltI hp (by have := (hm v hv).2; omega)).mp h9
        have hp9 : p ≤ 1000 := by have := (hm v hv).2; omega
        refine lv_aload_n hx hb dX4_arcInRow_41 rfl (lv_at hl 1 rfl) ?_
        refine lv_iload_n hx hb dX4_arcInRow_42 rfl (lv_at hl 2 rfl) ?_
        refine lv_iload_n hx hb dX4_arcInRow_43 rfl (lv_at hl 3 rfl) ?_
        refine q_callVi (index := 182) (n := 2) (As := [.int (nI v), .int (nI p)]) (rest := []) (js := [7, 8, 9]) (ci := 3) ⟨hx, hb, hml, hown, hts⟩ hK hP hD hS hA (k3i_arcAt l D cI cZ cL d N rx nn bg fx a c fr tt sa tk ox v p (by omega) (by omega) (by omega) (hm v hv).1 (hm v hv).2 hp9) rfl (by decide) (fun _ => by simp only [List.map_cons, List.map_nil, wA_fst, wS_fst, wT_fst]) (fun (_ : Unit) => [wO o (a 0) (b 0) (d 0) (i 0) (g 0) N tn, wT cI (o 1) 160 tr, wT cI (o 2) N sp, wU cL (o 3) N wh, wU cL (o 4) N ow, wS cI b (a 0) (a 1) (a 2) N rw nm bf fe, wT cI (b 1) (N + 1) (nF oo), wS cI d (a 0) (a 2) (a 1) N rx nn bg fx, wT cI (d 1) (N + 1) (nF ox), wA cI cZ a c fr tt sa tk, wI cI cZ i op sl oi nd lp tl, wG cI g go gt]) (fun _ => rfl) gX4_arcInRow_X3_arcAt rfl (by decide +kernel) rfl ⟨by decide, by decide⟩ rfl rfl rfl rfl hl.1 (Nat.le_of_ble_eq_true rfl) ⟨(Nat.zero_le _), (Nat.zero_le _)⟩ dX4_arcInRow_44 rfl (fun r _ H locs hw hP hD hS => ?_)
        have hw : r = atV c sa tt rx ox v p := hw
        subst hw
        exact q_iretX hx hb hr hlocks hK hP hD hS (by decide) (by decide) (⟨by simp [okB, n_5, c_19, hxc, c_28], by rw [hxc, hkc]⟩) rfl dX4_arcInRow_47
      ·
        obtain ⟨sa9, hs9⟩ := hX.2.2.2.1
        exact q_throwX (is := 228) hx hb hst hown hts (fun w h => List.mem_cons_of_mem _ (List.mem_append_right _ h)) (by decide +kernel) (by decide +kernel) hX hs9 hK hP hD hS (hl.1.trans hml.symm) dX4_arcInRow_31 dX4_arcInRow_34 dX4_arcInRow_35 dX4_arcInRow_37 dX4_arcInRow_40 hno (by decide) (Nat.le_of_ble_eq_true rfl) (by decide) (by decide) hlocks (by decide) (by decide) (by simp [okB, hxc, c_28])
  ·
    have n_5 : (hasB N x) = false := bI_0.mp c_5
    obtain ⟨sa9, hs9⟩ := hX.2.2.1
    exact q_throwX (is := 220) hx hb hst hown hts (fun w h => List.mem_cons_of_mem _ (List.mem_append_right _ h)) (by decide +kernel) (by decide +kernel) hX hs9 hK hP hD hS (hl.1.trans hml.symm) dX4_arcInRow_8 dX4_arcInRow_11 dX4_arcInRow_12 dX4_arcInRow_14 dX4_arcInRow_17 hno (by decide) (Nat.le_of_ble_eq_true rfl) (by decide) (by decide) hlocks (by decide) (by decide) (by simp [okB, n_5])

set_option maxHeartbeats 8000000 in
set_option maxRecDepth 100000 in
theorem k4_in (l : Launch) (D : va_G) (cI cZ cL : ClassId) (o : Nat → Nat) (N : Nat) (tn : Nat) (tr : Nat → Int32) (sp : Nat → Int32) (wh : Nat → Int64) (ow : Nat → Int64) (b : Nat → Nat) (rw : Nat → Int32) (nm : Nat → Int32) (bf : Nat → Int32) (fe : Nat → Int32) (d : Nat → Nat) (rx : Nat → Int32) (nn : Nat → Int32) (bg : Nat → Int32) (fx : Nat → Int32) (a : Nat → Nat) (c : Nat) (fr : Nat → Int32) (tt : Nat → Int32) (sa : Nat → Int32) (tk : Nat → Int32) (i : Nat → Nat) (op : Nat → Int32) (sl : Nat → Int32) (oi : Nat → Int32) (nd : Nat → Int32) (lp : Nat → Int32) (tl : Nat → Int32) (g : Nat → Nat) (go : Nat → Int32) (gt : Nat → Int32) (oo : Nat → Nat) (ox : Nat → Nat) (x : Int32) (k : Int32) (hst : l.stackTraces = false) (hc : c ≤ 160) (hN : N ≤ 24) (hm : ∀ v, v < N → ox v ≤ ox (v + 1) ∧ ox (v + 1) ≤ 160) : McX l D (tY cI cZ cL) yX4_in wsX4_in 7 113 [.ref (o 0), .int x, .int k] ([wO o (a 0) (b 0) (d 0) (i 0) (g 0) N tn, wT cI (o 1) 160 tr, wT cI (o 2) N sp, wU cL (o 3) N wh, wU cL (o 4) N ow, wS cI b (a 0) (a 1) (a 2) N rw nm bf fe, wT cI (b 1) (N + 1) (nF oo), wS cI d (a 0) (a 2) (a 1) N rx nn bg fx, wT cI (d 1) (N + 1) (nF ox), wA cI cZ a c fr tt sa tk, wI cI cZ i op sl oi nd lp tl, wG cI g go gt]) (fun r => okB N ox x k = true ∧ r = atV c sa tt rx ox x.toNatClampNeg k.toNatClampNeg) (okB N ox x k = false) := by
  refine q_ofX (cc := cX4_in) (maxL := 3) (ret := some .int) (by decide) rfl (Nat.le_of_ble_eq_true rfl) ?_
  intro pz ez sz mz bz tz cz hx hb hml hr hlocks hno hts hown hK hP A hD hA hX ls hl
  have hS : va_S A sz.heap sz.heap [] := va_S.rf
  have hl : lv_has ls 3 [(0, .ref (o 0)), (1, .int x), (2, .int k)] := hl
  refine lv_aload_n hx hb dX4_in_0 rfl (lv_at hl 0 rfl) ?_
  refine lv_aload_n hx hb dX4_in_1 rfl (lv_at hl 0 rfl) ?_
  refine q_get (D := D) (ci := 4) (v := .ref (d 0)) (C := RX4) (T := TX4) (N := 11) hx hb hts (by decide +kernel) hown hK hP 0 0 rfl rfl rfl 3 (by decide) (hts (.fieldLink RX4 45 "OffsetRows" "inSide" "LOffsetRows$Side;") (by decide +kernel)) (fun _ h9 => h9) rfl dX4_in_2 ?_
  refine lv_iload_n hx hb dX4_in_5 rfl (lv_at hl 1 rfl) ?_
  refine lv_iload_n hx hb dX4_in_6 rfl (lv_at hl 2 rfl) ?_
  refine q_callX (index := 104) (n := 3) (As := [.ref (d 0), .int x, .int k]) (rest := []) (js := [0, 1, 2, 3, 4, 5, 6, 7, 8, 9, 10, 11]) (ci := 4) ⟨hx, hb, hml, hown, hts⟩ hK hP hD hS hA hX (k4_arcInRowi l D cI cZ cL o N tn tr sp wh ow b rw nm bf fe d rx nn bg fx a c fr tt sa tk i op sl oi nd lp tl g go gt oo ox x k hst hc hN hm) rfl (by decide) rfl gX4_in_X4_arcInRow rfl (by decide +kernel) rfl ⟨by decide, by decide⟩ rfl rfl rfl rfl hl.1 (Nat.le_of_ble_eq_true rfl) ⟨by decide, by decide⟩ dX4_in_7 rfl
    (fun ce q9 H locs hPX hP hD hS hce hcv hcf => q_outX hno hlocks hK hP hD hS hce hcv hcf hPX (by decide) (by decide)) (fun r H locs hpost hP hD hS => ?_)
  exact q_iretX hx hb hr hlocks hK hP hD hS (by decide) (by decide) hpost rfl dX4_in_10

set_option maxHeartbeats 8000000 in
set_option maxRecDepth 100000 in
theorem kL_in (l : Launch) (D : va_G) (cI cZ cL : ClassId) (o : Nat → Nat) (N : Nat) (tn : Nat) (tr : Nat → Int32) (sp : Nat → Int32) (wh : Nat → Int64) (ow : Nat → Int64) (b : Nat → Nat) (rw : Nat → Int32) (nm : Nat → Int32) (bf : Nat → Int32) (fe : Nat → Int32) (d : Nat → Nat) (rx : Nat → Int32) (nn : Nat → Int32) (bg : Nat → Int32) (fx : Nat → Int32) (a : Nat → Nat) (c : Nat) (fr : Nat → Int32) (tt : Nat → Int32) (sa : Nat → Int32) (tk : Nat → Int32) (i : Nat → Nat) (op : Nat → Int32) (sl : Nat → Int32) (oi : Nat → Int32) (nd : Nat → Int32) (lp : Nat → Int32) (tl : Nat → Int32) (g : Nat → Nat) (go : Nat → Int32) (gt : Nat → Int32) (oo : Nat → Nat) (ox : Nat → Nat) (x : Int32) (k : Int32) (hst : l.stackTraces = false) (hc : c ≤ 160) (hN : N ≤ 24) (hm : ∀ v, v < N → ox v ≤ ox (v + 1) ∧ ox (v + 1) ≤ 160) (t1 : Nat) (f9 : Nat → Int64) : McW l D (tY cI cZ cL) yL_in wsL_in 8 135 [.ref (o 0), .int x, .int k, .ref t1] ([wO o (a 0) (b 0) (d 0) (i 0) (g 0) N tn, wT cI (o 1) 160 tr, wT cI (o 2) N sp, wU cL (o 3) N wh, wU cL (o 4) N ow, wS cI b (a 0) (a 1) (a 2) N rw nm bf fe, wT cI (b 1) (N + 1) (nF oo), wS cI d (a 0) (a 2) (a 1) N rx nn bg fx, wT cI (d 1) (N + 1) (nF ox), wA cI cZ a c fr tt sa tk, wI cI cZ i op sl oi nd lp tl, wG cI g go gt, wU cL t1 1 f9]) (fun r (u : Nat → Int64) => (okB N ox x k = true ∧ r = 0 ∧ u 0 = (atV c sa tt rx ox x.toNatClampNeg k.toNatClampNeg).toInt64) ∨ (okB N ox x k = false ∧ r = 1)) (fun u : Nat → Int64 => [wO o (a 0) (b 0) (d 0) (i 0) (g 0) N tn, wT cI (o 1) 160 tr, wT cI (o 2) N sp, wU cL (o 3) N wh, wU cL (o 4) N ow, wS cI b (a 0) (a 1) (a 2) N rw nm bf fe, wT cI (b 1) (N + 1) (nF oo), wS cI d (a 0) (a 2) (a 1) N rx nn bg fx, wT cI (d 1) (N + 1) (nF ox), wA cI cZ a c fr tt sa tk, wI cI cZ i op sl oi nd lp tl, wG cI g go gt, wU cL t1 1 u]) := by
  refine q_ofWt (cc := cL_in) (maxL := 5) (ret := some .int) (hh := [(0, 10, 13, 13)]) (by decide) rfl (Nat.le_of_ble_eq_true rfl) ?_
  intro pz ez sz mz bz tz cz hx hb hml hr hlocks htab hts hown hK hP A hD hA hX ls hl
  have hS : va_S A sz.heap sz.heap [] := va_S.rf
  have hl : lv_has ls 5 [(0, .ref (o 0)), (1, .int x), (2, .int k), (3, .ref t1)] := hl
  refine lv_aload_n hx hb dL_in_0 rfl (lv_at hl 3 rfl) ?_
  refine lv_iconst (v := (0 : Int32)) hx hb dL_in_1 (by decide) ?_
  refine lv_aload_n hx hb dL_in_2 rfl (lv_at hl 0 rfl) ?_
  refine lv_iload_n hx hb dL_in_3 rfl (lv_at hl 1 rfl) ?_
  refine lv_iload_n hx hb dL_in_4 rfl (lv_at hl 2 rfl) ?_
  refine q_callX (index := 15) (n := 2) (As := [.int x, .int k]) (rest := [.int (0 : Int32), .ref t1]) (js := [0, 1, 2, 3, 4, 5, 6, 7, 8, 9, 10, 11]) (ci := 4) ⟨hx, hb, hml, hown, hts⟩ hK hP hD hS hA hX (k4_in l D cI cZ cL o N tn tr sp wh ow b rw nm bf fe d rx nn bg fx a c fr tt sa tk i op sl oi nd lp tl g go gt oo ox x k hst hc hN hm) rfl (by decide) rfl gL_in_X4_in rfl (by decide +kernel) rfl ⟨by decide, by decide⟩ rfl rfl rfl rfl hl.1 (Nat.le_of_ble_eq_true rfl) ⟨by decide, by decide⟩ dL_in_5 rfl
    (fun ce q9 H locs hPX hP hD hS hce hcv hcf => ?_) (fun r H locs hpost hP hD hS => ?_)
  · refine q_catch (own := RL) (name := IOOBE) (E := IOOBE) hown ⟨0, 10, 13, 13⟩ htab (by decide) (by decide) (hts (.classLink RL 13 IOOBE) (by decide +kernel)) (va_Nw.use rfl (hX.2.2.2.2 (.castable IOOBE IOOBE) (by decide +kernel))) hce hcv hcf ?_
    refine lv_astore (lv' := [(4, .ref q9), (0, .ref (o 0)), (1, .int x), (2, .int k), (3, .ref t1)]) hx hb dL_in_13 hl (by decide) rfl (fun ls hl => ?_)
    refine lv_iconst (v := (1 : Int32)) hx hb dL_in_15 (by decide) ?_
    exact q_iretW f9 hx hb hr hlocks hK hP hD hS (by decide) (by decide) (Or.inr ⟨hPX, rfl⟩) rfl dL_in_16
  · refine lv_i2l hx hb dL_in_8 rfl ?_
    refine q_last hx hb hK hP hD hS 12 0 2 rfl (f := f9) rfl rfl (k := 0) rfl (vp_in_nI (n := 0) (N := 1) (by decide) (by decide)) dL_in_9 wU_s_tr (Fs' := [wO o (a 0) (b 0) (d 0) (i 0) (g 0) N tn, wT cI (o 1) 160 tr, wT cI (o 2) N sp, wU cL (o 3) N wh, wU cL (o 4) N ow, wS cI b (a 0) (a 1) (a 2) N rw nm bf fe, wT cI (b 1) (N + 1) (nF oo), wS cI d (a 0) (a 2) (a 1) N rx nn bg fx, wT cI (d 1) (N + 1) (nF ox), wA cI cZ a c fr tt sa tk, wI cI cZ i op sl oi nd lp tl, wG cI g go gt, wU cL t1 1 (vp_updL f9 0 r.toInt64)]) rfl (fun H locs hP hD hS => ?_)
    refine lv_goto (tgt := 17) hx hb dL_in_10 (by decide) ?_
    refine lv_iconst (v := (0 : Int32)) hx hb dL_in_17 (by decide) ?_
    exact q_iretW (vp_updL f9 0 r.toInt64) hx hb hr hlocks hK hP hD hS (by decide) (by decide) (Or.inl ⟨hpost.1, rfl, by rw [← hpost.2]; rfl⟩) rfl dL_in_18

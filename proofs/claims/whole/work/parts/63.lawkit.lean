/-! ===== the law: its ground, its state ===== -/
/-- what stands through the whole walk -/
def lwC (pz : Program) (l : Launch) (sz : State) (mz : MethodId) (args : Array Value) (cz : Code) (bs L : Nat) (xs : Nat → Int32) (D : va_G) (cI cZ cL : ClassId) (A : Nat → Prop) : Prop :=
  pz.tables.exec = Jvm.exec ∧ cz.code = cL_law ∧ cz.maxLocals = 7 ∧ sz.vm.findClass RL = some mz.cls ∧ (∀ w ∈ wsL_law, w.before args sz = true) ∧ va_X bs L xs sz sz.heap ∧ bs < sz.heap.size ∧ ¬ A bs ∧ (∀ q, sz.heap.size ≤ q → A q) ∧ va_K D vwCl (tY cI cZ cL) sz ∧ xPre A sz ∧ l.stackTraces = false ∧ L ≤ 2049
/-- class and model, side by side, and alike -/
def lwI (D : va_G) (cI cZ cL : ClassId) (A : Nat → Prop) (H0 : Heap) (o b d a i g q : Nat → Nat) (t1 : Nat) (H : Heap) (locs : List Loc) : Prop :=
  ∃ (N : Nat) (tn : Nat) (tr : Nat → Int32) (sp : Nat → Int32) (wh : Nat → Int64) (ow : Nat → Int64) (rw : Nat → Int32) (nm : Nat → Int32) (bf : Nat → Int32) (fe : Nat → Int32) (rx : Nat → Int32) (nn : Nat → Int32) (bg : Nat → Int32) (fx : Nat → Int32) (c : Nat) (fr : Nat → Int32) (tt : Nat → Int32) (sa : Nat → Int32) (tk : Nat → Int32) (op : Nat → Int32) (sl : Nat → Int32) (oi : Nat → Int32) (nd : Nat → Int32) (lp : Nat → Int32) (tl : Nat → Int32) (go : Nat → Int32) (gt : Nat → Int32) (oo : Nat → Nat) (ox : Nat → Nat) (th : Nat) (il : Nat → Int32) (fa : Nat → Int32) (mn : Nat → Int64) (nx : Nat → Int64) (f9 : Nat → Int64), Inv N c tn fr tt sa tk op sl nd oi lp il oo ox rw rx ∧ op8 op ∧ va_P D vwCl (List.flatten [wO o (a 0) (b 0) (d 0) (i 0) (g 0) N tn, wT cI (o 1) 160 tr, wT cI (o 2) N sp, wU cL (o 3) N wh, wU cL (o 4) N ow, wS cI b (a 0) (a 1) (a 2) N rw nm bf fe, wT cI (b 1) (N + 1) (nF oo), wS cI d (a 0) (a 2) (a 1) N rx nn bg fx, wT cI (d 1) (N + 1) (nF ox), wA cI cZ a c fr tt sa tk, wI cI cZ i op sl oi nd lp tl, wG cI g go gt, wM cI cZ cL q th N c fr tt sa tk tn tr op sl nd oi il tl go gt fa mn nx, wU cL t1 1 f9]) H ∧ va_D A (List.flatten [wO o (a 0) (b 0) (d 0) (i 0) (g 0) N tn, wT cI (o 1) 160 tr, wT cI (o 2) N sp, wU cL (o 3) N wh, wU cL (o 4) N ow, wS cI b (a 0) (a 1) (a 2) N rw nm bf fe, wT cI (b 1) (N + 1) (nF oo), wS cI d (a 0) (a 2) (a 1) N rx nn bg fx, wT cI (d 1) (N + 1) (nF ox), wA cI cZ a c fr tt sa tk, wI cI cZ i op sl oi nd lp tl, wG cI g go gt, wM cI cZ cL q th N c fr tt sa tk tn tr op sl nd oi il tl go gt fa mn nx, wU cL t1 1 f9]) ∧ va_S A H0 H locs
section QL
variable {pz : Program} {l : Launch} {ez : Env} {R : Room} {sz : State} {mz : MethodId} {args : Array Value} {bz : List Frame} {tz : Method} {cz : Code} {H : Heap} {locs : List Loc} {cells slots : Nat} {Q : State → Prop} {cc : ByteArray} {pc : Nat} {ls : Array Slot} {rest : List Value} {A : Nat → Prop}
theorem q_sld (hexec : pz.tables.exec = Jvm.exec) (hb : cz.code = cc) {bs L : Nat} {xs : Nat → Int32} (hX : va_X bs L xs sz sz.heap) (hbl : bs < sz.heap.size) (hbA : ¬ A bs) (hS : va_S A sz.heap H locs) {k : Nat} (hk : k < L) (hL : L ≤ 2049) (hdg : decode cc pc = .ok (.iaload, 1))
    (kk : W pz l ez R sz mz args bz tz cz H locs cells slots Q (F0 mz (pc + 1) ls (.int (xs k) :: rest))) : W pz l ez R sz mz args bz tz cz H locs cells slots Q (F0 mz pc ls (.int (nI k) :: .ref bs :: rest)) := by
  refine va_sld hexec hb hX hbl hbA hS (vp_in_nI hk (by omega)) hdg ?_
  rw [nI_clamp (by omega)]; exact kk
end QL
section Thrown
variable {N c : Nat} {sa tk ow fa rw : Nat → Int32} {oo : Nat → Nat} {x k : Int32}
theorem I_ok (hR : rowsOK c sa ow fa oo rw) (hc : c ≤ 160) (hN : N ≤ 24) (how : ∀ j, j < c → vp_in (ow j) N) (hfa : ∀ j, j < c → vp_in (fa j) N) (h : okB N oo x k = true) : irT N c ow fa sa tk x 0 k = 0 ∧ irR N c ow fa sa tk x 0 k = atV c sa ow rw oo x.toNatClampNeg k.toNatClampNeg := by
  obtain ⟨h1, h2⟩ := (A_row (tk := tk) hR hc hN how hfa x k).1 h
  unfold irT irR
  rw [if_neg h1, if_neg h1]; exact ⟨rfl, h2⟩
theorem I_no (hR : rowsOK c sa ow fa oo rw) (hc : c ≤ 160) (hN : N ≤ 24) (how : ∀ j, j < c → vp_in (ow j) N) (hfa : ∀ j, j < c → vp_in (fa j) N) (h : okB N oo x k = false) : irT N c ow fa sa tk x 0 k = 1 := by
  unfold irT; rw [if_pos ((A_row (tk := tk) hR hc hN how hfa x k).2 h)]
theorem irT_sw {fr tt : Nat → Int32} : irT N c fr tt sa tk x 1 k = irT N c tt fr sa tk x 0 k := by unfold irT; rw [irA_sw (by decide)]
theorem irR_sw {fr tt : Nat → Int32} : irR N c fr tt sa tk x 1 k = irR N c tt fr sa tk x 0 k := by unfold irR; rw [irA_sw (by decide)]
end Thrown

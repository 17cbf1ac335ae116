/-! ===== my rules: contracts over lists of cells, calls in one row ===== -/
def bI (b : Bool) : Int32 := if b then 1 else 0
theorem bI_0 {b : Bool} : bI b = 0 ↔ b = false := by cases b <;> decide
theorem bI_n {b : Bool} : ¬ bI b = 0 ↔ b = true := by cases b <;> decide
theorem bI_t {b : Bool} (h : b = true) : bI b = 1 := by rw [h]; rfl
theorem bI_f {b : Bool} (h : b = false) : bI b = 0 := by rw [h]; rfl
/-! worlds of families: a list of lists of cells -/
def fOff : List va_W → Nat → Nat
  | _, 0 => 0
  | [], _ + 1 => 0
  | F :: Fs, j + 1 => F.length + fOff Fs j
theorem fGet : ∀ (Fs : List va_W) (j : Nat) (F : va_W) (q : Nat) (e : Nat × va_E), Fs[j]? = some F → F[q]? = some e → Fs.flatten[fOff Fs j + q]? = some e := by
  intro Fs
  induction Fs with
  | nil => intro j F q e h; simp at h
  | cons G Fs ih =>
    intro j F q e h hq
    have hlt : ∀ {W : va_W}, W[q]? = some e → q < W.length := fun h => (List.getElem?_eq_some_iff.mp h).1
    cases j with
    | zero =>
      have h1 : G = F := by simpa using h
      subst h1
      rw [List.flatten_cons, show fOff (G :: Fs) 0 + q = q by simp [fOff], List.getElem?_append_left (hlt hq)]
      exact hq
    | succ j =>
      have h1 : Fs[j]? = some F := by simpa using h
      rw [List.flatten_cons, show fOff (G :: Fs) (j + 1) + q = G.length + (fOff Fs j + q) by simp [fOff]; omega, List.getElem?_append_right (by omega), show G.length + (fOff Fs j + q) - G.length = fOff Fs j + q by omega]
      exact ih j F q e h1 hq
theorem fSet : ∀ (Fs : List va_W) (j : Nat) (F : va_W) (q : Nat) (e : Nat × va_E), Fs[j]? = some F → q < F.length → Fs.flatten.set (fOff Fs j + q) e = (Fs.set j (F.set q e)).flatten := by
  intro Fs
  induction Fs with
  | nil => intro j F q e h; simp at h
  | cons G Fs ih =>
    intro j F q e h hq
    cases j with
    | zero =>
      have h1 : G = F := by simpa using h
      subst h1
      rw [show fOff (G :: Fs) 0 + q = q by simp [fOff], List.flatten_cons, List.set_cons_zero, List.flatten_cons, List.set_append_left _ _ hq]
    | succ j =>
      have h1 : Fs[j]? = some F := by simpa using h
      rw [show fOff (G :: Fs) (j + 1) + q = G.length + (fOff Fs j + q) by simp [fOff]; omega, List.flatten_cons, List.set_cons_succ, List.flatten_cons, List.set_append_right _ _ (by omega), show G.length + (fOff Fs j + q) - G.length = fOff Fs j + q by omega, ih j F q e h1 hq]
theorem fP {D : va_G} {cl : List vw_C} {Fs : List va_W} {H : Heap} {F : va_W} {j : Nat} (h : va_P D cl Fs.flatten H) (hj : Fs[j]? = some F) : va_P D cl F H := fun q e hq => h _ e (fGet Fs j F q e hj hq)
theorem fD {A : Nat → Prop} {Fs : List va_W} {F : va_W} {j : Nat} (h : va_D A Fs.flatten) (hj : Fs[j]? = some F) : va_D A F := ⟨fun i k x y hx hy hxy => by
    have := h.1 _ _ x y (fGet Fs j F i x hj hx) (fGet Fs j F k y hj hy) hxy
    omega, fun k x hx => h.2 _ x (fGet Fs j F k x hj hx)⟩
theorem fIn : ∀ (Fs : List va_W) (k : Nat) (e : Nat × va_E), Fs.flatten[k]? = some e → ∃ (j : Nat) (F : va_W) (q : Nat), Fs[j]? = some F ∧ F[q]? = some e ∧ k = fOff Fs j + q := by
  intro Fs
  induction Fs with
  | nil => intro k e h; simp at h
  | cons G Fs ih =>
    intro k e h
    rw [List.flatten_cons] at h
    by_cases hk : k < G.length
    · rw [List.getElem?_append_left hk] at h
      exact ⟨0, G, k, rfl, h, by simp [fOff]⟩
    · rw [List.getElem?_append_right (by omega)] at h
      obtain ⟨j, F, q, h1, h2, h3⟩ := ih _ e h
      exact ⟨j + 1, F, q, by simpa using h1, h2, by simp [fOff]; omega⟩
/-- the callee's families put back -/
def fBack (Fs : List va_W) : List Nat → List va_W → List va_W
  | j :: js, F :: Gs => fBack (Fs.set j F) js Gs
  | _, _ => Fs
theorem fBack_get : ∀ (js : List Nat) (Gs Fs : List va_W) (k : Nat) (F : va_W), js.length = Gs.length → (fBack Fs js Gs)[k]? = some F → (∃ m : Nat, js[m]? = some k ∧ Gs[m]? = some F) ∨ (k ∉ js ∧ Fs[k]? = some F) := by
  intro js
  induction js with
  | nil => intro Gs Fs k F _ h; exact Or.inr ⟨List.not_mem_nil, by simpa [fBack] using h⟩
  | cons j js ih =>
    intro Gs Fs k F hl h
    cases Gs with
    | nil => cases hl
    | cons G Gs =>
      rcases ih Gs (Fs.set j G) k F (by simpa using hl) h with ⟨m, h1, h2⟩ | ⟨h1, h2⟩
      · exact Or.inl ⟨m + 1, by simpa using h1, by simpa using h2⟩
      · by_cases hk : j = k
        · subst hk
          rw [List.getElem?_set_self'] at h2
          cases hw : Fs[j]? with
          | none => rw [hw] at h2; cases h2
          | some z => rw [hw] at h2; exact Or.inl ⟨0, rfl, by simpa using h2⟩
        · rw [List.getElem?_set_ne hk] at h2
          exact Or.inr ⟨fun h => by
            rcases List.mem_cons.mp h with h | h
            · exact hk h.symm
            · exact h1 h, h2⟩
theorem fAt {js : List Nat} {Fs Gs : List va_W} (hs : js.map (fun j => Fs[j]?) = Gs.map some) (m : Nat) (F : va_W) (hF : Gs[m]? = some F) : ∃ j, js[m]? = some j ∧ Fs[j]? = some F := by
  have h1 : (js.map (fun j => Fs[j]?))[m]? = some (some F) := by rw [hs, List.getElem?_map, hF]; rfl
  rw [List.getElem?_map] at h1
  cases hi : js[m]? with
  | none => rw [hi] at h1; cases h1
  | some i => rw [hi] at h1; exact ⟨i, rfl, Option.some.inj h1⟩
theorem fOff_inj {A : Nat → Prop} {Fs : List va_W} (hD : va_D A Fs.flatten) {j k : Nat} {F G : va_W} {q r : Nat} {x y : Nat × va_E} (h1 : Fs[j]? = some F) (h2 : F[q]? = some x) (h3 : Fs[k]? = some G) (h4 : G[r]? = some y) (h : x.1 = y.1) : fOff Fs j + q = fOff Fs k + r := hD.1 _ _ x y (fGet Fs j F q x h1 h2) (fGet Fs k G r y h3 h4) h
theorem fOff_lt : ∀ (Fs : List va_W) (j k : Nat) (F : va_W) (q : Nat), Fs[j]? = some F → q < F.length → j < k → k ≤ Fs.length → fOff Fs j + q < fOff Fs k := by
  intro Fs
  induction Fs with
  | nil => intro j k F q h; simp at h
  | cons G Fs ih =>
    intro j k F q h hq hjk hk
    cases k with
    | zero => omega
    | succ k =>
      cases j with
      | zero =>
        have h1 : G = F := by simpa using h
        subst h1
        simp only [fOff]; omega
      | succ j =>
        have := ih j k F q (by simpa using h) hq (by omega) (by simpa using hk)
        simp only [fOff]; omega
theorem fOff_ne {Fs : List va_W} {j k : Nat} {F G : va_W} {q r : Nat} (h1 : Fs[j]? = some F) (h2 : q < F.length) (h3 : Fs[k]? = some G) (h4 : r < G.length) (h : fOff Fs j + q = fOff Fs k + r) : j = k ∧ q = r := by
  have lj : j < Fs.length := (List.getElem?_eq_some_iff.mp h1).1
  have lk : k < Fs.length := (List.getElem?_eq_some_iff.mp h3).1
  rcases Nat.lt_trichotomy j k with h5 | h5 | h5
  · have := fOff_lt Fs j k F q h1 h2 h5 (by omega); omega
  · subst h5; exact ⟨rfl, by omega⟩
  · have := fOff_lt Fs k j G r h3 h4 h5 (by omega); omega
theorem fLt {F : va_W} {q : Nat} {x : Nat × va_E} (h : F[q]? = some x) : q < F.length := (List.getElem?_eq_some_iff.mp h).1
theorem fCalls {A0 : Nat → Prop} {D : va_G} {cl : List vw_C} {Fs Gs : List va_W} {H : Heap} (hP : va_P D cl Fs.flatten H) (hD : va_D A0 Fs.flatten) (js : List Nat) (hn : va_nd js = true) (hC : js.map (fun j => Fs[j]?) = Gs.map some) : va_P D cl Gs.flatten H ∧ va_D A0 Gs.flatten := by
  have at1 : ∀ (k : Nat) (e : Nat × va_E), Gs.flatten[k]? = some e → ∃ (m : Nat) (F : va_W) (q j : Nat), Gs[m]? = some F ∧ F[q]? = some e ∧ k = fOff Gs m + q ∧ js[m]? = some j ∧ Fs[j]? = some F := by
    intro k e h
    obtain ⟨m, F, q, h1, h2, h3⟩ := fIn Gs k e h
    obtain ⟨j, h4, h5⟩ := fAt hC m F h1
    exact ⟨m, F, q, j, h1, h2, h3, h4, h5⟩
  refine ⟨fun k e h => ?_, fun i k x y hx hy hxy => ?_, fun k e h => ?_⟩
  · obtain ⟨m, F, q, j, h1, h2, h3, h4, h5⟩ := at1 k e h
    exact hP _ e (fGet Fs j F q e h5 h2)
  · obtain ⟨m, F, q, j, h1, h2, h3, h4, h5⟩ := at1 i x hx
    obtain ⟨m', F', q', j', h1', h2', h3', h4', h5'⟩ := at1 k y hy
    obtain ⟨e1, e2⟩ := fOff_ne h5 (fLt h2) h5' (fLt h2') (fOff_inj hD h5 h2 h5' h2' hxy)
    subst e1
    have := va_nd_inj js hn m m' j h4 h4'
    subst this
    rw [h3, h3', e2]
  · obtain ⟨m, F, q, j, h1, h2, h3, h4, h5⟩ := at1 k e h
    exact hD.2 _ e (fGet Fs j F q e h5 h2)
theorem fBacks {A0 : Nat → Prop} {D : va_G} {cl : List vw_C} {Fs Gs Gs' Fs' : List va_W} {H H1 : Heap} (hP : va_P D cl Fs.flatten H) (hD : va_D A0 Fs.flatten) (js : List Nat) (hC : js.map (fun j => Fs[j]?) = Gs.map some) (hw : Gs'.map (List.map Prod.fst) = Gs.map (List.map Prod.fst)) (hF : fBack Fs js Gs' = Fs')
    (hk : ∀ q : Nat, q < H.size → ¬ va_A Gs.flatten H.size q → H1[q]? = H[q]?) (hP1 : va_P D cl Gs'.flatten H1) : va_P D cl Fs'.flatten H1 ∧ va_D A0 Fs'.flatten := by
  subst hF
  have hlen1 : js.length = Gs.length := by simpa using congrArg List.length hC
  have hlen2 : Gs'.length = Gs.length := by simpa using congrArg List.length hw
  have hlen : js.length = Gs'.length := by omega
  -- each cell behind stands over one ahead, at the same place of the same family
  have adr : ∀ (k : Nat) (F : va_W) (q : Nat) (x : Nat × va_E), (fBack Fs js Gs')[k]? = some F → F[q]? = some x → ∃ (F0 : va_W) (x0 : Nat × va_E), Fs[k]? = some F0 ∧ F0[q]? = some x0 ∧ x0.1 = x.1 := by
    intro k F q x hF hx
    rcases fBack_get js Gs' Fs k F hlen hF with ⟨m, h1, h2⟩ | ⟨_, h2⟩
    · have hm : (Gs.map (List.map Prod.fst))[m]? = some (F.map Prod.fst) := by rw [← hw, List.getElem?_map, h2]; rfl
      rw [List.getElem?_map] at hm
      cases hc : Gs[m]? with
      | none => rw [hc] at hm; cases hm
      | some F0 =>
        rw [hc] at hm
        have hm : F0.map Prod.fst = F.map Prod.fst := Option.some.inj hm
        obtain ⟨j, h3, h4⟩ := fAt hC m F0 hc
        rw [h1] at h3
        cases h3
        have hq : (F0.map Prod.fst)[q]? = some x.1 := by rw [hm, List.getElem?_map, hx]; rfl
        rw [List.getElem?_map] at hq
        cases h0 : F0[q]? with
        | none => rw [h0] at hq; cases hq
        | some x0 => rw [h0] at hq; exact ⟨F0, x0, h4, h0, Option.some.inj hq⟩
    · exact ⟨F, x, h2, hx, rfl⟩
  have hfo : ∀ (js : List Nat) (Gs' Fs : List va_W), js.length = Gs'.length → (fBack Fs js Gs').length = Fs.length := by
    intro js
    induction js with
    | nil => intro Gs' Fs _; simp [fBack]
    | cons j js ih =>
      intro Gs' Fs hl
      cases Gs' with
      | nil => cases hl
      | cons G Gs' => rw [fBack, ih Gs' (Fs.set j G) (by simpa using hl)]; simp
  refine ⟨fun k x hx => ?_, fun i k x y hx hy hxy => ?_, fun k x hx => ?_⟩
  · obtain ⟨j, F, q, h1, h2, h3⟩ := fIn _ k x hx
    rcases fBack_get js Gs' Fs j F hlen h1 with ⟨m, h4, h5⟩ | ⟨h4, h5⟩
    · exact hP1 _ x (fGet Gs' m F q x h5 h2)
    · have hat := hP _ x (fGet Fs j F q x h5 h2)
      refine hat.kept (hk x.1 hat.lt (fun h => ?_))
      rcases h with ⟨k2, e, h⟩ | h
      · obtain ⟨m, F2, q2, g1, g2, g3⟩ := fIn Gs k2 (x.1, e) h
        obtain ⟨j2, g4, g5⟩ := fAt hC m F2 g1
        obtain ⟨e1, -⟩ := fOff_ne h5 (fLt h2) g5 (fLt g2) (fOff_inj hD h5 h2 g5 g2 rfl)
        subst e1
        exact h4 (List.mem_of_getElem? g4)
      · have := hat.lt; omega
  · obtain ⟨j, F, q, h1, h2, h3⟩ := fIn _ i x hx
    obtain ⟨j', F', q', h1', h2', h3'⟩ := fIn _ k y hy
    obtain ⟨F0, x0, a1, a2, a3⟩ := adr j F q x h1 h2
    obtain ⟨F0', y0, b1, b2, b3⟩ := adr j' F' q' y h1' h2'
    obtain ⟨e1, e2⟩ := fOff_ne a1 (fLt a2) b1 (fLt b2) (fOff_inj hD a1 a2 b1 b2 (by rw [a3, b3, hxy]))
    subst e1; subst e2
    rw [h3, h3']
  · obtain ⟨j, F, q, h1, h2, h3⟩ := fIn _ k x hx
    obtain ⟨F0, x0, a1, a2, a3⟩ := adr j F q x h1 h2
    rw [← a3]
    exact hD.2 _ x0 (fGet Fs j F0 q x0 a1 a2)
def mPre (D : va_G) (tys : List (ClassId × FieldType)) (w : List va_W) (sz : Nat) : State → Prop := fun U => U.heap.size = sz ∧ va_P D vwCl w.flatten U.heap ∧ va_K D vwCl tys U ∧ va_D (fun _ => True) w.flatten
def mAt (D : va_G) (tys : List (ClassId × FieldType)) (A : Nat → Prop) (w : List va_W) (t : State) : Prop := va_P D vwCl w.flatten t.heap ∧ va_K D vwCl tys t ∧ va_D A w.flatten
abbrev rM (fr lo : Nat) : Room := { frames := fr, cells := 0, slots := 0, locals := lo }
/-- a contract: the method answers r and leaves the cells w' u, with post r u -/
def McI {S : Type} (l : Launch) (D : va_G) (tys : List (ClassId × FieldType)) (y : MethodName) (wy : List Cond) (fr lo : Nat) (av : List Value) (w : List va_W) (post : Int32 → S → Prop) (w' : S → List va_W) : Prop :=
  ∀ sz : Nat, Met l y wy (rM fr lo) (va_Pc av (mPre D tys w sz)) (va_Qi post (fun u t => mAt D tys (va_A w.flatten sz) (w' u) t) (va_A w.flatten sz)) 0 0 (va_A w.flatten sz)
def McL {S : Type} (l : Launch) (D : va_G) (tys : List (ClassId × FieldType)) (y : MethodName) (wy : List Cond) (fr lo : Nat) (av : List Value) (w : List va_W) (post : Int64 → S → Prop) (w' : S → List va_W) : Prop :=
  ∀ sz : Nat, Met l y wy (rM fr lo) (va_Pc av (mPre D tys w sz)) (va_Ql post (fun u t => mAt D tys (va_A w.flatten sz) (w' u) t) (va_A w.flatten sz)) 0 0 (va_A w.flatten sz)
def McV {S : Type} (l : Launch) (D : va_G) (tys : List (ClassId × FieldType)) (y : MethodName) (wy : List Cond) (fr lo : Nat) (av : List Value) (w : List va_W) (post : S → Prop) (w' : S → List va_W) : Prop :=
  ∀ sz : Nat, Met l y wy (rM fr lo) (va_Pc av (mPre D tys w sz)) (va_Qv post (fun u t => mAt D tys (va_A w.flatten sz) (w' u) t) (va_A w.flatten sz)) 0 0 (va_A w.flatten sz)
/-- the answer is a cell of the world: its address is x -/
def McR (l : Launch) (D : va_G) (tys : List (ClassId × FieldType)) (y : MethodName) (wy : List Cond) (fr lo : Nat) (av : List Value) (w : List va_W) (x : Nat) (w' : List va_W) : Prop :=
  ∀ sz : Nat, Met l y wy (rM fr lo) (va_Pc av (mPre D tys w sz)) (va_Qr (fun _ : Unit => True) (fun _ a t => a = x ∧ mAt D tys (va_A w.flatten sz) w' t) (va_A w.flatten sz)) 0 0 (va_A w.flatten sz)
theorem q_ofW {l : Launch} {D : va_G} {tys : List (ClassId × FieldType)} {y : MethodName} {wy wy' : List Cond} {fr lo : Nat} {av : List Value} {w : List va_W} {Qc : (Nat → Prop) → Array Value → State → Outcome → State → Prop} {cc : ByteArray} {maxL : Nat} {ret : Option FieldType}
    (hy : plainName y.cls = true) (hw : wy = Cond.code y cc maxL ret :: wy') (hlen : (lg_sl av).length ≤ maxL)
    (body : ∀ (p : Program) (e : Env) (s : State) (m : MethodId) (below : List Frame) (meth : Method) (c : Code), p.tables.exec = Jvm.exec → c.code = cc → c.maxLocals = maxL → meth.sig.returnType = ret → meth.locks = false → (∀ w ∈ wy, w.before av.toArray s = true) → s.vm.findClass y.cls = some m.cls →
      va_K D vwCl tys s → va_P D vwCl w.flatten s.heap → ∀ A : Nat → Prop, va_D A w.flatten → (∀ q : Nat, s.heap.size ≤ q → A q) → ∀ ls : Array Slot, lv_has ls maxL (lv_args 0 av) →
      W p l e (rM fr lo) s m av.toArray below meth c s.heap [] 0 0 (MQ below (Qc A) av.toArray s 0 0 A) (F0 m 0 ls [])) :
    ∀ sz : Nat, Met l y wy (rM fr lo) (va_Pc av (mPre D tys w sz)) (Qc (va_A w.flatten sz)) 0 0 (va_A w.flatten sz) := by
  intro sz
  refine Met.ofW (cc := cc) (maxL := maxL) (ret := ret) hy hw ?_
  intro p e s m args below meth c s₁ B hml hv
  obtain ⟨rfl, hsz, hP, hK, hD0⟩ := hv
  subst hsz
  have hl := lv_entry av (n := maxL) hlen
  rw [lg_entry_eq]
  exact body p e s m below meth c B.exec B.bytes hml B.returns B.notSynchronized (atoms_spec (ws := wy) B.pre) (findClass_of_methodNamed B.named) hK hP (va_A w.flatten s.heap.size) hD0.self (fun q h => Or.inr h) _ hl
section QR
variable {p : Program} {l : Launch} {e : Env} {R : Room} {s : State} {m : MethodId} {args : Array Value} {below : List Frame} {meth : Method} {c : Code} {H : Heap} {locs : List Loc} {cells slots : Nat} {Q : State → Prop}
variable {cc : ByteArray} {pc : Nat} {ls : Array Slot} {rest : List Value} {D : va_G} {A : Nat → Prop} {a : Nat} {tys : List (ClassId × FieldType)} {Fs Fs' : List va_W} {F F' : va_W} {H0 : Heap}
theorem q_iald (hexec : p.tables.exec = Jvm.exec) (hb : c.code = cc) (hK : va_K D vwCl tys s) (hP : va_P D vwCl Fs.flatten H) (j q0 t0 : Nat) (hj : Fs[j]? = some F) {cA : ClassId} {n : Nat} {f : Nat → Int32} (ha : F[q0]? = some (a, .inl (cA, n, .inl f))) (ht : tys[t0]? = some (cA, .int)) {i : Int32} {k : Nat} (hk : i.toNatClampNeg = k) (hin : vp_in i n) (hdg : decode cc pc = .ok (.iaload, 1))
    (kk : W p l e R s m args below meth c H locs cells slots Q (F0 m (pc + 1) ls (.int (f k) :: rest))) : W p l e R s m args below meth c H locs cells slots Q (F0 m pc ls (.int i :: .ref a :: rest)) := by
  subst hk; exact va_iald hexec hb hK (fP hP hj) q0 t0 ha ht hin hdg kk
theorem q_zald (hexec : p.tables.exec = Jvm.exec) (hb : c.code = cc) (hK : va_K D vwCl tys s) (hP : va_P D vwCl Fs.flatten H) (j q0 t0 : Nat) (hj : Fs[j]? = some F) {cA : ClassId} {n : Nat} {f : Nat → Int32} (ha : F[q0]? = some (a, .inl (cA, n, .inl f))) (ht : tys[t0]? = some (cA, .boolean)) {i : Int32} {k : Nat} (hk : i.toNatClampNeg = k) (hin : vp_in i n) (hdg : decode cc pc = .ok (.baload, 1))
    (kk : W p l e R s m args below meth c H locs cells slots Q (F0 m (pc + 1) ls (.int (f k) :: rest))) : W p l e R s m args below meth c H locs cells slots Q (F0 m pc ls (.int i :: .ref a :: rest)) := by
  subst hk; exact va_zald hexec hb hK (fP hP hj) q0 t0 ha ht hin hdg kk
theorem q_lald (hexec : p.tables.exec = Jvm.exec) (hb : c.code = cc) (hK : va_K D vwCl tys s) (hP : va_P D vwCl Fs.flatten H) (j q0 t0 : Nat) (hj : Fs[j]? = some F) {cA : ClassId} {n : Nat} {f : Nat → Int64} (ha : F[q0]? = some (a, .inl (cA, n, .inr (.inl f)))) (ht : tys[t0]? = some (cA, .long)) {i : Int32} {k : Nat} (hk : i.toNatClampNeg = k) (hin : vp_in i n) (hdg : decode cc pc = .ok (.laload, 1))
    (kk : W p l e R s m args below meth c H locs cells slots Q (F0 m (pc + 1) ls (.long (f k) :: rest))) : W p l e R s m args below meth c H locs cells slots Q (F0 m pc ls (.int i :: .ref a :: rest)) := by
  subst hk; exact va_lald hexec hb hK (fP hP hj) q0 t0 ha ht hin hdg kk
theorem q_iast (hexec : p.tables.exec = Jvm.exec) (hb : c.code = cc) (hK : va_K D vwCl tys s) (hP : va_P D vwCl Fs.flatten H) (hD : va_D A Fs.flatten) (hS : va_S A H0 H locs) (j q0 t0 : Nat) (hj : Fs[j]? = some F) {cA : ClassId} {n : Nat} {f : Nat → Int32} (ha : F[q0]? = some (a, .inl (cA, n, .inl f))) (ht : tys[t0]? = some (cA, .int)) {i x : Int32} {k : Nat} (hk : i.toNatClampNeg = k) (hin : vp_in i n) (hdg : decode cc pc = .ok (.iastore, 1))
    (hset : F.set q0 (a, .inl (cA, n, .inl (upd f k x))) = F') (hF : Fs.set j F' = Fs') (kk : ∀ (H1 : Heap) (locs1 : List Loc), va_P D vwCl Fs'.flatten H1 → va_D A Fs'.flatten → va_S A H0 H1 locs1 → W p l e R s m args below meth c H1 locs1 cells slots Q (F0 m (pc + 1) ls rest)) : W p l e R s m args below meth c H locs cells slots Q (F0 m pc ls (.int x :: .int i :: .ref a :: rest)) := by
  subst hk; subst hset; subst hF
  have kk9 := kk
  rw [← fSet Fs j F q0 _ hj (fLt ha)] at kk9
  exact va_iast hexec hb hK hP hD hS _ t0 (fGet Fs j F q0 _ hj ha) ht hin hdg kk9
theorem q_zast (hexec : p.tables.exec = Jvm.exec) (hb : c.code = cc) (hK : va_K D vwCl tys s) (hP : va_P D vwCl Fs.flatten H) (hD : va_D A Fs.flatten) (hS : va_S A H0 H locs) (j q0 t0 : Nat) (hj : Fs[j]? = some F) {cA : ClassId} {n : Nat} {f : Nat → Int32} (ha : F[q0]? = some (a, .inl (cA, n, .inl f))) (ht : tys[t0]? = some (cA, .boolean)) {i x : Int32} {k : Nat} (hk : i.toNatClampNeg = k) (hin : vp_in i n) (hz : vp_nar .boolean x = x) (hdg : decode cc pc = .ok (.bastore, 1))
    (hset : F.set q0 (a, .inl (cA, n, .inl (upd f k x))) = F') (hF : Fs.set j F' = Fs') (kk : ∀ (H1 : Heap) (locs1 : List Loc), va_P D vwCl Fs'.flatten H1 → va_D A Fs'.flatten → va_S A H0 H1 locs1 → W p l e R s m args below meth c H1 locs1 cells slots Q (F0 m (pc + 1) ls rest)) : W p l e R s m args below meth c H locs cells slots Q (F0 m pc ls (.int x :: .int i :: .ref a :: rest)) := by
  subst hk; subst hset; subst hF
  have kk9 := kk
  rw [← fSet Fs j F q0 _ hj (fLt ha)] at kk9
  exact va_zast hexec hb hK hP hD hS _ t0 (fGet Fs j F q0 _ hj ha) ht hin hdg (by rw [hz]; exact kk9)
theorem q_last (hexec : p.tables.exec = Jvm.exec) (hb : c.code = cc) (hK : va_K D vwCl tys s) (hP : va_P D vwCl Fs.flatten H) (hD : va_D A Fs.flatten) (hS : va_S A H0 H locs) (j q0 t0 : Nat) (hj : Fs[j]? = some F) {cA : ClassId} {n : Nat} {f : Nat → Int64} (ha : F[q0]? = some (a, .inl (cA, n, .inr (.inl f)))) (ht : tys[t0]? = some (cA, .long)) {i : Int32} {x : Int64} {k : Nat} (hk : i.toNatClampNeg = k) (hin : vp_in i n) (hdg : decode cc pc = .ok (.lastore, 1))
    (hset : F.set q0 (a, .inl (cA, n, .inr (.inl (vp_updL f k x)))) = F') (hF : Fs.set j F' = Fs') (kk : ∀ (H1 : Heap) (locs1 : List Loc), va_P D vwCl Fs'.flatten H1 → va_D A Fs'.flatten → va_S A H0 H1 locs1 → W p l e R s m args below meth c H1 locs1 cells slots Q (F0 m (pc + 1) ls rest)) : W p l e R s m args below meth c H locs cells slots Q (F0 m pc ls (.long x :: .int i :: .ref a :: rest)) := by
  subst hk; subst hset; subst hF
  have kk9 := kk
  rw [← fSet Fs j F q0 _ hj (fLt ha)] at kk9
  exact va_last hexec hb hK hP hD hS _ t0 (fGet Fs j F q0 _ hj ha) ht hin hdg kk9
theorem q_get (hexec : p.tables.exec = Jvm.exec) (hb : c.code = cc) {own ref C : String} {T : u_T} {N ci index : Nat} {Ts : List Cond} (hts : ∀ w ∈ Ts, w.before args s = true) (hin : ∀ w ∈ u_ws C T N, w ∈ Ts) (hown : s.vm.findClass own = some m.cls) (hK : va_K D vwCl tys s) (hP : va_P D vwCl Fs.flatten H) (j q0 : Nat) (hj : Fs[j]? = some F) {fs : List Value} (he : F[q0]? = some (a, .inr (ci, fs))) (hc : vwCl[ci]? = some (C, T, N)) (k : Nat) (hk : k < N) (hlink : (Cond.fieldLink own index ref (T k).2.1 (T k).2.2.1).before args s = true) (hsame : ∀ x, s.fieldFound? (T k).1 (T k).2.1 (T k).2.2.1 = some x → s.fieldFound? ref (T k).2.1 (T k).2.2.1 = some x) {v : Value} (hv : fs[k]? = some v) (hdg : decode cc pc = .ok (.getfield index, 3))
    (kk : W p l e R s m args below meth c H locs cells slots Q (F0 m (pc + 3) ls (v :: rest))) : W p l e R s m args below meth c H locs cells slots Q (F0 m pc ls (.ref a :: rest)) := va_get hexec hb hts hin hown hK (fP hP hj) q0 he hc k hk hlink hsame hv hdg kk
theorem q_put (hexec : p.tables.exec = Jvm.exec) (hb : c.code = cc) {own ref C : String} {T : u_T} {N ci index : Nat} {Ts : List Cond} (hts : ∀ w ∈ Ts, w.before args s = true) (hin : ∀ w ∈ u_ws C T N, w ∈ Ts) (ty0 : Nat → FieldType) (hty : ∀ k, k < N → parseFieldDescriptor (T k).2.2.1 = some (ty0 k)) (hnm : ∀ a, a < N → ∀ b, b < N → a ≠ b → (T a).2.1 ≠ (T b).2.1) (hown : s.vm.findClass own = some m.cls) (hK : va_K D vwCl tys s) (hP : va_P D vwCl Fs.flatten H) (hD : va_D A Fs.flatten) (hS0 : va_S A H0 H locs) (j q0 : Nat) (hj : Fs[j]? = some F) {fs : List Value} (he : F[q0]? = some (a, .inr (ci, fs))) (hc : vwCl[ci]? = some (C, T, N)) (k : Nat) (hk : k < N) (hlink : (Cond.fieldLink own index ref (T k).2.1 (T k).2.2.1).before args s = true) (hsame : ∀ x, s.fieldFound? (T k).1 (T k).2.1 (T k).2.2.1 = some x → s.fieldFound? ref (T k).2.1 (T k).2.2.1 = some x) (hfin : (T k).2.2.2 = false) {ty : FieldType} {v : Value} (hd : parseFieldDescriptor (T k).2.2.1 = some ty) (hn : narrow ty v = v) (hfit : fits ty v = true) (hl : k < fs.length)
    (hdg : decode cc pc = .ok (.putfield index, 3)) (hset : F.set q0 (a, .inr (ci, fs.set k v)) = F') (hF : Fs.set j F' = Fs') (kk : ∀ (H1 : Heap) (locs1 : List Loc), va_P D vwCl Fs'.flatten H1 → va_D A Fs'.flatten → va_S A H0 H1 locs1 → W p l e R s m args below meth c H1 locs1 cells slots Q (F0 m (pc + 3) ls rest)) : W p l e R s m args below meth c H locs cells slots Q (F0 m pc ls (v :: .ref a :: rest)) := by
  subst hset; subst hF
  have kk9 := kk
  rw [← fSet Fs j F q0 _ hj (fLt he)] at kk9
  exact va_put hexec hb hts hin ty0 hty hnm hown hK hP hD hS0 _ (fGet Fs j F q0 _ hj he) hc k hk hlink hsame hfin hd hn hfit hl hdg kk9
/-- a sum or a difference gets the name that its reader has for it -/
theorem q_iadd (hexec : p.tables.exec = Jvm.exec) (hb : c.code = cc) {x y z : Int32} (hdg : decode cc pc = .ok (.iadd, 1)) (hz : x + y = z)
    (kk : W p l e R s m args below meth c H locs cells slots Q (F0 m (pc + 1) ls (.int z :: rest))) : W p l e R s m args below meth c H locs cells slots Q (F0 m pc ls (.int y :: .int x :: rest)) := by
  subst hz; exact lv_iadd hexec hb hdg kk
theorem q_isub (hexec : p.tables.exec = Jvm.exec) (hb : c.code = cc) {x y z : Int32} (hdg : decode cc pc = .ok (.isub, 1)) (hz : x - y = z)
    (kk : W p l e R s m args below meth c H locs cells slots Q (F0 m (pc + 1) ls (.int z :: rest))) : W p l e R s m args below meth c H locs cells slots Q (F0 m pc ls (.int y :: .int x :: rest)) := by
  subst hz; exact lv_isub hexec hb hdg kk
theorem q_top {x z : Int32} (hz : x = z) (kk : W p l e R s m args below meth c H locs cells slots Q (F0 m pc ls (.int z :: rest))) : W p l e R s m args below meth c H locs cells slots Q (F0 m pc ls (.int x :: rest)) := by
  subst hz; exact kk
theorem q_iret {S : Type} {post : Int32 → S → Prop} {w' : S → List va_W} {v : Int32} (u : S) (hexec : p.tables.exec = Jvm.exec) (hb : c.code = cc) (hr : meth.sig.returnType = some .int) (hlocks : meth.locks = false) (hK : va_K D vwCl tys s) (hP : va_P D vwCl Fs.flatten H) (hD : va_D A Fs.flatten) (hS : va_S A s.heap H locs) (hpost : post v u) (hw : Fs = w' u)
    (hdg : decode cc pc = .ok (.ireturn, 1)) : W p l e R s m args below meth c H locs cells slots (MQ below (va_Qi post (fun u t => mAt D tys A (w' u) t) A) args s cells slots A) (F0 m pc ls [.int v]) := by
  subst hw
  exact W.iret hexec hb hr (fun t ht hW => ⟨⟨v, u, rfl, hpost, by rw [ht]; exact hP, va_K.moved hW.alike hK, hD⟩, hS.F ht⟩) hS.2.2 hdg
theorem q_zret {S : Type} {post : Int32 → S → Prop} {w' : S → List va_W} {v : Int32} (u : S) (hexec : p.tables.exec = Jvm.exec) (hb : c.code = cc) (hr : meth.sig.returnType = some .boolean) (hn : narrow .boolean (.int v) = .int v) (hlocks : meth.locks = false) (hK : va_K D vwCl tys s) (hP : va_P D vwCl Fs.flatten H) (hD : va_D A Fs.flatten) (hS : va_S A s.heap H locs) (hpost : post v u) (hw : Fs = w' u)
    (hdg : decode cc pc = .ok (.ireturn, 1)) : W p l e R s m args below meth c H locs cells slots (MQ below (va_Qi post (fun u t => mAt D tys A (w' u) t) A) args s cells slots A) (F0 m pc ls [.int v]) := by
  subst hw
  exact W.zret hexec hb hr hn (fun t ht hW => ⟨⟨v, u, rfl, hpost, by rw [ht]; exact hP, va_K.moved hW.alike hK, hD⟩, hS.F ht⟩) hS.2.2 hdg
theorem q_lret {S : Type} {post : Int64 → S → Prop} {w' : S → List va_W} {v : Int64} (u : S) (hexec : p.tables.exec = Jvm.exec) (hb : c.code = cc) (hr : meth.sig.returnType = some .long) (hlocks : meth.locks = false) (hK : va_K D vwCl tys s) (hP : va_P D vwCl Fs.flatten H) (hD : va_D A Fs.flatten) (hS : va_S A s.heap H locs) (hpost : post v u) (hw : Fs = w' u)
    (hdg : decode cc pc = .ok (.lreturn, 1)) : W p l e R s m args below meth c H locs cells slots (MQ below (va_Ql post (fun u t => mAt D tys A (w' u) t) A) args s cells slots A) (F0 m pc ls [.long v]) := by
  subst hw
  exact W.lret hexec hb hr (fun t ht hW => ⟨⟨v, u, rfl, hpost, by rw [ht]; exact hP, va_K.moved hW.alike hK, hD⟩, hS.F ht⟩) hS.2.2 hdg
theorem q_vret {S : Type} {post : S → Prop} {w' : S → List va_W} (u : S) (hexec : p.tables.exec = Jvm.exec) (hb : c.code = cc) (hr : meth.sig.returnType = none) (hlocks : meth.locks = false) (hK : va_K D vwCl tys s) (hP : va_P D vwCl Fs.flatten H) (hD : va_D A Fs.flatten) (hS : va_S A s.heap H locs) (hpost : post u) (hw : Fs = w' u)
    (hdg : decode cc pc = .ok (.return_, 1)) : W p l e R s m args below meth c H locs cells slots (MQ below (va_Qv post (fun u t => mAt D tys A (w' u) t) A) args s cells slots A) (F0 m pc ls []) := by
  subst hw
  exact W.vret hexec hb hr (fun t ht hW => ⟨⟨u, rfl, hpost, by rw [ht]; exact hP, va_K.moved hW.alike hK, hD⟩, hS.F ht⟩) hS.2.2 hdg
theorem q_aret {x v : Nat} {w' : List va_W} {nm : String} (hexec : p.tables.exec = Jvm.exec) (hb : c.code = cc) (hr : meth.sig.returnType = some (.object nm)) (hlocks : meth.locks = false) (hK : va_K D vwCl tys s) (hP : va_P D vwCl Fs.flatten H) (hD : va_D A Fs.flatten) (hS : va_S A s.heap H locs) (hv : v = x) (hw : Fs = w')
    (hdg : decode cc pc = .ok (.areturn, 1)) : W p l e R s m args below meth c H locs cells slots (MQ below (va_Qr (fun _ : Unit => True) (fun _ a t => a = x ∧ mAt D tys A w' t) A) args s cells slots A) (F0 m pc ls [.ref v]) := by
  subst hw; subst hv
  exact W.aret hexec hb hr (Or.inl ⟨nm, rfl⟩) (Or.inr ⟨v, rfl⟩) (fun t ht hW => ⟨⟨(), v, rfl, trivial, rfl, by rw [ht]; exact hP, va_K.moved hW.alike hK, hD⟩, hS.F ht⟩) hS.2.2 hdg
theorem q_blind {av : List Value} {w : List va_W} {sz : Nat} : FrameBlind (va_Pc av (mPre D tys w sz)) := by
  intro a U g mk q
  obtain ⟨q0, q1, qP, qK, qD⟩ := q
  exact ⟨q0, q1, qP, va_K.moved (u := U) (U := U.calling g mk a) (Vm.Alike.refl U.vm) qK, qD⟩
theorem q_pre {av : List Value} {w : List va_W} (hK : va_K D vwCl tys s) (hP : va_P D vwCl w.flatten H) (hD : va_D A w.flatten) : ∀ U : State, U.heap = H → s.WarmedH U.vm → va_Pc av (mPre D tys w H.size) av.toArray U := fun U hU hW => ⟨rfl, by rw [hU], by rw [hU]; exact hP, va_K.moved hW.alike hK, hD.weaken (fun _ _ _ _ => trivial)⟩
section Calls
variable {Ts wy wy' : List Cond} {own C : String} {y : MethodName} {bytes : ByteArray} {maxL nL n index fr lo : Nat} {ret : Option FieldType} {Gs : List va_W} {b : Nat} {As st : List Value} {js : List Nat} {q0 ci : Nat} {G0 : va_W} {Gt : List va_W} {fs : List Value} {cq : vw_C}
theorem q_callVi {S : Type} {post : Int32 → S → Prop} {w' : S → List va_W} (X : CallFix p m c cc nL s args Ts own) (hK : va_K D vwCl tys s) (hP : va_P D vwCl Fs.flatten H) (hD : va_D A Fs.flatten) (hS : va_S A H0 H locs) (hA : ∀ q, H0.size ≤ q → A q)
    (hM : McI l D tys y wy fr lo (.ref b :: As) Gs post w') (hC : js.map (fun j => Fs[j]?) = Gs.map some) (hnd : va_nd js = true) (hw : ∀ u, (w' u).map (List.map Prod.fst) = Gs.map (List.map Prod.fst)) (Fs' : S → List va_W) (hFs : ∀ u, fBack Fs js (w' u) = Fs' u)
    (hG : GoodIn Ts (wsV own index C y wy)) (hwy : wy = Cond.code y bytes maxL ret :: wy') (hd : y.cls = C ∧ y.cls ≠ "java/lang/invoke/MethodHandle" ∧ y.cls ≠ "java/lang/invoke/VarHandle" ∧ (parseMethodDescriptor y.desc).map (fun d => d.parameters.length) = some n) (hn : As.length = n) (hR : fr + 1 ≤ R.frames ∧ 8 + (maxL + 11) + lo ≤ R.locals)
    (hcl : vwCl[ci]? = some cq) (hCq : cq.1 = C) (hG0 : Gs = G0 :: Gt) (hrecv : G0[0]? = some (b, .inr (ci, fs))) (hls : ls.size = nL) (hrm : (rest.map fun v => v.category).sum ≤ 8) (hcells : cells ≤ R.cells ∧ slots ≤ R.slots) (hdg : decode cc pc = .ok (.invokevirtual index, 3)) (hst : st = As.reverse ++ .ref b :: rest)
    (kk : ∀ (r : Int32) (u : S) (H1 : Heap) (locs1 : List Loc), post r u → va_P D vwCl (Fs' u).flatten H1 → va_D A (Fs' u).flatten → va_S A H0 H1 locs1 → W p l e R s m args below meth c H1 locs1 cells slots Q (F0 m (pc + 3) ls (.int r :: rest))) : W p l e R s m args below meth c H locs cells slots Q (F0 m pc ls st) := by
  subst hCq
  obtain ⟨hPc, hDc⟩ := fCalls hP hD js hnd hC
  have hFc : ∀ q, va_A Gs.flatten H.size q → A q := fun q h => by
    rcases h with ⟨k, e, h⟩ | h
    · exact hDc.2 k _ h
    · exact hA q (Nat.le_trans hS.1 h)
  refine va_calli (va_runV (As := As) (rest := rest) X (hM H.size) (cwV n X.2.2.2.2 hG hwy rfl rfl hd hR) ⟨q_blind, va_recv hK (fP hPc (j := 0) (by rw [hG0]; rfl)) hcl hrecv, q_pre hK hPc hDc⟩ rfl hn hls hst (lv_room hrm) hdg hcells) hS (fun q _ h => hFc q h) hFc (fun r u t H1 locs1 ht hvm hw1 hB hz1 hk1 hS1 => ?_)
  obtain ⟨hP1, -, -⟩ := hB
  rw [ht] at hP1
  obtain ⟨hP2, hD2⟩ := fBacks hP hD js hC (hw u) (hFs u) hk1 hP1
  exact kk r u H1 locs1 hw1 hP2 hD2 hS1
theorem q_callVl {S : Type} {post : Int64 → S → Prop} {w' : S → List va_W} (X : CallFix p m c cc nL s args Ts own) (hK : va_K D vwCl tys s) (hP : va_P D vwCl Fs.flatten H) (hD : va_D A Fs.flatten) (hS : va_S A H0 H locs) (hA : ∀ q, H0.size ≤ q → A q)
    (hM : McL l D tys y wy fr lo (.ref b :: As) Gs post w') (hC : js.map (fun j => Fs[j]?) = Gs.map some) (hnd : va_nd js = true) (hw : ∀ u, (w' u).map (List.map Prod.fst) = Gs.map (List.map Prod.fst)) (Fs' : S → List va_W) (hFs : ∀ u, fBack Fs js (w' u) = Fs' u)
    (hG : GoodIn Ts (wsV own index C y wy)) (hwy : wy = Cond.code y bytes maxL ret :: wy') (hd : y.cls = C ∧ y.cls ≠ "java/lang/invoke/MethodHandle" ∧ y.cls ≠ "java/lang/invoke/VarHandle" ∧ (parseMethodDescriptor y.desc).map (fun d => d.parameters.length) = some n) (hn : As.length = n) (hR : fr + 1 ≤ R.frames ∧ 8 + (maxL + 11) + lo ≤ R.locals)
    (hcl : vwCl[ci]? = some cq) (hCq : cq.1 = C) (hG0 : Gs = G0 :: Gt) (hrecv : G0[0]? = some (b, .inr (ci, fs))) (hls : ls.size = nL) (hrm : (rest.map fun v => v.category).sum ≤ 8) (hcells : cells ≤ R.cells ∧ slots ≤ R.slots) (hdg : decode cc pc = .ok (.invokevirtual index, 3)) (hst : st = As.reverse ++ .ref b :: rest)
    (kk : ∀ (r : Int64) (u : S) (H1 : Heap) (locs1 : List Loc), post r u → va_P D vwCl (Fs' u).flatten H1 → va_D A (Fs' u).flatten → va_S A H0 H1 locs1 → W p l e R s m args below meth c H1 locs1 cells slots Q (F0 m (pc + 3) ls (.long r :: rest))) : W p l e R s m args below meth c H locs cells slots Q (F0 m pc ls st) := by
  subst hCq
  obtain ⟨hPc, hDc⟩ := fCalls hP hD js hnd hC
  have hFc : ∀ q, va_A Gs.flatten H.size q → A q := fun q h => by
    rcases h with ⟨k, e, h⟩ | h
    · exact hDc.2 k _ h
    · exact hA q (Nat.le_trans hS.1 h)
  refine va_calll (va_runV (As := As) (rest := rest) X (hM H.size) (cwV n X.2.2.2.2 hG hwy rfl rfl hd hR) ⟨q_blind, va_recv hK (fP hPc (j := 0) (by rw [hG0]; rfl)) hcl hrecv, q_pre hK hPc hDc⟩ rfl hn hls hst (lv_room hrm) hdg hcells) hS (fun q _ h => hFc q h) hFc (fun r u t H1 locs1 ht hvm hw1 hB hz1 hk1 hS1 => ?_)
  obtain ⟨hP1, -, -⟩ := hB
  rw [ht] at hP1
  obtain ⟨hP2, hD2⟩ := fBacks hP hD js hC (hw u) (hFs u) hk1 hP1
  exact kk r u H1 locs1 hw1 hP2 hD2 hS1
theorem q_callVv {S : Type} {post : S → Prop} {w' : S → List va_W} (X : CallFix p m c cc nL s args Ts own) (hK : va_K D vwCl tys s) (hP : va_P D vwCl Fs.flatten H) (hD : va_D A Fs.flatten) (hS : va_S A H0 H locs) (hA : ∀ q, H0.size ≤ q → A q)
    (hM : McV l D tys y wy fr lo (.ref b :: As) Gs post w') (hC : js.map (fun j => Fs[j]?) = Gs.map some) (hnd : va_nd js = true) (hw : ∀ u, (w' u).map (List.map Prod.fst) = Gs.map (List.map Prod.fst)) (Fs' : S → List va_W) (hFs : ∀ u, fBack Fs js (w' u) = Fs' u)
    (hG : GoodIn Ts (wsV own index C y wy)) (hwy : wy = Cond.code y bytes maxL ret :: wy') (hd : y.cls = C ∧ y.cls ≠ "java/lang/invoke/MethodHandle" ∧ y.cls ≠ "java/lang/invoke/VarHandle" ∧ (parseMethodDescriptor y.desc).map (fun d => d.parameters.length) = some n) (hn : As.length = n) (hR : fr + 1 ≤ R.frames ∧ 8 + (maxL + 11) + lo ≤ R.locals)
    (hcl : vwCl[ci]? = some cq) (hCq : cq.1 = C) (hG0 : Gs = G0 :: Gt) (hrecv : G0[0]? = some (b, .inr (ci, fs))) (hls : ls.size = nL) (hrm : (rest.map fun v => v.category).sum ≤ 8) (hcells : cells ≤ R.cells ∧ slots ≤ R.slots) (hdg : decode cc pc = .ok (.invokevirtual index, 3)) (hst : st = As.reverse ++ .ref b :: rest)
    (kk : ∀ (u : S) (H1 : Heap) (locs1 : List Loc), post u → va_P D vwCl (Fs' u).flatten H1 → va_D A (Fs' u).flatten → va_S A H0 H1 locs1 → W p l e R s m args below meth c H1 locs1 cells slots Q (F0 m (pc + 3) ls rest)) : W p l e R s m args below meth c H locs cells slots Q (F0 m pc ls st) := by
  subst hCq
  obtain ⟨hPc, hDc⟩ := fCalls hP hD js hnd hC
  have hFc : ∀ q, va_A Gs.flatten H.size q → A q := fun q h => by
    rcases h with ⟨k, e, h⟩ | h
    · exact hDc.2 k _ h
    · exact hA q (Nat.le_trans hS.1 h)
  refine va_callv (va_runV (As := As) (rest := rest) X (hM H.size) (cwV n X.2.2.2.2 hG hwy rfl rfl hd hR) ⟨q_blind, va_recv hK (fP hPc (j := 0) (by rw [hG0]; rfl)) hcl hrecv, q_pre hK hPc hDc⟩ rfl hn hls hst (lv_room hrm) hdg hcells) hS (fun q _ h => hFc q h) hFc (fun u t H1 locs1 ht hvm hw1 hB hz1 hk1 hS1 => ?_)
  obtain ⟨hP1, -, -⟩ := hB
  rw [ht] at hP1
  obtain ⟨hP2, hD2⟩ := fBacks hP hD js hC (hw u) (hFs u) hk1 hP1
  exact kk u H1 locs1 hw1 hP2 hD2 hS1
theorem q_callVr {x : Nat} {w' : List va_W} (X : CallFix p m c cc nL s args Ts own) (hK : va_K D vwCl tys s) (hP : va_P D vwCl Fs.flatten H) (hD : va_D A Fs.flatten) (hS : va_S A H0 H locs) (hA : ∀ q, H0.size ≤ q → A q)
    (hM : McR l D tys y wy fr lo (.ref b :: As) Gs x w') (hC : js.map (fun j => Fs[j]?) = Gs.map some) (hnd : va_nd js = true) (hw : w'.map (List.map Prod.fst) = Gs.map (List.map Prod.fst)) (Fs' : List va_W) (hFs : fBack Fs js w' = Fs')
    (hG : GoodIn Ts (wsV own index C y wy)) (hwy : wy = Cond.code y bytes maxL ret :: wy') (hd : y.cls = C ∧ y.cls ≠ "java/lang/invoke/MethodHandle" ∧ y.cls ≠ "java/lang/invoke/VarHandle" ∧ (parseMethodDescriptor y.desc).map (fun d => d.parameters.length) = some n) (hn : As.length = n) (hR : fr + 1 ≤ R.frames ∧ 8 + (maxL + 11) + lo ≤ R.locals)
    (hcl : vwCl[ci]? = some cq) (hCq : cq.1 = C) (hG0 : Gs = G0 :: Gt) (hrecv : G0[0]? = some (b, .inr (ci, fs))) (hls : ls.size = nL) (hrm : (rest.map fun v => v.category).sum ≤ 8) (hcells : cells ≤ R.cells ∧ slots ≤ R.slots) (hdg : decode cc pc = .ok (.invokevirtual index, 3)) (hst : st = As.reverse ++ .ref b :: rest)
    (kk : ∀ (H1 : Heap) (locs1 : List Loc), va_P D vwCl Fs'.flatten H1 → va_D A Fs'.flatten → va_S A H0 H1 locs1 → W p l e R s m args below meth c H1 locs1 cells slots Q (F0 m (pc + 3) ls (.ref x :: rest))) : W p l e R s m args below meth c H locs cells slots Q (F0 m pc ls st) := by
  subst hCq
  obtain ⟨hPc, hDc⟩ := fCalls hP hD js hnd hC
  have hFc : ∀ q, va_A Gs.flatten H.size q → A q := fun q h => by
    rcases h with ⟨k, e, h⟩ | h
    · exact hDc.2 k _ h
    · exact hA q (Nat.le_trans hS.1 h)
  refine va_callr (va_runV (As := As) (rest := rest) X (hM H.size) (cwV n X.2.2.2.2 hG hwy rfl rfl hd hR) ⟨q_blind, va_recv hK (fP hPc (j := 0) (by rw [hG0]; rfl)) hcl hrecv, q_pre hK hPc hDc⟩ rfl hn hls hst (lv_room hrm) hdg hcells) hS (fun q _ h => hFc q h) hFc (fun u a1 t H1 locs1 ht hvm hw1 hB hz1 hk1 hS1 => ?_)
  obtain ⟨hx1, hP1, -, -⟩ := hB
  subst hx1
  rw [ht] at hP1
  obtain ⟨hP2, hD2⟩ := fBacks hP hD js hC hw hFs hk1 hP1
  exact kk H1 locs1 hP2 hD2 hS1
theorem q_callSv {S : Type} {post : S → Prop} {w' : S → List va_W} (X : CallFix p m c cc nL s args Ts own) (hK : va_K D vwCl tys s) (hP : va_P D vwCl Fs.flatten H) (hD : va_D A Fs.flatten) (hS : va_S A H0 H locs) (hA : ∀ q, H0.size ≤ q → A q)
    (hM : McV l D tys y wy fr lo As Gs post w') (hC : js.map (fun j => Fs[j]?) = Gs.map some) (hnd : va_nd js = true) (hw : ∀ u, (w' u).map (List.map Prod.fst) = Gs.map (List.map Prod.fst)) (Fs' : S → List va_W) (hFs : ∀ u, fBack Fs js (w' u) = Fs' u)
    (hG : GoodIn Ts (va_wsS own index y wy)) (hwy : wy = Cond.code y bytes maxL ret :: wy') (hd : y.cls ≠ "java/lang/invoke/MethodHandle" ∧ y.cls ≠ "java/lang/invoke/VarHandle" ∧ (parseMethodDescriptor y.desc).map (fun d => d.parameters.length) = some n) (hn : As.length = n) (hR : fr + 1 ≤ R.frames ∧ 8 + (maxL + 11) + lo ≤ R.locals)
    (hls : ls.size = nL) (hrm : (rest.map fun v => v.category).sum ≤ 8) (hcells : cells ≤ R.cells ∧ slots ≤ R.slots) (hdg : decode cc pc = .ok (.invokestatic index, 3)) (hst : st = As.reverse ++ rest)
    (kk : ∀ (u : S) (H1 : Heap) (locs1 : List Loc), post u → va_P D vwCl (Fs' u).flatten H1 → va_D A (Fs' u).flatten → va_S A H0 H1 locs1 → W p l e R s m args below meth c H1 locs1 cells slots Q (F0 m (pc + 3) ls rest)) : W p l e R s m args below meth c H locs cells slots Q (F0 m pc ls st) := by
  obtain ⟨hPc, hDc⟩ := fCalls hP hD js hnd hC
  have hFc : ∀ q, va_A Gs.flatten H.size q → A q := fun q h => by
    rcases h with ⟨k, e, h⟩ | h
    · exact hDc.2 k _ h
    · exact hA q (Nat.le_trans hS.1 h)
  refine va_callv (va_runS (As := As) (rest := rest) X (hM H.size) (va_cwS n X.2.2.2.2 hG hwy rfl rfl hd hR) ⟨q_blind, q_pre hK hPc hDc⟩ rfl hn hls hst (lv_room hrm) hdg hcells) hS (fun q _ h => hFc q h) hFc (fun u t H1 locs1 ht hvm hw1 hB hz1 hk1 hS1 => ?_)
  obtain ⟨hP1, -, -⟩ := hB
  rw [ht] at hP1
  obtain ⟨hP2, hD2⟩ := fBacks hP hD js hC (hw u) (hFs u) hk1 hP1
  exact kk u H1 locs1 hw1 hP2 hD2 hS1
end Calls
end QR

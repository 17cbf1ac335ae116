/-! ===== a node's places; rows built by counting ===== -/
def nF (oo : Nat → Nat) : Nat → Int32 := fun j => nI (oo j)
def atV (c : Nat) (sa ow rw : Nat → Int32) (oo : Nat → Nat) (v p : Nat) : Int32 := if p < oo (v + 1) - oo v then rw (oo v + p) else if isWt c sa (nI (p - (oo (v + 1) - oo v))) && decide (ow (p - (oo (v + 1) - oo v)) = nI v) then nI (p - (oo (v + 1) - oo v)) else -1
def atL (c : Nat) (sa tk ow rw : Nat → Int32) (oo : Nat → Nat) (v p : Nat) : Bool := isLv c sa tk (atV c sa ow rw oo v p)
def plN (c : Nat) (oo : Nat → Nat) (v : Nat) : Nat := oo (v + 1) - oo v + c
def lpR (c : Nat) (sa tk ow rw : Nat → Int32) (oo : Nat → Nat) (v q : Nat) : Int32 := fsv (atL c sa tk ow rw oo v) nI (plN c oo v - q) q
def laB (c : Nat) (sa tk ow rw : Nat → Int32) (oo : Nat → Nat) (v k p : Nat) : Bool := atL c sa tk ow rw oo v p && decide (cN p (atL c sa tk ow rw oo v) = k)
def laR (c : Nat) (sa tk ow rw : Nat → Int32) (oo : Nat → Nat) (v k : Nat) : Int32 := fsv (laB c sa tk ow rw oo v k) (atV c sa ow rw oo v) (plN c oo v) 0
theorem isWt_lt {c j : Nat} {sa : Nat → Int32} (h : isWt c sa (nI j) = true) (hc : c < 2 ^ 31) (hj : j < 2 ^ 31) : j < c := by
  simp only [isWt, Bool.and_eq_true] at h
  have := h.1
  rw [hasB_nI hc hj] at this
  simpa using this
def eqB (kk : Nat → Nat) (x t : Nat) : Bool := decide (kk t + 1 = x)
def ltB (kk : Nat → Nat) (x t : Nat) : Bool := decide (kk t < x)
def eq0 (kk : Nat → Nat) (x t : Nat) : Bool := decide (kk t = x)
def o1F (kk : Nat → Nat) (i x : Nat) : Nat := cN i (eqB kk x)
def o2F (n : Nat) (kk : Nat → Nat) (w x : Nat) : Nat := if x < w then cN n (ltB kk x) else cN n (eqB kk x)
def psN (n : Nat) (kk : Nat → Nat) (x : Nat) : Nat := cN n (ltB kk x)
def f3F (n : Nat) (kk : Nat → Nat) (i x : Nat) : Nat := cN n (ltB kk x) + cN i (eq0 kk x)
def rkN (n : Nat) (kk : Nat → Nat) (i : Nat) : Nat := f3F n kk i (kk i)
def srF (R sn : Nat → Nat) (f : Nat → Int32) : Nat → Nat → Int32
  | 0 => f
  | i + 1 => upd (srF R sn f i) (R i) (nI (sn i))
theorem cN_add {P Q R : Nat → Bool} (n : Nat) (h : ∀ t, t < n → (if P t then 1 else 0) + (if Q t then 1 else 0) = (if R t then 1 else 0 : Nat)) : cN n P + cN n Q = cN n R := by
  induction n with
  | zero => rfl
  | succ n ih =>
    have h1 := ih (fun t ht => h t (by omega))
    have h2 := h n (by omega)
    simp only [cN]; omega
theorem cN_congr {P Q : Nat → Bool} {n : Nat} (h : ∀ t, t < n → P t = Q t) : cN n P = cN n Q := by
  induction n with
  | zero => rfl
  | succ n ih => simp only [cN]; rw [ih (fun t ht => h t (by omega)), h n (by omega)]
theorem o1_w {kk : Nat → Nat} {i : Nat} : upd (nF (o1F kk i)) (kk i + 1) (nI (o1F kk i (kk i + 1) + 1)) = nF (o1F kk (i + 1)) := by
  funext x
  simp only [upd, nF, o1F, cN]
  by_cases h : x = kk i + 1
  · subst h; simp [eqB]
  · rw [if_neg h]; simp [eqB, show ¬ kk i + 1 = x by omega]
theorem o2_s {n w : Nat} {kk : Nat → Nat} (hw : 1 ≤ w) : cN n (eqB kk w) + cN n (ltB kk (w - 1)) = cN n (ltB kk w) := by
  refine cN_add n (fun t _ => ?_)
  simp only [eqB, ltB, decide_eq_true_eq]
  by_cases h1 : kk t + 1 = w
  · simp [h1, show ¬ kk t < w - 1 by omega, show kk t < w by omega]
  · by_cases h2 : kk t < w - 1
    · simp [h1, h2, show kk t < w by omega]
    · simp [h1, h2, show ¬ kk t < w by omega]
theorem o2_w {n w : Nat} {kk : Nat → Nat} (hw : 1 ≤ w) : upd (nF (o2F n kk w)) w (nI (cN n (eqB kk w) + cN n (ltB kk (w - 1)))) = nF (o2F n kk (w + 1)) := by
  funext x
  simp only [upd, nF, o2F]
  by_cases h : x = w
  · subst h; rw [if_pos rfl, o2_s hw, if_pos (by omega)]
  · rw [if_neg h]
    by_cases h2 : x < w
    · rw [if_pos h2, if_pos (by omega)]
    · rw [if_neg h2, if_neg (by omega)]
theorem o2_1 {n : Nat} {kk : Nat → Nat} : nF (o1F kk n) = nF (o2F n kk 1) := by
  funext x
  simp only [nF, o1F, o2F]
  by_cases h : x < 1
  · rw [if_pos h]
    congr 1
    exact cN_congr (fun t _ => by simp only [eqB, ltB]; rw [show x = 0 by omega]; simp)
  · rw [if_neg h]
theorem f3_w {n i : Nat} {kk : Nat → Nat} : upd (nF (f3F n kk i)) (kk i) (nI (f3F n kk i (kk i) + 1)) = nF (f3F n kk (i + 1)) := by
  funext x
  simp only [upd, nF, f3F, cN]
  by_cases h : x = kk i
  · subst h; simp [eq0, Nat.add_assoc]
  · rw [if_neg h]; simp [eq0, show ¬ kk i = x by omega]
theorem cN_mono {P : Nat → Bool} {n m : Nat} (h : n ≤ m) : cN n P ≤ cN m P := by
  induction m with
  | zero => rw [show n = 0 by omega]; exact Nat.le_refl _
  | succ m ih =>
    by_cases h1 : n = m + 1
    · subst h1; exact Nat.le_refl _
    · have := ih (by omega); simp only [cN]; omega
theorem cN_imp {P Q : Nat → Bool} {n : Nat} (h : ∀ t, t < n → P t = true → Q t = true) : cN n P ≤ cN n Q := by
  induction n with
  | zero => exact Nat.le_refl _
  | succ n ih =>
    have h1 := ih (fun t ht => h t (by omega))
    simp only [cN]
    cases hp : P n
    · simp; omega
    · rw [h n (by omega) hp]; simp; omega
theorem rk_lt {n i : Nat} {kk : Nat → Nat} (h : i < n) : rkN n kk i < n := by
  have h1 : cN i (eq0 kk (kk i)) + 1 ≤ cN n (eq0 kk (kk i)) := by
    have : cN (i + 1) (eq0 kk (kk i)) ≤ cN n (eq0 kk (kk i)) := cN_mono (by omega)
    simp only [cN, eq0] at this ⊢
    simpa using this
  have h2 : cN n (ltB kk (kk i)) + cN n (eq0 kk (kk i)) = cN n (ltB kk (kk i + 1)) := by
    refine cN_add n (fun t _ => ?_)
    simp only [ltB, eq0, decide_eq_true_eq]
    by_cases g1 : kk t < kk i
    · simp [g1, show ¬ kk t = kk i by omega, show kk t < kk i + 1 by omega]
    · by_cases g2 : kk t = kk i
      · simp [g2]
      · simp [g1, g2, show ¬ kk t < kk i + 1 by omega]
  have h3 := cN_le n (ltB kk (kk i + 1))
  unfold rkN f3F
  omega
section QC
variable {p : Program} {l : Launch} {e : Env} {R : Room} {s : State} {m : MethodId} {args : Array Value} {below : List Frame} {meth : Method} {c : Code} {H : Heap} {locs : List Loc} {cells slots : Nat} {Q : State → Prop}
variable {pc : Nat} {ls : Array Slot} {rest : List Value} {D : va_G} {A : Nat → Prop} {a : Nat} {tys : List (ClassId × FieldType)} {Fs Fs' : List va_W} {F F' G : va_W} {H0 : Heap}
theorem q_copyi {cc : ByteArray} (hexec : p.tables.exec = Jvm.exec) (hb : c.code = cc) (hml : c.maxLocals = ls.size) {own : String} {index : Nat} (hown : s.vm.findClass own = some m.cls) (hlink : (Cond.methodLink own index arraycopyName).before args s = true) (hnat : (Cond.native arraycopyName).before args s = true) (hstat : (Cond.static arraycopyName).before args s = true) (hini : (Cond.initialized "java/lang/System").before args s = true)
    (hK : va_K D vwCl tys s) (hP : va_P D vwCl Fs.flatten H) (hD : va_D A Fs.flatten) (hS : va_S A H0 H locs) (j0 p0 j1 p1 t0 : Nat) (hj0 : Fs[j0]? = some G) (hj1 : Fs[j1]? = some F) {a0 : Nat} {c0 : ClassId} {n0 n1 : Nat} {f g : Nat → Int32} (ha0 : G[p0]? = some (a0, .inl (c0, n0, .inl f))) (ha1 : F[p1]? = some (a, .inl (c0, n1, .inl g))) (ht0 : tys[t0]? = some (c0, .int))
    {n : Int32} {k : Nat} (hk : n.toNatClampNeg = k) (h3 : ¬ n < 0) (h4 : k ≤ n0) (h5 : k ≤ n1)
    (hframes : 1 ≤ R.frames) (hlocals : (rest.map fun v => v.category).sum + (nativeFrameWords "java/lang/System" "arraycopy" 5 + 11) ≤ R.locals) (hdg : decode cc pc = .ok (.invokestatic index, 3))
    (hset : F.set p1 (a, .inl (c0, n1, .inl (va_cpy f g 0 0 k))) = F') (hF : Fs.set j1 F' = Fs') (kk : ∀ (H1 : Heap) (locs1 : List Loc), va_P D vwCl Fs'.flatten H1 → va_D A Fs'.flatten → va_S A H0 H1 locs1 → W p l e R s m args below meth c H1 locs1 cells slots Q (F0 m (pc + 3) ls rest)) : W p l e R s m args below meth c H locs cells slots Q (F0 m pc ls (.int n :: .int 0 :: .ref a :: .int 0 :: .ref a0 :: rest)) := by
  subst hk; subst hset; subst hF
  have kk9 := kk
  rw [← fSet Fs j1 F p1 _ hj1 (fLt ha1)] at kk9
  exact va_copyi hexec hb hml hown hlink hnat hstat hini hK hP hD hS (fOff Fs j0 + p0) (fOff Fs j1 + p1) t0 t0 (fGet Fs j0 G p0 _ hj0 ha0) (fGet Fs j1 F p1 _ hj1 ha1) ht0 ht0 rfl (by decide) (by decide) h3 (by simpa using h4) (by simpa using h5) (fun i _ => rfl) hframes hlocals hdg kk9
theorem q_copyl {cc : ByteArray} (hexec : p.tables.exec = Jvm.exec) (hb : c.code = cc) (hml : c.maxLocals = ls.size) {own : String} {index : Nat} (hown : s.vm.findClass own = some m.cls) (hlink : (Cond.methodLink own index arraycopyName).before args s = true) (hnat : (Cond.native arraycopyName).before args s = true) (hstat : (Cond.static arraycopyName).before args s = true) (hini : (Cond.initialized "java/lang/System").before args s = true)
    (hK : va_K D vwCl tys s) (hP : va_P D vwCl Fs.flatten H) (hD : va_D A Fs.flatten) (hS : va_S A H0 H locs) (j0 p0 j1 p1 t0 : Nat) (hj0 : Fs[j0]? = some G) (hj1 : Fs[j1]? = some F) {a0 : Nat} {c0 : ClassId} {n0 n1 : Nat} {f g : Nat → Int64} (ha0 : G[p0]? = some (a0, .inl (c0, n0, .inr (.inl f)))) (ha1 : F[p1]? = some (a, .inl (c0, n1, .inr (.inl g)))) (ht0 : tys[t0]? = some (c0, .long))
    {n : Int32} {k : Nat} (hk : n.toNatClampNeg = k) (h3 : ¬ n < 0) (h4 : k ≤ n0) (h5 : k ≤ n1)
    (hframes : 1 ≤ R.frames) (hlocals : (rest.map fun v => v.category).sum + (nativeFrameWords "java/lang/System" "arraycopy" 5 + 11) ≤ R.locals) (hdg : decode cc pc = .ok (.invokestatic index, 3))
    (hset : F.set p1 (a, .inl (c0, n1, .inr (.inl (va_cpy f g 0 0 k)))) = F') (hF : Fs.set j1 F' = Fs') (kk : ∀ (H1 : Heap) (locs1 : List Loc), va_P D vwCl Fs'.flatten H1 → va_D A Fs'.flatten → va_S A H0 H1 locs1 → W p l e R s m args below meth c H1 locs1 cells slots Q (F0 m (pc + 3) ls rest)) : W p l e R s m args below meth c H locs cells slots Q (F0 m pc ls (.int n :: .int 0 :: .ref a :: .int 0 :: .ref a0 :: rest)) := by
  subst hk; subst hset; subst hF
  have kk9 := kk
  rw [← fSet Fs j1 F p1 _ hj1 (fLt ha1)] at kk9
  exact va_copyl hexec hb hml hown hlink hnat hstat hini hK hP hD hS (fOff Fs j0 + p0) (fOff Fs j1 + p1) t0 t0 (fGet Fs j0 G p0 _ hj0 ha0) (fGet Fs j1 F p1 _ hj1 ha1) ht0 ht0 rfl (by decide) (by decide) h3 (by simpa using h4) (by simpa using h5) (fun i _ => rfl) hframes hlocals hdg kk9
end QC

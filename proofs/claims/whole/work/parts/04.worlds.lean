/-! ===== what the cells are: lists of cells, by class ===== -/
abbrev tY (cI cZ cL : ClassId) : List (ClassId × FieldType) := [(cI, .int), (cZ, .boolean), (cL, .long)]
def wA (cI cZ : ClassId) (a : Nat → Nat) (c : Nat) (fr tt sa tk : Nat → Int32) : va_W := [(a 0, .inr (0, [.ref (a 1), .ref (a 2), .ref (a 3), .ref (a 4), .int (nI c)])), (a 1, .inl (cI, 160, .inl fr)), (a 2, .inl (cI, 160, .inl tt)), (a 3, .inl (cI, 160, .inl sa)), (a 4, .inl (cZ, 160, .inl tk))]
def wS (cI : ClassId) (b : Nat → Nat) (pa po pf : Nat) (N : Nat) (of rw nm bf fe : Nat → Int32) : va_W := [(b 0, .inr (3, [.ref pa, .ref po, .ref pf, .ref (b 1), .ref (b 2), .ref (b 3), .ref (b 4), .ref (b 5)])), (b 1, .inl (cI, N + 1, .inl of)), (b 2, .inl (cI, 160, .inl rw)), (b 3, .inl (cI, 160, .inl nm)), (b 4, .inl (cI, 160, .inl bf)), (b 5, .inl (cI, N + 1, .inl fe))]
def wI (cI cZ : ClassId) (i : Nat → Nat) (op sl oi nd lp tl : Nat → Int32) : va_W := [(i 0, .inr (2, [.ref (i 1), .ref (i 2), .ref (i 3), .ref (i 4), .ref (i 5), .ref (i 6)])), (i 1, .inl (cZ, 8, .inl op)), (i 2, .inl (cZ, 8, .inl sl)), (i 3, .inl (cZ, 8, .inl oi)), (i 4, .inl (cI, 8, .inl nd)), (i 5, .inl (cI, 8, .inl lp)), (i 6, .inl (cI, 8, .inl tl))]
def wG (cI : ClassId) (g : Nat → Nat) (go gt : Nat → Int32) : va_W := [(g 0, .inr (1, [.ref (g 1), .ref (g 2)])), (g 1, .inl (cI, 25, .inl go)), (g 2, .inl (cI, 160, .inl gt))]
def wO (cI cL : ClassId) (o : Nat → Nat) (xa xb xd xi xg : Nat) (N tn : Nat) (tr sp : Nat → Int32) (hr ow : Nat → Int64) : va_W := [(o 0, .inr (4, [.int (nI N), .ref xa, .ref xb, .ref xd, .ref xi, .ref xg, .ref (o 1), .int (nI tn), .ref (o 2), .ref (o 3), .ref (o 4)])), (o 1, .inl (cI, 160, .inl tr)), (o 2, .inl (cI, N, .inl sp)), (o 3, .inl (cL, N, .inr (.inl hr))), (o 4, .inl (cL, N, .inr (.inl ow)))]
def wM (cI cZ cL : ClassId) (q : Nat → Nat) (th N c : Nat) (fr tt sa tk : Nat → Int32) (tn : Nat) (tr op sl nd oi il tl go gt fa : Nat → Int32) (mn nx : Nat → Int64) : va_W := [(q 0, .inr (5, [.int (nI th), .int (nI N), .int (nI c), .ref (q 1), .ref (q 2), .ref (q 3), .ref (q 4), .int (nI tn), .ref (q 5), .ref (q 6), .ref (q 7), .ref (q 8), .ref (q 9), .ref (q 10), .ref (q 11), .ref (q 12), .ref (q 13), .ref (q 14), .ref (q 15), .ref (q 16)])), (q 1, .inl (cI, 160, .inl fr)), (q 2, .inl (cI, 160, .inl tt)), (q 3, .inl (cI, 160, .inl sa)), (q 4, .inl (cZ, 160, .inl tk)), (q 5, .inl (cI, 160, .inl tr)), (q 6, .inl (cZ, 8, .inl op)), (q 7, .inl (cZ, 8, .inl sl)), (q 8, .inl (cI, 8, .inl nd)), (q 9, .inl (cZ, 8, .inl oi)), (q 10, .inl (cI, 8, .inl il)), (q 11, .inl (cI, 8, .inl tl)), (q 12, .inl (cI, 25, .inl go)), (q 13, .inl (cI, 160, .inl gt)), (q 14, .inl (cI, 24, .inl fa)), (q 15, .inl (cL, 24, .inr (.inl mn))), (q 16, .inl (cL, 24, .inr (.inl nx)))]
def wT (cI : ClassId) (q n : Nat) (f : Nat → Int32) : va_W := [(q, .inl (cI, n, .inl f))]
def wU (cL : ClassId) (q n : Nat) (f : Nat → Int64) : va_W := [(q, .inl (cL, n, .inr (.inl f)))]
theorem wCast {D : va_G} {cl : List vw_C} {ws ws' : va_W} {H : Heap} (h : va_P D cl ws H) (e : ws = ws') : va_P D cl ws' H := e ▸ h
theorem dCast {A : Nat → Prop} {ws ws' : va_W} (h : va_D A ws) (e : ws = ws') : va_D A ws' := e ▸ h
/-! ===== the words for numbers, counts, states ===== -/
def cN : Nat → (Nat → Bool) → Nat
  | 0, _ => 0
  | n + 1, P => cN n P + (if P n then 1 else 0)
def hasB (c : Nat) (x : Int32) : Bool := !(decide (x < 0)) && !(decide (nI c ≤ x))
theorem hasB_of {c : Nat} {x : Int32} (h : hasB c x = true) (hc : c < 2 ^ 31) : ∃ j : Nat, j < c ∧ x = nI j := by
  simp only [hasB, Bool.and_eq_true, Bool.not_eq_true', decide_eq_false_iff_not] at h
  obtain ⟨j, hj, rfl⟩ := nI_of h.1
  refine ⟨j, ?_, rfl⟩
  have := mt (nI_leI hc hj).mpr h.2
  omega
theorem hasB_in {c n : Nat} {x : Int32} (h : hasB c x = true) (hc : c ≤ n) (hn : n < 2 ^ 31) : vp_in x n := by
  obtain ⟨j, hj, rfl⟩ := hasB_of h (by omega)
  exact vp_in_nI (by omega) hn
theorem hasB_nI {c j : Nat} (hc : c < 2 ^ 31) (hj : j < 2 ^ 31) : hasB c (nI j) = decide (j < c) := by
  have h1 : ¬ nI j < 0 := nI_pos hj
  have h2 := nI_leI (a := c) (b := j) hc hj
  by_cases h : j < c
  · have h3 : ¬ nI c ≤ nI j := fun h4 => absurd (h2.mp h4) (by omega)
    simp [hasB, h1, h3, h]
  · have h3 : nI c ≤ nI j := h2.mpr (by omega)
    simp [hasB, h3, h]
theorem hasB_m1 {c : Nat} : hasB c (-1) = false := by
  have : (-1 : Int32) < 0 := by decide
  simp [hasB, this]
def isLv (c : Nat) (sa tk : Nat → Int32) (x : Int32) : Bool := hasB c x && (!(decide (sa x.toNatClampNeg = 2)) && decide (tk x.toNatClampNeg = 0))
def isWt (c : Nat) (sa : Nat → Int32) (x : Int32) : Bool := hasB c x && decide (sa x.toNatClampNeg = 0)
def lvB (sa tk : Nat → Int32) (a : Nat) : Bool := !(decide (sa a = 2)) && decide (tk a = 0)
theorem isLv_nI {c : Nat} {sa tk : Nat → Int32} {j : Nat} (hj : j < c) (hc : c < 2 ^ 31) : isLv c sa tk (nI j) = lvB sa tk j := by
  simp [isLv, lvB, hasB_nI hc (show j < 2 ^ 31 by omega), hj, nI_clamp (show j < 2 ^ 31 by omega)]
def apR (c : Nat) : Int32 := if c < 160 then nI c else -6
def apC (c : Nat) : Nat := if c < 160 then c + 1 else c
def apF (c : Nat) (f : Nat → Int32) (v : Int32) : Nat → Int32 := if c < 160 then upd f c v else f
def sv (tk : Nat → Int32) (a : Nat) : Int32 := if tk a = 0 then 1 else 2
def stS (tk sa : Nat → Int32) (i : Nat) : Nat → Int32 := fun a => if a < i then sv tk a else sa a
theorem stS_0 {tk sa : Nat → Int32} : stS tk sa 0 = sa := by funext a; simp [stS]
theorem stS_i {tk sa : Nat → Int32} {i : Nat} : stS tk sa i i = sa i := by simp [stS]
theorem stS_w {tk sa : Nat → Int32} {i : Nat} {v : Int32} (h : v = sv tk i) : upd (stS tk sa i) i v = stS tk sa (i + 1) := by
  funext a; simp only [upd, stS]
  by_cases h1 : a = i
  · subst h1; simp [h]
  · by_cases h2 : a < i
    · simp [h1, h2, show a < i + 1 by omega]
    · simp [h1, h2, show ¬ a < i + 1 by omega]
theorem stS_k {tk sa : Nat → Int32} {i : Nat} (h : sa i = sv tk i) : stS tk sa i = stS tk sa (i + 1) := by
  funext a; simp only [stS]
  by_cases h1 : a = i
  · subst h1; simp [h]
  · by_cases h2 : a < i
    · simp [h2, show a < i + 1 by omega]
    · simp [h2, show ¬ a < i + 1 by omega]

/-! ===== words for loops: a prefix overwritten, the first that fits, numbers packed ===== -/
def pfx {α : Type} (v f : Nat → α) (i : Nat) : Nat → α := fun j => if j < i then v j else f j
theorem pfx_0 {α : Type} {v f : Nat → α} : pfx v f 0 = f := by funext j; simp [pfx]
theorem pfx_i {α : Type} {v f : Nat → α} {i : Nat} : pfx v f i i = f i := by simp [pfx]
theorem pfx_lt {α : Type} {v f : Nat → α} {i j : Nat} (h : j < i) : pfx v f i j = v j := by simp [pfx, h]
theorem pfx_ge {α : Type} {v f : Nat → α} {i j : Nat} (h : i ≤ j) : pfx v f i j = f j := by simp [pfx, show ¬ j < i by omega]
theorem pfx_w {v f : Nat → Int32} {i : Nat} {x : Int32} (h : x = v i) : upd (pfx v f i) i x = pfx v f (i + 1) := by
  funext j; simp only [upd, pfx]
  by_cases h1 : j = i
  · subst h1; simp [h]
  · by_cases h2 : j < i
    · simp [h1, h2, show j < i + 1 by omega]
    · simp [h1, h2, show ¬ j < i + 1 by omega]
theorem pfx_w2 {v f : Nat → Int32} {i : Nat} {x y : Int32} (h : x = v i) : upd (upd (pfx v f i) i y) i x = pfx v f (i + 1) := by
  rw [← pfx_w h]; funext j; simp only [upd]; by_cases h1 : j = i <;> simp [h1]
theorem pfx_wL {v f : Nat → Int64} {i : Nat} {x : Int64} (h : x = v i) : vp_updL (pfx v f i) i x = pfx v f (i + 1) := by
  funext j; simp only [vp_updL, pfx]
  by_cases h1 : j = i
  · subst h1; simp [h]
  · by_cases h2 : j < i
    · simp [h1, h2, show j < i + 1 by omega]
    · simp [h1, h2, show ¬ j < i + 1 by omega]
def stl (sl : Nat → Int32) : Nat → Int32 := pfx (fun _ => 1) sl 8
def fsv (Q : Nat → Bool) (V : Nat → Int32) : Nat → Nat → Int32
  | 0, _ => -1
  | f + 1, i => if Q i then V i else fsv Q V f (i + 1)
theorem fsv_yes {Q : Nat → Bool} {V : Nat → Int32} {n i : Nat} (h : i < n) (hq : Q i = true) : fsv Q V (n - i) i = V i := by
  rw [show n - i = (n - (i + 1)) + 1 by omega]; simp [fsv, hq]
theorem fsv_no {Q : Nat → Bool} {V : Nat → Int32} {n i : Nat} (h : i < n) (hq : Q i = false) : fsv Q V (n - i) i = fsv Q V (n - (i + 1)) (i + 1) := by
  rw [show n - i = (n - (i + 1)) + 1 by omega]; simp [fsv, hq]
theorem fsv_end {Q : Nat → Bool} {V : Nat → Int32} {n i : Nat} (h : n ≤ i) : fsv Q V (n - i) i = -1 := by
  rw [show n - i = 0 by omega]; rfl
theorem cN_le (n : Nat) (P : Nat → Bool) : cN n P ≤ n := by
  induction n with
  | zero => simp [cN]
  | succ n ih => simp only [cN]; split <;> omega
def pkG (P : Nat → Bool) (v f : Nat → Int32) : Nat → Nat → Int32
  | 0 => f
  | i + 1 => if P i then upd (pkG P v f i) (cN i P) (v i) else pkG P v f i
theorem pkG_ge {P : Nat → Bool} {v f : Nat → Int32} : ∀ {i j : Nat}, i ≤ j → pkG P v f i j = f j := by
  intro i
  induction i with
  | zero => intro j _; rfl
  | succ i ih =>
    intro j h
    have h1 := cN_le i P
    simp only [pkG]
    split
    · simp only [upd]; rw [if_neg (by omega)]; exact ih (by omega)
    · exact ih (by omega)
theorem pkG_y {P : Nat → Bool} {v f : Nat → Int32} {i : Nat} {x : Int32} (h : P i = true) (hx : x = v i) : upd (pkG P v f i) (cN i P) x = pkG P v f (i + 1) := by simp [pkG, h, hx]
theorem pkG_n {P : Nat → Bool} {v f : Nat → Int32} {i : Nat} (h : P i = false) : pkG P v f i = pkG P v f (i + 1) := by simp [pkG, h]
theorem cN_y {P : Nat → Bool} {i : Nat} (h : P i = true) : cN i P + 1 = cN (i + 1) P := by simp [cN, h]
theorem cN_n {P : Nat → Bool} {i : Nat} (h : P i = false) : cN i P = cN (i + 1) P := by simp [cN, h]
theorem in_mono {x : Int32} {n k : Nat} (h : vp_in x n) (hk : n ≤ k) : vp_in x k := by
  rw [vp_in_iff] at h ⊢; omega
theorem sw5 (x : Int32) : x = 0 ∨ x = 1 ∨ x = 2 ∨ x = 3 ∨ x = 4 ∨ (x.toInt < 0 ∨ 4 < x.toInt) := by
  by_cases h : x.toInt < 0 ∨ 4 < x.toInt
  · exact Or.inr (Or.inr (Or.inr (Or.inr (Or.inr h))))
  · have e : x = Int32.ofInt x.toInt := (Int32.ofInt_toInt x).symm
    have h2 : x.toInt = 0 ∨ x.toInt = 1 ∨ x.toInt = 2 ∨ x.toInt = 3 ∨ x.toInt = 4 := by omega
    rcases h2 with h2 | h2 | h2 | h2 | h2 <;> rw [h2] at e <;> subst e
    · exact Or.inl rfl
    · exact Or.inr (Or.inl rfl)
    · exact Or.inr (Or.inr (Or.inl rfl))
    · exact Or.inr (Or.inr (Or.inr (Or.inl rfl)))
    · exact Or.inr (Or.inr (Or.inr (Or.inr (Or.inl rfl))))
theorem sw6 (x : Int32) : x = 0 ∨ x = 1 ∨ x = 2 ∨ x = 3 ∨ x = 4 ∨ x = 5 ∨ (x.toInt < 0 ∨ 5 < x.toInt) := by
  rcases sw5 x with h | h | h | h | h | h
  · exact Or.inl h
  · exact Or.inr (Or.inl h)
  · exact Or.inr (Or.inr (Or.inl h))
  · exact Or.inr (Or.inr (Or.inr (Or.inl h)))
  · exact Or.inr (Or.inr (Or.inr (Or.inr (Or.inl h))))
  · by_cases h5 : x.toInt = 5
    · have e : x = Int32.ofInt x.toInt := (Int32.ofInt_toInt x).symm
      rw [h5] at e; subst e
      exact Or.inr (Or.inr (Or.inr (Or.inr (Or.inr (Or.inl rfl)))))
    · exact Or.inr (Or.inr (Or.inr (Or.inr (Or.inr (Or.inr (by omega))))))
/-! ===== what the calls answer, in words ===== -/
def arB (N : Nat) (x y : Int32) : Bool := hasB N x && hasB N y
def arR (N c : Nat) (x y : Int32) : Int32 := if arB N x y then apR c else -2
def arC (N c : Nat) (x y : Int32) : Nat := if arB N x y then apC c else c
def arF (N c : Nat) (x y : Int32) (f : Nat → Int32) (v : Int32) : Nat → Int32 := if arB N x y then apF c f v else f
def mtR (c : Nat) (sa tk : Nat → Int32) (x z : Int32) : Int32 := if hasB c x then (if sa x.toNatClampNeg = 2 then -5 else (if tk x.toNatClampNeg = 0 then z else 1 - z)) else -2
def mtF (c : Nat) (sa tk : Nat → Int32) (x z : Int32) : Nat → Int32 := if hasB c x && !(decide (sa x.toNatClampNeg = 2)) then upd tk x.toNatClampNeg z else tk
def mv (tk sa : Nat → Int32) (j : Nat) : Int32 := if sa j = 2 then 2 else if tk j = 0 then 1 else 2
def mvB (tk sa : Nat → Int32) (j : Nat) : Bool := !(decide (mv tk sa j = sa j))
def msS (tk sa : Nat → Int32) (c : Nat) : Nat → Int32 := pfx (mv tk sa) sa c
def stB (sa : Nat → Int32) (x : Int32) (j : Nat) : Bool := decide (sa j = x)
def nlB (sa : Nat → Int32) (j : Nat) : Bool := !(decide (sa j = 2))
def trV (P : Nat → Bool) (j : Nat) : Int32 := if P j then nI (cN j P) else -1
def tdR (tn : Nat) (tr : Nat → Int32) (x : Int32) : Int32 := if hasB tn x then tr x.toNatClampNeg else -2
def ownI (fr tt : Nat → Int32) (z : Int32) (j : Nat) : Int32 := if z = 0 then fr j else tt j
def othI (fr tt : Nat → Int32) (z : Int32) (j : Nat) : Int32 := if z = 0 then tt j else fr j
def ahB (fr tt sa : Nat → Int32) (z : Int32) (j k : Nat) : Bool := if sa j = sa k then (if sa j = 1 ∧ ¬ othI fr tt z j = othI fr tt z k then !(decide (othI fr tt z k ≤ othI fr tt z j)) else !(decide (k ≤ j))) else decide (sa j = 1)
def ofB (fr tt sa tk : Nat → Int32) (x z w : Int32) (j : Nat) : Bool := decide (ownI fr tt z j = x) && (if w = 0 then decide (sa j = 1) else lvB sa tk j)
def anB (fr tt sa tk : Nat → Int32) (x z w : Int32) (j k : Nat) : Bool := ofB fr tt sa tk x z w k && ahB fr tt sa z k j
def plB (c : Nat) (fr tt sa tk : Nat → Int32) (x z w k : Int32) (j : Nat) : Bool := ofB fr tt sa tk x z w j && decide (nI (cN c (anB fr tt sa tk x z w j)) = k)
def plR (c : Nat) (fr tt sa tk : Nat → Int32) (x z w k : Int32) : Int32 := fsv (plB c fr tt sa tk x z w k) nI c 0
def irA (N c : Nat) (fr tt sa tk : Nat → Int32) (x z k : Int32) : Int32 := if hasB N x && !(decide (k < 0)) then plR c fr tt sa tk x z 0 k else -1
def irT (N c : Nat) (fr tt sa tk : Nat → Int32) (x z k : Int32) : Nat := if irA N c fr tt sa tk x z k = -1 then 1 else 0
def irR (N c : Nat) (fr tt sa tk : Nat → Int32) (x z k : Int32) : Int32 := if irA N c fr tt sa tk x z k = -1 then 0 else irA N c fr tt sa tk x z k
def ofsB (fr tt sa : Nat → Int32) (z x : Int32) (j : Nat) : Bool := decide (sa j = 1) && !(decide (x ≤ ownI fr tt z j))
def ofsR (N c : Nat) (fr tt sa : Nat → Int32) (x z : Int32) : Int32 := if x < 0 then -2 else if ¬ x ≤ nI N then -2 else nI (cN c (ofsB fr tt sa z x))
def toR (c : Nat) (fr tt sa tk : Nat → Int32) (x y : Int32) : Int32 := if hasB c x then (if y = 0 then fr x.toNatClampNeg else if y = 1 then tt x.toNatClampNeg else if y = 2 then (if sa x.toNatClampNeg = 1 then 1 else 0) else if y = 3 then (if tk x.toNatClampNeg = 0 then 0 else 1) else if y = 4 then (if sa x.toNatClampNeg = 2 then 1 else 0) else -3) else -2
def dgR (N c : Nat) (fr tt sa tk : Nat → Int32) (x z : Int32) : Int32 := if hasB N x then nI (cN c (ofB fr tt sa tk x z 1)) else -2
def lvR (N c : Nat) (fr tt sa tk : Nat → Int32) (x z k : Int32) : Int32 := if hasB N x then (if k < 0 then -3 else plR c fr tt sa tk x z 1 k) else -2
def ldB (fr tt sa tk : Nat → Int32) (x y : Int32) (j : Nat) : Bool := ofB fr tt sa tk x 0 1 j && decide (tt j = y)
def btR (N c : Nat) (fr tt sa tk : Nat → Int32) (x y : Int32) : Int32 := if arB N x y then nI (cN c (ldB fr tt sa tk x y)) else -2
theorem ofB_self {fr tt sa tk : Nat → Int32} {j : Nat} : ofB fr tt sa tk (fr j) 0 1 j = lvB sa tk j := by simp [ofB, ownI]
def nrI (fr tt sa tk : Nat → Int32) (n : Nat) : Nat → (Nat → Int32) → Nat → Int32
  | 0, F => F
  | i + 1, F => if lvB sa tk i && (decide (nrI fr tt sa tk n i F (fr i).toNatClampNeg = nI n) && decide (nrI fr tt sa tk n i F (tt i).toNatClampNeg = -1)) then upd (nrI fr tt sa tk n i F) (tt i).toNatClampNeg (nI (n + 1)) else nrI fr tt sa tk n i F
def nrO (c : Nat) (fr tt sa tk : Nat → Int32) : Nat → (Nat → Int32) → Nat → Int32
  | 0, F => F
  | n + 1, F => nrI fr tt sa tk n c (nrO c fr tt sa tk n F)
def nr0 (x : Int32) (j : Nat) : Int32 := if nI j = x then 0 else -1
def nrR (N c : Nat) (fr tt sa tk fa : Nat → Int32) (x y : Int32) : Int32 := if arB N x y then nrO c fr tt sa tk N (pfx (nr0 x) fa N) y.toNatClampNeg else -2
def nrF (N c : Nat) (fr tt sa tk fa : Nat → Int32) (x y : Int32) : Nat → Int32 := if arB N x y then nrO c fr tt sa tk N (pfx (nr0 x) fa N) else fa
def wyI (fr tt sa tk : Nat → Int32) (M : Nat → Int64) : Nat → (Nat → Int64) → Nat → Int64
  | 0, X => X
  | i + 1, X => vp_updL (wyI fr tt sa tk M i X) (tt i).toNatClampNeg (wyI fr tt sa tk M i X (tt i).toNatClampNeg + (if lvB sa tk i then M (fr i).toNatClampNeg else 0))
/-- both rows behind n rounds: (many, next) -/
def wyO (N c : Nat) (fr tt sa tk : Nat → Int32) (mn nx : Nat → Int64) : Nat → (Nat → Int64) × (Nat → Int64)
  | 0 => (mn, nx)
  | n + 1 => (pfx (wyI fr tt sa tk (wyO N c fr tt sa tk mn nx n).1 c (pfx (fun _ => 0) (wyO N c fr tt sa tk mn nx n).2 N)) (wyO N c fr tt sa tk mn nx n).1 N, wyI fr tt sa tk (wyO N c fr tt sa tk mn nx n).1 c (pfx (fun _ => 0) (wyO N c fr tt sa tk mn nx n).2 N))
def wy0 (x : Int32) (j : Nat) : Int64 := if nI j = x then 1 else 0
def wyB (N : Nat) (x y k : Int32) : Bool := arB N x y && (!(decide (k < 0)) && decide (k ≤ 60))
def wyE (N c : Nat) (fr tt sa tk : Nat → Int32) (mn nx : Nat → Int64) (x k : Int32) : (Nat → Int64) × (Nat → Int64) := wyO N c fr tt sa tk (pfx (wy0 x) mn N) nx k.toNatClampNeg
def wyR (N c : Nat) (fr tt sa tk : Nat → Int32) (mn nx : Nat → Int64) (x y k : Int32) : Int64 := if wyB N x y k then (wyE N c fr tt sa tk mn nx x k).1 y.toNatClampNeg else if arB N x y then -3 else -2
def wyM (N c : Nat) (fr tt sa tk : Nat → Int32) (mn nx : Nat → Int64) (x y k : Int32) : Nat → Int64 := if wyB N x y k then (wyE N c fr tt sa tk mn nx x k).1 else mn
def wyX (N c : Nat) (fr tt sa tk : Nat → Int32) (mn nx : Nat → Int64) (x y k : Int32) : Nat → Int64 := if wyB N x y k then (wyE N c fr tt sa tk mn nx x k).2 else nx
def opB (op : Nat → Int32) (j : Nat) : Bool := decide (op j = 0)
def opA (op : Nat → Int32) : Int32 := fsv (opB op) nI 8 0
def opR (N : Nat) (op : Nat → Int32) (x : Int32) : Int32 := if hasB N x then (if opA op = -1 then -6 else opA op) else -2
def opF (N : Nat) (op : Nat → Int32) (x : Int32) (f : Nat → Int32) (v : Int32) : Nat → Int32 := if hasB N x && !(decide (opA op = -1)) then upd f (opA op).toNatClampNeg v else f
def itB (op : Nat → Int32) (x : Int32) : Bool := hasB 8 x && !(decide (op x.toNatClampNeg = 0))
def clR (op tl : Nat → Int32) (x : Int32) : Int32 := if itB op x then tl x.toNatClampNeg else -2
def clF (op : Nat → Int32) (x : Int32) : Nat → Int32 := if itB op x then upd op x.toNatClampNeg 0 else op
def gvB (z k : Int32) : Bool := hasB (if z = 0 then 25 else 160) k
def gvR (go gt : Nat → Int32) (z k : Int32) : Int32 := if gvB z k then (if z = 0 then go k.toNatClampNeg else gt k.toNatClampNeg) else -3
def gvO (go : Nat → Int32) (z k v : Int32) : Nat → Int32 := if gvB z k then (if z = 0 then upd go k.toNatClampNeg v else go) else go
def gvT (gt : Nat → Int32) (z k v : Int32) : Nat → Int32 := if gvB z k then (if z = 0 then gt else upd gt k.toNatClampNeg v) else gt

theorem nI_8 : nI 8 = 8 := rfl
theorem nI_25 : nI 25 = 25 := rfl
theorem nI_160 : nI 160 = 160 := rfl
theorem nI_ne_m1 {i : Nat} (h : i < 2 ^ 31) : ¬ nI i = -1 := by
  intro h1
  have h2 := nI_pos (n := i) h
  rw [h1] at h2
  exact h2 (by decide)
theorem in_lt {k : Int32} {n : Nat} (h0 : ¬ k < 0) (h : k < nI n) (hn : n < 2 ^ 31) : vp_in k n := by
  obtain ⟨j, hj, rfl⟩ := nI_of h0
  exact vp_in_nI ((nI_ltI hj hn).mp h) hn
theorem in_le {k : Int32} {n m : Nat} (h0 : ¬ k < 0) (h : k ≤ nI n) (hn : n < 2 ^ 31) (hm : n < m) (hm2 : m < 2 ^ 31) : vp_in k m := by
  obtain ⟨j, hj, rfl⟩ := nI_of h0
  exact vp_in_nI (Nat.lt_of_le_of_lt ((nI_leI hj hn).mp h) hm) hm2
def nxB (fr tt sa tk : Nat → Int32) (x z lv b : Int32) (i : Nat) : Bool := (ofB fr tt sa tk x z 1 i && (decide (lv = -1) || ahB fr tt sa z lv.toNatClampNeg i)) && (decide (b = -1) || ahB fr tt sa z i b.toNatClampNeg)
def nxV (fr tt sa tk : Nat → Int32) (x z lv : Int32) : Nat → Int32
  | 0 => -1
  | i + 1 => if nxB fr tt sa tk x z lv (nxV fr tt sa tk x z lv i) i then nI i else nxV fr tt sa tk x z lv i
theorem nxV_in {fr tt sa tk : Nat → Int32} {x z lv : Int32} : ∀ i : Nat, nxV fr tt sa tk x z lv i = -1 ∨ ∃ j : Nat, j < i ∧ nxV fr tt sa tk x z lv i = nI j := by
  intro i
  induction i with
  | zero => exact Or.inl rfl
  | succ i ih =>
    simp only [nxV]
    split
    · exact Or.inr ⟨i, by omega, rfl⟩
    · rcases ih with h | ⟨j, h1, h2⟩
      · exact Or.inl h
      · exact Or.inr ⟨j, by omega, h2⟩
def nxG (op sl : Nat → Int32) (x : Int32) : Bool := itB op x && decide (sl x.toNatClampNeg = 0)
def nxA (c : Nat) (fr tt sa tk nd oi il : Nat → Int32) (x : Int32) : Int32 := nxV fr tt sa tk (nd x.toNatClampNeg) (oi x.toNatClampNeg) (il x.toNatClampNeg) c
def nxR (c : Nat) (fr tt sa tk op sl nd oi il : Nat → Int32) (x : Int32) : Int32 := if itB op x then (if sl x.toNatClampNeg = 0 then nxA c fr tt sa tk nd oi il x else -4) else -2
def nxF (c : Nat) (fr tt sa tk op sl nd oi il : Nat → Int32) (x : Int32) : Nat → Int32 := if nxG op sl x && !(decide (nxA c fr tt sa tk nd oi il x = -1)) then upd il x.toNatClampNeg (nxA c fr tt sa tk nd oi il x) else il
def nxT (c : Nat) (fr tt sa tk op sl nd oi il tl : Nat → Int32) (x : Int32) : Nat → Int32 := if nxG op sl x && !(decide (nxA c fr tt sa tk nd oi il x = -1)) then upd tl x.toNatClampNeg (tl x.toNatClampNeg + 1) else tl
def gwB (z k : Int32) : Bool := !(decide (k < 0)) && decide (k < (if z = 0 then 25 else 160))
def gwR (go gt : Nat → Int32) (z k : Int32) : Int32 := if gwB z k then (if z = 0 then go k.toNatClampNeg else gt k.toNatClampNeg) else -3
def gwO (go : Nat → Int32) (z k v : Int32) : Nat → Int32 := if gwB z k && decide (z = 0) then upd go k.toNatClampNeg v else go
def gwT (gt : Nat → Int32) (z k v : Int32) : Nat → Int32 := if gwB z k && !(decide (z = 0)) then upd gt k.toNatClampNeg v else gt
/-- the given offset i is as it must be -/
def jgR (N m : Nat) (go : Nat → Int32) (i : Nat) : Prop := ((i = 0 ∧ go i = 0) ∨ (¬ i = 0 ∧ go (i - 1) ≤ go i)) ∧ go i ≤ nI m ∧ (i < N ∨ go i = nI m)
def jgB (N m : Nat) (go : Nat → Int32) (i : Nat) : Bool := !(decide (((i = 0 ∧ go i = 0) ∨ (¬ i = 0 ∧ go (i - 1) ≤ go i)) ∧ go i ≤ nI m ∧ (i < N ∨ go i = nI m)))
theorem jg_y {N m : Nat} {go : Nat → Int32} {i : Nat} (h : ¬ jgR N m go i) : jgB N m go i = true := by unfold jgR at h; unfold jgB; simp only [decide_eq_false h, Bool.not_false]
theorem jg_n {N m : Nat} {go : Nat → Int32} {i : Nat} (h : jgR N m go i) : jgB N m go i = false := by unfold jgR at h; unfold jgB; simp only [decide_eq_true h, Bool.not_true]
def j1V (i : Nat) : Int32 := nI (1 + i)
def jtB (N : Nat) (gt : Nat → Int32) (i : Nat) : Bool := !(hasB N (gt i))
def j2V (i : Nat) : Int32 := nI (100 + i)
def j1A (N m : Nat) (go : Nat → Int32) : Int32 := fsv (jgB N m go) j1V (N + 1) 0
def j2A (N m : Nat) (gt : Nat → Int32) : Int32 := fsv (jtB N gt) j2V m 0
def jdR (N m : Nat) (go gt : Nat → Int32) : Int32 := if j1A N m go = -1 then (if j2A N m gt = -1 then 0 else j2A N m gt) else j1A N m go
theorem fsv_m1 {Q : Nat → Bool} {V : Nat → Int32} (hV : ∀ i, ¬ V i = -1) : ∀ (n i : Nat), fsv Q V n i = -1 → ∀ j, i ≤ j → j < i + n → Q j = false := by
  intro n
  induction n with
  | zero => intro i _ j h1 h2; omega
  | succ n ih =>
    intro i h j h1 h2
    simp only [fsv] at h
    split at h
    · exact absurd h (hV i)
    · rename_i hq
      by_cases hj : j = i
      · subst hj; simpa using hq
      · exact ih (i + 1) h j (by omega) (by omega)
def lsN (Q : Nat → Bool) : Nat → Nat → Nat
  | 0, v => v
  | f + 1, v => if Q v then v else lsN Q f (v + 1)
theorem lsN_yes {Q : Nat → Bool} {n v : Nat} (h : v < n) (hq : Q v = true) : lsN Q (n - v) v = v := by
  rw [show n - v = (n - (v + 1)) + 1 by omega]; simp [lsN, hq]
theorem lsN_no {Q : Nat → Bool} {n v : Nat} (h : v < n) (hq : Q v = false) : lsN Q (n - v) v = lsN Q (n - (v + 1)) (v + 1) := by
  rw [show n - v = (n - (v + 1)) + 1 by omega]; simp [lsN, hq]
def loQ (go : Nat → Int32) (i v : Nat) : Bool := !(decide (go (v + 1) ≤ nI i))
def loV (N : Nat) (go : Nat → Int32) (i : Nat) : Int32 := nI (lsN (loQ go i) N 0)
def loB (N : Nat) (go gt : Nat → Int32) (x : Int32) : Bool := (!(decide (x < 0)) && decide (x ≤ 160)) && decide (jdR N x.toNatClampNeg go gt = 0)
def loR (N : Nat) (go gt : Nat → Int32) (x : Int32) : Int32 := if !(decide (x < 0)) && decide (x ≤ 160) then jdR N x.toNatClampNeg go gt else -3
def loC (N c : Nat) (go gt : Nat → Int32) (x : Int32) (k : Nat) : Nat := if loB N go gt x then k else c
def loF (N : Nat) (go gt : Nat → Int32) (x : Int32) (f v : Nat → Int32) : Nat → Int32 := if loB N go gt x then pfx v f x.toNatClampNeg else f
def loS (N : Nat) (go gt : Nat → Int32) (x : Int32) (sl : Nat → Int32) : Nat → Int32 := if loB N go gt x then stl sl else sl
def opC (op : Nat → Int32) (j : Nat) : Bool := !(decide (op j = 0))
def abB (sa tk : Nat → Int32) (x : Int32) (j : Nat) : Bool := if x = 2 then decide (sa j = 1) else if x = 3 then decide (sa j = 0) else lvB sa tk j
def abR (N c : Nat) (sa tk op : Nat → Int32) (x : Int32) : Int32 := if x = 0 then nI N else if x = 1 then nI c else if x = 5 then nI (cN 8 (opC op)) else if x < 2 then -3 else if 4 < x then -3 else nI (cN c (abB sa tk x))
theorem nxB_y {fr tt sa tk : Nat → Int32} {x z lv b : Int32} {i : Nat} (h1 : ofB fr tt sa tk x z 1 i = true) (h2 : lv = -1 ∨ ahB fr tt sa z lv.toNatClampNeg i = true) (h3 : b = -1 ∨ ahB fr tt sa z i b.toNatClampNeg = true) : nxB fr tt sa tk x z lv b i = true := by
  unfold nxB; rw [h1]; simp only [Bool.true_and, Bool.and_eq_true, Bool.or_eq_true, decide_eq_true_eq]; exact ⟨h2, h3⟩
theorem nxB_n1 {fr tt sa tk : Nat → Int32} {x z lv b : Int32} {i : Nat} (h1 : ofB fr tt sa tk x z 1 i = false) : nxB fr tt sa tk x z lv b i = false := by unfold nxB; rw [h1]; rfl
theorem nxB_n2 {fr tt sa tk : Nat → Int32} {x z lv b : Int32} {i : Nat} (h1 : ¬ lv = -1) (h2 : ahB fr tt sa z lv.toNatClampNeg i = false) : nxB fr tt sa tk x z lv b i = false := by unfold nxB; rw [h2, decide_eq_false h1]; simp
theorem nxB_n3 {fr tt sa tk : Nat → Int32} {x z lv b : Int32} {i : Nat} (h1 : ¬ b = -1) (h2 : ahB fr tt sa z i b.toNatClampNeg = false) : nxB fr tt sa tk x z lv b i = false := by unfold nxB; rw [h2, decide_eq_false h1]; simp
theorem nxV_y {fr tt sa tk : Nat → Int32} {x z lv : Int32} {i : Nat} (h : nxB fr tt sa tk x z lv (nxV fr tt sa tk x z lv i) i = true) : nI i = nxV fr tt sa tk x z lv (i + 1) := by simp [nxV, h]
theorem nxV_n {fr tt sa tk : Nat → Int32} {x z lv : Int32} {i : Nat} (h : nxB fr tt sa tk x z lv (nxV fr tt sa tk x z lv i) i = false) : nxV fr tt sa tk x z lv i = nxV fr tt sa tk x z lv (i + 1) := by simp [nxV, h]

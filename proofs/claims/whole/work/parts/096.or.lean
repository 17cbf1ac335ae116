/-! ===== words for OffsetRows' own methods ===== -/
abbrev uT : Type := (Nat → Nat) × (Nat → Int32) × (Nat → Int32) × (Nat → Int32) × (Nat → Int32)
theorem in_nC {f : Nat → Int32} {j N : Nat} (h : vp_in (f j) N) (hN : N < 2 ^ 31) : f j = nI (nC f j) ∧ nC f j < N := by
  obtain ⟨k, h1, h2⟩ := vp_in_of h hN
  have e : nC f j = k := by unfold nC; rw [h2]; exact nI_clamp (by omega)
  rw [e]; exact ⟨h2, h1⟩
theorem b_hs1 {c : Nat} {sa nm : Nat → Int32} (hc : c ≤ 160) : ∀ i, i < nB c sa → pkG (stB sa 1) nI nm c i = nI (sn1 c sa i) ∧ sn1 c sa i < 160 := fun i h => ⟨pkG_sel h, by have := (sn1_ok h).1; omega⟩
theorem b_hk1 {c N : Nat} {sa fa : Nat → Int32} (hN : N ≤ 24) (h : ∀ j, j < c → vp_in (fa j) N) : ∀ i, i < nB c sa → fa (sn1 c sa i) = nI (kk1 c sa fa i) ∧ kk1 c sa fa i < N := fun i hi => in_nC (h _ (sn1_ok hi).1) (by omega)
theorem b_hs2 {c : Nat} {sa fa bf : Nat → Int32} (hc : c ≤ 160) : ∀ i, i < nB c sa → srF (rkN (nB c sa) (kk1 c sa fa)) (sn1 c sa) bf (nB c sa) i = nI (sn2 c sa fa i) ∧ sn2 c sa fa i < 160 := fun p h => by
  obtain ⟨a, b⟩ := iv1_ok (fa := fa) h
  refine ⟨?_, by have := sn2_ok (fa := fa) h; omega⟩
  have := srF_get (R := rkN (nB c sa) (kk1 c sa fa)) (sn := sn1 c sa) (f := bf) (n := nB c sa) (fun i k h1 h2 => rk_inj h1 h2) (Nat.le_refl _) a
  rw [b] at this
  exact this
theorem b_hk2 {c N : Nat} {sa ow fa : Nat → Int32} (hN : N ≤ 24) (h : ∀ j, j < c → vp_in (ow j) N) : ∀ i, i < nB c sa → ow (sn2 c sa fa i) = nI (kk2 c sa ow fa i) ∧ kk2 c sa ow fa i < N := fun i hi => in_nC (h _ (sn2_ok hi)) (by omega)
theorem nB_le {c : Nat} {sa : Nat → Int32} (hc : c ≤ 160) : nB c sa ≤ 160 := Nat.le_trans (cN_le c _) hc
def mkR (c : Nat) (sa tk : Nat → Int32) (x z : Int32) : Int32 := if hasB c x then (if sa x.toNatClampNeg = 2 then -5 else (if tk x.toNatClampNeg = z then 0 else 1)) else -2
def mkF (c : Nat) (sa tk : Nat → Int32) (x z : Int32) : Nat → Int32 := if hasB c x && (!(decide (sa x.toNatClampNeg = 2)) && !(decide (tk x.toNatClampNeg = z))) then upd tk x.toNatClampNeg z else tk
theorem pkG_all {P : Nat → Bool} {v f : Nat → Int32} {Q : Int32 → Prop} : ∀ {i : Nat}, (∀ j, j < i → Q (v j)) → (∀ j, j < i → Q (f j)) → ∀ j, j < i → Q (pkG P v f i j) := by
  intro i
  induction i with
  | zero => intro _ _ j h; omega
  | succ i ih =>
    intro h1 h2 j hj
    simp only [pkG]
    have hle := cN_le i P
    by_cases hij : j = i
    · subst hij
      split
      · simp only [upd]; split
        · exact h1 j (by omega)
        · rw [pkG_ge (Nat.le_refl j)]; exact h2 j (by omega)
      · rw [pkG_ge (Nat.le_refl j)]; exact h2 j (by omega)
    · have := ih (fun t ht => h1 t (by omega)) (fun t ht => h2 t (by omega)) j (by omega)
      split
      · simp only [upd]; split
        · exact h1 i (by omega)
        · exact this
      · exact this
theorem pkG_in {P : Nat → Bool} {f : Nat → Int32} {c N : Nat} (h : ∀ j, j < c → vp_in (f j) N) : ∀ j, j < cN c P → vp_in (pkG P f f c j) N := fun j hj => pkG_all (Q := fun x => vp_in x N) h h j (Nat.lt_of_lt_of_le hj (cN_le c P))
def ofC (N : Nat) (oo : Nat → Nat) (x : Int32) : Int32 := if x = nI N ∨ hasB N x = true then nI (oo x.toNatClampNeg) else -2
def dcR (N c : Nat) (sa tk ow rw : Nat → Int32) (oo : Nat → Nat) (x : Int32) : Int32 := if hasB N x then nI (cN (plN c oo x.toNatClampNeg) (atL c sa tk ow rw oo x.toNatClampNeg)) else -2
def lvC (N c : Nat) (sa tk ow rw : Nat → Int32) (oo : Nat → Nat) (x k : Int32) : Int32 := if hasB N x then (if k < 0 then -3 else laR c sa tk ow rw oo x.toNatClampNeg k.toNatClampNeg) else -2
def bwB (fr tt sa tk : Nat → Int32) (x y : Int32) (j : Nat) : Bool := lvB sa tk j && (decide (fr j = x) && decide (tt j = y))
def bwR (N c : Nat) (fr tt sa tk : Nat → Int32) (x y : Int32) : Int32 := if arB N x y then nI (cN c (bwB fr tt sa tk x y)) else -2
def cr0 (N : Nat) (sp : Nat → Int32) (x : Int32) : Nat → Int32 := upd (pfx (fun _ => (-1 : Int32)) sp N) x.toNatClampNeg (0 : Int32)
def crR (N c : Nat) (fr tt sa tk sp : Nat → Int32) (x y : Int32) : Int32 := if arB N x y then nrO c fr tt sa tk N (cr0 N sp x) y.toNatClampNeg else -2
theorem nrI_stay {fr tt sa tk : Nat → Int32} {n : Nat} {F : Nat → Int32} {y : Nat} : ∀ {i : Nat}, ¬ F y = -1 → nrI fr tt sa tk n i F y = F y := by
  intro i
  induction i with
  | zero => intro _; rfl
  | succ i ih =>
    intro h
    have h1 := ih h
    simp only [nrI]
    split
    · rename_i hq
      simp only [Bool.and_eq_true, decide_eq_true_eq] at hq
      simp only [upd]
      by_cases hy : y = (tt i).toNatClampNeg
      · rw [← hy, h1] at hq; exact absurd hq.2.2 h
      · rw [if_neg hy]; exact h1
    · exact h1
theorem nrO_stay {c : Nat} {fr tt sa tk F : Nat → Int32} {y n : Nat} : ∀ {m : Nat}, n ≤ m → ¬ nrO c fr tt sa tk n F y = -1 → nrO c fr tt sa tk m F y = nrO c fr tt sa tk n F y := by
  intro m
  induction m with
  | zero => intro h _; rw [show n = 0 by omega]
  | succ m ih =>
    intro h h1
    by_cases hn : n = m + 1
    · rw [hn]
    · have h2 := ih (by omega) h1
      simp only [nrO]
      rw [nrI_stay (by rw [h2]; exact h1), h2]
def wcI (fr tt sa tk : Nat → Int32) (M : Nat → Int64) : Nat → (Nat → Int64) → Nat → Int64
  | 0, X => X
  | i + 1, X => if lvB sa tk i then vp_updL (wcI fr tt sa tk M i X) (tt i).toNatClampNeg (wcI fr tt sa tk M i X (tt i).toNatClampNeg + M (fr i).toNatClampNeg) else wcI fr tt sa tk M i X
def wcO (N c : Nat) (fr tt sa tk : Nat → Int32) (h o : Nat → Int64) : Nat → (Nat → Int64) × (Nat → Int64)
  | 0 => (h, o)
  | n + 1 => (va_cpy (wcI fr tt sa tk (wcO N c fr tt sa tk h o n).1 c (pfx (fun _ => 0) (wcO N c fr tt sa tk h o n).2 N)) (wcO N c fr tt sa tk h o n).1 0 0 N, wcI fr tt sa tk (wcO N c fr tt sa tk h o n).1 c (pfx (fun _ => 0) (wcO N c fr tt sa tk h o n).2 N))
def wc0 (N : Nat) (hr : Nat → Int64) (x : Int32) : Nat → Int64 := vp_updL (pfx (fun _ => (0 : Int64)) hr N) x.toNatClampNeg (1 : Int64)
def wcR (N c : Nat) (fr tt sa tk : Nat → Int32) (hr ow : Nat → Int64) (x y k : Int32) : Int64 := if wyB N x y k then (wcO N c fr tt sa tk (wc0 N hr x) ow k.toNatClampNeg).1 y.toNatClampNeg else if arB N x y then -3 else -2
theorem opA_in {op : Nat → Int32} (h : ¬ opA op = -1) : vp_in (opA op) 8 := by
  rcases fsv_or (opB op) nI 8 0 with ⟨h1, _⟩ | ⟨j, _, h2, _, h4, _⟩
  · exact absurd h1 h
  · have : opA op = nI j := h4
    rw [this]; exact vp_in_nI (by omega) (by decide)
theorem lpR_in {c : Nat} {sa tk ow rw : Nat → Int32} {oo : Nat → Nat} {v q : Nat} (h : ¬ lpR c sa tk ow rw oo v q = -1) : ∃ p, q ≤ p ∧ p < plN c oo v ∧ lpR c sa tk ow rw oo v q = nI p := by
  rcases fsv_or (atL c sa tk ow rw oo v) nI (plN c oo v - q) q with ⟨h1, _⟩ | ⟨j, h1, h2, _, h4, _⟩
  · exact absurd h1 h
  · exact ⟨j, h1, by omega, h4⟩
def ncR (c : Nat) (sa tk ow rw : Nat → Int32) (oo : Nat → Nat) (op sl : Nat → Int32) (v q : Nat) (x : Int32) : Int32 := if itB op x then (if sl x.toNatClampNeg = 0 then (if lpR c sa tk ow rw oo v q = -1 then -1 else atV c sa ow rw oo v (lpR c sa tk ow rw oo v q).toNatClampNeg) else -4) else -2
def ncB (c : Nat) (sa tk ow rw : Nat → Int32) (oo : Nat → Nat) (op sl : Nat → Int32) (v q : Nat) (x : Int32) : Bool := itB op x && (decide (sl x.toNatClampNeg = 0) && !(decide (lpR c sa tk ow rw oo v q = -1)))
def ncF (b : Bool) (f : Nat → Int32) (x v : Int32) : Nat → Int32 := if b then upd f x.toNatClampNeg v else f
theorem gv_ok {N m : Nat} {go : Nat → Int32} (hm : m ≤ 160) (h : ∀ i, i ≤ N → jgR N m go i) : (∀ i, i ≤ N → go i = nI (nC go i) ∧ nC go i ≤ m) ∧ nC go 0 = 0 ∧ (∀ i, i < N → nC go i ≤ nC go (i + 1)) ∧ nC go N = m := by
  have z0 : go 0 = 0 := by
    rcases (h 0 (by omega)).1 with ⟨_, h1⟩ | ⟨h1, _⟩
    · exact h1
    · exact absurd rfl h1
  have pos : ∀ i, i ≤ N → 0 ≤ go i := by
    intro i
    induction i with
    | zero => intro _; rw [z0]; decide
    | succ i ih =>
      intro hi
      rcases (h (i + 1) hi).1 with ⟨h1, _⟩ | ⟨_, h1⟩
      · omega
      · have := ih (by omega)
        simp only [Nat.add_sub_cancel] at h1
        rw [Int32.le_iff_toInt_le] at *
        omega
  have nat : ∀ i, i ≤ N → go i = nI (nC go i) ∧ nC go i ≤ m := by
    intro i hi
    obtain ⟨j, hj, e⟩ := nI_of (k2_nlt (pos i hi))
    have e2 : nC go i = j := by unfold nC; rw [e]; exact nI_clamp hj
    rw [e2]
    refine ⟨e, ?_⟩
    have := (h i hi).2.1
    rw [e] at this
    exact (nI_leI hj (by omega)).mp this
  refine ⟨nat, by unfold nC; rw [z0]; rfl, fun i hi => ?_, ?_⟩
  · obtain ⟨a1, a2⟩ := nat i (by omega)
    obtain ⟨b1, b2⟩ := nat (i + 1) (by omega)
    rcases (h (i + 1) (by omega)).1 with ⟨h1, _⟩ | ⟨_, h1⟩
    · omega
    · simp only [Nat.add_sub_cancel] at h1
      rw [a1, b1] at h1
      exact (nI_leI (by omega) (by omega)).mp h1
  · unfold nC; rw [jgR_N (h N (Nat.le_refl N))]; exact nI_clamp (by omega)
theorem lo_lt {N m : Nat} {go : Nat → Int32} (hN1 : 1 ≤ N) (hm : m ≤ 160) (hgN : go N = nI m) {t : Nat} (ht : t < m) : lsN (loQ go t) N 0 < N := by
  have key : ∀ k i, i + k = N → 1 ≤ k → lsN (loQ go t) k i < N := by
    intro k
    induction k with
    | zero => intro i _ h; omega
    | succ k ih =>
      intro i h1 _
      simp only [lsN]
      split
      · omega
      · rename_i hq
        by_cases hk : k = 0
        · subst hk
          exfalso
          apply hq
          have : ¬ go (i + 1) ≤ nI t := by
            rw [show i + 1 = N by omega, hgN]
            exact nI_ge ht (by omega)
          simp [loQ, this]
        · exact ih (i + 1) (by omega) (by omega)
  exact key N 0 (by omega) hN1
theorem lo_in1 {N m : Nat} {go fr : Nat → Int32} (hN : N ≤ 24) (hN1 : 1 ≤ N) (hm : m ≤ 160) (hgN : go N = nI m) : ∀ j, j < m → vp_in (pfx (loV N go) fr m j) N := fun j hj => by
  rw [pfx_lt hj]; exact vp_in_nI (lo_lt hN1 hm hgN hj) (by omega)
theorem lo_in2 {N m : Nat} {gt tt : Nat → Int32} (hN : N ≤ 24) (h : ∀ k, k < m → hasB N (gt k) = true) : ∀ j, j < m → vp_in (pfx gt tt m j) N := fun j hj => by
  rw [pfx_lt hj]; exact hasB_in (h j hj) (Nat.le_refl N) (by omega)
theorem ab_def {x w : Int32} (h : x.toInt < 0 ∨ 5 < x.toInt) : (-3 : Int32) = if x < 2 then -3 else if 4 < x then -3 else w := by
  rcases h with h | h
  · rw [if_pos]; rw [Int32.lt_iff_toInt_lt]; show x.toInt < (2 : Int32).toInt; have : (2 : Int32).toInt = 2 := by decide
    omega
  · have h4 : 4 < x := by
      rw [Int32.lt_iff_toInt_lt]; have : (4 : Int32).toInt = 4 := by decide
      omega
    rw [if_pos h4]; split <;> rfl

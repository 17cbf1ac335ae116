/-! ===== counting: injections, selections, ranks ===== -/
theorem cN_rm {F : Nat → Bool} {x : Nat} : ∀ {m : Nat}, x < m → F x = true → cN m F = cN m (fun p => F p && !(decide (p = x))) + 1 := by
  intro m
  induction m with
  | zero => intro h; omega
  | succ m ih =>
    intro h hF
    by_cases hx : x = m
    · subst hx
      have e : cN x (fun p => F p && !(decide (p = x))) = cN x F := cN_congr (fun t ht => by simp [show ¬ t = x by omega])
      simp only [cN]; rw [e]; simp [hF]
    · simp only [cN]
      rw [ih (by omega) hF]
      simp only [show ¬ m = x by omega, decide_false, Bool.not_false, Bool.and_true]; omega
theorem cN_inj {R : Nat → Nat} : ∀ (n m : Nat) (Q F : Nat → Bool), (∀ i, i < n → Q i = true → R i < m ∧ F (R i) = true) → (∀ i j, i < n → j < n → Q i = true → Q j = true → R i = R j → i = j) → cN n Q ≤ cN m F := by
  intro n
  induction n with
  | zero => intro m Q F _ _; simp [cN]
  | succ n ih =>
    intro m Q F h1 h2
    simp only [cN]
    cases hq : Q n
    · have := ih m Q F (fun i hi hQ => h1 i (by omega) hQ) (fun i j hi hj => h2 i j (by omega) (by omega))
      simpa using this
    · obtain ⟨g1, g2⟩ := h1 n (by omega) hq
      rw [cN_rm g1 g2]
      have := ih m Q (fun p => F p && !(decide (p = R n))) (fun i hi hQ => by
        obtain ⟨k1, k2⟩ := h1 i (by omega) hQ
        refine ⟨k1, ?_⟩
        have hne : ¬ R i = R n := fun he => by
          have := h2 i n (by omega) (by omega) hQ hq he
          omega
        simp [k2, hne]) (fun i j hi hj => h2 i j (by omega) (by omega))
      simp; omega
theorem cN_not (n : Nat) (F : Nat → Bool) : cN n F + cN n (fun t => !(F t)) = n := by
  induction n with
  | zero => rfl
  | succ n ih => simp only [cN]; by_cases h : F n = true <;> simp [h] <;> omega
/-- a domain D that an injection R carries onto [0, m): counts over [0, m) are counts over D -/
theorem cN_dom {R : Nat → Nat} {n m : Nat} {D F : Nat → Bool} (h1 : ∀ i, i < n → D i = true → R i < m) (h2 : ∀ i j, i < n → j < n → D i = true → D j = true → R i = R j → i = j) (hm : cN n D = m) : cN m F = cN n (fun i => D i && F (R i)) := by
  have a := cN_inj (R := R) n m (fun i => D i && F (R i)) F (fun i hi h => by simp only [Bool.and_eq_true] at h; exact ⟨h1 i hi h.1, h.2⟩) (fun i j hi hj hQ hQ' => by simp only [Bool.and_eq_true] at hQ hQ'; exact h2 i j hi hj hQ.1 hQ'.1)
  have b := cN_inj (R := R) n m (fun i => D i && !(F (R i))) (fun p => !(F p)) (fun i hi h => by simp only [Bool.and_eq_true] at h; exact ⟨h1 i hi h.1, h.2⟩) (fun i j hi hj hQ hQ' => by simp only [Bool.and_eq_true] at hQ hQ'; exact h2 i j hi hj hQ.1 hQ'.1)
  have c1 := cN_not m F
  have c2 : cN n (fun i => D i && F (R i)) + cN n (fun i => D i && !(F (R i))) = cN n D := cN_add n (fun t _ => by cases D t <;> cases F (R t) <;> simp)
  omega
theorem cN_true (n : Nat) : cN n (fun _ => true) = n := by
  induction n with
  | zero => rfl
  | succ n ih => simp only [cN]; simp [ih]
theorem cN_perm {R : Nat → Nat} {n : Nat} {F : Nat → Bool} (h1 : ∀ i, i < n → R i < n) (h2 : ∀ i j, i < n → j < n → R i = R j → i = j) : cN n F = cN n (fun i => F (R i)) := by
  have := cN_dom (R := R) (n := n) (m := n) (D := fun _ => true) (F := F) (fun i hi _ => h1 i hi) (fun i j hi hj _ _ => h2 i j hi hj) (cN_true n)
  simpa using this
theorem cN_pos {n : Nat} {F : Nat → Bool} (h : 0 < cN n F) : ∃ i, i < n ∧ F i = true := by
  induction n with
  | zero => simp [cN] at h
  | succ n ih =>
    cases hf : F n
    · simp only [cN, hf] at h
      obtain ⟨i, h1, h2⟩ := ih (by simpa using h)
      exact ⟨i, by omega, h2⟩
    · exact ⟨n, by omega, hf⟩
theorem cN_one {n x : Nat} (h : x < n) : cN n (fun p => decide (p = x)) = 1 := by
  rw [cN_rm h (by simp)]
  have : cN n (fun p => decide (p = x) && !(decide (p = x))) = 0 := by
    have e : cN n (fun p => decide (p = x) && !(decide (p = x))) = cN n (fun _ => false) := cN_congr (fun t _ => by cases decide (t = x) <;> rfl)
    rw [e]
    clear e h
    induction n with
    | zero => rfl
    | succ n ih => simp only [cN, ih]; simp
  omega
theorem perm_onto {R : Nat → Nat} {n : Nat} (h1 : ∀ i, i < n → R i < n) (h2 : ∀ i j, i < n → j < n → R i = R j → i = j) {p : Nat} (hp : p < n) : ∃ i, i < n ∧ R i = p := by
  have := cN_perm (F := fun q => decide (q = p)) h1 h2
  rw [cN_one hp] at this
  obtain ⟨i, a, b⟩ := cN_pos (n := n) (F := fun i => decide (R i = p)) (by omega)
  exact ⟨i, a, by simpa using b⟩
def selN (P : Nat → Bool) : Nat → Nat → Nat
  | 0, _ => 0
  | i + 1, k => if P i && decide (cN i P = k) then i else selN P i k
theorem sel_spec {P : Nat → Bool} : ∀ {i k : Nat}, k < cN i P → selN P i k < i ∧ P (selN P i k) = true ∧ cN (selN P i k) P = k := by
  intro i
  induction i with
  | zero => intro k h; simp [cN] at h
  | succ i ih =>
    intro k h
    simp only [selN]
    by_cases hq : (P i && decide (cN i P = k)) = true
    · rw [if_pos hq]
      simp only [Bool.and_eq_true, decide_eq_true_eq] at hq
      exact ⟨by omega, hq.1, hq.2⟩
    · rw [if_neg hq]
      simp only [Bool.and_eq_true, decide_eq_true_eq, not_and] at hq
      have hk : k < cN i P := by
        simp only [cN] at h
        cases hp : P i
        · rw [hp] at h; simpa using h
        · have := hq hp; rw [hp] at h; simp at h; omega
      obtain ⟨a, b, c⟩ := ih hk
      exact ⟨by omega, b, c⟩
theorem cN_strict {P : Nat → Bool} {i j : Nat} (h : i < j) (hp : P i = true) : cN i P < cN j P := by
  have : cN (i + 1) P ≤ cN j P := cN_mono (by omega)
  simp only [cN, hp] at this
  simp at this; omega
theorem sel_inv {P : Nat → Bool} {n j : Nat} (hj : j < n) (hp : P j = true) : selN P n (cN j P) = j := by
  obtain ⟨a, b, c⟩ := sel_spec (P := P) (i := n) (k := cN j P) (cN_strict hj hp)
  rcases Nat.lt_trichotomy (selN P n (cN j P)) j with h | h | h
  · have := cN_strict h b; omega
  · exact h
  · have := cN_strict h hp; omega
theorem pkG_sel {P : Nat → Bool} {f : Nat → Int32} : ∀ {i k : Nat}, k < cN i P → pkG P nI f i k = nI (selN P i k) := by
  intro i
  induction i with
  | zero => intro k h; simp [cN] at h
  | succ i ih =>
    intro k h
    simp only [pkG, selN]
    cases hp : P i
    · simp only [cN, hp] at h
      simpa [hp] using ih (by simpa using h)
    · simp only [cN, hp] at h
      by_cases hk : cN i P = k
      · simp [hk, upd]
      · simp only [if_true, upd, Bool.true_and, decide_eq_true_eq, if_neg hk]
        rw [if_neg (by omega)]
        exact ih (by simp at h; omega)
theorem cN_sel {P Q : Nat → Bool} {n : Nat} : cN (cN n P) (fun k => Q (selN P n k)) = cN n (fun j => P j && Q j) := by
  refine (cN_dom (R := fun j => cN j P) (n := n) (m := cN n P) (D := P) (fun i hi hp => cN_strict hi hp) (fun i j hi hj hp hp' h => ?_) rfl).trans ?_
  · rcases Nat.lt_trichotomy i j with h1 | h1 | h1
    · have := cN_strict h1 hp; omega
    · exact h1
    · have := cN_strict h1 hp'; omega
  · exact cN_congr (fun t ht => by
      cases hp : P t
      · rfl
      · simp only [Bool.true_and]; rw [sel_inv ht hp])
theorem cN_split (a b : Nat) (P : Nat → Bool) : cN (a + b) P = cN a P + cN b (fun t => P (a + t)) := by
  induction b with
  | zero => simp [cN]
  | succ b ih => rw [← Nat.add_assoc]; simp only [cN]; rw [ih]; omega
theorem cN_below {p n : Nat} {Q : Nat → Bool} (h : p ≤ n) : cN p Q = cN n (fun t => decide (t < p) && Q t) := by
  obtain ⟨b, rfl⟩ : ∃ b, n = p + b := ⟨n - p, by omega⟩
  rw [cN_split]
  have e1 : cN p (fun t => decide (t < p) && Q t) = cN p Q := cN_congr (fun t ht => by simp [ht])
  have e2 : cN b (fun t => decide (p + t < p) && Q (p + t)) = 0 := by
    have : cN b (fun t => decide (p + t < p) && Q (p + t)) = cN b (fun _ => false) := by
      refine cN_congr (fun t _ => ?_)
      have h9 : ¬ p + t < p := by omega
      simp [h9]
    rw [this]
    clear this h
    induction b with
    | zero => rfl
    | succ b ih => simp only [cN, ih]; simp
  omega
/-! ranks of a stable counting pass -/
theorem rk_lex {n : Nat} {kk : Nat → Nat} {i j : Nat} (hi : i < n) (h : kk i < kk j ∨ (kk i = kk j ∧ i < j)) : rkN n kk i < rkN n kk j := by
  unfold rkN f3F
  rcases h with h | ⟨h1, h2⟩
  · have a1 : cN i (eq0 kk (kk i)) < cN n (eq0 kk (kk i)) := cN_strict hi (by simp [eq0])
    have a2 : cN n (ltB kk (kk i)) + cN n (eq0 kk (kk i)) = cN n (ltB kk (kk i + 1)) := by
      refine cN_add n (fun t _ => ?_)
      simp only [ltB, eq0, decide_eq_true_eq]
      by_cases g1 : kk t < kk i
      · simp [g1, show ¬ kk t = kk i by omega, show kk t < kk i + 1 by omega]
      · by_cases g2 : kk t = kk i
        · simp [g2]
        · simp [g1, g2, show ¬ kk t < kk i + 1 by omega]
    have a3 : cN n (ltB kk (kk i + 1)) ≤ cN n (ltB kk (kk j)) := cN_imp (fun t _ ht => by simp only [ltB, decide_eq_true_eq] at ht ⊢; omega)
    omega
  · rw [h1]
    have : cN i (eq0 kk (kk j)) < cN j (eq0 kk (kk j)) := cN_strict h2 (by simp [eq0, h1])
    omega
theorem rk_iff {n : Nat} {kk : Nat → Nat} {i j : Nat} (hi : i < n) (hj : j < n) : rkN n kk i < rkN n kk j ↔ (kk i < kk j ∨ (kk i = kk j ∧ i < j)) := by
  constructor
  · intro h
    by_cases h1 : kk i < kk j ∨ (kk i = kk j ∧ i < j)
    · exact h1
    · by_cases h2 : kk j < kk i ∨ (kk j = kk i ∧ j < i)
      · have := rk_lex hj h2; omega
      · have : i = j := by omega
        subst this; omega
  · exact rk_lex hi
theorem rk_inj {n : Nat} {kk : Nat → Nat} {i j : Nat} (hi : i < n) (hj : j < n) (h : rkN n kk i = rkN n kk j) : i = j := by
  by_cases h1 : kk i < kk j ∨ (kk i = kk j ∧ i < j)
  · have := rk_lex hi h1; omega
  · by_cases h2 : kk j < kk i ∨ (kk j = kk i ∧ j < i)
    · have := rk_lex hj h2; omega
    · omega
theorem srF_get {R sn : Nat → Nat} {f : Nat → Int32} {n : Nat} (inj : ∀ i j, i < n → j < n → R i = R j → i = j) : ∀ {m i : Nat}, m ≤ n → i < m → srF R sn f m (R i) = nI (sn i) := by
  intro m
  induction m with
  | zero => intro i _ h; omega
  | succ m ih =>
    intro i hm hi
    simp only [srF, upd]
    by_cases h : R i = R m
    · rw [if_pos h, inj i m (by omega) (by omega) h]
    · rw [if_neg h]
      have : i ≠ m := fun e => h (by rw [e])
      exact ih (by omega) (by omega)
/-! the rows -/
def nC (f : Nat → Int32) (j : Nat) : Nat := (f j).toNatClampNeg
def boB (sa ow : Nat → Int32) (x j : Nat) : Bool := stB sa 1 j && decide (nC ow j < x)
def lxB (ow fa : Nat → Int32) (j b : Nat) : Bool := decide (nC ow b < nC ow j ∨ (nC ow b = nC ow j ∧ (nC fa b < nC fa j ∨ (nC fa b = nC fa j ∧ b < j))))
def rnk (c : Nat) (sa ow fa : Nat → Int32) (j : Nat) : Nat := cN c (fun b => stB sa 1 b && lxB ow fa j b)
def rowsOK (c : Nat) (sa ow fa : Nat → Int32) (oo : Nat → Nat) (rw : Nat → Int32) : Prop := (∀ x, oo x = cN c (boB sa ow x)) ∧ ∀ j, j < c → stB sa 1 j = true → rw (rnk c sa ow fa j) = nI j
def sn1 (c : Nat) (sa : Nat → Int32) : Nat → Nat := selN (stB sa 1) c
def kk1 (c : Nat) (sa fa : Nat → Int32) (k : Nat) : Nat := nC fa (sn1 c sa k)
def nB (c : Nat) (sa : Nat → Int32) : Nat := cN c (stB sa 1)
def iv1 (c : Nat) (sa fa : Nat → Int32) (p : Nat) : Nat := selN (fun i => decide (rkN (nB c sa) (kk1 c sa fa) i = p)) (nB c sa) 0
def sn2 (c : Nat) (sa fa : Nat → Int32) (p : Nat) : Nat := sn1 c sa (iv1 c sa fa p)
def kk2 (c : Nat) (sa ow fa : Nat → Int32) (p : Nat) : Nat := nC ow (sn2 c sa fa p)
theorem sn1_ok {c : Nat} {sa : Nat → Int32} {k : Nat} (h : k < nB c sa) : sn1 c sa k < c ∧ stB sa 1 (sn1 c sa k) = true ∧ cN (sn1 c sa k) (stB sa 1) = k := sel_spec h
theorem rk1_lt {c : Nat} {sa fa : Nat → Int32} {i : Nat} (h : i < nB c sa) : rkN (nB c sa) (kk1 c sa fa) i < nB c sa := rk_lt h
theorem iv1_ok {c : Nat} {sa fa : Nat → Int32} {p : Nat} (h : p < nB c sa) : iv1 c sa fa p < nB c sa ∧ rkN (nB c sa) (kk1 c sa fa) (iv1 c sa fa p) = p := by
  obtain ⟨i, h1, h2⟩ := perm_onto (R := rkN (nB c sa) (kk1 c sa fa)) (fun i hi => rk_lt hi) (fun i j hi hj => rk_inj hi hj) h
  have hpos : 0 < cN (nB c sa) (fun i => decide (rkN (nB c sa) (kk1 c sa fa) i = p)) := by
    have := cN_strict (P := fun i => decide (rkN (nB c sa) (kk1 c sa fa) i = p)) h1 (by simp [h2])
    omega
  obtain ⟨a, b, _⟩ := sel_spec hpos
  simp only [decide_eq_true_eq] at b
  exact ⟨a, b⟩
theorem iv1_rk {c : Nat} {sa fa : Nat → Int32} {i : Nat} (h : i < nB c sa) : iv1 c sa fa (rkN (nB c sa) (kk1 c sa fa) i) = i := by
  obtain ⟨a, b⟩ := iv1_ok (fa := fa) (rk1_lt (fa := fa) h)
  exact rk_inj a h b
theorem sn2_ok {c : Nat} {sa fa : Nat → Int32} {p : Nat} (h : p < nB c sa) : sn2 c sa fa p < c := (sn1_ok (iv1_ok (fa := fa) h).1).1
theorem re12 {c : Nat} {sa fa : Nat → Int32} {Q : Nat → Bool} : cN (nB c sa) (fun p => Q (sn2 c sa fa p)) = cN c (fun j => stB sa 1 j && Q j) := by
  rw [cN_perm (R := rkN (nB c sa) (kk1 c sa fa)) (fun i hi => rk_lt hi) (fun i j hi hj => rk_inj hi hj)]
  rw [← cN_sel (P := stB sa 1) (Q := Q) (n := c)]
  exact cN_congr (fun i hi => by simp only [sn2]; rw [iv1_rk hi]; rfl)
theorem build_ok {c : Nat} {sa ow fa : Nat → Int32} {f : Nat → Int32} : rowsOK c sa ow fa (psN (nB c sa) (kk2 c sa ow fa)) (srF (rkN (nB c sa) (kk2 c sa ow fa)) (sn2 c sa fa) f (nB c sa)) := by
  constructor
  · intro x
    exact re12 (Q := fun j => decide (nC ow j < x))
  · intro j hj hb
    have hi : cN j (stB sa 1) < nB c sa := cN_strict hj hb
    have e1 : sn1 c sa (cN j (stB sa 1)) = j := sel_inv hj hb
    have hp := rk1_lt (fa := fa) hi
    have e2 : sn2 c sa fa (rkN (nB c sa) (kk1 c sa fa) (cN j (stB sa 1))) = j := by rw [sn2, iv1_rk hi, e1]
    have hr : rnk c sa ow fa j = rkN (nB c sa) (kk2 c sa ow fa) (rkN (nB c sa) (kk1 c sa fa) (cN j (stB sa 1))) := by
      show _ = cN (nB c sa) (ltB (kk2 c sa ow fa) _) + cN _ (eq0 (kk2 c sa ow fa) _)
      have ek : kk2 c sa ow fa (rkN (nB c sa) (kk1 c sa fa) (cN j (stB sa 1))) = nC ow j := by rw [kk2, e2]
      rw [ek]
      have s1 : cN (nB c sa) (ltB (kk2 c sa ow fa) (nC ow j)) = cN c (fun b => stB sa 1 b && decide (nC ow b < nC ow j)) := re12 (Q := fun b => decide (nC ow b < nC ow j))
      have s2 : cN (rkN (nB c sa) (kk1 c sa fa) (cN j (stB sa 1))) (eq0 (kk2 c sa ow fa) (nC ow j)) = cN c (fun b => stB sa 1 b && (decide (nC fa b < nC fa j ∨ (nC fa b = nC fa j ∧ b < j)) && decide (nC ow b = nC ow j))) := by
        rw [cN_below (Nat.le_of_lt hp), ← re12 (fa := fa)]
        refine cN_congr (fun p hpp => ?_)
        obtain ⟨a, b⟩ := iv1_ok (fa := fa) hpp
        simp only [eq0, kk2]
        congr 1
        refine decide_eq_decide.mpr ?_
        obtain ⟨u1, u2, u3⟩ := sn1_ok a
        have hiff := rk_iff (kk := kk1 c sa fa) a hi
        rw [b] at hiff
        rw [hiff]
        have ea : kk1 c sa fa (iv1 c sa fa p) = nC fa (sn2 c sa fa p) := rfl
        have eb : kk1 c sa fa (cN j (stB sa 1)) = nC fa j := by rw [kk1, e1]
        rw [ea, eb]
        have ec : iv1 c sa fa p < cN j (stB sa 1) ↔ sn2 c sa fa p < j := by
          show iv1 c sa fa p < _ ↔ sn1 c sa (iv1 c sa fa p) < j
          constructor
          · intro h
            rcases Nat.lt_trichotomy (sn1 c sa (iv1 c sa fa p)) j with h3 | h3 | h3
            · exact h3
            · rw [h3] at u3; omega
            · have := cN_strict h3 hb; omega
          · intro h
            have := cN_strict h u2
            omega
        rw [ec]
      rw [s1, s2]
      unfold rnk
      symm
      refine cN_add c (fun b _ => ?_)
      cases stB sa 1 b
      · simp
      · simp only [Bool.true_and, lxB, Bool.and_eq_true, decide_eq_true_eq]
        by_cases g1 : nC ow b < nC ow j
        · simp [g1, show ¬ nC ow b = nC ow j by omega]
        · by_cases g2 : nC ow b = nC ow j
          · simp [g1, g2]
          · simp [g1, g2]
    rw [hr, srF_get (n := nB c sa) (fun i k h1 h2 => rk_inj h1 h2) (Nat.le_refl _) hp, e2]

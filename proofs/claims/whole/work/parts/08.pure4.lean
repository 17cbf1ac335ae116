theorem apC_y {P : Nat → Bool} {i : Nat} (h : P i = true) (hc : cN i P < 160) : apC (cN i P) = cN (i + 1) P := by simp [apC, hc, cN, h]
theorem apF_y {P : Nat → Bool} {v f : Nat → Int32} {i : Nat} {x : Int32} (h : P i = true) (hc : cN i P < 160) (hx : x = v i) : apF (cN i P) (pkG P v f i) x = pkG P v f (i + 1) := by simp [apF, hc, pkG, h, hx]
theorem apC_t {t : Nat} (h : t < 160) : apC t = t + 1 := by simp [apC, h]
theorem apF_t {v f : Nat → Int32} {t : Nat} {x : Int32} (h : t < 160) (hx : x = v t) : apF t (pfx v f t) x = pfx v f (t + 1) := by rw [apF, if_pos h]; exact pfx_w hx
theorem z_eq {x : Int32} (h1 : ¬ x < 0) (h2 : ¬ 0 < x) : x = 0 := by
  have a := k2_le h1; have b := k2_le h2
  rw [Int32.le_iff_toInt_le] at a b
  exact Int32.toInt_inj.mp (Int.le_antisymm b a)
def jrB (N m : Nat) (go : Nat → Int32) (i : Nat) : Bool := !(jgB N m go i)
theorem jr_t {N m : Nat} {go : Nat → Int32} {i : Nat} (h : jgR N m go i) : jrB N m go i = true := by rw [jrB, jg_n h]; rfl
theorem jr_f {N m : Nat} {go : Nat → Int32} {i : Nat} (h : ¬ jgR N m go i) : jrB N m go i = false := by rw [jrB, jg_y h]; rfl
theorem lsN_at {Q : Nat → Bool} {n v : Nat} : ∀ {k i : Nat}, i + k = n → i ≤ v → v < n → Q v = true → (∀ t, i ≤ t → t < v → Q t = false) → lsN Q k i = v := by
  intro k
  induction k with
  | zero => intro i h1 h2 h3 _ _; omega
  | succ k ih =>
    intro i h1 h2 h3 h4 h5
    by_cases h : i = v
    · subst h; simp [lsN, h4]
    · simp only [lsN, h5 i (Nat.le_refl i) (by omega)]
      exact ih (by omega) (by omega) h3 h4 (fun t h6 h7 => h5 t (by omega) h7)
theorem loV_at {N m : Nat} {go : Nat → Int32} {gN : Nat → Nat} (hN : N ≤ 24) (hm : m ≤ 160) (hg : ∀ i, i ≤ N → go i = nI (gN i) ∧ gN i ≤ m) (hmo : ∀ i, i < N → gN i ≤ gN (i + 1)) {v t : Nat} (hv : v < N) (h1 : gN v ≤ t) (h2 : t < gN (v + 1)) : nI v = loV N go t := by
  have mono : ∀ j i, i ≤ j → j ≤ N → gN i ≤ gN j := by
    intro j
    induction j with
    | zero => intro i h _; rw [show i = 0 by omega]; exact Nat.le_refl _
    | succ j ih =>
      intro i h hj
      by_cases h3 : i = j + 1
      · subst h3; exact Nat.le_refl _
      · exact Nat.le_trans (ih i (by omega) (by omega)) (hmo j (by omega))
  have hb : gN (v + 1) ≤ m := (hg (v + 1) (by omega)).2
  have q : ∀ u, u < N → loQ go t u = !(decide (gN (u + 1) ≤ t)) := by
    intro u hu
    have h3 := hg (u + 1) (by omega)
    unfold loQ
    rw [h3.1]
    congr 1
    exact decide_eq_decide.mpr (nI_leI (by omega) (by omega))
  rw [loV, lsN_at (n := N) (v := v) (by omega) (by omega) hv (by rw [q v hv]; simp; omega) (fun u _ hu => by
    rw [q u (by omega)]
    have := mono v (u + 1) (by omega) (by omega)
    simp; omega)]
theorem vpc_eq {cA : ClassId} {n : Nat} {f g : Nat → Int32} (hf : ∀ k, k < n → f k = g k) : vp_cell cA (n, .inl f) = vp_cell cA (n, .inl g) := by
  show arrV cA n (fun j => .int (f j)) = arrV cA n (fun j => .int (g j))
  unfold arrV
  have e : (fun j : Fin n => Value.int (f j.val)) = fun j : Fin n => Value.int (g j.val) := funext fun j => by rw [hf j.val j.isLt]
  rw [e]
theorem x_ext {D : va_G} {Fs Fs' : List va_W} {F F' : va_W} {H : Heap} {a : Nat} {cA : ClassId} {n : Nat} {f g : Nat → Int32} (hP : va_P D vwCl Fs.flatten H) (j q0 : Nat) (hj : Fs[j]? = some F) (ha : F[q0]? = some (a, .inl (cA, n, .inl f))) (hf : ∀ k, k < n → f k = g k) (hset : F.set q0 (a, .inl (cA, n, .inl g)) = F') (hF : Fs.set j F' = Fs') : va_P D vwCl Fs'.flatten H := by
  subst hset; subst hF
  rw [← fSet Fs j F q0 _ hj (fLt ha)]
  intro k q hk
  by_cases hkk : fOff Fs j + q0 = k
  · subst hkk
    have h1 := fGet Fs j F q0 _ hj ha
    have h2 := hP _ _ h1
    rw [List.getElem?_set_self', h1] at hk
    have hk : (a, Sum.inl (cA, n, Sum.inl g)) = q := by simpa using hk
    subst hk
    have h3 : H[a]? = some (vp_cell cA (n, .inl f)) := h2
    show H[a]? = some (vp_cell cA (n, .inl g))
    rw [h3, vpc_eq hf]
  · rw [List.getElem?_set_ne hkk] at hk
    exact hP k q hk
theorem d_ext {A : Nat → Prop} {Fs Fs' : List va_W} {F F' : va_W} {a : Nat} {e e' : va_E} (hD : va_D A Fs.flatten) (j q0 : Nat) (hj : Fs[j]? = some F) (ha : F[q0]? = some (a, e)) (hset : F.set q0 (a, e') = F') (hF : Fs.set j F' = Fs') : va_D A Fs'.flatten := by
  subst hset; subst hF
  rw [← fSet Fs j F q0 _ hj (fLt ha)]
  exact hD.set (fGet Fs j F q0 _ hj ha)

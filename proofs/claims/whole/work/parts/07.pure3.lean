theorem fsv_or (Q : Nat → Bool) (V : Nat → Int32) : ∀ (n i : Nat), (fsv Q V n i = -1 ∧ ∀ t, i ≤ t → t < i + n → Q t = false) ∨ ∃ j, i ≤ j ∧ j < i + n ∧ Q j = true ∧ fsv Q V n i = V j ∧ ∀ t, i ≤ t → t < j → Q t = false := by
  intro n
  induction n with
  | zero => intro i; exact Or.inl ⟨rfl, fun t h1 h2 => by omega⟩
  | succ n ih =>
    intro i
    by_cases hq : Q i = true
    · exact Or.inr ⟨i, Nat.le_refl i, by omega, hq, by simp [fsv, hq], fun t h1 h2 => by omega⟩
    · have hq : Q i = false := by simpa using hq
      rcases ih (i + 1) with ⟨h1, h2⟩ | ⟨j, h1, h2, h3, h4, h5⟩
      · exact Or.inl ⟨by simp [fsv, hq, h1], fun t h3 h4 => by
          by_cases ht : t = i
          · subst ht; exact hq
          · exact h2 t (by omega) (by omega)⟩
      · exact Or.inr ⟨j, by omega, by omega, h3, by simp [fsv, hq, h4], fun t h6 h7 => by
          by_cases ht : t = i
          · subst ht; exact hq
          · exact h5 t (by omega) h7⟩
theorem jdR_0 {N m : Nat} {go gt : Nat → Int32} (hN : N ≤ 24) (hm : m ≤ 160) (h : jdR N m go gt = 0) : (∀ i, i ≤ N → jgR N m go i) ∧ ∀ k, k < m → hasB N (gt k) = true := by
  have n0 : ∀ k : Nat, 0 < k → k < 2 ^ 31 → ¬ nI k = 0 := fun k h1 h2 => nI_ne0 h1 h2
  rcases fsv_or (jgB N m go) j1V (N + 1) 0 with ⟨h1, h2⟩ | ⟨j, h1, h2, h3, h4, h5⟩
  · refine ⟨fun i hi => ?_, ?_⟩
    · have := h2 i (by omega) (by omega)
      by_cases h9 : jgR N m go i
      · exact h9
      · rw [jg_y h9] at this; cases this
    · have e1 : j1A N m go = -1 := h1
      rw [jdR, if_pos e1] at h
      rcases fsv_or (jtB N gt) j2V m 0 with ⟨g1, g2⟩ | ⟨j, g1, g2, g3, g4, g5⟩
      · intro k hk
        have := g2 k (by omega) (by omega)
        simpa [jtB] using this
      · have e2 : j2A N m gt = nI (100 + j) := g4
        rw [e2, if_neg (nI_ne_m1 (by omega))] at h
        exact absurd h (n0 _ (by omega) (by omega))
  · have e1 : j1A N m go = nI (1 + j) := h4
    rw [jdR, e1, if_neg (nI_ne_m1 (by omega))] at h
    exact absurd h (n0 _ (by omega) (by omega))
theorem jgR_N {N m : Nat} {go : Nat → Int32} (h : jgR N m go N) : go N = nI m := by
  rcases h.2.2 with h | h
  · omega
  · exact h

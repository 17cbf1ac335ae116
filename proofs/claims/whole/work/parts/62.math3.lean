/-! ===== class and model answer alike ===== -/
section Swap
variable {fr tt sa tk : Nat → Int32} {z : Int32}
theorem ofB_sw (hz : ¬ z = 0) (x w : Int32) : ofB fr tt sa tk x z w = ofB tt fr sa tk x 0 w := by
  funext j; simp [ofB, ownI, hz]
theorem ahB_sw (hz : ¬ z = 0) : ahB fr tt sa z = ahB tt fr sa 0 := by
  funext j k; simp [ahB, othI, hz]
theorem anB_sw (hz : ¬ z = 0) (x w : Int32) : anB fr tt sa tk x z w = anB tt fr sa tk x 0 w := by
  funext j k; simp only [anB, ofB_sw hz, ahB_sw hz]
theorem plR_sw {c : Nat} (hz : ¬ z = 0) (x w k : Int32) : plR c fr tt sa tk x z w k = plR c tt fr sa tk x 0 w k := by
  unfold plR
  congr 1
  funext j; simp only [plB, ofB_sw hz, anB_sw hz]
theorem nxV_sw (hz : ¬ z = 0) (x lv : Int32) : ∀ c : Nat, nxV fr tt sa tk x z lv c = nxV tt fr sa tk x 0 lv c := by
  intro c
  induction c with
  | zero => rfl
  | succ c ih =>
    have e : ∀ b, nxB fr tt sa tk x z lv b c = nxB tt fr sa tk x 0 lv b c := fun b => by unfold nxB; rw [ofB_sw hz, ahB_sw hz]
    rw [nxV, nxV, ih, e]
theorem ofsR_sw {N c : Nat} (hz : ¬ z = 0) (x : Int32) : ofsR N c fr tt sa x z = ofsR N c tt fr sa x 0 := by
  unfold ofsR
  have : ofsB fr tt sa z x = ofsB tt fr sa 0 x := by funext j; simp [ofsB, ownI, hz]
  rw [this]
theorem dgR_sw {N c : Nat} (hz : ¬ z = 0) (x : Int32) : dgR N c fr tt sa tk x z = dgR N c tt fr sa tk x 0 := by
  unfold dgR; rw [ofB_sw hz]
theorem lvR_sw {N c : Nat} (hz : ¬ z = 0) (x k : Int32) : lvR N c fr tt sa tk x z k = lvR N c tt fr sa tk x 0 k := by
  unfold lvR; rw [plR_sw hz]
theorem irA_sw {N c : Nat} (hz : ¬ z = 0) (x k : Int32) : irA N c fr tt sa tk x z k = irA N c tt fr sa tk x 0 k := by
  unfold irA; rw [plR_sw hz]
end Swap
section Alike
variable {N c : Nat} {sa tk ow fa rw : Nat → Int32} {oo : Nat → Nat}
theorem A_off (hR : rowsOK c sa ow fa oo rw) (hN : N ≤ 24) (how : ∀ j, j < c → vp_in (ow j) N) (x : Int32) : ofC N oo x = ofsR N c ow fa sa x 0 := by
  unfold ofC ofsR
  by_cases h0 : x < 0
  · rw [if_pos h0, if_neg]
    intro h
    rcases h with h | h
    · rw [h] at h0; exact nI_pos (by omega) h0
    · simp [hasB, h0] at h
  · rw [if_neg h0]
    obtain ⟨v, hv, rfl⟩ := nI_of h0
    have e1 := nI_eq (a := v) (b := N) hv (by omega)
    have e2 := nI_leI (a := v) (b := N) hv (by omega)
    have c1 : (nI v = nI N ∨ hasB N (nI v) = true) ↔ v ≤ N := by rw [e1, hasB_nI (by omega) hv, decide_eq_true_eq]; omega
    by_cases h : v ≤ N
    · rw [if_pos (c1.mpr h), if_neg (fun q => q (e2.mpr h)), nI_clamp hv, hR.1 v]
      congr 1
      refine cN_congr (fun j hj => ?_)
      have f := in_nC (how j hj) (show N < 2 ^ 31 by omega)
      have e3 := nI_leI (a := v) (b := nC ow j) hv (by omega)
      simp only [boB, stB, ofsB, ownI, if_true]
      congr 1
      rw [← decide_not]
      refine decide_eq_decide.mpr ?_
      rw [f.1, e3]; omega
    · rw [if_neg (fun q => h (c1.mp q)), if_pos (fun q => h (e2.mp q))]
theorem A_deg (hR : rowsOK c sa ow fa oo rw) (hc : c ≤ 160) (hN : N ≤ 24) (how : ∀ j, j < c → vp_in (ow j) N) (hsa : ∀ j, j < c → sa j = 0 ∨ sa j = 1 ∨ sa j = 2) (x : Int32) : dcR N c sa tk ow rw oo x = dgR N c ow fa sa tk x 0 := by
  unfold dcR dgR
  by_cases h : hasB N x = true
  · rw [if_pos h, if_pos h]
    obtain ⟨v, hv, rfl⟩ := hasB_of h (by omega)
    rw [nI_clamp (by omega), T_deg (fa := fa) hR hc hN hv how hsa]
  · rw [if_neg h, if_neg h]
theorem A_live (hR : rowsOK c sa ow fa oo rw) (hc : c ≤ 160) (hN : N ≤ 24) (how : ∀ j, j < c → vp_in (ow j) N) (hfa : ∀ j, j < c → vp_in (fa j) N) (hsa : ∀ j, j < c → sa j = 0 ∨ sa j = 1 ∨ sa j = 2) (x k : Int32) : lvC N c sa tk ow rw oo x k = lvR N c ow fa sa tk x 0 k := by
  unfold lvC lvR
  by_cases h : hasB N x = true
  · rw [if_pos h, if_pos h]
    by_cases hk : k < 0
    · rw [if_pos hk, if_pos hk]
    · rw [if_neg hk, if_neg hk]
      obtain ⟨v, hv, rfl⟩ := hasB_of h (by omega)
      obtain ⟨m, hm, rfl⟩ := nI_of hk
      rw [nI_clamp (by omega), nI_clamp hm, T_live (fa := fa) hR hc hN hv how hfa hsa hm]
  · rw [if_neg h, if_neg h]
theorem A_row (hR : rowsOK c sa ow fa oo rw) (hc : c ≤ 160) (hN : N ≤ 24) (how : ∀ j, j < c → vp_in (ow j) N) (hfa : ∀ j, j < c → vp_in (fa j) N) (x k : Int32) :
    (okB N oo x k = true → ¬ irA N c ow fa sa tk x 0 k = -1 ∧ irA N c ow fa sa tk x 0 k = atV c sa ow rw oo x.toNatClampNeg k.toNatClampNeg) ∧ (okB N oo x k = false → irA N c ow fa sa tk x 0 k = -1) := by
  unfold irA
  by_cases h : hasB N x = true
  · by_cases hk : k < 0
    · simp [okB, h, hk]
    · obtain ⟨v, hv, rfl⟩ := hasB_of h (by omega)
      obtain ⟨m, hm, rfl⟩ := nI_of hk
      have hb := (oo_ok hR hc v)
      have e : okB N oo (nI v) (nI m) = decide (m < oo (v + 1) - oo v) := by
        unfold okB
        rw [h, decide_eq_false hk, nI_clamp (show v < 2 ^ 31 by omega)]
        simp only [Bool.not_false, Bool.true_and]
        exact decide_eq_decide.mpr (nI_ltI hm (by omega))
      rw [e, h, decide_eq_false hk, nI_clamp (show v < 2 ^ 31 by omega), nI_clamp hm]
      simp only [Bool.not_false, Bool.true_and, if_true, decide_eq_true_eq, decide_eq_false_iff_not]
      rw [T_row (fa := fa) hR hc hN hv how hfa hm]
      constructor
      · intro hlt
        rw [if_pos hlt]
        obtain ⟨a, a1, a2, a3⟩ := pl_onto (fa := fa) hR hlt
        obtain ⟨b1, b2⟩ := d0_at a1 a2
        have e2 := pl_at hR hc hN hv how b1 (fa := fa)
        rw [plA, if_pos b2, a3] at e2
        exact ⟨by rw [e2]; exact nI_ne_m1 (by omega), rfl⟩
      · intro hlt; rw [if_neg hlt]
  · have h : hasB N x = false := by simpa using h
    simp [okB, h]
theorem A_btw {fr tt : Nat → Int32} (x y : Int32) : bwR N c fr tt sa tk x y = btR N c fr tt sa tk x y := by
  unfold bwR btR
  have : bwB fr tt sa tk x y = ldB fr tt sa tk x y := by
    funext j
    simp only [bwB, ldB, ofB, ownI, if_true, if_neg (show ¬ (1 : Int32) = 0 by decide)]
    cases lvB sa tk j <;> simp
  rw [this]
end Alike
section Near
variable {N c : Nat} {fr tt sa tk : Nat → Int32}
theorem cl_lt {f : Nat → Int32} (hN : N ≤ 24) (h : ∀ j, j < c → vp_in (f j) N) {i : Nat} (hi : i < c) : (f i).toNatClampNeg < N := (in_nC (h i hi) (show N < 2 ^ 31 by omega)).2
theorem nrI_cg (hN : N ≤ 24) (hfr : ∀ j, j < c → vp_in (fr j) N) (htt : ∀ j, j < c → vp_in (tt j) N) {F G : Nat → Int32} {n : Nat} (h : ∀ j, j < N → F j = G j) : ∀ i, i ≤ c → ∀ j, j < N → nrI fr tt sa tk n i F j = nrI fr tt sa tk n i G j := by
  intro i
  induction i with
  | zero => intro _ j hj; exact h j hj
  | succ i ih =>
    intro hi j hj
    have ih := ih (by omega)
    simp only [nrI]
    rw [ih _ (cl_lt hN hfr (show i < c by omega)), ih _ (cl_lt hN htt (show i < c by omega))]
    split
    · simp only [upd]; split
      · rfl
      · exact ih j hj
    · exact ih j hj
theorem nrO_cg (hN : N ≤ 24) (hfr : ∀ j, j < c → vp_in (fr j) N) (htt : ∀ j, j < c → vp_in (tt j) N) {F G : Nat → Int32} (h : ∀ j, j < N → F j = G j) : ∀ n j, j < N → nrO c fr tt sa tk n F j = nrO c fr tt sa tk n G j := by
  intro n
  induction n with
  | zero => exact h
  | succ n ih => intro j hj; simp only [nrO]; exact nrI_cg hN hfr htt ih c (Nat.le_refl c) j hj
theorem A_near (hN : N ≤ 24) (hfr : ∀ j, j < c → vp_in (fr j) N) (htt : ∀ j, j < c → vp_in (tt j) N) (sp fa : Nat → Int32) (x y : Int32) : crR N c fr tt sa tk sp x y = nrR N c fr tt sa tk fa x y := by
  unfold crR nrR
  by_cases h : arB N x y = true
  · rw [if_pos h, if_pos h]
    simp only [arB, Bool.and_eq_true] at h
    obtain ⟨v, hv, rfl⟩ := hasB_of h.1 (by omega)
    obtain ⟨w, hw, rfl⟩ := hasB_of h.2 (by omega)
    refine nrO_cg hN hfr htt (fun j hj => ?_) N _ (by rw [nI_clamp (by omega)]; exact hw)
    rw [pfx_lt hj]
    unfold cr0 nr0 upd
    rw [nI_clamp (by omega), pfx_lt hj]
    have := nI_eq (a := j) (b := v) (by omega) (by omega)
    by_cases e : j = v
    · rw [if_pos e, if_pos (this.mpr e)]
    · rw [if_neg e, if_neg (fun q => e (this.mp q))]
  · rw [if_neg h, if_neg h]
theorem wyI_cg (hN : N ≤ 24) (hfr : ∀ j, j < c → vp_in (fr j) N) (htt : ∀ j, j < c → vp_in (tt j) N) {M M' F G : Nat → Int64} (hM : ∀ j, j < N → M j = M' j) (h : ∀ j, j < N → F j = G j) : ∀ i, i ≤ c → ∀ j, j < N → wcI fr tt sa tk M i F j = wyI fr tt sa tk M' i G j := by
  intro i
  induction i with
  | zero => intro _ j hj; exact h j hj
  | succ i ih =>
    intro hi j hj
    have ih := ih (by omega)
    have e := ih _ (cl_lt hN htt (show i < c by omega))
    have e2 := hM _ (cl_lt hN hfr (show i < c by omega))
    simp only [wcI, wyI]
    cases hl : lvB sa tk i
    · simp only [Bool.false_eq_true, if_false, vp_updL]
      split
      · rename_i hj2; rw [hj2, e]; simp
      · exact ih j hj
    · simp only [if_true, vp_updL]
      split
      · rw [e, e2]
      · exact ih j hj
theorem wyO_cg (hN : N ≤ 24) (hfr : ∀ j, j < c → vp_in (fr j) N) (htt : ∀ j, j < c → vp_in (tt j) N) {h o mn nx : Nat → Int64} (h0 : ∀ j, j < N → h j = mn j) : ∀ n j, j < N → (wcO N c fr tt sa tk h o n).1 j = (wyO N c fr tt sa tk mn nx n).1 j := by
  intro n
  induction n with
  | zero => exact h0
  | succ n ih =>
    intro j hj
    simp only [wcO, wyO]
    rw [pfx_lt hj]
    have e : ∀ (A B : Nat → Int64), va_cpy A B 0 0 N j = A j := fun A B => by simp [va_cpy, hj]
    rw [e]
    exact wyI_cg hN hfr htt ih (fun t ht => by rw [pfx_lt ht, pfx_lt ht]) c (Nat.le_refl c) j hj
theorem A_ways (hN : N ≤ 24) (hfr : ∀ j, j < c → vp_in (fr j) N) (htt : ∀ j, j < c → vp_in (tt j) N) (hr ow mn nx : Nat → Int64) (x y k : Int32) : wcR N c fr tt sa tk hr ow x y k = wyR N c fr tt sa tk mn nx x y k := by
  unfold wcR wyR
  by_cases h : wyB N x y k = true
  · rw [if_pos h, if_pos h]
    simp only [wyB, arB, Bool.and_eq_true] at h
    obtain ⟨v, hv, rfl⟩ := hasB_of h.1.1 (by omega)
    obtain ⟨w, hw, rfl⟩ := hasB_of h.1.2 (by omega)
    refine wyO_cg hN hfr htt (fun j hj => ?_) _ _ (by rw [nI_clamp (by omega)]; exact hw)
    rw [pfx_lt hj]
    unfold wc0 wy0 vp_updL
    rw [nI_clamp (by omega), pfx_lt hj]
    have := nI_eq (a := j) (b := v) (by omega) (by omega)
    by_cases e : j = v
    · rw [if_pos e, if_pos (this.mpr e)]
    · rw [if_neg e, if_neg (fun q => e (this.mp q))]
  · rw [if_neg h, if_neg h]
end Near
section Next
variable {N c : Nat} {sa tk ow fa rw op sl nd lp il : Nat → Int32} {oo : Nat → Nat} {v : Nat} {x : Int32}
theorem N_hyp (hR : rowsOK c sa ow fa oo rw) (hc : c ≤ 160) (hit : itB op x = true → sl x.toNatClampNeg = 0 → v < N ∧ nd x.toNatClampNeg = nI v ∧ itR c sa ow fa oo v (lp x.toNatClampNeg) (il x.toNatClampNeg)) :
    itB op x = true → sl x.toNatClampNeg = 0 → nd x.toNatClampNeg = nI v ∧ v < N ∧ lp x.toNatClampNeg + 1 = nI (qN (lp x.toNatClampNeg)) ∧ qN (lp x.toNatClampNeg) ≤ plN c oo v ∧ oo v ≤ oo (v + 1) ∧ oo (v + 1) ≤ 160 := fun h1 h2 => by
  obtain ⟨g1, g2, g3⟩ := hit h1 h2
  obtain ⟨q1, q2, _⟩ := it_q hR hc g3
  exact ⟨g2, g1, q1, q2, oo_ok hR hc v⟩
theorem N_one (hR : rowsOK c sa ow fa oo rw) (hc : c ≤ 160) (hN : N ≤ 24) (how : ∀ j, j < c → vp_in (ow j) N) (hfa : ∀ j, j < c → vp_in (fa j) N) (hsa : ∀ j, j < c → sa j = 0 ∨ sa j = 1 ∨ sa j = 2)
    (hit : itB op x = true → sl x.toNatClampNeg = 0 → v < N ∧ nd x.toNatClampNeg = nI v ∧ itR c sa ow fa oo v (lp x.toNatClampNeg) (il x.toNatClampNeg)) :
    (ncR c sa tk ow rw oo op sl v (qN (lp x.toNatClampNeg)) x = (if itB op x then (if sl x.toNatClampNeg = 0 then nxV ow fa sa tk (nd x.toNatClampNeg) 0 (il x.toNatClampNeg) c else -4) else -2)) ∧
    (ncB c sa tk ow rw oo op sl v (qN (lp x.toNatClampNeg)) x = (nxG op sl x && !(decide (nxV ow fa sa tk (nd x.toNatClampNeg) 0 (il x.toNatClampNeg) c = -1)))) ∧
    (ncB c sa tk ow rw oo op sl v (qN (lp x.toNatClampNeg)) x = true → itR c sa ow fa oo v (lpR c sa tk ow rw oo v (qN (lp x.toNatClampNeg))) (nxV ow fa sa tk (nd x.toNatClampNeg) 0 (il x.toNatClampNeg) c)) := by
  unfold ncR ncB nxG
  cases h1 : itB op x
  · simp
  · by_cases h2 : sl x.toNatClampNeg = 0
    case neg => simp [h2]
    · obtain ⟨g1, g2, g3⟩ := hit h1 h2
      rw [g2]
      simp only [h2, if_true, decide_true, Bool.true_and]
      have hb := (oo_ok hR hc v).2
      rcases T_next (tk := tk) hR hc hN g1 how hfa hsa g3 with ⟨t1, t2⟩ | ⟨a, t1, t2, t3, t4⟩
      · rw [t1, t2]; simp
      · have hl := pl_lt hR t1
        have hp : plN c oo v ≤ 320 := by unfold plN; omega
        have n1 : ¬ nI (plA c sa ow fa oo v a) = -1 := nI_ne_m1 (by omega)
        have n2 : ¬ nI a = -1 := nI_ne_m1 (by have := t1.1; omega)
        rw [t2, t3, if_neg n1, nI_clamp (by omega), t4, decide_eq_false n1, decide_eq_false n2]
        exact ⟨rfl, rfl, fun _ => Or.inr ⟨a, t1, rfl, rfl⟩⟩
end Next
/-- the eight places for walks: behind them nothing is open -/
def op8 (op : Nat → Int32) : Prop := ∀ t, 8 ≤ t → op t = 0
theorem op8_open {N : Nat} {op : Nat → Int32} {x : Int32} (h : op8 op) : op8 (opF N op x op 1) := by
  intro t ht
  unfold opF
  split
  · rename_i hq
    simp only [Bool.and_eq_true, Bool.not_eq_true', decide_eq_false_iff_not] at hq
    obtain ⟨j, h1, h2⟩ := vp_in_of (opA_in hq.2) (by decide)
    rw [h2, nI_clamp (by omega)]
    simp only [upd]
    rw [if_neg (by omega)]; exact h t ht
  · exact h t ht
theorem op8_close {op : Nat → Int32} {x : Int32} (h : op8 op) : op8 (clF op x) := by
  intro t ht
  unfold clF
  split
  · simp only [upd]; split
    · rfl
    · exact h t ht
  · exact h t ht
section Steps2
variable {N c tn : Nat} {fr tt sa tk op sl nd oi lp il tl : Nat → Int32} {oo ox : Nat → Nat} {rw rx : Nat → Int32} {x : Int32}
theorem itB_8 (h : itB op x = true) : x.toNatClampNeg < 8 ∧ ¬ op x.toNatClampNeg = 0 := by
  simp only [itB, Bool.and_eq_true, Bool.not_eq_true', decide_eq_false_iff_not] at h
  obtain ⟨j, h1, h2⟩ := hasB_of h.1 (by decide)
  refine ⟨?_, h.2⟩
  rw [h2, nI_clamp (by omega)]; exact h1
theorem N_hil (h : Inv N c tn fr tt sa tk op sl nd oi lp il oo ox rw rx) (h8 : op8 op) : ¬ op x.toNatClampNeg = 0 → sl x.toNatClampNeg = 0 → (il x.toNatClampNeg = -1 ∨ hasB c (il x.toNatClampNeg) = true) := by
  obtain ⟨hN, hc, htn, hfr, htt, hsa, hlt, htk, hR, hR2, hI⟩ := h
  intro h1 h2
  have h3 : x.toNatClampNeg < 8 := by
    rcases Nat.lt_or_ge x.toNatClampNeg 8 with g | g
    · exact g
    · exact absurd (h8 _ g) h1
  have key : ∀ {ow fa : Nat → Int32} {o3 : Nat → Nat} {v : Nat}, itR c sa ow fa o3 v (lp x.toNatClampNeg) (il x.toNatClampNeg) → (il x.toNatClampNeg = -1 ∨ hasB c (il x.toNatClampNeg) = true) := fun g => by
    rcases g with ⟨_, g⟩ | ⟨a, a1, a2, _⟩
    · exact Or.inl g
    · right; rw [a2, hasB_nI (by omega) (by have := a1.1; omega)]; simpa using a1.1
  obtain ⟨v, _, _, v3, v4⟩ := hI _ h3 h1 h2
  by_cases hz : oi x.toNatClampNeg = 0
  · exact key (v3 hz)
  · exact key (v4 hz)
theorem itI_set (hI : itI N c fr tt sa op sl nd oi lp il oo ox) {L I : Int32} (h : ∀ v, v < N → nd x.toNatClampNeg = nI v → (oi x.toNatClampNeg = 0 → itR c sa fr tt oo v L I) ∧ (¬ oi x.toNatClampNeg = 0 → itR c sa tt fr ox v L I)) : itI N c fr tt sa op sl nd oi (upd lp x.toNatClampNeg L) (upd il x.toNatClampNeg I) oo ox := by
  intro t ht h1 h2
  obtain ⟨v, v1, v2, v3, v4⟩ := hI t ht h1 h2
  refine ⟨v, v1, v2, ?_⟩
  simp only [upd]
  by_cases e : t = x.toNatClampNeg
  · rw [if_pos e, if_pos e, e]; exact h v v1 (by rw [← e]; exact v2)
  · rw [if_neg e, if_neg e]; exact ⟨v3, v4⟩
theorem E_next0 (h : Inv N c tn fr tt sa tk op sl nd oi lp il oo ox rw rx) (hz : oi x.toNatClampNeg = 0) :
    (itB op x = true → sl x.toNatClampNeg = 0 → nd x.toNatClampNeg = nI (nC nd x.toNatClampNeg) ∧ nC nd x.toNatClampNeg < N ∧ lp x.toNatClampNeg + 1 = nI (qN (lp x.toNatClampNeg)) ∧ qN (lp x.toNatClampNeg) ≤ plN c oo (nC nd x.toNatClampNeg) ∧ oo (nC nd x.toNatClampNeg) ≤ oo (nC nd x.toNatClampNeg + 1) ∧ oo (nC nd x.toNatClampNeg + 1) ≤ 160) ∧
    ncR c sa tk fr rw oo op sl (nC nd x.toNatClampNeg) (qN (lp x.toNatClampNeg)) x = nxR c fr tt sa tk op sl nd oi il x ∧
    ncF (ncB c sa tk fr rw oo op sl (nC nd x.toNatClampNeg) (qN (lp x.toNatClampNeg)) x) tl x (tl x.toNatClampNeg + 1) = nxT c fr tt sa tk op sl nd oi il tl x ∧
    Inv N c tn fr tt sa tk op sl nd oi (ncF (ncB c sa tk fr rw oo op sl (nC nd x.toNatClampNeg) (qN (lp x.toNatClampNeg)) x) lp x (lpR c sa tk fr rw oo (nC nd x.toNatClampNeg) (qN (lp x.toNatClampNeg)))) (nxF c fr tt sa tk op sl nd oi il x) oo ox rw rx := by
  obtain ⟨hN, hc, htn, hfr, htt, hsa, hlt, htk, hR, hR2, hI⟩ := h
  have hit : itB op x = true → sl x.toNatClampNeg = 0 → nC nd x.toNatClampNeg < N ∧ nd x.toNatClampNeg = nI (nC nd x.toNatClampNeg) ∧ itR c sa fr tt oo (nC nd x.toNatClampNeg) (lp x.toNatClampNeg) (il x.toNatClampNeg) := fun h1 h2 => by
    obtain ⟨v, v1, v2, v3, _⟩ := hI _ (itB_8 h1).1 (itB_8 h1).2 h2
    have e : nC nd x.toNatClampNeg = v := by unfold nC; rw [v2]; exact nI_clamp (by omega)
    rw [e]; exact ⟨v1, v2, v3 hz⟩
  obtain ⟨n1, n2, n3⟩ := N_one (tk := tk) hR hc hN.2 hfr htt hsa hit
  have eA : nxA c fr tt sa tk nd oi il x = nxV fr tt sa tk (nd x.toNatClampNeg) 0 (il x.toNatClampNeg) c := by unfold nxA; rw [hz]
  refine ⟨N_hyp hR hc hit, ?_, ?_, ?_⟩
  · rw [n1]; unfold nxR; rw [eA]
  · unfold ncF nxT; rw [n2, eA]
  · refine ⟨hN, hc, htn, hfr, htt, hsa, hlt, htk, hR, hR2, ?_⟩
    unfold nxF ncF
    rw [eA, ← n2]
    cases hb : ncB c sa tk fr rw oo op sl (nC nd x.toNatClampNeg) (qN (lp x.toNatClampNeg)) x
    · simp only [Bool.false_eq_true, if_false]; exact hI
    · simp only [if_true]
      refine itI_set hI (fun v hv hnd => ⟨fun _ => ?_, fun hz' => absurd hz hz'⟩)
      have e : nC nd x.toNatClampNeg = v := by unfold nC; rw [hnd]; exact nI_clamp (by omega)
      rw [← e]; exact n3 hb
theorem E_next1 (h : Inv N c tn fr tt sa tk op sl nd oi lp il oo ox rw rx) (hz : ¬ oi x.toNatClampNeg = 0) :
    (itB op x = true → sl x.toNatClampNeg = 0 → nd x.toNatClampNeg = nI (nC nd x.toNatClampNeg) ∧ nC nd x.toNatClampNeg < N ∧ lp x.toNatClampNeg + 1 = nI (qN (lp x.toNatClampNeg)) ∧ qN (lp x.toNatClampNeg) ≤ plN c ox (nC nd x.toNatClampNeg) ∧ ox (nC nd x.toNatClampNeg) ≤ ox (nC nd x.toNatClampNeg + 1) ∧ ox (nC nd x.toNatClampNeg + 1) ≤ 160) ∧
    ncR c sa tk tt rx ox op sl (nC nd x.toNatClampNeg) (qN (lp x.toNatClampNeg)) x = nxR c fr tt sa tk op sl nd oi il x ∧
    ncF (ncB c sa tk tt rx ox op sl (nC nd x.toNatClampNeg) (qN (lp x.toNatClampNeg)) x) tl x (tl x.toNatClampNeg + 1) = nxT c fr tt sa tk op sl nd oi il tl x ∧
    Inv N c tn fr tt sa tk op sl nd oi (ncF (ncB c sa tk tt rx ox op sl (nC nd x.toNatClampNeg) (qN (lp x.toNatClampNeg)) x) lp x (lpR c sa tk tt rx ox (nC nd x.toNatClampNeg) (qN (lp x.toNatClampNeg)))) (nxF c fr tt sa tk op sl nd oi il x) oo ox rw rx := by
  obtain ⟨hN, hc, htn, hfr, htt, hsa, hlt, htk, hR, hR2, hI⟩ := h
  have hit : itB op x = true → sl x.toNatClampNeg = 0 → nC nd x.toNatClampNeg < N ∧ nd x.toNatClampNeg = nI (nC nd x.toNatClampNeg) ∧ itR c sa tt fr ox (nC nd x.toNatClampNeg) (lp x.toNatClampNeg) (il x.toNatClampNeg) := fun h1 h2 => by
    obtain ⟨v, v1, v2, _, v3⟩ := hI _ (itB_8 h1).1 (itB_8 h1).2 h2
    have e : nC nd x.toNatClampNeg = v := by unfold nC; rw [v2]; exact nI_clamp (by omega)
    rw [e]; exact ⟨v1, v2, v3 hz⟩
  obtain ⟨n1, n2, n3⟩ := N_one (tk := tk) hR2 hc hN.2 htt hfr hsa hit
  have eA : nxA c fr tt sa tk nd oi il x = nxV tt fr sa tk (nd x.toNatClampNeg) 0 (il x.toNatClampNeg) c := by unfold nxA; rw [nxV_sw hz]
  refine ⟨N_hyp hR2 hc hit, ?_, ?_, ?_⟩
  · rw [n1]; unfold nxR; rw [eA]
  · unfold ncF nxT; rw [n2, eA]
  · refine ⟨hN, hc, htn, hfr, htt, hsa, hlt, htk, hR, hR2, ?_⟩
    unfold nxF ncF
    rw [eA, ← n2]
    cases hb : ncB c sa tk tt rx ox op sl (nC nd x.toNatClampNeg) (qN (lp x.toNatClampNeg)) x
    · simp only [Bool.false_eq_true, if_false]; exact hI
    · simp only [if_true]
      refine itI_set hI (fun v hv hnd => ⟨fun hz' => absurd hz' hz, fun _ => ?_⟩)
      have e : nC nd x.toNatClampNeg = v := by unfold nC; rw [hnd]; exact nI_clamp (by omega)
      rw [← e]; exact n3 hb
end Steps2

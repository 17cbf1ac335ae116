/-! ===== class and model answer alike: places and ranks ===== -/
theorem cN_ss {P Q : Nat → Bool} {n x : Nat} (h : ∀ t, t < n → P t = true → Q t = true) (hx : x < n) (hQ : Q x = true) (hP : P x = false) : cN n P < cN n Q := by
  rw [cN_rm hx hQ]
  have : cN n P ≤ cN n (fun p => Q p && !(decide (p = x))) := cN_imp (fun t ht hp => by
    have hne : ¬ t = x := fun e => by rw [e, hP] at hp; cases hp
    simp [h t ht hp, hne])
  omega
def d0B (sa ow : Nat → Int32) (v j : Nat) : Bool := stB sa 1 j && decide (nC ow j = v)
def l2B (fa : Nat → Int32) (a b : Nat) : Bool := decide (nC fa b < nC fa a ∨ (nC fa b = nC fa a ∧ b < a))
def rk2 (c : Nat) (sa ow fa : Nat → Int32) (v a : Nat) : Nat := cN c (fun b => d0B sa ow v b && l2B fa a b)
theorem rnk_split {c : Nat} {sa ow fa rw : Nat → Int32} {oo : Nat → Nat} {v a : Nat} (hR : rowsOK c sa ow fa oo rw) (hv : nC ow a = v) : rnk c sa ow fa a = oo v + rk2 c sa ow fa v a := by
  rw [hR.1 v]
  unfold rnk rk2
  symm
  refine cN_add c (fun b _ => ?_)
  simp only [boB, d0B, l2B, lxB, hv]
  by_cases hs : stB sa 1 b = true
  case neg => simp [hs]
  · simp only [hs, Bool.true_and, Bool.and_eq_true, decide_eq_true_eq]
    by_cases g1 : nC ow b < v
    · simp [g1, show ¬ nC ow b = v by omega]
    · by_cases g2 : nC ow b = v
      · simp [g2]
      · simp [g1, g2]
theorem oo_L {c : Nat} {sa ow fa rw : Nat → Int32} {oo : Nat → Nat} (hR : rowsOK c sa ow fa oo rw) (v : Nat) : oo v + cN c (d0B sa ow v) = oo (v + 1) := by
  rw [hR.1 v, hR.1 (v + 1)]
  refine cN_add c (fun b _ => ?_)
  simp only [boB, d0B]
  by_cases hs : stB sa 1 b = true
  case neg => simp [hs]
  · simp only [hs, Bool.true_and, decide_eq_true_eq]
    by_cases g1 : nC ow b < v
    · simp [g1, show ¬ nC ow b = v by omega, show nC ow b < v + 1 by omega]
    · by_cases g2 : nC ow b = v
      · simp [g2]
      · simp [g1, g2, show ¬ nC ow b < v + 1 by omega]
theorem oo_ok {c : Nat} {sa ow fa rw : Nat → Int32} {oo : Nat → Nat} (hR : rowsOK c sa ow fa oo rw) (hc : c ≤ 160) (v : Nat) : oo v ≤ oo (v + 1) ∧ oo (v + 1) ≤ 160 := by
  have h1 := oo_L hR v
  have h2 : oo (v + 1) ≤ c := by rw [hR.1 (v + 1)]; exact cN_le c _
  omega
theorem rk2_lt {c : Nat} {sa ow fa : Nat → Int32} {v a : Nat} (ha : a < c) (hd : d0B sa ow v a = true) : rk2 c sa ow fa v a < cN c (d0B sa ow v) :=
  cN_ss (fun t _ h => by simp only [Bool.and_eq_true] at h; exact h.1) ha hd (by simp [l2B])
theorem rk2_lex {c : Nat} {sa ow fa : Nat → Int32} {v a b : Nat} (ha : a < c) (hd : d0B sa ow v a = true) (h : l2B fa b a = true) : rk2 c sa ow fa v a < rk2 c sa ow fa v b :=
  cN_ss (fun t _ ht => by
    simp only [Bool.and_eq_true] at ht ⊢
    refine ⟨ht.1, ?_⟩
    have h2 := ht.2
    simp only [l2B, decide_eq_true_eq] at h h2 ⊢
    omega) ha (by simp [hd, h]) (by simp [l2B])
theorem l2_tot {fa : Nat → Int32} {a b : Nat} (h : a ≠ b) : l2B fa b a = true ∨ l2B fa a b = true := by
  simp only [l2B, decide_eq_true_eq]; omega
/-- an arc's place at its node -/
def plA (c : Nat) (sa ow fa : Nat → Int32) (oo : Nat → Nat) (v a : Nat) : Nat := if sa a = 1 then rk2 c sa ow fa v a else (oo (v + 1) - oo v) + a
/-- a is an arc of v that is built or waits -/
def atN (c : Nat) (sa ow : Nat → Int32) (v a : Nat) : Prop := a < c ∧ nC ow a = v ∧ (sa a = 1 ∨ sa a = 0)
section Places
variable {c N : Nat} {sa tk ow fa rw : Nat → Int32} {oo : Nat → Nat} {v : Nat}
theorem at_d0 {a : Nat} (h : atN c sa ow v a) (h1 : sa a = 1) : d0B sa ow v a = true := by simp [d0B, stB, h1, h.2.1]
theorem pl_lt (hR : rowsOK c sa ow fa oo rw) {a : Nat} (h : atN c sa ow v a) : plA c sa ow fa oo v a < plN c oo v := by
  have hL := oo_L hR v
  unfold plA plN
  split
  · rename_i h1
    have := rk2_lt (fa := fa) h.1 (at_d0 h h1)
    omega
  · have := h.1; omega
theorem pl_at (hR : rowsOK c sa ow fa oo rw) (hc : c ≤ 160) (hN : N ≤ 24) (hv : v < N) (how : ∀ j, j < c → vp_in (ow j) N) {a : Nat} (h : atN c sa ow v a) : atV c sa ow rw oo v (plA c sa ow fa oo v a) = nI a := by
  have hL := oo_L hR v
  unfold plA
  by_cases h1 : sa a = 1
  · have hl := rk2_lt (fa := fa) h.1 (at_d0 h h1)
    rw [if_pos h1, atV, if_pos (by omega), ← rnk_split hR h.2.1]
    exact hR.2 a h.1 (by simp [stB, h1])
  · have h0 : sa a = 0 := h.2.2.resolve_left h1
    rw [if_neg h1, atV, if_neg (by omega), show oo (v + 1) - oo v + a - (oo (v + 1) - oo v) = a by omega]
    have hw : isWt c sa (nI a) = true := by
      rw [isWt, hasB_nI (by omega) (by have := h.1; omega), nI_clamp (by have := h.1; omega)]
      simp [h.1, h0]
    have ho : ow a = nI v := by rw [(in_nC (how a h.1) (by omega)).1, h.2.1]
    simp [hw, ho]
theorem pl_iff (hR : rowsOK c sa ow fa oo rw) (hN : N ≤ 24) (hfa : ∀ j, j < c → vp_in (fa j) N) {a b : Nat} (ha : atN c sa ow v a) (hb : atN c sa ow v b) : (plA c sa ow fa oo v a < plA c sa ow fa oo v b ↔ ahB ow fa sa 0 a b = true) := by
  have hL := oo_L hR v
  have fA := in_nC (hfa a ha.1) (show N < 2 ^ 31 by omega)
  have fB := in_nC (hfa b hb.1) (show N < 2 ^ 31 by omega)
  unfold plA ahB
  by_cases ea : sa a = 1
  · by_cases eb : sa b = 1
    · have e : sa a = sa b := by rw [ea, eb]
      rw [if_pos ea, if_pos eb, if_pos e]
      have hl : l2B fa b a = true ↔ (if sa a = 1 ∧ ¬ othI ow fa 0 a = othI ow fa 0 b then !(decide (othI ow fa 0 b ≤ othI ow fa 0 a)) else !(decide (b ≤ a))) = true := by
        have o1 : othI ow fa 0 a = nI (nC fa a) := by simp only [othI, if_true]; exact fA.1
        have o2 : othI ow fa 0 b = nI (nC fa b) := by simp only [othI, if_true]; exact fB.1
        have o3 := nI_eq (a := nC fa a) (b := nC fa b) (by omega) (by omega)
        have o4 := nI_leI (a := nC fa b) (b := nC fa a) (by omega) (by omega)
        rw [o1, o2]
        by_cases q : nC fa a = nC fa b
        · rw [if_neg (by rw [o3]; exact fun h => h.2 q)]
          simp only [l2B, decide_eq_true_eq, Bool.not_eq_true', decide_eq_false_iff_not]; omega
        · rw [if_pos ⟨ea, by rw [o3]; exact q⟩]
          simp only [l2B, decide_eq_true_eq, Bool.not_eq_true', decide_eq_false_iff_not, o4]; omega
      rw [← hl]
      constructor
      · intro h
        by_cases hab : a = b
        · subst hab; omega
        · rcases l2_tot (fa := fa) hab with g | g
          · exact g
          · have := rk2_lex (fa := fa) hb.1 (at_d0 hb eb) g; omega
      · exact rk2_lex ha.1 (at_d0 ha ea)
    · have e0 : sa b = 0 := hb.2.2.resolve_left eb
      have hl := rk2_lt (fa := fa) ha.1 (at_d0 ha ea)
      rw [if_pos ea, if_neg eb, if_neg (by rw [ea]; exact fun h => eb h.symm)]
      simp only [ea]
      constructor
      · intro _; decide
      · intro _; omega
  · have e0 : sa a = 0 := ha.2.2.resolve_left ea
    by_cases eb : sa b = 1
    · have hl := rk2_lt (fa := fa) hb.1 (at_d0 hb eb)
      rw [if_neg ea, if_pos eb, if_neg (by rw [eb]; exact ea)]
      simp only [e0]
      constructor
      · intro h; omega
      · intro h; exact absurd h (by decide)
    · have e1 : sa b = 0 := hb.2.2.resolve_left eb
      rw [if_neg ea, if_neg eb, if_pos (by rw [e0, e1]), if_neg (by rw [e0]; exact fun h => absurd h.1 (by decide))]
      simp only [Bool.not_eq_true', decide_eq_false_iff_not]
      omega
theorem pl_inj (hR : rowsOK c sa ow fa oo rw) {a b : Nat} (ha : atN c sa ow v a) (hb : atN c sa ow v b) (h : plA c sa ow fa oo v a = plA c sa ow fa oo v b) : a = b := by
  have hL := oo_L hR v
  unfold plA at h
  by_cases ea : sa a = 1
  · have la := rk2_lt (fa := fa) ha.1 (at_d0 ha ea)
    by_cases eb : sa b = 1
    · rw [if_pos ea, if_pos eb] at h
      by_cases hab : a = b
      · exact hab
      · rcases l2_tot (fa := fa) hab with g | g
        · have := rk2_lex ha.1 (at_d0 ha ea) g; omega
        · have := rk2_lex hb.1 (at_d0 hb eb) g; omega
    · rw [if_pos ea, if_neg eb] at h; omega
  · by_cases eb : sa b = 1
    · have lb := rk2_lt (fa := fa) hb.1 (at_d0 hb eb)
      rw [if_neg ea, if_pos eb] at h; omega
    · rw [if_neg ea, if_neg eb] at h; omega
theorem pl_onto (hR : rowsOK c sa ow fa oo rw) {p : Nat} (hp : p < oo (v + 1) - oo v) : ∃ a, a < c ∧ d0B sa ow v a = true ∧ rk2 c sa ow fa v a = p := by
  have hL := oo_L hR v
  have := cN_dom (R := rk2 c sa ow fa v) (n := c) (m := cN c (d0B sa ow v)) (D := d0B sa ow v) (F := fun q => decide (q = p)) (fun i hi hd => rk2_lt hi hd) (fun i j hi hj hd hd' e => by
    by_cases hab : i = j
    · exact hab
    · rcases l2_tot (fa := fa) hab with g | g
      · have := rk2_lex hi hd g; omega
      · have := rk2_lex hj hd' g; omega) rfl
  rw [cN_one (by omega)] at this
  obtain ⟨a, h1, h2⟩ := cN_pos (n := c) (F := fun i => d0B sa ow v i && decide (rk2 c sa ow fa v i = p)) (by omega)
  simp only [Bool.and_eq_true, decide_eq_true_eq] at h2
  exact ⟨a, h1, h2.1, h2.2⟩
theorem d0_at {a : Nat} (ha : a < c) (h : d0B sa ow v a = true) : atN c sa ow v a ∧ sa a = 1 := by
  simp only [d0B, stB, Bool.and_eq_true, decide_eq_true_eq] at h
  exact ⟨⟨ha, h.2, Or.inl h.1⟩, h.1⟩
/-- a place at which something live stands is an arc's own -/
theorem pl_of (hR : rowsOK c sa ow fa oo rw) (hc : c ≤ 160) (hN : N ≤ 24) (hv : v < N) (how : ∀ j, j < c → vp_in (ow j) N) {p : Nat} (hp : p < plN c oo v) (h : atL c sa tk ow rw oo v p = true) : ∃ a, atN c sa ow v a ∧ lvB sa tk a = true ∧ plA c sa ow fa oo v a = p ∧ atV c sa ow rw oo v p = nI a := by
  have hL := oo_L hR v
  by_cases h1 : p < oo (v + 1) - oo v
  · obtain ⟨a, a1, a2, a3⟩ := pl_onto (fa := fa) hR h1
    obtain ⟨a4, a5⟩ := d0_at a1 a2
    have e : plA c sa ow fa oo v a = p := by rw [plA, if_pos a5, a3]
    have e2 := pl_at hR hc hN hv how a4
    rw [e] at e2
    refine ⟨a, a4, ?_, e, e2⟩
    unfold atL at h
    rw [e2, isLv_nI a1 (by omega)] at h
    exact h
  · unfold atL at h
    rw [atV, if_neg h1] at h
    by_cases h2 : (isWt c sa (nI (p - (oo (v + 1) - oo v))) && decide (ow (p - (oo (v + 1) - oo v)) = nI v)) = true
    · rw [if_pos h2] at h
      simp only [Bool.and_eq_true, decide_eq_true_eq] at h2
      unfold plN at hp
      have ha : p - (oo (v + 1) - oo v) < c := by omega
      have hw := h2.1
      rw [isWt, nI_clamp (by omega)] at hw
      simp only [Bool.and_eq_true, decide_eq_true_eq] at hw
      have hat : atN c sa ow v (p - (oo (v + 1) - oo v)) := ⟨ha, by unfold nC; rw [h2.2]; exact nI_clamp (by omega), Or.inr hw.2⟩
      rw [isLv_nI ha (by omega)] at h
      have e : plA c sa ow fa oo v (p - (oo (v + 1) - oo v)) = p := by
        rw [plA, if_neg (by rw [hw.2]; decide)]; omega
      have e2 := pl_at (fa := fa) hR hc hN hv how hat
      rw [e] at e2
      exact ⟨_, hat, h, e, e2⟩
    · rw [if_neg h2, isLv, hasB_m1] at h
      cases h
theorem of_iff (hN : N ≤ 24) (hv : v < N) (how : ∀ j, j < c → vp_in (ow j) N) (hsa : ∀ j, j < c → sa j = 0 ∨ sa j = 1 ∨ sa j = 2) {a : Nat} (ha : a < c) : ofB ow fa sa tk (nI v) 0 1 a = true ↔ (atN c sa ow v a ∧ lvB sa tk a = true) := by
  have f := in_nC (how a ha) (show N < 2 ^ 31 by omega)
  have e := nI_eq (a := nC ow a) (b := v) (by omega) (by omega)
  unfold ofB ownI
  rw [if_pos rfl, if_neg (by decide), f.1, Bool.and_eq_true, decide_eq_true_eq, e]
  constructor
  · intro h
    refine ⟨⟨ha, h.1, ?_⟩, h.2⟩
    have h2 := h.2
    simp only [lvB, Bool.and_eq_true, Bool.not_eq_true', decide_eq_false_iff_not] at h2
    rcases hsa a ha with g | g | g
    · exact Or.inr g
    · exact Or.inl g
    · exact absurd g h2.1
  · intro h; exact ⟨h.1.2.1, h.2⟩
theorem at_live (hR : rowsOK c sa ow fa oo rw) (hc : c ≤ 160) (hN : N ≤ 24) (hv : v < N) (how : ∀ j, j < c → vp_in (ow j) N) {a : Nat} (h : atN c sa ow v a) : atL c sa tk ow rw oo v (plA c sa ow fa oo v a) = lvB sa tk a := by
  unfold atL
  rw [pl_at hR hc hN hv how h, isLv_nI h.1 (by omega)]
/-- how many live ones stand ahead of a place: as many as go ahead of its arc -/
theorem cnt_at (hR : rowsOK c sa ow fa oo rw) (hc : c ≤ 160) (hN : N ≤ 24) (hv : v < N) (how : ∀ j, j < c → vp_in (ow j) N) (hsa : ∀ j, j < c → sa j = 0 ∨ sa j = 1 ∨ sa j = 2) {m : Nat} (hm : m ≤ plN c oo v) {D : Nat → Bool} (hD : ∀ b, b < c → (D b = true ↔ (atN c sa ow v b ∧ lvB sa tk b = true ∧ plA c sa ow fa oo v b < m))) : cN m (atL c sa tk ow rw oo v) = cN c D := by
  refine Nat.le_antisymm ?_ ?_
  · refine cN_inj (R := fun p => (atV c sa ow rw oo v p).toNatClampNeg) m c _ _ (fun p hp h => ?_) (fun p q hp hq h1 h2 e => ?_)
    · obtain ⟨a, a1, a2, a3, a4⟩ := pl_of (fa := fa) hR hc hN hv how (by omega) h
      have e : (atV c sa ow rw oo v p).toNatClampNeg = a := by rw [a4]; exact nI_clamp (by have := a1.1; omega)
      simp only [e]
      exact ⟨a1.1, (hD a a1.1).mpr ⟨a1, a2, by omega⟩⟩
    · obtain ⟨a, a1, a2, a3, a4⟩ := pl_of (fa := fa) hR hc hN hv how (show p < plN c oo v by omega) h1
      obtain ⟨b, b1, b2, b3, b4⟩ := pl_of (fa := fa) hR hc hN hv how (show q < plN c oo v by omega) h2
      have e1 : (atV c sa ow rw oo v p).toNatClampNeg = a := by rw [a4]; exact nI_clamp (by have := a1.1; omega)
      have e2 : (atV c sa ow rw oo v q).toNatClampNeg = b := by rw [b4]; exact nI_clamp (by have := b1.1; omega)
      have : a = b := by rw [← e1, ← e2]; exact e
      subst this
      omega
  · refine cN_inj (R := plA c sa ow fa oo v) c m _ _ (fun b hb h => ?_) (fun a b ha hb h1 h2 e => ?_)
    · obtain ⟨h1, h2, h3⟩ := (hD b hb).mp h
      exact ⟨h3, by rw [at_live hR hc hN hv how h1]; exact h2⟩
    · exact pl_inj hR ((hD a ha).mp h1).1 ((hD b hb).mp h2).1 e
theorem T_deg (hR : rowsOK c sa ow fa oo rw) (hc : c ≤ 160) (hN : N ≤ 24) (hv : v < N) (how : ∀ j, j < c → vp_in (ow j) N) (hsa : ∀ j, j < c → sa j = 0 ∨ sa j = 1 ∨ sa j = 2) : cN (plN c oo v) (atL c sa tk ow rw oo v) = cN c (ofB ow fa sa tk (nI v) 0 1) :=
  cnt_at (fa := fa) hR hc hN hv how hsa (Nat.le_refl _) (fun b hb => by
    rw [of_iff hN hv how hsa hb]
    exact ⟨fun h => ⟨h.1, h.2, pl_lt hR h.1⟩, fun h => ⟨h.1, h.2.1⟩⟩)
theorem cnt_pl (hR : rowsOK c sa ow fa oo rw) (hc : c ≤ 160) (hN : N ≤ 24) (hv : v < N) (how : ∀ j, j < c → vp_in (ow j) N) (hfa : ∀ j, j < c → vp_in (fa j) N) (hsa : ∀ j, j < c → sa j = 0 ∨ sa j = 1 ∨ sa j = 2) {a : Nat} (ha : atN c sa ow v a) : cN (plA c sa ow fa oo v a) (atL c sa tk ow rw oo v) = cN c (anB ow fa sa tk (nI v) 0 1 a) :=
  cnt_at (fa := fa) hR hc hN hv how hsa (Nat.le_of_lt (pl_lt hR ha)) (fun b hb => by
    unfold anB
    rw [Bool.and_eq_true, of_iff hN hv how hsa hb]
    constructor
    · intro h; exact ⟨h.1.1, h.1.2, (pl_iff hR hN hfa h.1.1 ha).mpr h.2⟩
    · intro h; exact ⟨⟨h.1, h.2.1⟩, (pl_iff hR hN hfa h.1 ha).mp h.2.2⟩)
theorem fsv_one {Q : Nat → Bool} {V : Nat → Int32} {n p : Nat} (hp : p < n) (hq : Q p = true) (hu : ∀ t, t < n → Q t = true → t = p) : fsv Q V n 0 = V p := by
  rcases fsv_or Q V n 0 with ⟨_, h2⟩ | ⟨j, _, h2, h3, h4, _⟩
  · have := h2 p (by omega) (by omega); rw [hq] at this; cases this
  · rw [h4, hu j (by omega) h3]
theorem fsv_nil {Q : Nat → Bool} {V : Nat → Int32} {n : Nat} (hu : ∀ t, t < n → Q t = false) : fsv Q V n 0 = -1 := by
  rcases fsv_or Q V n 0 with ⟨h1, _⟩ | ⟨j, _, h2, h3, _, _⟩
  · exact h1
  · rw [hu j (by omega)] at h3; cases h3
theorem T_live (hR : rowsOK c sa ow fa oo rw) (hc : c ≤ 160) (hN : N ≤ 24) (hv : v < N) (how : ∀ j, j < c → vp_in (ow j) N) (hfa : ∀ j, j < c → vp_in (fa j) N) (hsa : ∀ j, j < c → sa j = 0 ∨ sa j = 1 ∨ sa j = 2) {k : Nat} (hk : k < 2 ^ 31) : laR c sa tk ow rw oo v k = plR c ow fa sa tk (nI v) 0 1 (nI k) := by
  have cnk : ∀ a, cN c (anB ow fa sa tk (nI v) 0 1 a) < 2 ^ 31 := fun a => by have := cN_le c (anB ow fa sa tk (nI v) 0 1 a); omega
  -- the model's test, in words of places
  have mt : ∀ a, a < c → (plB c ow fa sa tk (nI v) 0 1 (nI k) a = true ↔ (atN c sa ow v a ∧ lvB sa tk a = true ∧ cN (plA c sa ow fa oo v a) (atL c sa tk ow rw oo v) = k)) := by
    intro a ha
    unfold plB
    rw [Bool.and_eq_true, of_iff hN hv how hsa ha, decide_eq_true_eq, nI_eq (cnk a) hk]
    constructor
    · intro h; exact ⟨h.1.1, h.1.2, by rw [cnt_pl hR hc hN hv how hfa hsa h.1.1]; exact h.2⟩
    · intro h; exact ⟨⟨h.1, h.2.1⟩, by rw [← cnt_pl (rw := rw) hR hc hN hv how hfa hsa h.1]; exact h.2.2⟩
  have uq : ∀ p q, atL c sa tk ow rw oo v p = true → atL c sa tk ow rw oo v q = true → cN p (atL c sa tk ow rw oo v) = cN q (atL c sa tk ow rw oo v) → p = q := by
    intro p q h1 h2 e
    rcases Nat.lt_trichotomy p q with h | h | h
    · have := cN_strict h h1; omega
    · exact h
    · have := cN_strict h h2; omega
  unfold laR plR
  by_cases hex : ∃ a, a < c ∧ plB c ow fa sa tk (nI v) 0 1 (nI k) a = true
  · obtain ⟨a, ha, hb⟩ := hex
    obtain ⟨h1, h2, h3⟩ := (mt a ha).mp hb
    have hl : atL c sa tk ow rw oo v (plA c sa ow fa oo v a) = true := by rw [at_live hR hc hN hv how h1]; exact h2
    rw [fsv_one (p := plA c sa ow fa oo v a) (pl_lt hR h1) (by simp [laB, hl, h3]) (fun t ht hq => by
      simp only [laB, Bool.and_eq_true, decide_eq_true_eq] at hq
      exact uq _ _ hq.1 hl (by rw [hq.2, h3])), pl_at hR hc hN hv how h1]
    rw [fsv_one (p := a) ha hb (fun t ht hq => by
      obtain ⟨g1, g2, g3⟩ := (mt t ht).mp hq
      have gl : atL c sa tk ow rw oo v (plA c sa ow fa oo v t) = true := by rw [at_live hR hc hN hv how g1]; exact g2
      exact pl_inj hR g1 h1 (uq _ _ gl hl (by rw [g3, h3])))]
  · rw [fsv_nil (fun p hp => ?_), fsv_nil (fun a ha => ?_)]
    · cases hb : plB c ow fa sa tk (nI v) 0 1 (nI k) a
      · rfl
      · exact absurd ⟨a, ha, hb⟩ hex
    · cases hb : laB c sa tk ow rw oo v k p
      · rfl
      · exfalso
        simp only [laB, Bool.and_eq_true, decide_eq_true_eq] at hb
        obtain ⟨a, a1, a2, a3, a4⟩ := pl_of (fa := fa) hR hc hN hv how hp hb.1
        exact hex ⟨a, a1.1, (mt a a1.1).mpr ⟨a1, a2, by rw [a3]; exact hb.2⟩⟩
/-- the row itself: place k of the row, and the model's search -/
theorem an0 (hR : rowsOK c sa ow fa oo rw) (hN : N ≤ 24) (hv : v < N) (how : ∀ j, j < c → vp_in (ow j) N) (hfa : ∀ j, j < c → vp_in (fa j) N) {a : Nat} (ha : atN c sa ow v a) (h1 : sa a = 1) : cN c (anB ow fa sa tk (nI v) 0 0 a) = rk2 c sa ow fa v a := by
  refine cN_congr (fun b hb => ?_)
  have fO := in_nC (how b hb) (show N < 2 ^ 31 by omega)
  have e := nI_eq (a := nC ow b) (b := v) (by omega) (by omega)
  have eo : ofB ow fa sa tk (nI v) 0 0 b = d0B sa ow v b := by
    unfold ofB ownI d0B stB
    rw [if_pos rfl, if_pos rfl, Bool.and_comm]
    congr 1
    refine decide_eq_decide.mpr ?_
    rw [fO.1, e]
  unfold anB
  rw [eo]
  cases hd : d0B sa ow v b
  · rfl
  · simp only [Bool.true_and]
    obtain ⟨b1, b2⟩ := d0_at hb hd
    have := pl_iff (rw := rw) (oo := oo) hR hN hfa b1 ha
    unfold plA at this
    rw [if_pos b2, if_pos h1] at this
    -- order of ranks is the order of the keys
    have hl : rk2 c sa ow fa v b < rk2 c sa ow fa v a ↔ l2B fa a b = true := by
      constructor
      · intro h
        by_cases hab : b = a
        · subst hab; omega
        · rcases l2_tot (fa := fa) hab with g | g
          · exact g
          · have := rk2_lex (fa := fa) ha.1 (at_d0 ha h1) g; omega
      · exact rk2_lex hb hd
    have h2 : ahB ow fa sa 0 b a = true ↔ l2B fa a b = true := this.symm.trans hl
    cases h3 : ahB ow fa sa 0 b a <;> cases h4 : l2B fa a b <;> simp_all
theorem T_row (hR : rowsOK c sa ow fa oo rw) (hc : c ≤ 160) (hN : N ≤ 24) (hv : v < N) (how : ∀ j, j < c → vp_in (ow j) N) (hfa : ∀ j, j < c → vp_in (fa j) N) {k : Nat} (hk : k < 2 ^ 31) : plR c ow fa sa tk (nI v) 0 0 (nI k) = (if k < oo (v + 1) - oo v then atV c sa ow rw oo v k else -1) := by
  have hL := oo_L hR v
  have mt : ∀ a, a < c → (plB c ow fa sa tk (nI v) 0 0 (nI k) a = true ↔ (d0B sa ow v a = true ∧ rk2 c sa ow fa v a = k)) := by
    intro a ha
    have fO := in_nC (how a ha) (show N < 2 ^ 31 by omega)
    have e := nI_eq (a := nC ow a) (b := v) (by omega) (by omega)
    have eo : ofB ow fa sa tk (nI v) 0 0 a = d0B sa ow v a := by
      unfold ofB ownI d0B stB
      rw [if_pos rfl, if_pos rfl, Bool.and_comm]
      congr 1
      refine decide_eq_decide.mpr ?_
      rw [fO.1, e]
    have cnk : cN c (anB ow fa sa tk (nI v) 0 0 a) < 2 ^ 31 := by have := cN_le c (anB ow fa sa tk (nI v) 0 0 a); omega
    unfold plB
    rw [Bool.and_eq_true, eo, decide_eq_true_eq, nI_eq cnk hk]
    constructor
    · intro h
      obtain ⟨b1, b2⟩ := d0_at ha h.1
      exact ⟨h.1, by rw [← an0 (tk := tk) hR hN hv how hfa b1 b2]; exact h.2⟩
    · intro h
      obtain ⟨b1, b2⟩ := d0_at ha h.1
      exact ⟨h.1, by rw [an0 hR hN hv how hfa b1 b2]; exact h.2⟩
  unfold plR
  by_cases h : k < oo (v + 1) - oo v
  · rw [if_pos h]
    obtain ⟨a, a1, a2, a3⟩ := pl_onto (fa := fa) hR h
    obtain ⟨b1, b2⟩ := d0_at a1 a2
    have e := pl_at hR hc hN hv how b1 (fa := fa)
    rw [plA, if_pos b2, a3] at e
    rw [e]
    refine fsv_one (p := a) a1 ((mt a a1).mpr ⟨a2, a3⟩) (fun t ht hq => ?_)
    obtain ⟨q1, q2⟩ := (mt t ht).mp hq
    by_cases hab : t = a
    · exact hab
    · rcases l2_tot (fa := fa) hab with g | g
      · have := rk2_lex ht q1 g; omega
      · have := rk2_lex a1 a2 g; omega
  · rw [if_neg h]
    refine fsv_nil (fun a ha => ?_)
    cases hb : plB c ow fa sa tk (nI v) 0 0 (nI k) a
    · rfl
    · obtain ⟨q1, q2⟩ := (mt a ha).mp hb
      have := rk2_lt (fa := fa) ha q1
      omega
end Places

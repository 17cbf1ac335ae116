/-! ===== walks ===== -/
def itR (c : Nat) (sa ow fa : Nat → Int32) (oo : Nat → Nat) (v : Nat) (lp il : Int32) : Prop := (lp = -1 ∧ il = -1) ∨ ∃ a, atN c sa ow v a ∧ il = nI a ∧ lp = nI (plA c sa ow fa oo v a)
def qN (lp : Int32) : Nat := (lp + 1).toNatClampNeg
theorem m1_1 : (-1 : Int32) + 1 = nI 0 := by decide
section Walk
variable {c N : Nat} {sa tk ow fa rw : Nat → Int32} {oo : Nat → Nat} {v : Nat} {lp il : Int32}
theorem it_q (hR : rowsOK c sa ow fa oo rw) (hc : c ≤ 160) (h : itR c sa ow fa oo v lp il) : lp + 1 = nI (qN lp) ∧ qN lp ≤ plN c oo v ∧ (lp = -1 → qN lp = 0) := by
  have hb := (oo_ok hR hc v).2
  rcases h with ⟨h1, _⟩ | ⟨a, h1, _, h3⟩
  · have e : qN lp = 0 := by unfold qN; rw [h1, m1_1]; exact nI_clamp (by decide)
    rw [e, h1]
    exact ⟨m1_1, Nat.zero_le _, fun _ => rfl⟩
  · have hl := pl_lt hR h1
    have hp : plN c oo v ≤ 320 := by unfold plN; omega
    have e : qN lp = plA c sa ow fa oo v a + 1 := by unfold qN; rw [h3, nI_1]; exact nI_clamp (by omega)
    rw [e, h3, nI_1]
    exact ⟨rfl, by omega, fun h => absurd h (nI_ne_m1 (by omega))⟩
/-- what the model may tell next, in words of places -/
theorem cand_iff (hR : rowsOK c sa ow fa oo rw) (hc : c ≤ 160) (hN : N ≤ 24) (hv : v < N) (how : ∀ j, j < c → vp_in (ow j) N) (hfa : ∀ j, j < c → vp_in (fa j) N) (hsa : ∀ j, j < c → sa j = 0 ∨ sa j = 1 ∨ sa j = 2) (hI : itR c sa ow fa oo v lp il) {a : Nat} (ha : a < c) :
    ((ofB ow fa sa tk (nI v) 0 1 a && (decide (il = -1) || ahB ow fa sa 0 il.toNatClampNeg a)) = true ↔ (atN c sa ow v a ∧ lvB sa tk a = true ∧ qN lp ≤ plA c sa ow fa oo v a)) := by
  have hb := (oo_ok hR hc v).2
  rw [Bool.and_eq_true, of_iff hN hv how hsa ha, Bool.or_eq_true, decide_eq_true_eq]
  rcases hI with ⟨h1, h2⟩ | ⟨b, h1, h2, h3⟩
  · have e : qN lp = 0 := by unfold qN; rw [h1, m1_1]; exact nI_clamp (by decide)
    rw [e]
    exact ⟨fun h => ⟨h.1.1, h.1.2, Nat.zero_le _⟩, fun h => ⟨⟨h.1, h.2.1⟩, Or.inl h2⟩⟩
  · have hl := pl_lt hR h1
    have hp : plN c oo v ≤ 320 := by unfold plN; omega
    have e : qN lp = plA c sa ow fa oo v b + 1 := by unfold qN; rw [h3, nI_1]; exact nI_clamp (by omega)
    have e2 : il.toNatClampNeg = b := by rw [h2]; exact nI_clamp (by have := h1.1; omega)
    have e3 : ¬ il = -1 := by rw [h2]; exact nI_ne_m1 (by have := h1.1; omega)
    rw [e, e2]
    constructor
    · intro h
      exact ⟨h.1.1, h.1.2, (pl_iff hR hN hfa h1 h.1.1).mpr (h.2.resolve_left e3)⟩
    · intro h
      exact ⟨⟨h.1, h.2.1⟩, Or.inr ((pl_iff hR hN hfa h1 h.1).mp h.2.2)⟩
theorem nxV_min (hR : rowsOK c sa ow fa oo rw) (hc : c ≤ 160) (hN : N ≤ 24) (hv : v < N) (how : ∀ j, j < c → vp_in (ow j) N) (hfa : ∀ j, j < c → vp_in (fa j) N) (hsa : ∀ j, j < c → sa j = 0 ∨ sa j = 1 ∨ sa j = 2) (hI : itR c sa ow fa oo v lp il) : ∀ i, i ≤ c →
    (nxV ow fa sa tk (nI v) 0 il i = -1 ∧ ∀ j, j < i → ¬ (atN c sa ow v j ∧ lvB sa tk j = true ∧ qN lp ≤ plA c sa ow fa oo v j)) ∨
    ∃ b, b < i ∧ nxV ow fa sa tk (nI v) 0 il i = nI b ∧ (atN c sa ow v b ∧ lvB sa tk b = true ∧ qN lp ≤ plA c sa ow fa oo v b) ∧ ∀ j, j < i → (atN c sa ow v j ∧ lvB sa tk j = true ∧ qN lp ≤ plA c sa ow fa oo v j) → plA c sa ow fa oo v b ≤ plA c sa ow fa oo v j := by
  intro i
  induction i with
  | zero => intro _; exact Or.inl ⟨rfl, fun j h => by omega⟩
  | succ i ih =>
    intro hi
    have ic := cand_iff (tk := tk) hR hc hN hv how hfa hsa hI (show i < c by omega)
    simp only [nxV]
    rcases ih (by omega) with ⟨h1, h2⟩ | ⟨b, b1, b2, b3, b4⟩
    · by_cases hq : (ofB ow fa sa tk (nI v) 0 1 i && (decide (il = -1) || ahB ow fa sa 0 il.toNatClampNeg i)) = true
      · rw [if_pos (by unfold nxB; rw [hq, h1]; rfl)]
        refine Or.inr ⟨i, by omega, rfl, ic.mp hq, fun j hj hcj => ?_⟩
        by_cases hji : j = i
        · subst hji; exact Nat.le_refl _
        · exact absurd hcj (h2 j (by omega))
      · rw [if_neg (by unfold nxB; intro h; rw [Bool.and_eq_true] at h; exact hq h.1)]
        refine Or.inl ⟨h1, fun j hj => ?_⟩
        by_cases hji : j = i
        · subst hji; exact fun h => hq (ic.mpr h)
        · exact h2 j (by omega)
    · have eb : (nxV ow fa sa tk (nI v) 0 il i).toNatClampNeg = b := by rw [b2]; exact nI_clamp (by omega)
      have en : ¬ nxV ow fa sa tk (nI v) 0 il i = -1 := by rw [b2]; exact nI_ne_m1 (by omega)
      by_cases hq : (ofB ow fa sa tk (nI v) 0 1 i && (decide (il = -1) || ahB ow fa sa 0 il.toNatClampNeg i)) = true
      · have hci := ic.mp hq
        by_cases hah : ahB ow fa sa 0 i b = true
        · have hlt := (pl_iff hR hN hfa hci.1 b3.1).mpr hah
          rw [if_pos (by unfold nxB; rw [hq, eb, hah]; simp)]
          refine Or.inr ⟨i, by omega, rfl, hci, fun j hj hcj => ?_⟩
          by_cases hji : j = i
          · subst hji; exact Nat.le_refl _
          · have := b4 j (by omega) hcj; omega
        · have hge : ¬ plA c sa ow fa oo v i < plA c sa ow fa oo v b := fun h => hah ((pl_iff hR hN hfa hci.1 b3.1).mp h)
          rw [if_neg (by unfold nxB; rw [eb]; simp [en, hah])]
          refine Or.inr ⟨b, by omega, b2, b3, fun j hj hcj => ?_⟩
          by_cases hji : j = i
          · subst hji; omega
          · exact b4 j (by omega) hcj
      · rw [if_neg (by unfold nxB; intro h; rw [Bool.and_eq_true] at h; exact hq h.1)]
        refine Or.inr ⟨b, by omega, b2, b3, fun j hj hcj => ?_⟩
        by_cases hji : j = i
        · subst hji; exact absurd (ic.mpr hcj) hq
        · exact b4 j (by omega) hcj
theorem T_next (hR : rowsOK c sa ow fa oo rw) (hc : c ≤ 160) (hN : N ≤ 24) (hv : v < N) (how : ∀ j, j < c → vp_in (ow j) N) (hfa : ∀ j, j < c → vp_in (fa j) N) (hsa : ∀ j, j < c → sa j = 0 ∨ sa j = 1 ∨ sa j = 2) (hI : itR c sa ow fa oo v lp il) :
    (lpR c sa tk ow rw oo v (qN lp) = -1 ∧ nxV ow fa sa tk (nI v) 0 il c = -1) ∨
    ∃ a, atN c sa ow v a ∧ lpR c sa tk ow rw oo v (qN lp) = nI (plA c sa ow fa oo v a) ∧ nxV ow fa sa tk (nI v) 0 il c = nI a ∧ atV c sa ow rw oo v (plA c sa ow fa oo v a) = nI a := by
  obtain ⟨-, hq, -⟩ := it_q hR hc hI
  have hb := (oo_ok hR hc v).2
  rcases fsv_or (atL c sa tk ow rw oo v) nI (plN c oo v - qN lp) (qN lp) with ⟨h1, h2⟩ | ⟨p, p1, p2, p3, p4, p5⟩
  · refine Or.inl ⟨h1, ?_⟩
    rcases nxV_min (tk := tk) hR hc hN hv how hfa hsa hI c (Nat.le_refl c) with ⟨g1, _⟩ | ⟨b, b1, b2, b3, b4⟩
    · exact g1
    · have hl := pl_lt hR b3.1
      have := h2 _ b3.2.2 (by omega)
      rw [at_live hR hc hN hv how b3.1, b3.2.1] at this
      cases this
  · obtain ⟨a, a1, a2, a3, a4⟩ := pl_of (fa := fa) hR hc hN hv how (show p < plN c oo v by omega) p3
    refine Or.inr ⟨a, a1, by rw [a3]; exact p4, ?_, by rw [a3]; exact a4⟩
    rcases nxV_min (tk := tk) hR hc hN hv how hfa hsa hI c (Nat.le_refl c) with ⟨_, g2⟩ | ⟨b, b1, b2, b3, b4⟩
    · exact absurd ⟨a1, a2, by omega⟩ (g2 a a1.1)
    · have h1 := b4 a a1.1 ⟨a1, a2, by omega⟩
      have h2 : ¬ plA c sa ow fa oo v b < p := fun h => by
        have := p5 _ b3.2.2 h
        rw [at_live hR hc hN hv how b3.1, b3.2.1] at this
        cases this
      have : b = a := pl_inj hR b3.1 a1 (by omega)
      rw [b2, this]
end Walk
/-! ===== an arc more ===== -/
theorem upd_lt {f : Nat → Int32} {c j : Nat} {x : Int32} (h : j < c) : upd f c x j = f j := by simp [upd, show ¬ j = c by omega]
theorem nC_lt {f : Nat → Int32} {c j : Nat} {x : Int32} (h : j < c) : nC (upd f c x) j = nC f j := by unfold nC; rw [upd_lt h]
theorem st_lt {sa : Nat → Int32} {c j : Nat} {x : Int32} (h : j < c) : stB (upd sa c x) 1 j = stB sa 1 j := by unfold stB; rw [upd_lt h]
theorem st_at {sa : Nat → Int32} {c : Nat} : stB (upd sa c 0) 1 c = false := by simp [stB, upd]
theorem cN_more {c : Nat} {P Q : Nat → Bool} (h : ∀ t, t < c → P t = Q t) (hc : P c = false) : cN (c + 1) P = cN c Q := by
  simp only [cN, hc]; rw [cN_congr h]; simp
theorem rows_more {c : Nat} {sa ow fa rw : Nat → Int32} {oo : Nat → Nat} {x y : Int32} (hR : rowsOK c sa ow fa oo rw) : rowsOK (c + 1) (upd sa c 0) (upd ow c x) (upd fa c y) oo rw := by
  refine ⟨fun v => ?_, fun j hj hb => ?_⟩
  · rw [hR.1 v]
    symm
    exact cN_more (fun t ht => by simp only [boB, st_lt ht, nC_lt ht]) (by simp [boB, st_at])
  · have hjc : j < c := by
      rcases Nat.lt_or_ge j c with h | h
      · exact h
      · rw [show j = c by omega, st_at] at hb; cases hb
    rw [st_lt hjc] at hb
    have e : rnk (c + 1) (upd sa c 0) (upd ow c x) (upd fa c y) j = rnk c sa ow fa j := cN_more (fun t ht => by simp only [lxB, st_lt ht, nC_lt ht, nC_lt hjc]) (by simp [st_at])
    rw [e]; exact hR.2 j hjc hb
theorem it_more {c : Nat} {sa ow fa : Nat → Int32} {oo : Nat → Nat} {x y lp il : Int32} {v : Nat} (h : itR c sa ow fa oo v lp il) : itR (c + 1) (upd sa c 0) (upd ow c x) (upd fa c y) oo v lp il := by
  rcases h with h | ⟨a, h1, h2, h3⟩
  · exact Or.inl h
  · refine Or.inr ⟨a, ⟨by have := h1.1; omega, by rw [nC_lt h1.1]; exact h1.2.1, by rw [upd_lt h1.1]; exact h1.2.2⟩, h2, ?_⟩
    have e : rk2 (c + 1) (upd sa c 0) (upd ow c x) (upd fa c y) v a = rk2 c sa ow fa v a := cN_more (fun t ht => by simp only [d0B, l2B, st_lt ht, nC_lt ht, nC_lt h1.1]) (by simp [d0B, st_at])
    rw [h3]
    unfold plA
    rw [upd_lt h1.1, e]
/-! ===== the invariant of the law's loop ===== -/
def itI (N c : Nat) (fr tt sa op sl nd oi lp il : Nat → Int32) (oo ox : Nat → Nat) : Prop := ∀ t, t < 8 → ¬ op t = 0 → sl t = 0 → ∃ v, v < N ∧ nd t = nI v ∧ (oi t = 0 → itR c sa fr tt oo v (lp t) (il t)) ∧ (¬ oi t = 0 → itR c sa tt fr ox v (lp t) (il t))
def Inv (N c tn : Nat) (fr tt sa tk op sl nd oi lp il : Nat → Int32) (oo ox : Nat → Nat) (rw rx : Nat → Int32) : Prop :=
  (1 ≤ N ∧ N ≤ 24) ∧ c ≤ 160 ∧ tn ≤ 160 ∧ (∀ j, j < c → vp_in (fr j) N) ∧ (∀ j, j < c → vp_in (tt j) N) ∧ (∀ j, j < c → sa j = 0 ∨ sa j = 1 ∨ sa j = 2) ∧ (∀ j, j < c → sa j = 2 → ¬ tk j = 0) ∧ (∀ j, tk j = 0 ∨ tk j = 1) ∧ rowsOK c sa fr tt oo rw ∧ rowsOK c sa tt fr ox rx ∧ itI N c fr tt sa op sl nd oi lp il oo ox
section Steps
variable {N c tn : Nat} {fr tt sa tk op sl nd oi lp il tr tl go gt : Nat → Int32} {oo ox : Nat → Nat} {rw rx : Nat → Int32}
theorem E_arc (h : Inv N c tn fr tt sa tk op sl nd oi lp il oo ox rw rx) (x y : Int32) : Inv N (arC N c x y) tn (arF N c x y fr x) (arF N c x y tt y) (arF N c x y sa 0) (arF N c x y tk 0) op sl nd oi lp il oo ox rw rx := by
  obtain ⟨hN, hc, htn, hfr, htt, hsa, hlt, htk, hR, hR2, hI⟩ := h
  unfold arC arF apC apF
  by_cases hb : arB N x y = true
  · simp only [hb, if_true]
    by_cases h1 : c < 160
    · simp only [h1, if_true]
      simp only [arB, Bool.and_eq_true] at hb
      have hlast : ∀ {P : Nat → Prop}, (∀ j, j < c → P j) → P c → ∀ j, j < c + 1 → P j := fun h1 h2 j hj => by
        by_cases hjc : j = c
        · rw [hjc]; exact h2
        · exact h1 j (by omega)
      refine ⟨hN, by omega, htn, hlast (fun j hj => by rw [upd_lt hj]; exact hfr j hj) (by simp only [upd, if_true]; exact hasB_in hb.1 (Nat.le_refl N) (by omega)), hlast (fun j hj => by rw [upd_lt hj]; exact htt j hj) (by simp only [upd, if_true]; exact hasB_in hb.2 (Nat.le_refl N) (by omega)), hlast (fun j hj => by rw [upd_lt hj]; exact hsa j hj) (by simp [upd]), hlast (fun j hj => by rw [upd_lt hj, upd_lt hj]; exact hlt j hj) (by simp [upd]), fun j => ?_, rows_more hR, rows_more hR2, fun t ht h1 h2 => ?_⟩
      · simp only [upd]; split
        · exact Or.inl rfl
        · exact htk j
      · obtain ⟨v, v1, v2, v3, v4⟩ := hI t ht h1 h2
        exact ⟨v, v1, v2, fun h => it_more (v3 h), fun h => it_more (v4 h)⟩
    · simp only [h1, if_false]
      exact ⟨hN, hc, htn, hfr, htt, hsa, hlt, htk, hR, hR2, hI⟩
  · have hb : arB N x y = false := by simpa using hb
    simp only [hb, Bool.false_eq_true, if_false]
    exact ⟨hN, hc, htn, hfr, htt, hsa, hlt, htk, hR, hR2, hI⟩
theorem E_mark (h : Inv N c tn fr tt sa tk op sl nd oi lp il oo ox rw rx) (x z : Int32) (hz : z = 0 ∨ z = 1) : mkR c sa tk x z = mtR c sa tk x z ∧ mkF c sa tk x z = mtF c sa tk x z ∧ Inv N c tn fr tt sa (mtF c sa tk x z) op sl nd oi lp il oo ox rw rx := by
  obtain ⟨hN, hc, htn, hfr, htt, hsa, hlt, htk, hR, hR2, hI⟩ := h
  refine ⟨?_, ?_, hN, hc, htn, hfr, htt, hsa, fun j hj h2 => ?_, fun j => ?_, hR, hR2, hI⟩
  · unfold mkR mtR
    rcases hz with rfl | rfl <;> rcases htk x.toNatClampNeg with h | h <;> simp [h]
  · unfold mkF mtF
    by_cases hb : hasB c x = true
    · by_cases h2 : sa x.toNatClampNeg = 2
      · simp [hb, h2]
      · by_cases h3 : tk x.toNatClampNeg = z
        · simp only [hb, h2, h3, decide_true, decide_false, Bool.not_false, Bool.not_true, Bool.and_self, Bool.and_false, Bool.false_eq_true, if_true, if_false]
          funext j; simp only [upd]; split
          · rename_i e; rw [e]; exact h3
          · rfl
        · simp [hb, h2, h3]
    · simp [hb]
  · unfold mtF
    split
    · rename_i hq
      simp only [Bool.and_eq_true, Bool.not_eq_true', decide_eq_false_iff_not] at hq
      simp only [upd]
      by_cases e : j = x.toNatClampNeg
      · rw [e] at h2; exact absurd h2 hq.2
      · rw [if_neg e]; exact hlt j hj h2
    · exact hlt j hj h2
  · unfold mtF
    split
    · simp only [upd]; split
      · exact hz
      · exact htk j
    · exact htk j
theorem mv_sv (h : Inv N c tn fr tt sa tk op sl nd oi lp il oo ox rw rx) {j : Nat} (hj : j < c) : mv tk sa j = sv tk j := by
  obtain ⟨hN, hc, htn, hfr, htt, hsa, hlt, htk, hR, hR2, hI⟩ := h
  unfold mv sv
  by_cases h2 : sa j = 2
  · rw [if_pos h2, if_neg (hlt j hj h2)]
  · rw [if_neg h2]
theorem ms_st (h : Inv N c tn fr tt sa tk op sl nd oi lp il oo ox rw rx) : msS tk sa c = stS tk sa c := by
  funext j
  unfold msS pfx stS
  split
  · rename_i hj; exact mv_sv h hj
  · rfl
theorem E_cnt (h : Inv N c tn fr tt sa tk op sl nd oi lp il oo ox rw rx) : cN c (fun a => !(decide (sa a = sv tk a))) = cN c (mvB tk sa) :=
  cN_congr (fun t ht => by unfold mvB; rw [mv_sv h ht]; congr 1; exact decide_eq_decide.mpr ⟨Eq.symm, Eq.symm⟩)
theorem it_stale {op' nd' oi' lp' il' fr' tt' sa' : Nat → Int32} {c' : Nat} {oo' ox' : Nat → Nat} : itI N c' fr' tt' sa' op' (stl sl) nd' oi' lp' il' oo' ox' := fun t ht _ h2 => by
  simp [stl, pfx, ht] at h2
theorem E_merge (h : Inv N c tn fr tt sa tk op sl nd oi lp il oo ox rw rx) {oo' ox' : Nat → Nat} {rw' rx' : Nat → Int32} (h1 : rowsOK c (stS tk sa c) fr tt oo' rw') (h2 : rowsOK c (stS tk sa c) tt fr ox' rx') : Inv N c tn fr tt (stS tk sa c) tk op (stl sl) nd oi lp il oo' ox' rw' rx' := by
  obtain ⟨hN, hc, htn, hfr, htt, hsa, hlt, htk, hR, hR2, hI⟩ := h
  refine ⟨hN, hc, htn, hfr, htt, fun j hj => ?_, fun j hj h3 => ?_, htk, h1, h2, it_stale⟩
  · simp only [stS, hj, if_true, sv]; split
    · exact Or.inr (Or.inl rfl)
    · exact Or.inr (Or.inr rfl)
  · simp only [stS, hj, if_true, sv] at h3
    by_cases h0 : tk j = 0
    · rw [if_pos h0] at h3; exact absurd h3 (by decide)
    · exact h0
theorem pk_one (P : Nat → Bool) (v w f : Nat → Int32) : ∀ i : Nat, (∀ j, j < i → P j = true → v j = w j) → pkG P v f i = pkG P w f i := by
  intro i
  induction i with
  | zero => intro _; rfl
  | succ i ih =>
    intro h
    simp only [pkG]
    rw [ih (fun j hj => h j (by omega))]
    by_cases hp : P i = true
    · rw [if_pos hp, if_pos hp, h i (by omega) hp]
    · rw [if_neg hp, if_neg hp]
theorem pk_sa : pkG (nlB (stS tk sa c)) (stS tk sa c) (stS tk sa c) c = pkG (nlB (stS tk sa c)) (fun _ => 1) (stS tk sa c) c :=
  pk_one _ _ _ _ c (fun j hj hp => by
    simp only [nlB, stS, hj, if_true, sv, Bool.not_eq_true', decide_eq_false_iff_not] at hp ⊢
    by_cases h0 : tk j = 0
    · rw [if_pos h0]
    · rw [if_neg h0] at hp; exact absurd rfl hp)
theorem pkG_new {P : Nat → Bool} {v f : Nat → Int32} : ∀ {i j : Nat}, j < cN i P → ∃ t, t < i ∧ P t = true ∧ pkG P v f i j = v t := by
  intro i
  induction i with
  | zero => intro j h; simp [cN] at h
  | succ i ih =>
    intro j h
    simp only [cN] at h
    by_cases hp : P i = true
    · simp only [hp, if_true] at h
      simp only [pkG, hp, if_true, upd]
      by_cases hj : j = cN i P
      · rw [if_pos hj]; exact ⟨i, by omega, hp, rfl⟩
      · rw [if_neg hj]
        obtain ⟨t, t1, t2, t3⟩ := ih (show j < cN i P by omega)
        exact ⟨t, by omega, t2, t3⟩
    · have hp : P i = false := by simpa using hp
      simp only [hp, Bool.false_eq_true, if_false] at h
      simp only [pkG, hp, Bool.false_eq_true, if_false]
      obtain ⟨t, t1, t2, t3⟩ := ih (show j < cN i P by omega)
      exact ⟨t, by omega, t2, t3⟩
theorem E_pack (h : Inv N c tn fr tt sa tk op sl nd oi lp il oo ox rw rx) {S : Nat → Int32} (hS : S = stS tk sa c) {oo' ox' : Nat → Nat} {rw' rx' : Nat → Int32}
    (h1 : rowsOK (cN c (nlB S)) (pkG (nlB S) S S c) (pkG (nlB S) fr fr c) (pkG (nlB S) tt tt c) oo' rw') (h2 : rowsOK (cN c (nlB S)) (pkG (nlB S) S S c) (pkG (nlB S) tt tt c) (pkG (nlB S) fr fr c) ox' rx') :
    Inv N (cN c (nlB S)) c (pkG (nlB S) fr fr c) (pkG (nlB S) tt tt c) (pkG (nlB S) S S c) (pkG (nlB S) (fun _ => 0) tk c) op (stl sl) nd oi lp il oo' ox' rw' rx' := by
  obtain ⟨hN, hc, htn, hfr, htt, hsa, hlt, htk, hR, hR2, hI⟩ := h
  have one : ∀ j, j < cN c (nlB S) → pkG (nlB S) S S c j = 1 := fun j hj => by
    rw [hS] at hj ⊢
    rw [pk_sa]
    obtain ⟨t, _, _, t3⟩ := pkG_new (P := nlB (stS tk sa c)) (v := fun _ => (1 : Int32)) (f := stS tk sa c) hj
    exact t3
  refine ⟨hN, Nat.le_trans (cN_le c _) hc, hc, pkG_in hfr, pkG_in htt, fun j hj => Or.inr (Or.inl (one j hj)), fun j hj h3 => ?_, fun j => ?_, h1, h2, it_stale⟩
  · rw [one j hj] at h3; exact absurd h3 (by decide)
  · rcases Nat.lt_or_ge j c with hj | hj
    · exact pkG_all (Q := fun x => x = 0 ∨ x = 1) (fun _ _ => Or.inl rfl) (fun j _ => htk j) j hj
    · rw [pkG_ge hj]; exact htk j
theorem E_load (h : Inv N c tn fr tt sa tk op sl nd oi lp il oo ox rw rx) (x : Int32) {oo' ox' : Nat → Nat} {rw' rx' : Nat → Int32}
    (h1 : loB N go gt x = true → rowsOK (loC N c go gt x x.toNatClampNeg) (loF N go gt x sa (fun _ => 1)) (loF N go gt x fr (loV N go)) (loF N go gt x tt gt) oo' rw' ∧ rowsOK (loC N c go gt x x.toNatClampNeg) (loF N go gt x sa (fun _ => 1)) (loF N go gt x tt gt) (loF N go gt x fr (loV N go)) ox' rx')
    (h2 : loB N go gt x = false → (oo' = oo ∧ rw' = rw) ∧ ox' = ox ∧ rx' = rx) :
    Inv N (loC N c go gt x x.toNatClampNeg) (loC N tn go gt x 0) (loF N go gt x fr (loV N go)) (loF N go gt x tt gt) (loF N go gt x sa (fun _ => 1)) (loF N go gt x tk (fun _ => 0)) op (loS N go gt x sl) nd oi lp il oo' ox' rw' rx' := by
  obtain ⟨hN, hc, htn, hfr, htt, hsa, hlt, htk, hR, hR2, hI⟩ := h
  cases hb : loB N go gt x
  · obtain ⟨⟨rfl, rfl⟩, rfl, rfl⟩ := h2 hb
    simp only [loC, loF, loS, hb, Bool.false_eq_true, if_false]
    exact ⟨hN, hc, htn, hfr, htt, hsa, hlt, htk, hR, hR2, hI⟩
  · obtain ⟨g1, g2⟩ := h1 hb
    simp only [loC, loF, loS, hb, if_true] at g1 g2 ⊢
    simp only [loB, Bool.and_eq_true, Bool.not_eq_true', decide_eq_false_iff_not, decide_eq_true_eq] at hb
    obtain ⟨m, hm, hxm⟩ := nI_of2 (M := 160) (n := 160) (by decide) hb.1.1 hb.1.2
    have hxc : x.toNatClampNeg = m := by rw [hxm]; exact nI_clamp (by omega)
    rw [hxc] at hb g1 g2 ⊢
    obtain ⟨j1, j2⟩ := jdR_0 hN.2 hm hb.2
    refine ⟨hN, hm, by omega, lo_in1 hN.2 hN.1 hm (jgR_N (j1 N (Nat.le_refl N))), lo_in2 hN.2 j2, fun j hj => by rw [pfx_lt hj]; exact Or.inr (Or.inl rfl), fun j hj h3 => by rw [pfx_lt hj] at h3; exact absurd h3 (by decide), fun j => ?_, g1, g2, it_stale⟩
    unfold pfx; split
    · exact Or.inl rfl
    · exact htk j
theorem E_open (h : Inv N c tn fr tt sa tk op sl nd oi lp il oo ox rw rx) (x z : Int32) : Inv N c tn fr tt sa tk (opF N op x op 1) (opF N op x sl 0) (opF N op x nd x) (opF N op x oi z) (opF N op x lp (-1)) (opF N op x il (-1)) oo ox rw rx := by
  obtain ⟨hN, hc, htn, hfr, htt, hsa, hlt, htk, hR, hR2, hI⟩ := h
  refine ⟨hN, hc, htn, hfr, htt, hsa, hlt, htk, hR, hR2, ?_⟩
  unfold opF
  by_cases hb : (hasB N x && !(decide (opA op = -1))) = true
  · simp only [hb, if_true]
    simp only [Bool.and_eq_true, Bool.not_eq_true', decide_eq_false_iff_not] at hb
    intro t ht h1 h2
    by_cases e : t = (opA op).toNatClampNeg
    · simp only [upd, e, if_true]
      obtain ⟨v, v1, v2⟩ := hasB_of hb.1 (by omega)
      exact ⟨v, v1, v2, fun _ => Or.inl ⟨rfl, rfl⟩, fun _ => Or.inl ⟨rfl, rfl⟩⟩
    · simp only [upd, e, if_false] at h1 h2 ⊢
      exact hI t ht h1 h2
  · simp only [hb, if_false]
    exact hI
theorem E_close (h : Inv N c tn fr tt sa tk op sl nd oi lp il oo ox rw rx) (x : Int32) : Inv N c tn fr tt sa tk (clF op x) sl nd oi lp il oo ox rw rx := by
  obtain ⟨hN, hc, htn, hfr, htt, hsa, hlt, htk, hR, hR2, hI⟩ := h
  refine ⟨hN, hc, htn, hfr, htt, hsa, hlt, htk, hR, hR2, ?_⟩
  unfold clF
  split
  · intro t ht h1 h2
    simp only [upd] at h1
    split at h1
    · exact absurd rfl h1
    · exact hI t ht h1 h2
  · exact hI
end Steps

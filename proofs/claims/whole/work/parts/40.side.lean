set_option maxHeartbeats 8000000 in
set_option maxRecDepth 100000 in
theorem k3o_rowLength (l : Launch) (D : va_G) (cI cZ cL : ClassId) (b : Nat → Nat) (N : Nat) (rw : Nat → Int32) (nm : Nat → Int32) (bf : Nat → Int32) (fe : Nat → Int32) (a : Nat → Nat) (c : Nat) (fr : Nat → Int32) (tt : Nat → Int32) (sa : Nat → Int32) (tk : Nat → Int32) (oo : Nat → Nat) (v : Nat) (hc : c ≤ 160) (hN : N ≤ 24) (hv : v < N) (h1 : oo v ≤ oo (v + 1)) (h2 : oo (v + 1) ≤ 160) : McI l D (tY cI cZ cL) yX3_rowLength wsX3_rowLength 0 0 [.ref (b 0), .int (nI v)] ([wS cI b (a 0) (a 1) (a 2) N rw nm bf fe, wT cI (b 1) (N + 1) (nF oo), wA cI cZ a c fr tt sa tk]) (fun r (_ : Unit) => r = nI (oo (v + 1) - oo v)) (fun (_ : Unit) => [wS cI b (a 0) (a 1) (a 2) N rw nm bf fe, wT cI (b 1) (N + 1) (nF oo), wA cI cZ a c fr tt sa tk]) := by
  refine q_ofW (Qc := fun A => (va_Qi (fun r (_ : Unit) => r = nI (oo (v + 1) - oo v)) (fun u t => mAt D (tY cI cZ cL) A ((fun (_ : Unit) => [wS cI b (a 0) (a 1) (a 2) N rw nm bf fe, wT cI (b 1) (N + 1) (nF oo), wA cI cZ a c fr tt sa tk]) u) t) A)) (cc := cX3_rowLength) (maxL := 2) (ret := (some .int)) (by decide) rfl (Nat.le_of_ble_eq_true rfl) ?_
  intro pz ez sz mz bz tz cz hx hb hml hr hlocks hts hown hK hP A hD hA ls hl
  have hS : va_S A sz.heap sz.heap [] := va_S.rf
  have hl : lv_has ls 2 [(0, .ref (b 0)), (1, .int (nI v))] := hl
  refine lv_aload_n hx hb dX3_rowLength_0 rfl (lv_at hl 0 rfl) ?_
  refine q_get (D := D) (ci := 3) (v := .ref (b 1)) (C := RX3) (T := TX3) (N := 8) hx hb hts (by decide +kernel) hown hK hP 0 0 rfl rfl rfl 3 (by decide) (hts (.fieldLink RX3 31 "OffsetRows$Side" "offsets" "[I") (by decide +kernel)) (fun _ h9 => h9) rfl dX3_rowLength_1 ?_
  refine lv_iload_n hx hb dX3_rowLength_4 rfl (lv_at hl 1 rfl) ?_
  refine lv_iconst (v := (1 : Int32)) hx hb dX3_rowLength_5 (by decide) ?_
  refine q_iadd (z := nI (v + 1)) hx hb dX3_rowLength_6 (nI_add v 1) ?_
  refine q_iald hx hb hK hP 1 0 0 rfl (f := nF oo) rfl rfl (k := v + 1) (nI_clamp (n := v + 1) (by omega)) (vp_in_nI (show v + 1 < N + 1 from by omega) (by omega)) dX3_rowLength_7 ?_
  refine q_top (z := nI (oo (v + 1))) (rfl) ?_
  refine lv_aload_n hx hb dX3_rowLength_8 rfl (lv_at hl 0 rfl) ?_
  refine q_get (D := D) (ci := 3) (v := .ref (b 1)) (C := RX3) (T := TX3) (N := 8) hx hb hts (by decide +kernel) hown hK hP 0 0 rfl rfl rfl 3 (by decide) (hts (.fieldLink RX3 31 "OffsetRows$Side" "offsets" "[I") (by decide +kernel)) (fun _ h9 => h9) rfl dX3_rowLength_9 ?_
  refine lv_iload_n hx hb dX3_rowLength_12 rfl (lv_at hl 1 rfl) ?_
  refine q_iald hx hb hK hP 1 0 0 rfl (f := nF oo) rfl rfl (k := v) (nI_clamp (n := v) (by omega)) (vp_in_nI (show v < N + 1 from by omega) (by omega)) dX3_rowLength_13 ?_
  refine q_top (z := nI (oo v)) (rfl) ?_
  refine q_isub (z := nI ((oo (v + 1)) - (oo v))) hx hb dX3_rowLength_14 (pk_sub (a := oo (v + 1)) (b := oo v) (by omega)) ?_
  exact q_iret (()) hx hb hr hlocks hK hP hD hS (rfl) (rfl) dX3_rowLength_15

set_option maxHeartbeats 8000000 in
set_option maxRecDepth 100000 in
theorem k3o_countPlaces (l : Launch) (D : va_G) (cI cZ cL : ClassId) (b : Nat → Nat) (N : Nat) (rw : Nat → Int32) (nm : Nat → Int32) (bf : Nat → Int32) (fe : Nat → Int32) (a : Nat → Nat) (c : Nat) (fr : Nat → Int32) (tt : Nat → Int32) (sa : Nat → Int32) (tk : Nat → Int32) (oo : Nat → Nat) (v : Nat) (hc : c ≤ 160) (hN : N ≤ 24) (hv : v < N) (h1 : oo v ≤ oo (v + 1)) (h2 : oo (v + 1) ≤ 160) : McI l D (tY cI cZ cL) yX3_countPlaces wsX3_countPlaces 1 21 [.ref (b 0), .int (nI v)] ([wS cI b (a 0) (a 1) (a 2) N rw nm bf fe, wT cI (b 1) (N + 1) (nF oo), wA cI cZ a c fr tt sa tk]) (fun r (_ : Unit) => r = nI (plN c oo v)) (fun (_ : Unit) => [wS cI b (a 0) (a 1) (a 2) N rw nm bf fe, wT cI (b 1) (N + 1) (nF oo), wA cI cZ a c fr tt sa tk]) := by
  refine q_ofW (Qc := fun A => (va_Qi (fun r (_ : Unit) => r = nI (plN c oo v)) (fun u t => mAt D (tY cI cZ cL) A ((fun (_ : Unit) => [wS cI b (a 0) (a 1) (a 2) N rw nm bf fe, wT cI (b 1) (N + 1) (nF oo), wA cI cZ a c fr tt sa tk]) u) t) A)) (cc := cX3_countPlaces) (maxL := 2) (ret := (some .int)) (by decide) rfl (Nat.le_of_ble_eq_true rfl) ?_
  intro pz ez sz mz bz tz cz hx hb hml hr hlocks hts hown hK hP A hD hA ls hl
  have hS : va_S A sz.heap sz.heap [] := va_S.rf
  have hl : lv_has ls 2 [(0, .ref (b 0)), (1, .int (nI v))] := hl
  refine lv_aload_n hx hb dX3_countPlaces_0 rfl (lv_at hl 0 rfl) ?_
  refine lv_iload_n hx hb dX3_countPlaces_1 rfl (lv_at hl 1 rfl) ?_
  refine q_callVi (index := 66) (n := 1) (As := [.int (nI v)]) (rest := []) (js := [0, 1, 2]) (ci := 3) ⟨hx, hb, hml, hown, hts⟩ hK hP hD hS hA (k3o_rowLength l D cI cZ cL b N rw nm bf fe a c fr tt sa tk oo v (by omega) (by omega) (by omega) (by omega) (by omega)) rfl (by decide) (fun _ => by simp only [List.map_cons, List.map_nil, wA_fst, wS_fst, wT_fst]) (fun (_ : Unit) => [wS cI b (a 0) (a 1) (a 2) N rw nm bf fe, wT cI (b 1) (N + 1) (nF oo), wA cI cZ a c fr tt sa tk]) (fun _ => rfl) gX3_countPlaces_X3_rowLength rfl (by decide +kernel) rfl ⟨by decide, by decide⟩ rfl rfl rfl rfl hl.1 (Nat.le_of_ble_eq_true rfl) ⟨(Nat.zero_le _), (Nat.zero_le _)⟩ dX3_countPlaces_2 rfl (fun r _ H locs hw hP hD hS => ?_)
  have hw : r = nI (oo (v + 1) - oo v) := hw
  subst hw
  refine lv_aload_n hx hb dX3_countPlaces_5 rfl (lv_at hl 0 rfl) ?_
  refine q_get (D := D) (ci := 3) (v := .ref (a 0)) (C := RX3) (T := TX3) (N := 8) hx hb hts (by decide +kernel) hown hK hP 0 0 rfl rfl rfl 0 (by decide) (hts (.fieldLink RX3 21 "OffsetRows$Side" "arcs" "LOffsetRows$ArcList;") (by decide +kernel)) (fun _ h9 => h9) rfl dX3_countPlaces_6 ?_
  refine q_get (D := D) (ci := 0) (v := .int (nI c)) (C := RX0) (T := TX0) (N := 5) hx hb hts (by decide +kernel) hown hK hP 2 0 rfl rfl rfl 4 (by decide) (hts (.fieldLink RX3 45 "OffsetRows$ArcList" "count" "I") (by decide +kernel)) (fun _ h9 => h9) rfl dX3_countPlaces_9 ?_
  refine q_iadd (z := nI (oo (v + 1) - oo v + c)) hx hb dX3_countPlaces_12 (nI_add (oo (v + 1) - oo v) c) ?_
  exact q_iret (()) hx hb hr hlocks hK hP hD hS (rfl) (rfl) dX3_countPlaces_13

set_option maxHeartbeats 8000000 in
set_option maxRecDepth 100000 in
theorem k3o_arcAt (l : Launch) (D : va_G) (cI cZ cL : ClassId) (b : Nat → Nat) (N : Nat) (rw : Nat → Int32) (nm : Nat → Int32) (bf : Nat → Int32) (fe : Nat → Int32) (a : Nat → Nat) (c : Nat) (fr : Nat → Int32) (tt : Nat → Int32) (sa : Nat → Int32) (tk : Nat → Int32) (oo : Nat → Nat) (v : Nat) (p : Nat) (hc : c ≤ 160) (hN : N ≤ 24) (hv : v < N) (h1 : oo v ≤ oo (v + 1)) (h2 : oo (v + 1) ≤ 160) (hp : p ≤ 1000) : McI l D (tY cI cZ cL) yX3_arcAt wsX3_arcAt 2 42 [.ref (b 0), .int (nI v), .int (nI p)] ([wS cI b (a 0) (a 1) (a 2) N rw nm bf fe, wT cI (b 1) (N + 1) (nF oo), wA cI cZ a c fr tt sa tk]) (fun r (_ : Unit) => r = atV c sa fr rw oo v p) (fun (_ : Unit) => [wS cI b (a 0) (a 1) (a 2) N rw nm bf fe, wT cI (b 1) (N + 1) (nF oo), wA cI cZ a c fr tt sa tk]) := by
  refine q_ofW (Qc := fun A => (va_Qi (fun r (_ : Unit) => r = atV c sa fr rw oo v p) (fun u t => mAt D (tY cI cZ cL) A ((fun (_ : Unit) => [wS cI b (a 0) (a 1) (a 2) N rw nm bf fe, wT cI (b 1) (N + 1) (nF oo), wA cI cZ a c fr tt sa tk]) u) t) A)) (cc := cX3_arcAt) (maxL := 5) (ret := (some .int)) (by decide) rfl (Nat.le_of_ble_eq_true rfl) ?_
  intro pz ez sz mz bz tz cz hx hb hml hr hlocks hts hown hK hP A hD hA ls hl
  have hS : va_S A sz.heap sz.heap [] := va_S.rf
  have hl : lv_has ls 5 [(0, .ref (b 0)), (1, .int (nI v)), (2, .int (nI p))] := hl
  refine lv_aload_n hx hb dX3_arcAt_0 rfl (lv_at hl 0 rfl) ?_
  refine lv_iload_n hx hb dX3_arcAt_1 rfl (lv_at hl 1 rfl) ?_
  refine q_callVi (index := 66) (n := 1) (As := [.int (nI v)]) (rest := []) (js := [0, 1, 2]) (ci := 3) ⟨hx, hb, hml, hown, hts⟩ hK hP hD hS hA (k3o_rowLength l D cI cZ cL b N rw nm bf fe a c fr tt sa tk oo v (by omega) (by omega) (by omega) (by omega) (by omega)) rfl (by decide) (fun _ => by simp only [List.map_cons, List.map_nil, wA_fst, wS_fst, wT_fst]) (fun (_ : Unit) => [wS cI b (a 0) (a 1) (a 2) N rw nm bf fe, wT cI (b 1) (N + 1) (nF oo), wA cI cZ a c fr tt sa tk]) (fun _ => rfl) gX3_arcAt_X3_rowLength rfl (by decide +kernel) rfl ⟨by decide, by decide⟩ rfl rfl rfl rfl hl.1 (Nat.le_of_ble_eq_true rfl) ⟨(Nat.zero_le _), (Nat.zero_le _)⟩ dX3_arcAt_2 rfl (fun r _ H locs hw hP hD hS => ?_)
  have hw : r = nI (oo (v + 1) - oo v) := hw
  subst hw
  refine lv_istore_n (lv' := [(3, .int (nI (oo (v + 1) - oo v))), (0, .ref (b 0)), (1, .int (nI v)), (2, .int (nI p))]) hx hb dX3_arcAt_5 rfl hl (by decide) rfl (fun ls hl => ?_)
  refine lv_iload_n hx hb dX3_arcAt_6 rfl (lv_at hl 3 rfl) ?_
  refine lv_iload_n hx hb dX3_arcAt_7 rfl (lv_at hl 0 rfl) ?_
  refine lv_icmp_ge (tgt := 25) hx hb dX3_arcAt_8 (by decide) (fun c_8 => ?_) (fun c_8 => ?_)
  ·
    have n_8 : (oo (v + 1) - oo v) ≤ p := (nI_leI (a := oo (v + 1) - oo v) (b := p) (by omega) (by omega)).mp c_8
    refine lv_iload_n hx hb dX3_arcAt_25 rfl (lv_at hl 3 rfl) ?_
    refine lv_iload_n hx hb dX3_arcAt_26 rfl (lv_at hl 0 rfl) ?_
    refine q_isub (z := nI (p - (oo (v + 1) - oo v))) hx hb dX3_arcAt_27 (pk_sub (a := p) (b := oo (v + 1) - oo v) (by omega)) ?_
    refine lv_istore (lv' := [(4, .int (nI (p - (oo (v + 1) - oo v)))), (3, .int (nI (oo (v + 1) - oo v))), (0, .ref (b 0)), (1, .int (nI v)), (2, .int (nI p))]) hx hb dX3_arcAt_28 hl (by decide) rfl (fun ls hl => ?_)
    refine lv_aload_n hx hb dX3_arcAt_30 rfl (lv_at hl 2 rfl) ?_
    refine q_get (D := D) (ci := 3) (v := .ref (a 0)) (C := RX3) (T := TX3) (N := 8) hx hb hts (by decide +kernel) hown hK hP 0 0 rfl rfl rfl 0 (by decide) (hts (.fieldLink RX3 21 "OffsetRows$Side" "arcs" "LOffsetRows$ArcList;") (by decide +kernel)) (fun _ h9 => h9) rfl dX3_arcAt_31 ?_
    refine lv_iload hx hb dX3_arcAt_34 (lv_at hl 0 rfl) ?_
    refine q_callVi (index := 70) (n := 1) (As := [.int (nI (p - (oo (v + 1) - oo v)))]) (rest := []) (js := [2]) (ci := 0) ⟨hx, hb, hml, hown, hts⟩ hK hP hD hS hA (k0_isWaiting l D cI cZ cL a c fr tt sa tk (nI (p - (oo (v + 1) - oo v))) (by omega)) rfl (by decide) (fun _ => by simp only [List.map_cons, List.map_nil, wA_fst]) (fun (_ : Unit) => [wS cI b (a 0) (a 1) (a 2) N rw nm bf fe, wT cI (b 1) (N + 1) (nF oo), wA cI cZ a c fr tt sa tk]) (fun _ => rfl) gX3_arcAt_X0_isWaiting rfl (by decide +kernel) rfl ⟨by decide, by decide⟩ rfl rfl rfl rfl hl.1 (Nat.le_of_ble_eq_true rfl) ⟨(Nat.zero_le _), (Nat.zero_le _)⟩ dX3_arcAt_36 rfl (fun r _ H locs hw hP hD hS => ?_)
    have hw : r = bI (isWt c sa (nI (p - (oo (v + 1) - oo v)))) := hw
    subst hw
    refine lv_if_eq (tgt := 58) hx hb dX3_arcAt_39 (by decide) (fun c_39 => ?_) (fun c_39 => ?_)
    ·
      have n_39 : (isWt c sa (nI (p - (oo (v + 1) - oo v)))) = false := bI_0.mp c_39
      refine lv_iconst (v := (-1)) hx hb dX3_arcAt_58 (by decide) ?_
      exact q_iret (()) hx hb hr hlocks hK hP hD hS (by rw [atV, if_neg (by omega)]; simp [n_39]) (rfl) dX3_arcAt_59
    ·
      have n_39 : (isWt c sa (nI (p - (oo (v + 1) - oo v)))) = true := bI_n.mp c_39
      have hlt : p - (oo (v + 1) - oo v) < c := isWt_lt n_39 (by omega) (by omega)
      refine lv_aload_n hx hb dX3_arcAt_42 rfl (lv_at hl 2 rfl) ?_
      refine q_get (D := D) (ci := 3) (v := .ref (a 1)) (C := RX3) (T := TX3) (N := 8) hx hb hts (by decide +kernel) hown hK hP 0 0 rfl rfl rfl 1 (by decide) (hts (.fieldLink RX3 25 "OffsetRows$Side" "ownEnd" "[I") (by decide +kernel)) (fun _ h9 => h9) rfl dX3_arcAt_43 ?_
      refine lv_iload hx hb dX3_arcAt_46 (lv_at hl 0 rfl) ?_
      refine q_iald hx hb hK hP 2 1 0 rfl (f := fr) rfl rfl (k := p - (oo (v + 1) - oo v)) (nI_clamp (n := p - (oo (v + 1) - oo v)) (by omega)) (vp_in_nI (show p - (oo (v + 1) - oo v) < 160 from by omega) (by omega)) dX3_arcAt_48 ?_
      refine lv_iload_n hx hb dX3_arcAt_49 rfl (lv_at hl 3 rfl) ?_
      refine lv_icmp_ne (tgt := 58) hx hb dX3_arcAt_50 (by decide) (fun c_50 => ?_) (fun c_50 => ?_)
      ·
        refine lv_iconst (v := (-1)) hx hb dX3_arcAt_58 (by decide) ?_
        exact q_iret (()) hx hb hr hlocks hK hP hD hS (by rw [atV, if_neg (by omega)]; simp [n_39, c_50]) (rfl) dX3_arcAt_59
      ·
        refine lv_iload hx hb dX3_arcAt_53 (lv_at hl 0 rfl) ?_
        refine lv_goto (tgt := 59) hx hb dX3_arcAt_55 (by decide) ?_
        exact q_iret (()) hx hb hr hlocks hK hP hD hS (by rw [atV, if_neg (by omega)]; simp [n_39, c_50]) (rfl) dX3_arcAt_59
  ·
    have n_8 : ¬ (oo (v + 1) - oo v) ≤ p := fun h9 => c_8 ((nI_leI (a := oo (v + 1) - oo v) (b := p) (by omega) (by omega)).mpr h9)
    refine lv_aload_n hx hb dX3_arcAt_11 rfl (lv_at hl 1 rfl) ?_
    refine q_get (D := D) (ci := 3) (v := .ref (b 2)) (C := RX3) (T := TX3) (N := 8) hx hb hts (by decide +kernel) hown hK hP 0 0 rfl rfl rfl 4 (by decide) (hts (.fieldLink RX3 9 "OffsetRows$Side" "row" "[I") (by decide +kernel)) (fun _ h9 => h9) rfl dX3_arcAt_12 ?_
    refine lv_aload_n hx hb dX3_arcAt_15 rfl (lv_at hl 1 rfl) ?_
    refine q_get (D := D) (ci := 3) (v := .ref (b 1)) (C := RX3) (T := TX3) (N := 8) hx hb hts (by decide +kernel) hown hK hP 0 0 rfl rfl rfl 3 (by decide) (hts (.fieldLink RX3 31 "OffsetRows$Side" "offsets" "[I") (by decide +kernel)) (fun _ h9 => h9) rfl dX3_arcAt_16 ?_
    refine lv_iload_n hx hb dX3_arcAt_19 rfl (lv_at hl 2 rfl) ?_
    refine q_iald hx hb hK hP 1 0 0 rfl (f := nF oo) rfl rfl (k := v) (nI_clamp (n := v) (by omega)) (vp_in_nI (show v < N + 1 from by omega) (by omega)) dX3_arcAt_20 ?_
    refine q_top (z := nI (oo v)) (rfl) ?_
    refine lv_iload_n hx hb dX3_arcAt_21 rfl (lv_at hl 3 rfl) ?_
    refine q_iadd (z := nI (oo v + p)) hx hb dX3_arcAt_22 (nI_add (oo v) p) ?_
    refine q_iald hx hb hK hP 0 1 0 rfl (f := rw) rfl rfl (k := oo v + p) (nI_clamp (n := oo v + p) (by omega)) (vp_in_nI (show oo v + p < 160 from by omega) (by omega)) dX3_arcAt_23 ?_
    exact q_iret (()) hx hb hr hlocks hK hP hD hS (by rw [atV, if_pos (by omega)]) (rfl) dX3_arcAt_24

set_option maxHeartbeats 8000000 in
set_option maxRecDepth 100000 in
theorem k3o_livePlaceFrom (l : Launch) (D : va_G) (cI cZ cL : ClassId) (b : Nat → Nat) (N : Nat) (rw : Nat → Int32) (nm : Nat → Int32) (bf : Nat → Int32) (fe : Nat → Int32) (a : Nat → Nat) (c : Nat) (fr : Nat → Int32) (tt : Nat → Int32) (sa : Nat → Int32) (tk : Nat → Int32) (oo : Nat → Nat) (v : Nat) (q : Nat) (hc : c ≤ 160) (hN : N ≤ 24) (hv : v < N) (h1 : oo v ≤ oo (v + 1)) (h2 : oo (v + 1) ≤ 160) (hq : q ≤ plN c oo v) : McI l D (tY cI cZ cL) yX3_livePlaceFrom wsX3_livePlaceFrom 3 66 [.ref (b 0), .int (nI v), .int (nI q)] ([wS cI b (a 0) (a 1) (a 2) N rw nm bf fe, wT cI (b 1) (N + 1) (nF oo), wA cI cZ a c fr tt sa tk]) (fun r (_ : Unit) => r = lpR c sa tk fr rw oo v q) (fun (_ : Unit) => [wS cI b (a 0) (a 1) (a 2) N rw nm bf fe, wT cI (b 1) (N + 1) (nF oo), wA cI cZ a c fr tt sa tk]) := by
  refine q_ofW (Qc := fun A => (va_Qi (fun r (_ : Unit) => r = lpR c sa tk fr rw oo v q) (fun u t => mAt D (tY cI cZ cL) A ((fun (_ : Unit) => [wS cI b (a 0) (a 1) (a 2) N rw nm bf fe, wT cI (b 1) (N + 1) (nF oo), wA cI cZ a c fr tt sa tk]) u) t) A)) (cc := cX3_livePlaceFrom) (maxL := 5) (ret := (some .int)) (by decide) rfl (Nat.le_of_ble_eq_true rfl) ?_
  intro pz ez sz mz bz tz cz hx hb hml hr hlocks hts hown hK hP A hD hA ls hl
  have hS : va_S A sz.heap sz.heap [] := va_S.rf
  have hl : lv_has ls 5 [(0, .ref (b 0)), (1, .int (nI v)), (2, .int (nI q))] := hl
  have hpl : plN c oo v ≤ 320 := by unfold plN; omega
  refine lv_aload_n hx hb dX3_livePlaceFrom_0 rfl (lv_at hl 0 rfl) ?_
  refine lv_iload_n hx hb dX3_livePlaceFrom_1 rfl (lv_at hl 1 rfl) ?_
  refine q_callVi (index := 74) (n := 1) (As := [.int (nI v)]) (rest := []) (js := [0, 1, 2]) (ci := 3) ⟨hx, hb, hml, hown, hts⟩ hK hP hD hS hA (k3o_countPlaces l D cI cZ cL b N rw nm bf fe a c fr tt sa tk oo v (by omega) (by omega) (by omega) (by omega) (by omega)) rfl (by decide) (fun _ => by simp only [List.map_cons, List.map_nil, wA_fst, wS_fst, wT_fst]) (fun (_ : Unit) => [wS cI b (a 0) (a 1) (a 2) N rw nm bf fe, wT cI (b 1) (N + 1) (nF oo), wA cI cZ a c fr tt sa tk]) (fun _ => rfl) gX3_livePlaceFrom_X3_countPlaces rfl (by decide +kernel) rfl ⟨by decide, by decide⟩ rfl rfl rfl rfl hl.1 (Nat.le_of_ble_eq_true rfl) ⟨(Nat.zero_le _), (Nat.zero_le _)⟩ dX3_livePlaceFrom_2 rfl (fun r _ H locs hw hP hD hS => ?_)
  have hw : r = nI (plN c oo v) := hw
  subst hw
  refine lv_istore_n (lv' := [(3, .int (nI (plN c oo v))), (0, .ref (b 0)), (1, .int (nI v)), (2, .int (nI q))]) hx hb dX3_livePlaceFrom_5 rfl hl (by decide) rfl (fun ls hl => ?_)
  refine lv_iload_n hx hb dX3_livePlaceFrom_6 rfl (lv_at hl 3 rfl) ?_
  refine lv_istore (lv' := [(4, .int (nI q)), (3, .int (nI (plN c oo v))), (0, .ref (b 0)), (1, .int (nI v)), (2, .int (nI q))]) hx hb dX3_livePlaceFrom_7 hl (by decide) rfl (fun ls hl => ?_)
  have loop_9 : ∀ (k_9 i : Nat), i ≤ plN c oo v → plN c oo v < i + k_9 → (lpR c sa tk fr rw oo v q = fsv (atL c sa tk fr rw oo v) nI (plN c oo v - i) i) → ∀ (H : Heap) (locs : List Loc), va_P D vwCl (List.flatten [wS cI b (a 0) (a 1) (a 2) N rw nm bf fe, wT cI (b 1) (N + 1) (nF oo), wA cI cZ a c fr tt sa tk]) H → va_D A (List.flatten [wS cI b (a 0) (a 1) (a 2) N rw nm bf fe, wT cI (b 1) (N + 1) (nF oo), wA cI cZ a c fr tt sa tk]) → va_S A sz.heap H locs → ∀ (ls : Array Slot), lv_has ls 5 [(4, .int (nI i)), (3, .int (nI (plN c oo v))), (0, .ref (b 0)), (1, .int (nI v)), (2, .int (nI q))] → W pz l ez (rM 3 66) sz mz [.ref (b 0), .int (nI v), .int (nI q)].toArray bz tz cz H locs 0 0 (MQ bz (va_Qi (fun r (_ : Unit) => r = lpR c sa tk fr rw oo v q) (fun u t => mAt D (tY cI cZ cL) A ((fun (_ : Unit) => [wS cI b (a 0) (a 1) (a 2) N rw nm bf fe, wT cI (b 1) (N + 1) (nF oo), wA cI cZ a c fr tt sa tk]) u) t) A) [.ref (b 0), .int (nI v), .int (nI q)].toArray sz 0 0 A) (F0 mz 9 ls [])  := by
    intro k_9
    induction k_9 with
    | zero => intro i hi_9 hk_9; exact absurd hk_9 (by omega)
    | succ k_9 ih_9 =>
      intro i hi_9 hk_9 hinv H locs hP hD hS ls hl
      refine lv_iload hx hb dX3_livePlaceFrom_9 (lv_at hl 0 rfl) ?_
      refine lv_iload_n hx hb dX3_livePlaceFrom_11 rfl (lv_at hl 1 rfl) ?_
      refine lv_icmp_ge (tgt := 41) hx hb dX3_livePlaceFrom_12 (by decide) (fun c_12 => ?_) (fun c_12 => ?_)
      ·
        have n_12 : (plN c oo v) ≤ i := (nI_leI (a := plN c oo v) (b := i) (by omega) (by omega)).mp c_12
        refine lv_iconst (v := (-1)) hx hb dX3_livePlaceFrom_41 (by decide) ?_
        exact q_iret (()) hx hb hr hlocks hK hP hD hS (by rw [hinv, fsv_end (by omega)]) (rfl) dX3_livePlaceFrom_42
      ·
        have n_12 : ¬ (plN c oo v) ≤ i := fun h9 => c_12 ((nI_leI (a := plN c oo v) (b := i) (by omega) (by omega)).mpr h9)
        refine lv_aload_n hx hb dX3_livePlaceFrom_15 rfl (lv_at hl 2 rfl) ?_
        refine q_get (D := D) (ci := 3) (v := .ref (a 0)) (C := RX3) (T := TX3) (N := 8) hx hb hts (by decide +kernel) hown hK hP 0 0 rfl rfl rfl 0 (by decide) (hts (.fieldLink RX3 21 "OffsetRows$Side" "arcs" "LOffsetRows$ArcList;") (by decide +kernel)) (fun _ h9 => h9) rfl dX3_livePlaceFrom_16 ?_
        refine lv_aload_n hx hb dX3_livePlaceFrom_19 rfl (lv_at hl 2 rfl) ?_
        refine lv_iload_n hx hb dX3_livePlaceFrom_20 rfl (lv_at hl 3 rfl) ?_
        refine lv_iload hx hb dX3_livePlaceFrom_21 (lv_at hl 0 rfl) ?_
        refine q_callVi (index := 77) (n := 2) (As := [.int (nI v), .int (nI i)]) (rest := [.ref (a 0)]) (js := [0, 1, 2]) (ci := 3) ⟨hx, hb, hml, hown, hts⟩ hK hP hD hS hA (k3o_arcAt l D cI cZ cL b N rw nm bf fe a c fr tt sa tk oo v i (by omega) (by omega) (by omega) (by omega) (by omega) (by omega)) rfl (by decide) (fun _ => by simp only [List.map_cons, List.map_nil, wA_fst, wS_fst, wT_fst]) (fun (_ : Unit) => [wS cI b (a 0) (a 1) (a 2) N rw nm bf fe, wT cI (b 1) (N + 1) (nF oo), wA cI cZ a c fr tt sa tk]) (fun _ => rfl) gX3_livePlaceFrom_X3_arcAt rfl (by decide +kernel) rfl ⟨by decide, by decide⟩ rfl rfl rfl rfl hl.1 (Nat.le_of_ble_eq_true rfl) ⟨(Nat.zero_le _), (Nat.zero_le _)⟩ dX3_livePlaceFrom_23 rfl (fun r _ H locs hw hP hD hS => ?_)
        have hw : r = atV c sa fr rw oo v i := hw
        subst hw
        refine q_callVi (index := 81) (n := 1) (As := [.int (atV c sa fr rw oo v i)]) (rest := []) (js := [2]) (ci := 0) ⟨hx, hb, hml, hown, hts⟩ hK hP hD hS hA (k0_isLive l D cI cZ cL a c fr tt sa tk (atV c sa fr rw oo v i) (by omega)) rfl (by decide) (fun _ => by simp only [List.map_cons, List.map_nil, wA_fst]) (fun (_ : Unit) => [wS cI b (a 0) (a 1) (a 2) N rw nm bf fe, wT cI (b 1) (N + 1) (nF oo), wA cI cZ a c fr tt sa tk]) (fun _ => rfl) gX3_livePlaceFrom_X0_isLive rfl (by decide +kernel) rfl ⟨by decide, by decide⟩ rfl rfl rfl rfl hl.1 (Nat.le_of_ble_eq_true rfl) ⟨(Nat.zero_le _), (Nat.zero_le _)⟩ dX3_livePlaceFrom_26 rfl (fun r _ H locs hw hP hD hS => ?_)
        have hw : r = bI (isLv c sa tk (atV c sa fr rw oo v i)) := hw
        subst hw
        refine q_top (z := bI (atL c sa tk fr rw oo v i)) (rfl) ?_
        refine lv_if_eq (tgt := 35) hx hb dX3_livePlaceFrom_29 (by decide) (fun c_29 => ?_) (fun c_29 => ?_)
        ·
          have n_29 : (atL c sa tk fr rw oo v i) = false := bI_0.mp c_29
          refine lv_iinc (v := nI (i + 1)) (lv' := [(4, .int (nI (i + 1))), (3, .int (nI (plN c oo v))), (0, .ref (b 0)), (1, .int (nI v)), (2, .int (nI q))]) hx hb dX3_livePlaceFrom_35 hl (k := 0) rfl (nI_add i 1) (by decide) rfl (fun ls hl => ?_)
          refine lv_goto (tgt := 9) hx hb dX3_livePlaceFrom_38 (by decide) ?_
          have hl : lv_has ls 5 [(4, .int (nI (i + 1))), (3, .int (nI (plN c oo v))), (0, .ref (b 0)), (1, .int (nI v)), (2, .int (nI q))] := lv_sub hl [0, 1, 2, 3, 4] rfl
          have hP : va_P D vwCl (List.flatten [wS cI b (a 0) (a 1) (a 2) N rw nm bf fe, wT cI (b 1) (N + 1) (nF oo), wA cI cZ a c fr tt sa tk]) _ := hP
          have hD : va_D A (List.flatten [wS cI b (a 0) (a 1) (a 2) N rw nm bf fe, wT cI (b 1) (N + 1) (nF oo), wA cI cZ a c fr tt sa tk]) := hD
          exact ih_9 (i + 1) (by omega) (by omega) (hinv.trans (fsv_no (by omega) n_29)) _ _ hP hD hS _ hl
        ·
          have n_29 : (atL c sa tk fr rw oo v i) = true := bI_n.mp c_29
          refine lv_iload hx hb dX3_livePlaceFrom_32 (lv_at hl 0 rfl) ?_
          exact q_iret (()) hx hb hr hlocks hK hP hD hS (by rw [hinv, fsv_yes (by omega) n_29]) (rfl) dX3_livePlaceFrom_34
  have hl : lv_has ls 5 [(4, .int (nI q)), (3, .int (nI (plN c oo v))), (0, .ref (b 0)), (1, .int (nI v)), (2, .int (nI q))] := lv_sub hl [0, 1, 2, 3, 4] rfl
  have hP : va_P D vwCl (List.flatten [wS cI b (a 0) (a 1) (a 2) N rw nm bf fe, wT cI (b 1) (N + 1) (nF oo), wA cI cZ a c fr tt sa tk]) _ := hP
  have hD : va_D A (List.flatten [wS cI b (a 0) (a 1) (a 2) N rw nm bf fe, wT cI (b 1) (N + 1) (nF oo), wA cI cZ a c fr tt sa tk]) := hD
  exact loop_9 ((plN c oo v) + 1) q (by omega) (by omega) rfl _ _ hP hD hS _ hl

set_option maxHeartbeats 8000000 in
set_option maxRecDepth 100000 in
theorem k3o_countLive (l : Launch) (D : va_G) (cI cZ cL : ClassId) (b : Nat → Nat) (N : Nat) (rw : Nat → Int32) (nm : Nat → Int32) (bf : Nat → Int32) (fe : Nat → Int32) (a : Nat → Nat) (c : Nat) (fr : Nat → Int32) (tt : Nat → Int32) (sa : Nat → Int32) (tk : Nat → Int32) (oo : Nat → Nat) (v : Nat) (hc : c ≤ 160) (hN : N ≤ 24) (hv : v < N) (h1 : oo v ≤ oo (v + 1)) (h2 : oo (v + 1) ≤ 160) : McI l D (tY cI cZ cL) yX3_countLive wsX3_countLive 3 66 [.ref (b 0), .int (nI v)] ([wS cI b (a 0) (a 1) (a 2) N rw nm bf fe, wT cI (b 1) (N + 1) (nF oo), wA cI cZ a c fr tt sa tk]) (fun r (_ : Unit) => r = nI (cN (plN c oo v) (atL c sa tk fr rw oo v))) (fun (_ : Unit) => [wS cI b (a 0) (a 1) (a 2) N rw nm bf fe, wT cI (b 1) (N + 1) (nF oo), wA cI cZ a c fr tt sa tk]) := by
  refine q_ofW (Qc := fun A => (va_Qi (fun r (_ : Unit) => r = nI (cN (plN c oo v) (atL c sa tk fr rw oo v))) (fun u t => mAt D (tY cI cZ cL) A ((fun (_ : Unit) => [wS cI b (a 0) (a 1) (a 2) N rw nm bf fe, wT cI (b 1) (N + 1) (nF oo), wA cI cZ a c fr tt sa tk]) u) t) A)) (cc := cX3_countLive) (maxL := 5) (ret := (some .int)) (by decide) rfl (Nat.le_of_ble_eq_true rfl) ?_
  intro pz ez sz mz bz tz cz hx hb hml hr hlocks hts hown hK hP A hD hA ls hl
  have hS : va_S A sz.heap sz.heap [] := va_S.rf
  have hl : lv_has ls 5 [(0, .ref (b 0)), (1, .int (nI v))] := hl
  have hpl : plN c oo v ≤ 320 := by unfold plN; omega
  refine lv_aload_n hx hb dX3_countLive_0 rfl (lv_at hl 0 rfl) ?_
  refine lv_iload_n hx hb dX3_countLive_1 rfl (lv_at hl 1 rfl) ?_
  refine q_callVi (index := 74) (n := 1) (As := [.int (nI v)]) (rest := []) (js := [0, 1, 2]) (ci := 3) ⟨hx, hb, hml, hown, hts⟩ hK hP hD hS hA (k3o_countPlaces l D cI cZ cL b N rw nm bf fe a c fr tt sa tk oo v (by omega) (by omega) (by omega) (by omega) (by omega)) rfl (by decide) (fun _ => by simp only [List.map_cons, List.map_nil, wA_fst, wS_fst, wT_fst]) (fun (_ : Unit) => [wS cI b (a 0) (a 1) (a 2) N rw nm bf fe, wT cI (b 1) (N + 1) (nF oo), wA cI cZ a c fr tt sa tk]) (fun _ => rfl) gX3_countLive_X3_countPlaces rfl (by decide +kernel) rfl ⟨by decide, by decide⟩ rfl rfl rfl rfl hl.1 (Nat.le_of_ble_eq_true rfl) ⟨(Nat.zero_le _), (Nat.zero_le _)⟩ dX3_countLive_2 rfl (fun r _ H locs hw hP hD hS => ?_)
  have hw : r = nI (plN c oo v) := hw
  subst hw
  refine lv_istore_n (lv' := [(2, .int (nI (plN c oo v))), (0, .ref (b 0)), (1, .int (nI v))]) hx hb dX3_countLive_5 rfl hl (by decide) rfl (fun ls hl => ?_)
  refine lv_iconst (v := (0 : Int32)) hx hb dX3_countLive_6 (by decide) ?_
  refine lv_istore_n (lv' := [(3, .int (0 : Int32)), (2, .int (nI (plN c oo v))), (0, .ref (b 0)), (1, .int (nI v))]) hx hb dX3_countLive_7 rfl hl (by decide) rfl (fun ls hl => ?_)
  refine lv_iconst (v := (0 : Int32)) hx hb dX3_countLive_8 (by decide) ?_
  refine lv_istore (lv' := [(4, .int (0 : Int32)), (3, .int (0 : Int32)), (2, .int (nI (plN c oo v))), (0, .ref (b 0)), (1, .int (nI v))]) hx hb dX3_countLive_9 hl (by decide) rfl (fun ls hl => ?_)
  have loop_11 : ∀ (k_11 i : Nat), i ≤ plN c oo v → plN c oo v < i + k_11 → ∀ (H : Heap) (locs : List Loc), va_P D vwCl (List.flatten [wS cI b (a 0) (a 1) (a 2) N rw nm bf fe, wT cI (b 1) (N + 1) (nF oo), wA cI cZ a c fr tt sa tk]) H → va_D A (List.flatten [wS cI b (a 0) (a 1) (a 2) N rw nm bf fe, wT cI (b 1) (N + 1) (nF oo), wA cI cZ a c fr tt sa tk]) → va_S A sz.heap H locs → ∀ (ls : Array Slot), lv_has ls 5 [(4, .int (nI i)), (3, .int (nI (cN i (atL c sa tk fr rw oo v)))), (2, .int (nI (plN c oo v))), (0, .ref (b 0)), (1, .int (nI v))] → W pz l ez (rM 3 66) sz mz [.ref (b 0), .int (nI v)].toArray bz tz cz H locs 0 0 (MQ bz (va_Qi (fun r (_ : Unit) => r = nI (cN (plN c oo v) (atL c sa tk fr rw oo v))) (fun u t => mAt D (tY cI cZ cL) A ((fun (_ : Unit) => [wS cI b (a 0) (a 1) (a 2) N rw nm bf fe, wT cI (b 1) (N + 1) (nF oo), wA cI cZ a c fr tt sa tk]) u) t) A) [.ref (b 0), .int (nI v)].toArray sz 0 0 A) (F0 mz 11 ls [])  := by
    intro k_11
    induction k_11 with
    | zero => intro i hi_11 hk_11; exact absurd hk_11 (by omega)
    | succ k_11 ih_11 =>
      intro i hi_11 hk_11 H locs hP hD hS ls hl
      refine lv_iload hx hb dX3_countLive_11 (lv_at hl 0 rfl) ?_
      refine lv_iload_n hx hb dX3_countLive_13 rfl (lv_at hl 2 rfl) ?_
      refine lv_icmp_ge (tgt := 43) hx hb dX3_countLive_14 (by decide) (fun c_14 => ?_) (fun c_14 => ?_)
      ·
        have n_14 : (plN c oo v) ≤ i := (nI_leI (a := plN c oo v) (b := i) (by omega) (by omega)).mp c_14
        refine lv_iload_n hx hb dX3_countLive_43 rfl (lv_at hl 1 rfl) ?_
        exact q_iret (()) hx hb hr hlocks hK hP hD hS (by rw [show i = plN c oo v by omega]) (rfl) dX3_countLive_44
      ·
        have n_14 : ¬ (plN c oo v) ≤ i := fun h9 => c_14 ((nI_leI (a := plN c oo v) (b := i) (by omega) (by omega)).mpr h9)
        refine lv_aload_n hx hb dX3_countLive_17 rfl (lv_at hl 3 rfl) ?_
        refine q_get (D := D) (ci := 3) (v := .ref (a 0)) (C := RX3) (T := TX3) (N := 8) hx hb hts (by decide +kernel) hown hK hP 0 0 rfl rfl rfl 0 (by decide) (hts (.fieldLink RX3 21 "OffsetRows$Side" "arcs" "LOffsetRows$ArcList;") (by decide +kernel)) (fun _ h9 => h9) rfl dX3_countLive_18 ?_
        refine lv_aload_n hx hb dX3_countLive_21 rfl (lv_at hl 3 rfl) ?_
        refine lv_iload_n hx hb dX3_countLive_22 rfl (lv_at hl 4 rfl) ?_
        refine lv_iload hx hb dX3_countLive_23 (lv_at hl 0 rfl) ?_
        refine q_callVi (index := 77) (n := 2) (As := [.int (nI v), .int (nI i)]) (rest := [.ref (a 0)]) (js := [0, 1, 2]) (ci := 3) ⟨hx, hb, hml, hown, hts⟩ hK hP hD hS hA (k3o_arcAt l D cI cZ cL b N rw nm bf fe a c fr tt sa tk oo v i (by omega) (by omega) (by omega) (by omega) (by omega) (by omega)) rfl (by decide) (fun _ => by simp only [List.map_cons, List.map_nil, wA_fst, wS_fst, wT_fst]) (fun (_ : Unit) => [wS cI b (a 0) (a 1) (a 2) N rw nm bf fe, wT cI (b 1) (N + 1) (nF oo), wA cI cZ a c fr tt sa tk]) (fun _ => rfl) gX3_countLive_X3_arcAt rfl (by decide +kernel) rfl ⟨by decide, by decide⟩ rfl rfl rfl rfl hl.1 (Nat.le_of_ble_eq_true rfl) ⟨(Nat.zero_le _), (Nat.zero_le _)⟩ dX3_countLive_25 rfl (fun r _ H locs hw hP hD hS => ?_)
        have hw : r = atV c sa fr rw oo v i := hw
        subst hw
        refine q_callVi (index := 81) (n := 1) (As := [.int (atV c sa fr rw oo v i)]) (rest := []) (js := [2]) (ci := 0) ⟨hx, hb, hml, hown, hts⟩ hK hP hD hS hA (k0_isLive l D cI cZ cL a c fr tt sa tk (atV c sa fr rw oo v i) (by omega)) rfl (by decide) (fun _ => by simp only [List.map_cons, List.map_nil, wA_fst]) (fun (_ : Unit) => [wS cI b (a 0) (a 1) (a 2) N rw nm bf fe, wT cI (b 1) (N + 1) (nF oo), wA cI cZ a c fr tt sa tk]) (fun _ => rfl) gX3_countLive_X0_isLive rfl (by decide +kernel) rfl ⟨by decide, by decide⟩ rfl rfl rfl rfl hl.1 (Nat.le_of_ble_eq_true rfl) ⟨(Nat.zero_le _), (Nat.zero_le _)⟩ dX3_countLive_28 rfl (fun r _ H locs hw hP hD hS => ?_)
        have hw : r = bI (isLv c sa tk (atV c sa fr rw oo v i)) := hw
        subst hw
        refine q_top (z := bI (atL c sa tk fr rw oo v i)) (rfl) ?_
        refine lv_if_eq (tgt := 37) hx hb dX3_countLive_31 (by decide) (fun c_31 => ?_) (fun c_31 => ?_)
        ·
          have n_31 : (atL c sa tk fr rw oo v i) = false := bI_0.mp c_31
          refine lv_iinc (v := nI (i + 1)) (lv' := [(4, .int (nI (i + 1))), (3, .int (nI (cN i (atL c sa tk fr rw oo v)))), (2, .int (nI (plN c oo v))), (0, .ref (b 0)), (1, .int (nI v))]) hx hb dX3_countLive_37 hl (k := 0) rfl (nI_add i 1) (by decide) rfl (fun ls hl => ?_)
          refine lv_goto (tgt := 11) hx hb dX3_countLive_40 (by decide) ?_
          have hl : lv_has ls 5 [(4, .int (nI (i + 1))), (3, .int (nI (cN i (atL c sa tk fr rw oo v)))), (2, .int (nI (plN c oo v))), (0, .ref (b 0)), (1, .int (nI v))] := lv_sub hl [0, 1, 2, 3, 4] rfl
          have hl : lv_has ls 5 [(4, .int (nI (i + 1))), (3, .int (nI (cN (i + 1) (atL c sa tk fr rw oo v)))), (2, .int (nI (plN c oo v))), (0, .ref (b 0)), (1, .int (nI v))] := by
            rw [← show nI (cN i (atL c sa tk fr rw oo v)) = nI (cN (i + 1) (atL c sa tk fr rw oo v)) from by first | rfl | simp [cN, c_14, n_14, n_31]]
            exact hl
          have hP : va_P D vwCl (List.flatten [wS cI b (a 0) (a 1) (a 2) N rw nm bf fe, wT cI (b 1) (N + 1) (nF oo), wA cI cZ a c fr tt sa tk]) _ := hP
          have hD : va_D A (List.flatten [wS cI b (a 0) (a 1) (a 2) N rw nm bf fe, wT cI (b 1) (N + 1) (nF oo), wA cI cZ a c fr tt sa tk]) := hD
          exact ih_11 (i + 1) (by omega) (by omega) _ _ hP hD hS _ hl
        ·
          have n_31 : (atL c sa tk fr rw oo v i) = true := bI_n.mp c_31
          refine lv_iinc (v := nI (cN i (atL c sa tk fr rw oo v) + 1)) (lv' := [(3, .int (nI (cN i (atL c sa tk fr rw oo v) + 1))), (4, .int (nI i)), (2, .int (nI (plN c oo v))), (0, .ref (b 0)), (1, .int (nI v))]) hx hb dX3_countLive_34 hl (k := 1) rfl (nI_add (cN i (atL c sa tk fr rw oo v)) 1) (by decide) rfl (fun ls hl => ?_)
          refine lv_iinc (v := nI (i + 1)) (lv' := [(4, .int (nI (i + 1))), (3, .int (nI (cN i (atL c sa tk fr rw oo v) + 1))), (2, .int (nI (plN c oo v))), (0, .ref (b 0)), (1, .int (nI v))]) hx hb dX3_countLive_37 hl (k := 1) rfl (nI_add i 1) (by decide) rfl (fun ls hl => ?_)
          refine lv_goto (tgt := 11) hx hb dX3_countLive_40 (by decide) ?_
          have hl : lv_has ls 5 [(4, .int (nI (i + 1))), (3, .int (nI (cN i (atL c sa tk fr rw oo v) + 1))), (2, .int (nI (plN c oo v))), (0, .ref (b 0)), (1, .int (nI v))] := lv_sub hl [0, 1, 2, 3, 4] rfl
          have hl : lv_has ls 5 [(4, .int (nI (i + 1))), (3, .int (nI (cN (i + 1) (atL c sa tk fr rw oo v)))), (2, .int (nI (plN c oo v))), (0, .ref (b 0)), (1, .int (nI v))] := by
            rw [← show nI (cN i (atL c sa tk fr rw oo v) + 1) = nI (cN (i + 1) (atL c sa tk fr rw oo v)) from by first | rfl | simp [cN, c_14, n_14, n_31]]
            exact hl
          have hP : va_P D vwCl (List.flatten [wS cI b (a 0) (a 1) (a 2) N rw nm bf fe, wT cI (b 1) (N + 1) (nF oo), wA cI cZ a c fr tt sa tk]) _ := hP
          have hD : va_D A (List.flatten [wS cI b (a 0) (a 1) (a 2) N rw nm bf fe, wT cI (b 1) (N + 1) (nF oo), wA cI cZ a c fr tt sa tk]) := hD
          exact ih_11 (i + 1) (by omega) (by omega) _ _ hP hD hS _ hl
  have hl : lv_has ls 5 [(4, .int (nI 0)), (3, .int (nI (cN 0 (atL c sa tk fr rw oo v)))), (2, .int (nI (plN c oo v))), (0, .ref (b 0)), (1, .int (nI v))] := lv_sub hl [0, 1, 2, 3, 4] rfl
  have hP : va_P D vwCl (List.flatten [wS cI b (a 0) (a 1) (a 2) N rw nm bf fe, wT cI (b 1) (N + 1) (nF oo), wA cI cZ a c fr tt sa tk]) _ := hP
  have hD : va_D A (List.flatten [wS cI b (a 0) (a 1) (a 2) N rw nm bf fe, wT cI (b 1) (N + 1) (nF oo), wA cI cZ a c fr tt sa tk]) := hD
  exact loop_11 ((plN c oo v) + 1) 0 (by omega) (by omega) _ _ hP hD hS _ hl

set_option maxHeartbeats 8000000 in
set_option maxRecDepth 100000 in
theorem k3o_liveArc (l : Launch) (D : va_G) (cI cZ cL : ClassId) (b : Nat → Nat) (N : Nat) (rw : Nat → Int32) (nm : Nat → Int32) (bf : Nat → Int32) (fe : Nat → Int32) (a : Nat → Nat) (c : Nat) (fr : Nat → Int32) (tt : Nat → Int32) (sa : Nat → Int32) (tk : Nat → Int32) (oo : Nat → Nat) (v : Nat) (k : Nat) (hc : c ≤ 160) (hN : N ≤ 24) (hv : v < N) (h1 : oo v ≤ oo (v + 1)) (h2 : oo (v + 1) ≤ 160) (hk : k < 2 ^ 31) : McI l D (tY cI cZ cL) yX3_liveArc wsX3_liveArc 3 66 [.ref (b 0), .int (nI v), .int (nI k)] ([wS cI b (a 0) (a 1) (a 2) N rw nm bf fe, wT cI (b 1) (N + 1) (nF oo), wA cI cZ a c fr tt sa tk]) (fun r (_ : Unit) => r = laR c sa tk fr rw oo v k) (fun (_ : Unit) => [wS cI b (a 0) (a 1) (a 2) N rw nm bf fe, wT cI (b 1) (N + 1) (nF oo), wA cI cZ a c fr tt sa tk]) := by
  refine q_ofW (Qc := fun A => (va_Qi (fun r (_ : Unit) => r = laR c sa tk fr rw oo v k) (fun u t => mAt D (tY cI cZ cL) A ((fun (_ : Unit) => [wS cI b (a 0) (a 1) (a 2) N rw nm bf fe, wT cI (b 1) (N + 1) (nF oo), wA cI cZ a c fr tt sa tk]) u) t) A)) (cc := cX3_liveArc) (maxL := 7) (ret := (some .int)) (by decide) rfl (Nat.le_of_ble_eq_true rfl) ?_
  intro pz ez sz mz bz tz cz hx hb hml hr hlocks hts hown hK hP A hD hA ls hl
  have hS : va_S A sz.heap sz.heap [] := va_S.rf
  have hl : lv_has ls 7 [(0, .ref (b 0)), (1, .int (nI v)), (2, .int (nI k))] := hl
  have hpl : plN c oo v ≤ 320 := by unfold plN; omega
  refine lv_aload_n hx hb dX3_liveArc_0 rfl (lv_at hl 0 rfl) ?_
  refine lv_iload_n hx hb dX3_liveArc_1 rfl (lv_at hl 1 rfl) ?_
  refine q_callVi (index := 74) (n := 1) (As := [.int (nI v)]) (rest := []) (js := [0, 1, 2]) (ci := 3) ⟨hx, hb, hml, hown, hts⟩ hK hP hD hS hA (k3o_countPlaces l D cI cZ cL b N rw nm bf fe a c fr tt sa tk oo v (by omega) (by omega) (by omega) (by omega) (by omega)) rfl (by decide) (fun _ => by simp only [List.map_cons, List.map_nil, wA_fst, wS_fst, wT_fst]) (fun (_ : Unit) => [wS cI b (a 0) (a 1) (a 2) N rw nm bf fe, wT cI (b 1) (N + 1) (nF oo), wA cI cZ a c fr tt sa tk]) (fun _ => rfl) gX3_liveArc_X3_countPlaces rfl (by decide +kernel) rfl ⟨by decide, by decide⟩ rfl rfl rfl rfl hl.1 (Nat.le_of_ble_eq_true rfl) ⟨(Nat.zero_le _), (Nat.zero_le _)⟩ dX3_liveArc_2 rfl (fun r _ H locs hw hP hD hS => ?_)
  have hw : r = nI (plN c oo v) := hw
  subst hw
  refine lv_istore_n (lv' := [(3, .int (nI (plN c oo v))), (0, .ref (b 0)), (1, .int (nI v)), (2, .int (nI k))]) hx hb dX3_liveArc_5 rfl hl (by decide) rfl (fun ls hl => ?_)
  refine lv_iconst (v := (0 : Int32)) hx hb dX3_liveArc_6 (by decide) ?_
  refine lv_istore (lv' := [(4, .int (0 : Int32)), (3, .int (nI (plN c oo v))), (0, .ref (b 0)), (1, .int (nI v)), (2, .int (nI k))]) hx hb dX3_liveArc_7 hl (by decide) rfl (fun ls hl => ?_)
  refine lv_iconst (v := (0 : Int32)) hx hb dX3_liveArc_9 (by decide) ?_
  refine lv_istore (lv' := [(5, .int (0 : Int32)), (4, .int (0 : Int32)), (3, .int (nI (plN c oo v))), (0, .ref (b 0)), (1, .int (nI v)), (2, .int (nI k))]) hx hb dX3_liveArc_10 hl (by decide) rfl (fun ls hl => ?_)
  have loop_12 : ∀ (k_12 i : Nat), i ≤ plN c oo v → plN c oo v < i + k_12 → (laR c sa tk fr rw oo v k = fsv (laB c sa tk fr rw oo v k) (atV c sa fr rw oo v) (plN c oo v - i) i) → ∀ (H : Heap) (locs : List Loc), va_P D vwCl (List.flatten [wS cI b (a 0) (a 1) (a 2) N rw nm bf fe, wT cI (b 1) (N + 1) (nF oo), wA cI cZ a c fr tt sa tk]) H → va_D A (List.flatten [wS cI b (a 0) (a 1) (a 2) N rw nm bf fe, wT cI (b 1) (N + 1) (nF oo), wA cI cZ a c fr tt sa tk]) → va_S A sz.heap H locs → ∀ (ls : Array Slot), lv_has ls 7 [(5, .int (nI i)), (4, .int (nI (cN i (atL c sa tk fr rw oo v)))), (3, .int (nI (plN c oo v))), (0, .ref (b 0)), (1, .int (nI v)), (2, .int (nI k))] → W pz l ez (rM 3 66) sz mz [.ref (b 0), .int (nI v), .int (nI k)].toArray bz tz cz H locs 0 0 (MQ bz (va_Qi (fun r (_ : Unit) => r = laR c sa tk fr rw oo v k) (fun u t => mAt D (tY cI cZ cL) A ((fun (_ : Unit) => [wS cI b (a 0) (a 1) (a 2) N rw nm bf fe, wT cI (b 1) (N + 1) (nF oo), wA cI cZ a c fr tt sa tk]) u) t) A) [.ref (b 0), .int (nI v), .int (nI k)].toArray sz 0 0 A) (F0 mz 12 ls [])  := by
    intro k_12
    induction k_12 with
    | zero => intro i hi_12 hk_12; exact absurd hk_12 (by omega)
    | succ k_12 ih_12 =>
      intro i hi_12 hk_12 hinv H locs hP hD hS ls hl
      refine lv_iload hx hb dX3_liveArc_12 (lv_at hl 0 rfl) ?_
      refine lv_iload_n hx hb dX3_liveArc_14 rfl (lv_at hl 2 rfl) ?_
      refine lv_icmp_ge (tgt := 57) hx hb dX3_liveArc_15 (by decide) (fun c_15 => ?_) (fun c_15 => ?_)
      ·
        have n_15 : (plN c oo v) ≤ i := (nI_leI (a := plN c oo v) (b := i) (by omega) (by omega)).mp c_15
        refine lv_iconst (v := (-1)) hx hb dX3_liveArc_57 (by decide) ?_
        exact q_iret (()) hx hb hr hlocks hK hP hD hS (by rw [hinv, fsv_end (by omega)]) (rfl) dX3_liveArc_58
      ·
        have n_15 : ¬ (plN c oo v) ≤ i := fun h9 => c_15 ((nI_leI (a := plN c oo v) (b := i) (by omega) (by omega)).mpr h9)
        refine lv_aload_n hx hb dX3_liveArc_18 rfl (lv_at hl 3 rfl) ?_
        refine lv_iload_n hx hb dX3_liveArc_19 rfl (lv_at hl 4 rfl) ?_
        refine lv_iload hx hb dX3_liveArc_20 (lv_at hl 0 rfl) ?_
        refine q_callVi (index := 77) (n := 2) (As := [.int (nI v), .int (nI i)]) (rest := []) (js := [0, 1, 2]) (ci := 3) ⟨hx, hb, hml, hown, hts⟩ hK hP hD hS hA (k3o_arcAt l D cI cZ cL b N rw nm bf fe a c fr tt sa tk oo v i (by omega) (by omega) (by omega) (by omega) (by omega) (by omega)) rfl (by decide) (fun _ => by simp only [List.map_cons, List.map_nil, wA_fst, wS_fst, wT_fst]) (fun (_ : Unit) => [wS cI b (a 0) (a 1) (a 2) N rw nm bf fe, wT cI (b 1) (N + 1) (nF oo), wA cI cZ a c fr tt sa tk]) (fun _ => rfl) gX3_liveArc_X3_arcAt rfl (by decide +kernel) rfl ⟨by decide, by decide⟩ rfl rfl rfl rfl hl.1 (Nat.le_of_ble_eq_true rfl) ⟨(Nat.zero_le _), (Nat.zero_le _)⟩ dX3_liveArc_22 rfl (fun r _ H locs hw hP hD hS => ?_)
        have hw : r = atV c sa fr rw oo v i := hw
        subst hw
        refine lv_istore (lv' := [(6, .int (atV c sa fr rw oo v i)), (5, .int (nI i)), (4, .int (nI (cN i (atL c sa tk fr rw oo v)))), (3, .int (nI (plN c oo v))), (0, .ref (b 0)), (1, .int (nI v)), (2, .int (nI k))]) hx hb dX3_liveArc_25 hl (by decide) rfl (fun ls hl => ?_)
        refine lv_aload_n hx hb dX3_liveArc_27 rfl (lv_at hl 4 rfl) ?_
        refine q_get (D := D) (ci := 3) (v := .ref (a 0)) (C := RX3) (T := TX3) (N := 8) hx hb hts (by decide +kernel) hown hK hP 0 0 rfl rfl rfl 0 (by decide) (hts (.fieldLink RX3 21 "OffsetRows$Side" "arcs" "LOffsetRows$ArcList;") (by decide +kernel)) (fun _ h9 => h9) rfl dX3_liveArc_28 ?_
        refine lv_iload hx hb dX3_liveArc_31 (lv_at hl 0 rfl) ?_
        refine q_callVi (index := 81) (n := 1) (As := [.int (atV c sa fr rw oo v i)]) (rest := []) (js := [2]) (ci := 0) ⟨hx, hb, hml, hown, hts⟩ hK hP hD hS hA (k0_isLive l D cI cZ cL a c fr tt sa tk (atV c sa fr rw oo v i) (by omega)) rfl (by decide) (fun _ => by simp only [List.map_cons, List.map_nil, wA_fst]) (fun (_ : Unit) => [wS cI b (a 0) (a 1) (a 2) N rw nm bf fe, wT cI (b 1) (N + 1) (nF oo), wA cI cZ a c fr tt sa tk]) (fun _ => rfl) gX3_liveArc_X0_isLive rfl (by decide +kernel) rfl ⟨by decide, by decide⟩ rfl rfl rfl rfl hl.1 (Nat.le_of_ble_eq_true rfl) ⟨(Nat.zero_le _), (Nat.zero_le _)⟩ dX3_liveArc_33 rfl (fun r _ H locs hw hP hD hS => ?_)
        have hw : r = bI (isLv c sa tk (atV c sa fr rw oo v i)) := hw
        subst hw
        refine q_top (z := bI (atL c sa tk fr rw oo v i)) (rfl) ?_
        refine lv_if_eq (tgt := 51) hx hb dX3_liveArc_36 (by decide) (fun c_36 => ?_) (fun c_36 => ?_)
        ·
          have n_36 : (atL c sa tk fr rw oo v i) = false := bI_0.mp c_36
          refine lv_iinc (v := nI (i + 1)) (lv' := [(5, .int (nI (i + 1))), (6, .int (atV c sa fr rw oo v i)), (4, .int (nI (cN i (atL c sa tk fr rw oo v)))), (3, .int (nI (plN c oo v))), (0, .ref (b 0)), (1, .int (nI v)), (2, .int (nI k))]) hx hb dX3_liveArc_51 hl (k := 1) rfl (nI_add i 1) (by decide) rfl (fun ls hl => ?_)
          refine lv_goto (tgt := 12) hx hb dX3_liveArc_54 (by decide) ?_
          have hl : lv_has ls 7 [(5, .int (nI (i + 1))), (4, .int (nI (cN i (atL c sa tk fr rw oo v)))), (3, .int (nI (plN c oo v))), (0, .ref (b 0)), (1, .int (nI v)), (2, .int (nI k))] := lv_sub hl [0, 2, 3, 4, 5, 6] rfl
          have hl : lv_has ls 7 [(5, .int (nI (i + 1))), (4, .int (nI (cN (i + 1) (atL c sa tk fr rw oo v)))), (3, .int (nI (plN c oo v))), (0, .ref (b 0)), (1, .int (nI v)), (2, .int (nI k))] := by
            rw [← show nI (cN i (atL c sa tk fr rw oo v)) = nI (cN (i + 1) (atL c sa tk fr rw oo v)) from by first | rfl | simp [cN, hinv, c_15, n_15, n_36]]
            exact hl
          have hP : va_P D vwCl (List.flatten [wS cI b (a 0) (a 1) (a 2) N rw nm bf fe, wT cI (b 1) (N + 1) (nF oo), wA cI cZ a c fr tt sa tk]) _ := hP
          have hD : va_D A (List.flatten [wS cI b (a 0) (a 1) (a 2) N rw nm bf fe, wT cI (b 1) (N + 1) (nF oo), wA cI cZ a c fr tt sa tk]) := hD
          exact ih_12 (i + 1) (by omega) (by omega) (hinv.trans (fsv_no (by omega) (by simp [laB, n_36]))) _ _ hP hD hS _ hl
        ·
          have n_36 : (atL c sa tk fr rw oo v i) = true := bI_n.mp c_36
          refine lv_iload hx hb dX3_liveArc_39 (lv_at hl 2 rfl) ?_
          refine lv_iload_n hx hb dX3_liveArc_41 rfl (lv_at hl 6 rfl) ?_
          have hcn := cN_le i (atL c sa tk fr rw oo v)
          refine lv_icmp_ne (tgt := 48) hx hb dX3_liveArc_42 (by decide) (fun c_42 => ?_) (fun c_42 => ?_)
          ·
            have n_42 : ¬ (cN i (atL c sa tk fr rw oo v)) = k := fun h9 => c_42 ((nI_eq (a := cN i (atL c sa tk fr rw oo v)) (b := k) (by omega) (by omega)).mpr h9)
            refine lv_iinc (v := nI (cN i (atL c sa tk fr rw oo v) + 1)) (lv' := [(4, .int (nI (cN i (atL c sa tk fr rw oo v) + 1))), (6, .int (atV c sa fr rw oo v i)), (5, .int (nI i)), (3, .int (nI (plN c oo v))), (0, .ref (b 0)), (1, .int (nI v)), (2, .int (nI k))]) hx hb dX3_liveArc_48 hl (k := 2) rfl (nI_add (cN i (atL c sa tk fr rw oo v)) 1) (by decide) rfl (fun ls hl => ?_)
            refine lv_iinc (v := nI (i + 1)) (lv' := [(5, .int (nI (i + 1))), (4, .int (nI (cN i (atL c sa tk fr rw oo v) + 1))), (6, .int (atV c sa fr rw oo v i)), (3, .int (nI (plN c oo v))), (0, .ref (b 0)), (1, .int (nI v)), (2, .int (nI k))]) hx hb dX3_liveArc_51 hl (k := 2) rfl (nI_add i 1) (by decide) rfl (fun ls hl => ?_)
            refine lv_goto (tgt := 12) hx hb dX3_liveArc_54 (by decide) ?_
            have hl : lv_has ls 7 [(5, .int (nI (i + 1))), (4, .int (nI (cN i (atL c sa tk fr rw oo v) + 1))), (3, .int (nI (plN c oo v))), (0, .ref (b 0)), (1, .int (nI v)), (2, .int (nI k))] := lv_sub hl [0, 1, 3, 4, 5, 6] rfl
            have hl : lv_has ls 7 [(5, .int (nI (i + 1))), (4, .int (nI (cN (i + 1) (atL c sa tk fr rw oo v)))), (3, .int (nI (plN c oo v))), (0, .ref (b 0)), (1, .int (nI v)), (2, .int (nI k))] := by
              rw [← show nI (cN i (atL c sa tk fr rw oo v) + 1) = nI (cN (i + 1) (atL c sa tk fr rw oo v)) from by first | rfl | simp [cN, hinv, c_15, n_15, n_36, c_42, n_42]]
              exact hl
            have hP : va_P D vwCl (List.flatten [wS cI b (a 0) (a 1) (a 2) N rw nm bf fe, wT cI (b 1) (N + 1) (nF oo), wA cI cZ a c fr tt sa tk]) _ := hP
            have hD : va_D A (List.flatten [wS cI b (a 0) (a 1) (a 2) N rw nm bf fe, wT cI (b 1) (N + 1) (nF oo), wA cI cZ a c fr tt sa tk]) := hD
            exact ih_12 (i + 1) (by omega) (by omega) (hinv.trans (fsv_no (by omega) (by simp [laB, n_42]))) _ _ hP hD hS _ hl
          ·
            have n_42 : (cN i (atL c sa tk fr rw oo v)) = k := (nI_eq (a := cN i (atL c sa tk fr rw oo v)) (b := k) (by omega) (by omega)).mp c_42
            refine lv_iload hx hb dX3_liveArc_45 (lv_at hl 0 rfl) ?_
            exact q_iret (()) hx hb hr hlocks hK hP hD hS (by rw [hinv, fsv_yes (by omega) (by simp [laB, n_36, n_42])]) (rfl) dX3_liveArc_47
  have hl : lv_has ls 7 [(5, .int (nI 0)), (4, .int (nI (cN 0 (atL c sa tk fr rw oo v)))), (3, .int (nI (plN c oo v))), (0, .ref (b 0)), (1, .int (nI v)), (2, .int (nI k))] := lv_sub hl [0, 1, 2, 3, 4, 5] rfl
  have hP : va_P D vwCl (List.flatten [wS cI b (a 0) (a 1) (a 2) N rw nm bf fe, wT cI (b 1) (N + 1) (nF oo), wA cI cZ a c fr tt sa tk]) _ := hP
  have hD : va_D A (List.flatten [wS cI b (a 0) (a 1) (a 2) N rw nm bf fe, wT cI (b 1) (N + 1) (nF oo), wA cI cZ a c fr tt sa tk]) := hD
  exact loop_12 ((plN c oo v) + 1) 0 (by omega) (by omega) rfl _ _ hP hD hS _ hl

set_option maxHeartbeats 8000000 in
set_option maxRecDepth 100000 in
theorem k3o_listBuilt (l : Launch) (D : va_G) (cI cZ cL : ClassId) (b : Nat → Nat) (N : Nat) (rw : Nat → Int32) (nm : Nat → Int32) (bf : Nat → Int32) (fe : Nat → Int32) (of : Nat → Int32) (a : Nat → Nat) (c : Nat) (fr : Nat → Int32) (tt : Nat → Int32) (sa : Nat → Int32) (tk : Nat → Int32) (hc : c ≤ 160) : McI l D (tY cI cZ cL) yX3_listBuilt wsX3_listBuilt 0 0 [.ref (b 0)] ([wS cI b (a 0) (a 1) (a 2) N rw nm bf fe, wT cI (b 1) (N + 1) of, wA cI cZ a c fr tt sa tk]) (fun r (_ : Unit) => r = nI (cN c (stB sa 1))) (fun (_ : Unit) => [wS cI b (a 0) (a 1) (a 2) N rw (pkG (stB sa 1) nI nm c) bf fe, wT cI (b 1) (N + 1) of, wA cI cZ a c fr tt sa tk]) := by
  refine q_ofW (Qc := fun A => (va_Qi (fun r (_ : Unit) => r = nI (cN c (stB sa 1))) (fun u t => mAt D (tY cI cZ cL) A ((fun (_ : Unit) => [wS cI b (a 0) (a 1) (a 2) N rw (pkG (stB sa 1) nI nm c) bf fe, wT cI (b 1) (N + 1) of, wA cI cZ a c fr tt sa tk]) u) t) A)) (cc := cX3_listBuilt) (maxL := 3) (ret := (some .int)) (by decide) rfl (Nat.le_of_ble_eq_true rfl) ?_
  intro pz ez sz mz bz tz cz hx hb hml hr hlocks hts hown hK hP A hD hA ls hl
  have hS : va_S A sz.heap sz.heap [] := va_S.rf
  have hl : lv_has ls 3 [(0, .ref (b 0))] := hl
  refine lv_iconst (v := (0 : Int32)) hx hb dX3_listBuilt_0 (by decide) ?_
  refine lv_istore_n (lv' := [(1, .int (0 : Int32)), (0, .ref (b 0))]) hx hb dX3_listBuilt_1 rfl hl (by decide) rfl (fun ls hl => ?_)
  refine lv_iconst (v := (0 : Int32)) hx hb dX3_listBuilt_2 (by decide) ?_
  refine lv_istore_n (lv' := [(2, .int (0 : Int32)), (1, .int (0 : Int32)), (0, .ref (b 0))]) hx hb dX3_listBuilt_3 rfl hl (by decide) rfl (fun ls hl => ?_)
  have loop_4 : ∀ (k_4 j : Nat), j ≤ c → c < j + k_4 → ∀ (H : Heap) (locs : List Loc), va_P D vwCl (List.flatten [wS cI b (a 0) (a 1) (a 2) N rw (pkG (stB sa 1) nI nm j) bf fe, wT cI (b 1) (N + 1) of, wA cI cZ a c fr tt sa tk]) H → va_D A (List.flatten [wS cI b (a 0) (a 1) (a 2) N rw (pkG (stB sa 1) nI nm j) bf fe, wT cI (b 1) (N + 1) of, wA cI cZ a c fr tt sa tk]) → va_S A sz.heap H locs → ∀ (ls : Array Slot), lv_has ls 3 [(2, .int (nI j)), (1, .int (nI (cN j (stB sa 1)))), (0, .ref (b 0))] → W pz l ez (rM 0 0) sz mz [.ref (b 0)].toArray bz tz cz H locs 0 0 (MQ bz (va_Qi (fun r (_ : Unit) => r = nI (cN c (stB sa 1))) (fun u t => mAt D (tY cI cZ cL) A ((fun (_ : Unit) => [wS cI b (a 0) (a 1) (a 2) N rw (pkG (stB sa 1) nI nm c) bf fe, wT cI (b 1) (N + 1) of, wA cI cZ a c fr tt sa tk]) u) t) A) [.ref (b 0)].toArray sz 0 0 A) (F0 mz 4 ls [])  := by
    intro k_4
    induction k_4 with
    | zero => intro j hi_4 hk_4; exact absurd hk_4 (by omega)
    | succ k_4 ih_4 =>
      intro j hi_4 hk_4 H locs hP hD hS ls hl
      refine lv_iload_n hx hb dX3_listBuilt_4 rfl (lv_at hl 0 rfl) ?_
      refine lv_aload_n hx hb dX3_listBuilt_5 rfl (lv_at hl 2 rfl) ?_
      refine q_get (D := D) (ci := 3) (v := .ref (a 0)) (C := RX3) (T := TX3) (N := 8) hx hb hts (by decide +kernel) hown hK hP 0 0 rfl rfl rfl 0 (by decide) (hts (.fieldLink RX3 21 "OffsetRows$Side" "arcs" "LOffsetRows$ArcList;") (by decide +kernel)) (fun _ h9 => h9) rfl dX3_listBuilt_6 ?_
      refine q_get (D := D) (ci := 0) (v := .int (nI c)) (C := RX0) (T := TX0) (N := 5) hx hb hts (by decide +kernel) hown hK hP 2 0 rfl rfl rfl 4 (by decide) (hts (.fieldLink RX3 45 "OffsetRows$ArcList" "count" "I") (by decide +kernel)) (fun _ h9 => h9) rfl dX3_listBuilt_9 ?_
      have hcn := cN_le j (stB sa 1)
      refine lv_icmp_ge (tgt := 44) hx hb dX3_listBuilt_12 (by decide) (fun c_12 => ?_) (fun c_12 => ?_)
      ·
        have n_12 : c ≤ j := (nI_leI (a := c) (b := j) (by omega) (by omega)).mp c_12
        refine lv_iload_n hx hb dX3_listBuilt_44 rfl (lv_at hl 1 rfl) ?_
        exact q_iret (()) hx hb hr hlocks hK hP hD hS (by rw [show j = c by omega]) (by rw [show j = c by omega]) dX3_listBuilt_45
      ·
        have n_12 : ¬ c ≤ j := fun h9 => c_12 ((nI_leI (a := c) (b := j) (by omega) (by omega)).mpr h9)
        refine lv_aload_n hx hb dX3_listBuilt_15 rfl (lv_at hl 2 rfl) ?_
        refine q_get (D := D) (ci := 3) (v := .ref (a 0)) (C := RX3) (T := TX3) (N := 8) hx hb hts (by decide +kernel) hown hK hP 0 0 rfl rfl rfl 0 (by decide) (hts (.fieldLink RX3 21 "OffsetRows$Side" "arcs" "LOffsetRows$ArcList;") (by decide +kernel)) (fun _ h9 => h9) rfl dX3_listBuilt_16 ?_
        refine q_get (D := D) (ci := 0) (v := .ref (a 3)) (C := RX0) (T := TX0) (N := 5) hx hb hts (by decide +kernel) hown hK hP 2 0 rfl rfl rfl 2 (by decide) (hts (.fieldLink RX3 51 "OffsetRows$ArcList" "state" "[I") (by decide +kernel)) (fun _ h9 => h9) rfl dX3_listBuilt_19 ?_
        refine lv_iload_n hx hb dX3_listBuilt_22 rfl (lv_at hl 0 rfl) ?_
        refine q_iald hx hb hK hP 2 3 0 rfl (f := sa) rfl rfl (k := j) (nI_clamp (n := j) (by omega)) (vp_in_nI (show j < 160 from by omega) (by omega)) dX3_listBuilt_23 ?_
        refine lv_iconst (v := (1 : Int32)) hx hb dX3_listBuilt_24 (by decide) ?_
        refine lv_icmp_ne (tgt := 38) hx hb dX3_listBuilt_25 (by decide) (fun c_25 => ?_) (fun c_25 => ?_)
        ·
          refine lv_iinc (v := nI (j + 1)) (lv' := [(2, .int (nI (j + 1))), (1, .int (nI (cN j (stB sa 1)))), (0, .ref (b 0))]) hx hb dX3_listBuilt_38 hl (k := 0) rfl (nI_add j 1) (by decide) rfl (fun ls hl => ?_)
          refine lv_goto (tgt := 4) hx hb dX3_listBuilt_41 (by decide) ?_
          have hl : lv_has ls 3 [(2, .int (nI (j + 1))), (1, .int (nI (cN j (stB sa 1)))), (0, .ref (b 0))] := lv_sub hl [0, 1, 2] rfl
          have hl : lv_has ls 3 [(2, .int (nI (j + 1))), (1, .int (nI (cN (j + 1) (stB sa 1)))), (0, .ref (b 0))] := by
            rw [← show nI (cN j (stB sa 1)) = nI (cN (j + 1) (stB sa 1)) from by first | rfl | simp [cN, stB, c_12, n_12, c_25]]
            exact hl
          have hq0 : pkG (stB sa 1) nI nm j = pkG (stB sa 1) nI nm (j + 1) := pkG_n (by simp [stB, c_25])
          have hP : va_P D vwCl (List.flatten [wS cI b (a 0) (a 1) (a 2) N rw (pkG (stB sa 1) nI nm (j + 1)) bf fe, wT cI (b 1) (N + 1) of, wA cI cZ a c fr tt sa tk]) _ := wCast hP (by rw [← hq0])
          have hD : va_D A (List.flatten [wS cI b (a 0) (a 1) (a 2) N rw (pkG (stB sa 1) nI nm (j + 1)) bf fe, wT cI (b 1) (N + 1) of, wA cI cZ a c fr tt sa tk]) := dCast hD (by rw [← hq0])
          exact ih_4 (j + 1) (by omega) (by omega) _ _ hP hD hS _ hl
        ·
          refine lv_aload_n hx hb dX3_listBuilt_28 rfl (lv_at hl 2 rfl) ?_
          refine q_get (D := D) (ci := 3) (v := .ref (b 3)) (C := RX3) (T := TX3) (N := 8) hx hb hts (by decide +kernel) hown hK hP 0 0 rfl rfl rfl 5 (by decide) (hts (.fieldLink RX3 15 "OffsetRows$Side" "numbers" "[I") (by decide +kernel)) (fun _ h9 => h9) rfl dX3_listBuilt_29 ?_
          refine lv_iload_n hx hb dX3_listBuilt_32 rfl (lv_at hl 1 rfl) ?_
          refine lv_iload_n hx hb dX3_listBuilt_33 rfl (lv_at hl 0 rfl) ?_
          refine q_iast hx hb hK hP hD hS 0 2 0 rfl (f := pkG (stB sa 1) nI nm j) rfl rfl (k := cN j (stB sa 1)) (nI_clamp (n := cN j (stB sa 1)) (by omega)) (vp_in_nI (show cN j (stB sa 1) < 160 from by omega) (by omega)) dX3_listBuilt_34 wS_s_nm (Fs' := [wS cI b (a 0) (a 1) (a 2) N rw (upd (pkG (stB sa 1) nI nm j) (cN j (stB sa 1)) (nI j)) bf fe, wT cI (b 1) (N + 1) of, wA cI cZ a c fr tt sa tk]) rfl (fun H locs hP hD hS => ?_)
          have hP : va_P D vwCl (List.flatten [wS cI b (a 0) (a 1) (a 2) N rw (pkG (stB sa 1) nI nm (j + 1)) bf fe, wT cI (b 1) (N + 1) of, wA cI cZ a c fr tt sa tk]) _ := wCast hP (by rw [show upd (pkG (stB sa 1) nI nm j) (cN j (stB sa 1)) (nI j) = pkG (stB sa 1) nI nm (j + 1) from pkG_y (by simp [stB, c_25]) rfl])
          have hD : va_D A (List.flatten [wS cI b (a 0) (a 1) (a 2) N rw (pkG (stB sa 1) nI nm (j + 1)) bf fe, wT cI (b 1) (N + 1) of, wA cI cZ a c fr tt sa tk]) := dCast hD (by rw [show upd (pkG (stB sa 1) nI nm j) (cN j (stB sa 1)) (nI j) = pkG (stB sa 1) nI nm (j + 1) from pkG_y (by simp [stB, c_25]) rfl])
          refine lv_iinc (v := nI (cN j (stB sa 1) + 1)) (lv' := [(1, .int (nI (cN j (stB sa 1) + 1))), (2, .int (nI j)), (0, .ref (b 0))]) hx hb dX3_listBuilt_35 hl (k := 1) rfl (nI_add (cN j (stB sa 1)) 1) (by decide) rfl (fun ls hl => ?_)
          refine lv_iinc (v := nI (j + 1)) (lv' := [(2, .int (nI (j + 1))), (1, .int (nI (cN j (stB sa 1) + 1))), (0, .ref (b 0))]) hx hb dX3_listBuilt_38 hl (k := 1) rfl (nI_add j 1) (by decide) rfl (fun ls hl => ?_)
          refine lv_goto (tgt := 4) hx hb dX3_listBuilt_41 (by decide) ?_
          have hl : lv_has ls 3 [(2, .int (nI (j + 1))), (1, .int (nI (cN j (stB sa 1) + 1))), (0, .ref (b 0))] := lv_sub hl [0, 1, 2] rfl
          have hl : lv_has ls 3 [(2, .int (nI (j + 1))), (1, .int (nI (cN (j + 1) (stB sa 1)))), (0, .ref (b 0))] := by
            rw [← show nI (cN j (stB sa 1) + 1) = nI (cN (j + 1) (stB sa 1)) from by first | rfl | simp [cN, stB, c_12, n_12, c_25]]
            exact hl
          have hP : va_P D vwCl (List.flatten [wS cI b (a 0) (a 1) (a 2) N rw (pkG (stB sa 1) nI nm (j + 1)) bf fe, wT cI (b 1) (N + 1) of, wA cI cZ a c fr tt sa tk]) _ := hP
          have hD : va_D A (List.flatten [wS cI b (a 0) (a 1) (a 2) N rw (pkG (stB sa 1) nI nm (j + 1)) bf fe, wT cI (b 1) (N + 1) of, wA cI cZ a c fr tt sa tk]) := hD
          exact ih_4 (j + 1) (by omega) (by omega) _ _ hP hD hS _ hl
  have hl : lv_has ls 3 [(2, .int (nI 0)), (1, .int (nI (cN 0 (stB sa 1)))), (0, .ref (b 0))] := lv_sub hl [0, 1, 2] rfl
  have hq0 : nm = pkG (stB sa 1) nI nm 0 := rfl
  have hP : va_P D vwCl (List.flatten [wS cI b (a 0) (a 1) (a 2) N rw (pkG (stB sa 1) nI nm 0) bf fe, wT cI (b 1) (N + 1) of, wA cI cZ a c fr tt sa tk]) _ := wCast hP (by rw [← hq0])
  have hD : va_D A (List.flatten [wS cI b (a 0) (a 1) (a 2) N rw (pkG (stB sa 1) nI nm 0) bf fe, wT cI (b 1) (N + 1) of, wA cI cZ a c fr tt sa tk]) := dCast hD (by rw [← hq0])
  exact loop_4 (c + 1) 0 (by omega) (by omega) _ _ hP hD hS _ hl

set_option maxHeartbeats 8000000 in
set_option maxRecDepth 100000 in
theorem k3o_sort1 (l : Launch) (D : va_G) (cI cZ cL : ClassId) (b : Nat → Nat) (N : Nat) (rw : Nat → Int32) (nm : Nat → Int32) (bf : Nat → Int32) (fe : Nat → Int32) (of : Nat → Int32) (a : Nat → Nat) (c : Nat) (fr : Nat → Int32) (tt : Nat → Int32) (sa : Nat → Int32) (tk : Nat → Int32) (n : Nat) (sn : Nat → Nat) (kk : Nat → Nat) (hN : N ≤ 24) (hn : n ≤ 160) (hs : ∀ i, i < n → nm i = nI (sn i) ∧ sn i < 160) (hk : ∀ i, i < n → tt (sn i) = nI (kk i) ∧ kk i < N) : McV l D (tY cI cZ cL) yX3_sortByCounting wsX3_sortByCounting 1 40 [.ref (b 0), .ref (b 3), .int (nI n), .ref (a 2), .ref (b 4)] ([wS cI b (a 0) (a 1) (a 2) N rw nm bf fe, wT cI (b 1) (N + 1) of, wA cI cZ a c fr tt sa tk]) (fun (_ : Unit) => True) (fun (_ : Unit) => [wS cI b (a 0) (a 1) (a 2) N rw nm (srF (rkN n kk) sn bf n) (nF (f3F n kk n)), wT cI (b 1) (N + 1) (nF (psN n kk)), wA cI cZ a c fr tt sa tk]) := by
  refine q_ofW (Qc := fun A => (va_Qv (fun (_ : Unit) => True) (fun u t => mAt D (tY cI cZ cL) A ((fun (_ : Unit) => [wS cI b (a 0) (a 1) (a 2) N rw nm (srF (rkN n kk) sn bf n) (nF (f3F n kk n)), wT cI (b 1) (N + 1) (nF (psN n kk)), wA cI cZ a c fr tt sa tk]) u) t) A)) (cc := cX3_sortByCounting) (maxL := 7) (ret := none) (by decide) rfl (Nat.le_of_ble_eq_true rfl) ?_
  intro pz ez sz mz bz tz cz hx hb hml hr hlocks hts hown hK hP A hD hA ls hl
  have hS : va_S A sz.heap sz.heap [] := va_S.rf
  have hl : lv_has ls 7 [(0, .ref (b 0)), (1, .ref (b 3)), (2, .int (nI n)), (3, .ref (a 2)), (4, .ref (b 4))] := hl
  refine lv_aload_n hx hb dX3_sortByCounting_0 rfl (lv_at hl 0 rfl) ?_
  refine q_get (D := D) (ci := 3) (v := .ref (b 1)) (C := RX3) (T := TX3) (N := 8) hx hb hts (by decide +kernel) hown hK hP 0 0 rfl rfl rfl 3 (by decide) (hts (.fieldLink RX3 31 "OffsetRows$Side" "offsets" "[I") (by decide +kernel)) (fun _ h9 => h9) rfl dX3_sortByCounting_1 ?_
  refine lv_iconst (v := (0 : Int32)) hx hb dX3_sortByCounting_4 (by decide) ?_
  refine q_callSv (index := 54) (n := 2) (As := [.ref (b 1), .int (0 : Int32)]) (rest := []) (js := [1]) ⟨hx, hb, hml, hown, hts⟩ hK hP hD hS hA (kJ_filli l D cI cZ cL (b 1) (N + 1) of (0 : Int32) (by omega)) rfl (by decide) (fun _ => by simp only [List.map_cons, List.map_nil, wT_fst]) (fun (_ : Unit) => [wS cI b (a 0) (a 1) (a 2) N rw nm bf fe, wT cI (b 1) (N + 1) (pfx (fun _ => (0 : Int32)) of (N + 1)), wA cI cZ a c fr tt sa tk]) (fun _ => rfl) gX3_sortByCounting_J7_fill_53178 rfl (by decide +kernel) rfl ⟨by decide, by decide⟩ hl.1 (Nat.le_of_ble_eq_true rfl) ⟨(Nat.zero_le _), (Nat.zero_le _)⟩ dX3_sortByCounting_5 rfl (fun _ H locs hw hP hD hS => ?_)
  have hP : va_P D vwCl (List.flatten [wS cI b (a 0) (a 1) (a 2) N rw nm bf fe, wT cI (b 1) (N + 1) (nF (o1F kk 0)), wA cI cZ a c fr tt sa tk]) _ := x_ext hP 1 0 rfl rfl (f := pfx (fun _ => (0 : Int32)) of (N + 1)) (g := nF (o1F kk 0)) (fun k h => by simp only [pfx, if_pos h]; rfl) wT_s_tr rfl
  have hD : va_D A (List.flatten [wS cI b (a 0) (a 1) (a 2) N rw nm bf fe, wT cI (b 1) (N + 1) (nF (o1F kk 0)), wA cI cZ a c fr tt sa tk]) := d_ext hD 1 0 rfl rfl (wT_s_tr (g9 := nF (o1F kk 0))) rfl
  refine lv_iconst (v := (0 : Int32)) hx hb dX3_sortByCounting_8 (by decide) ?_
  refine lv_istore (lv' := [(5, .int (0 : Int32)), (0, .ref (b 0)), (1, .ref (b 3)), (2, .int (nI n)), (3, .ref (a 2)), (4, .ref (b 4))]) hx hb dX3_sortByCounting_9 hl (by decide) rfl (fun ls hl => ?_)
  have loop_11 : ∀ (k_11 i : Nat), i ≤ n → n < i + k_11 → ∀ (H : Heap) (locs : List Loc), va_P D vwCl (List.flatten [wS cI b (a 0) (a 1) (a 2) N rw nm bf fe, wT cI (b 1) (N + 1) (nF (o1F kk i)), wA cI cZ a c fr tt sa tk]) H → va_D A (List.flatten [wS cI b (a 0) (a 1) (a 2) N rw nm bf fe, wT cI (b 1) (N + 1) (nF (o1F kk i)), wA cI cZ a c fr tt sa tk]) → va_S A sz.heap H locs → ∀ (ls : Array Slot), lv_has ls 7 [(5, .int (nI i)), (0, .ref (b 0)), (1, .ref (b 3)), (2, .int (nI n)), (3, .ref (a 2)), (4, .ref (b 4))] → W pz l ez (rM 1 40) sz mz [.ref (b 0), .ref (b 3), .int (nI n), .ref (a 2), .ref (b 4)].toArray bz tz cz H locs 0 0 (MQ bz (va_Qv (fun (_ : Unit) => True) (fun u t => mAt D (tY cI cZ cL) A ((fun (_ : Unit) => [wS cI b (a 0) (a 1) (a 2) N rw nm (srF (rkN n kk) sn bf n) (nF (f3F n kk n)), wT cI (b 1) (N + 1) (nF (psN n kk)), wA cI cZ a c fr tt sa tk]) u) t) A) [.ref (b 0), .ref (b 3), .int (nI n), .ref (a 2), .ref (b 4)].toArray sz 0 0 A) (F0 mz 11 ls [])  := by
    intro k_11
    induction k_11 with
    | zero => intro i hi_11 hk_11; exact absurd hk_11 (by omega)
    | succ k_11 ih_11 =>
      intro i hi_11 hk_11 H locs hP hD hS ls hl
      refine lv_iload hx hb dX3_sortByCounting_11 (lv_at hl 0 rfl) ?_
      refine lv_iload_n hx hb dX3_sortByCounting_13 rfl (lv_at hl 3 rfl) ?_
      refine lv_icmp_ge (tgt := 40) hx hb dX3_sortByCounting_14 (by decide) (fun c_14 => ?_) (fun c_14 => ?_)
      ·
        have n_14 : n ≤ i := (nI_leI (a := n) (b := i) (by omega) (by omega)).mp c_14
        refine lv_iconst (v := (1 : Int32)) hx hb dX3_sortByCounting_40 (by decide) ?_
        refine lv_istore (lv' := [(5, .int (1 : Int32)), (0, .ref (b 0)), (1, .ref (b 3)), (2, .int (nI n)), (3, .ref (a 2)), (4, .ref (b 4))]) hx hb dX3_sortByCounting_41 hl (by decide) rfl (fun ls hl => ?_)
        have loop_43 : ∀ (k_43 w : Nat), w ≤ N + 1 → N + 1 < w + k_43 → (1 ≤ w) → ∀ (H : Heap) (locs : List Loc), va_P D vwCl (List.flatten [wS cI b (a 0) (a 1) (a 2) N rw nm bf fe, wT cI (b 1) (N + 1) (nF (o2F n kk w)), wA cI cZ a c fr tt sa tk]) H → va_D A (List.flatten [wS cI b (a 0) (a 1) (a 2) N rw nm bf fe, wT cI (b 1) (N + 1) (nF (o2F n kk w)), wA cI cZ a c fr tt sa tk]) → va_S A sz.heap H locs → ∀ (ls : Array Slot), lv_has ls 7 [(5, .int (nI w)), (0, .ref (b 0)), (1, .ref (b 3)), (2, .int (nI n)), (3, .ref (a 2)), (4, .ref (b 4))] → W pz l ez (rM 1 40) sz mz [.ref (b 0), .ref (b 3), .int (nI n), .ref (a 2), .ref (b 4)].toArray bz tz cz H locs 0 0 (MQ bz (va_Qv (fun (_ : Unit) => True) (fun u t => mAt D (tY cI cZ cL) A ((fun (_ : Unit) => [wS cI b (a 0) (a 1) (a 2) N rw nm (srF (rkN n kk) sn bf n) (nF (f3F n kk n)), wT cI (b 1) (N + 1) (nF (psN n kk)), wA cI cZ a c fr tt sa tk]) u) t) A) [.ref (b 0), .ref (b 3), .int (nI n), .ref (a 2), .ref (b 4)].toArray sz 0 0 A) (F0 mz 43 ls [])  := by
          intro k_43
          induction k_43 with
          | zero => intro w hi_43 hk_43; exact absurd hk_43 (by omega)
          | succ k_43 ih_43 =>
            intro w hi_43 hk_43 hw1 H locs hP hD hS ls hl
            refine lv_iload hx hb dX3_sortByCounting_43 (lv_at hl 0 rfl) ?_
            refine lv_aload_n hx hb dX3_sortByCounting_45 rfl (lv_at hl 1 rfl) ?_
            refine q_get (D := D) (ci := 3) (v := .ref (b 1)) (C := RX3) (T := TX3) (N := 8) hx hb hts (by decide +kernel) hown hK hP 0 0 rfl rfl rfl 3 (by decide) (hts (.fieldLink RX3 31 "OffsetRows$Side" "offsets" "[I") (by decide +kernel)) (fun _ h9 => h9) rfl dX3_sortByCounting_46 ?_
            refine va_alen hx hb hK (fP hP (j := 1) rfl) 0 0 rfl rfl (v := nI (N + 1)) rfl dX3_sortByCounting_49 ?_
            refine lv_icmp_ge (tgt := 78) hx hb dX3_sortByCounting_50 (by decide) (fun c_50 => ?_) (fun c_50 => ?_)
            ·
              have n_50 : (N + 1) ≤ w := (nI_leI (a := N + 1) (b := w) (by omega) (by omega)).mp c_50
              refine lv_aload_n hx hb dX3_sortByCounting_78 rfl (lv_at hl 1 rfl) ?_
              refine q_get (D := D) (ci := 3) (v := .ref (b 1)) (C := RX3) (T := TX3) (N := 8) hx hb hts (by decide +kernel) hown hK hP 0 0 rfl rfl rfl 3 (by decide) (hts (.fieldLink RX3 31 "OffsetRows$Side" "offsets" "[I") (by decide +kernel)) (fun _ h9 => h9) rfl dX3_sortByCounting_79 ?_
              refine lv_iconst (v := (0 : Int32)) hx hb dX3_sortByCounting_82 (by decide) ?_
              refine lv_aload_n hx hb dX3_sortByCounting_83 rfl (lv_at hl 1 rfl) ?_
              refine q_get (D := D) (ci := 3) (v := .ref (b 5)) (C := RX3) (T := TX3) (N := 8) hx hb hts (by decide +kernel) hown hK hP 0 0 rfl rfl rfl 7 (by decide) (hts (.fieldLink RX3 34 "OffsetRows$Side" "free" "[I") (by decide +kernel)) (fun _ h9 => h9) rfl dX3_sortByCounting_84 ?_
              refine lv_iconst (v := (0 : Int32)) hx hb dX3_sortByCounting_87 (by decide) ?_
              refine lv_aload_n hx hb dX3_sortByCounting_88 rfl (lv_at hl 1 rfl) ?_
              refine q_get (D := D) (ci := 3) (v := .ref (b 1)) (C := RX3) (T := TX3) (N := 8) hx hb hts (by decide +kernel) hown hK hP 0 0 rfl rfl rfl 3 (by decide) (hts (.fieldLink RX3 31 "OffsetRows$Side" "offsets" "[I") (by decide +kernel)) (fun _ h9 => h9) rfl dX3_sortByCounting_89 ?_
              refine va_alen hx hb hK (fP hP (j := 1) rfl) 0 0 rfl rfl (v := nI (N + 1)) rfl dX3_sortByCounting_92 ?_
              refine q_copyi hx hb (hml.trans hl.1.symm) hown (hts (.methodLink RX3 60 arraycopyName) (by decide +kernel)) (hts (.native arraycopyName) (by decide +kernel)) (hts (.static arraycopyName) (by decide +kernel)) (hts (.initialized "java/lang/System") (by decide +kernel)) hK hP hD hS 1 0 0 4 0 rfl rfl rfl rfl rfl (k := N + 1) (nI_clamp (n := N + 1) (by omega)) (nI_pos (by omega)) (Nat.le_refl _) (Nat.le_refl _) (by decide) (by decide) dX3_sortByCounting_93 wS_s_fe (Fs' := [wS cI b (a 0) (a 1) (a 2) N rw nm bf (va_cpy (nF (o2F n kk w)) (fe) 0 0 (N + 1)), wT cI (b 1) (N + 1) (nF (o2F n kk w)), wA cI cZ a c fr tt sa tk]) rfl (fun H locs hP hD hS => ?_)
              have hP : va_P D vwCl (List.flatten [wS cI b (a 0) (a 1) (a 2) N rw nm bf (va_cpy (nF (o2F n kk w)) (fe) 0 0 (N + 1)), wT cI (b 1) (N + 1) (nF (psN n kk)), wA cI cZ a c fr tt sa tk]) _ := x_ext hP 1 0 rfl rfl (f := nF (o2F n kk w)) (g := nF (psN n kk)) (fun k h => by simp only [nF, psN, o2F, if_pos (show k < w by omega)]) wT_s_tr rfl
              have hD : va_D A (List.flatten [wS cI b (a 0) (a 1) (a 2) N rw nm bf (va_cpy (nF (o2F n kk w)) (fe) 0 0 (N + 1)), wT cI (b 1) (N + 1) (nF (psN n kk)), wA cI cZ a c fr tt sa tk]) := d_ext hD 1 0 rfl rfl (wT_s_tr (g9 := nF (psN n kk))) rfl
              have hP : va_P D vwCl (List.flatten [wS cI b (a 0) (a 1) (a 2) N rw nm bf (nF (f3F n kk 0)), wT cI (b 1) (N + 1) (nF (psN n kk)), wA cI cZ a c fr tt sa tk]) _ := x_ext hP 0 4 rfl rfl (f := va_cpy (nF (o2F n kk w)) (fe) 0 0 (N + 1)) (g := nF (f3F n kk 0)) (fun k h => by simp only [va_cpy, nF, o2F, f3F]; rw [if_pos (by omega), if_pos (show 0 + (k - 0) < w by omega)]; simp [cN]) wS_s_fe rfl
              have hD : va_D A (List.flatten [wS cI b (a 0) (a 1) (a 2) N rw nm bf (nF (f3F n kk 0)), wT cI (b 1) (N + 1) (nF (psN n kk)), wA cI cZ a c fr tt sa tk]) := d_ext hD 0 4 rfl rfl (wS_s_fe (g9 := nF (f3F n kk 0))) rfl
              refine lv_iconst (v := (0 : Int32)) hx hb dX3_sortByCounting_96 (by decide) ?_
              refine lv_istore (lv' := [(5, .int (0 : Int32)), (0, .ref (b 0)), (1, .ref (b 3)), (2, .int (nI n)), (3, .ref (a 2)), (4, .ref (b 4))]) hx hb dX3_sortByCounting_97 hl (by decide) rfl (fun ls hl => ?_)
              have loop_99 : ∀ (k_99 t : Nat), t ≤ n → n < t + k_99 → ∀ (H : Heap) (locs : List Loc), va_P D vwCl (List.flatten [wS cI b (a 0) (a 1) (a 2) N rw nm (srF (rkN n kk) sn bf t) (nF (f3F n kk t)), wT cI (b 1) (N + 1) (nF (psN n kk)), wA cI cZ a c fr tt sa tk]) H → va_D A (List.flatten [wS cI b (a 0) (a 1) (a 2) N rw nm (srF (rkN n kk) sn bf t) (nF (f3F n kk t)), wT cI (b 1) (N + 1) (nF (psN n kk)), wA cI cZ a c fr tt sa tk]) → va_S A sz.heap H locs → ∀ (ls : Array Slot), lv_has ls 7 [(5, .int (nI t)), (0, .ref (b 0)), (1, .ref (b 3)), (2, .int (nI n)), (3, .ref (a 2)), (4, .ref (b 4))] → W pz l ez (rM 1 40) sz mz [.ref (b 0), .ref (b 3), .int (nI n), .ref (a 2), .ref (b 4)].toArray bz tz cz H locs 0 0 (MQ bz (va_Qv (fun (_ : Unit) => True) (fun u t => mAt D (tY cI cZ cL) A ((fun (_ : Unit) => [wS cI b (a 0) (a 1) (a 2) N rw nm (srF (rkN n kk) sn bf n) (nF (f3F n kk n)), wT cI (b 1) (N + 1) (nF (psN n kk)), wA cI cZ a c fr tt sa tk]) u) t) A) [.ref (b 0), .ref (b 3), .int (nI n), .ref (a 2), .ref (b 4)].toArray sz 0 0 A) (F0 mz 99 ls [])  := by
                intro k_99
                induction k_99 with
                | zero => intro t hi_99 hk_99; exact absurd hk_99 (by omega)
                | succ k_99 ih_99 =>
                  intro t hi_99 hk_99 H locs hP hD hS ls hl
                  refine lv_iload hx hb dX3_sortByCounting_99 (lv_at hl 0 rfl) ?_
                  refine lv_iload_n hx hb dX3_sortByCounting_101 rfl (lv_at hl 3 rfl) ?_
                  refine lv_icmp_ge (tgt := 144) hx hb dX3_sortByCounting_102 (by decide) (fun c_102 => ?_) (fun c_102 => ?_)
                  ·
                    have n_102 : n ≤ t := (nI_leI (a := n) (b := t) (by omega) (by omega)).mp c_102
                    exact q_vret (()) hx hb hr hlocks hK hP hD hS (trivial) (by rw [show t = n by omega]) dX3_sortByCounting_144
                  ·
                    have n_102 : ¬ n ≤ t := fun h9 => c_102 ((nI_leI (a := n) (b := t) (by omega) (by omega)).mpr h9)
                    refine lv_aload_n hx hb dX3_sortByCounting_105 rfl (lv_at hl 4 rfl) ?_
                    refine lv_aload_n hx hb dX3_sortByCounting_106 rfl (lv_at hl 2 rfl) ?_
                    refine lv_iload hx hb dX3_sortByCounting_107 (lv_at hl 0 rfl) ?_
                    refine q_iald hx hb hK hP 0 2 0 rfl (f := nm) rfl rfl (k := t) (nI_clamp (n := t) (by omega)) (vp_in_nI (show t < 160 from by omega) (by omega)) dX3_sortByCounting_109 ?_
                    refine q_top (z := nI (sn t)) ((hs t (by omega)).1) ?_
                    have hs9 := (hs t (by omega)).2
                    refine q_iald hx hb hK hP 2 2 0 rfl (f := tt) rfl rfl (k := sn t) (nI_clamp (n := sn t) (by omega)) (vp_in_nI (show sn t < 160 from by omega) (by omega)) dX3_sortByCounting_110 ?_
                    refine q_top (z := nI (kk t)) ((hk t (by omega)).1) ?_
                    have hk9 := (hk t (by omega)).2
                    have hr9 := rk_lt (n := n) (i := t) (kk := kk) (by omega)
                    refine lv_istore (lv' := [(6, .int (nI (kk t))), (5, .int (nI t)), (0, .ref (b 0)), (1, .ref (b 3)), (2, .int (nI n)), (3, .ref (a 2)), (4, .ref (b 4))]) hx hb dX3_sortByCounting_111 hl (by decide) rfl (fun ls hl => ?_)
                    refine lv_aload hx hb dX3_sortByCounting_113 (lv_at hl 6 rfl) ?_
                    refine lv_aload_n hx hb dX3_sortByCounting_115 rfl (lv_at hl 2 rfl) ?_
                    refine q_get (D := D) (ci := 3) (v := .ref (b 5)) (C := RX3) (T := TX3) (N := 8) hx hb hts (by decide +kernel) hown hK hP 0 0 rfl rfl rfl 7 (by decide) (hts (.fieldLink RX3 34 "OffsetRows$Side" "free" "[I") (by decide +kernel)) (fun _ h9 => h9) rfl dX3_sortByCounting_116 ?_
                    refine lv_iload hx hb dX3_sortByCounting_119 (lv_at hl 0 rfl) ?_
                    refine q_iald hx hb hK hP 0 4 0 rfl (f := nF (f3F n kk t)) rfl rfl (k := kk t) (nI_clamp (n := kk t) (by omega)) (vp_in_nI (show kk t < N + 1 from by omega) (by omega)) dX3_sortByCounting_121 ?_
                    refine q_top (z := nI (rkN n kk t)) (rfl) ?_
                    refine lv_aload_n hx hb dX3_sortByCounting_122 rfl (lv_at hl 3 rfl) ?_
                    refine lv_iload hx hb dX3_sortByCounting_123 (lv_at hl 1 rfl) ?_
                    refine q_iald hx hb hK hP 0 2 0 rfl (f := nm) rfl rfl (k := t) (nI_clamp (n := t) (by omega)) (vp_in_nI (show t < 160 from by omega) (by omega)) dX3_sortByCounting_125 ?_
                    refine q_top (z := nI (sn t)) ((hs t (by omega)).1) ?_
                    refine q_iast hx hb hK hP hD hS 0 3 0 rfl (f := srF (rkN n kk) sn bf t) rfl rfl (k := rkN n kk t) (nI_clamp (n := rkN n kk t) (by omega)) (vp_in_nI (show rkN n kk t < 160 from by omega) (by omega)) dX3_sortByCounting_126 wS_s_bf (Fs' := [wS cI b (a 0) (a 1) (a 2) N rw nm (upd (srF (rkN n kk) sn bf t) (rkN n kk t) (nI (sn t))) (nF (f3F n kk t)), wT cI (b 1) (N + 1) (nF (psN n kk)), wA cI cZ a c fr tt sa tk]) rfl (fun H locs hP hD hS => ?_)
                    have hP : va_P D vwCl (List.flatten [wS cI b (a 0) (a 1) (a 2) N rw nm (srF (rkN n kk) sn bf (t + 1)) (nF (f3F n kk t)), wT cI (b 1) (N + 1) (nF (psN n kk)), wA cI cZ a c fr tt sa tk]) _ := wCast hP (by rw [show upd (srF (rkN n kk) sn bf t) (rkN n kk t) (nI (sn t)) = srF (rkN n kk) sn bf (t + 1) from rfl])
                    have hD : va_D A (List.flatten [wS cI b (a 0) (a 1) (a 2) N rw nm (srF (rkN n kk) sn bf (t + 1)) (nF (f3F n kk t)), wT cI (b 1) (N + 1) (nF (psN n kk)), wA cI cZ a c fr tt sa tk]) := dCast hD (by rw [show upd (srF (rkN n kk) sn bf t) (rkN n kk t) (nI (sn t)) = srF (rkN n kk) sn bf (t + 1) from rfl])
                    refine lv_aload_n hx hb dX3_sortByCounting_127 rfl (lv_at hl 2 rfl) ?_
                    refine q_get (D := D) (ci := 3) (v := .ref (b 5)) (C := RX3) (T := TX3) (N := 8) hx hb hts (by decide +kernel) hown hK hP 0 0 rfl rfl rfl 7 (by decide) (hts (.fieldLink RX3 34 "OffsetRows$Side" "free" "[I") (by decide +kernel)) (fun _ h9 => h9) rfl dX3_sortByCounting_128 ?_
                    refine lv_iload hx hb dX3_sortByCounting_131 (lv_at hl 0 rfl) ?_
                    refine lv_dup2_11 hx hb dX3_sortByCounting_133 rfl rfl ?_
                    refine q_iald hx hb hK hP 0 4 0 rfl (f := nF (f3F n kk t)) rfl rfl (k := kk t) (nI_clamp (n := kk t) (by omega)) (vp_in_nI (show kk t < N + 1 from by omega) (by omega)) dX3_sortByCounting_134 ?_
                    refine q_top (z := nI (f3F n kk t (kk t))) (rfl) ?_
                    refine lv_iconst (v := (1 : Int32)) hx hb dX3_sortByCounting_135 (by decide) ?_
                    refine q_iadd (z := nI (f3F n kk t (kk t) + 1)) hx hb dX3_sortByCounting_136 (nI_add (f3F n kk t (kk t)) 1) ?_
                    refine q_iast hx hb hK hP hD hS 0 4 0 rfl (f := nF (f3F n kk t)) rfl rfl (k := kk t) (nI_clamp (n := kk t) (by omega)) (vp_in_nI (show kk t < N + 1 from by omega) (by omega)) dX3_sortByCounting_137 wS_s_fe (Fs' := [wS cI b (a 0) (a 1) (a 2) N rw nm (srF (rkN n kk) sn bf (t + 1)) (upd (nF (f3F n kk t)) (kk t) (nI (f3F n kk t (kk t) + 1))), wT cI (b 1) (N + 1) (nF (psN n kk)), wA cI cZ a c fr tt sa tk]) rfl (fun H locs hP hD hS => ?_)
                    have hP : va_P D vwCl (List.flatten [wS cI b (a 0) (a 1) (a 2) N rw nm (srF (rkN n kk) sn bf (t + 1)) (nF (f3F n kk (t + 1))), wT cI (b 1) (N + 1) (nF (psN n kk)), wA cI cZ a c fr tt sa tk]) _ := wCast hP (by rw [show upd (nF (f3F n kk t)) (kk t) (nI (f3F n kk t (kk t) + 1)) = nF (f3F n kk (t + 1)) from f3_w])
                    have hD : va_D A (List.flatten [wS cI b (a 0) (a 1) (a 2) N rw nm (srF (rkN n kk) sn bf (t + 1)) (nF (f3F n kk (t + 1))), wT cI (b 1) (N + 1) (nF (psN n kk)), wA cI cZ a c fr tt sa tk]) := dCast hD (by rw [show upd (nF (f3F n kk t)) (kk t) (nI (f3F n kk t (kk t) + 1)) = nF (f3F n kk (t + 1)) from f3_w])
                    refine lv_iinc (v := nI (t + 1)) (lv' := [(5, .int (nI (t + 1))), (6, .int (nI (kk t))), (0, .ref (b 0)), (1, .ref (b 3)), (2, .int (nI n)), (3, .ref (a 2)), (4, .ref (b 4))]) hx hb dX3_sortByCounting_138 hl (k := 1) rfl (nI_add t 1) (by decide) rfl (fun ls hl => ?_)
                    refine lv_goto (tgt := 99) hx hb dX3_sortByCounting_141 (by decide) ?_
                    have hl : lv_has ls 7 [(5, .int (nI (t + 1))), (0, .ref (b 0)), (1, .ref (b 3)), (2, .int (nI n)), (3, .ref (a 2)), (4, .ref (b 4))] := lv_sub hl [0, 2, 3, 4, 5, 6] rfl
                    have hP : va_P D vwCl (List.flatten [wS cI b (a 0) (a 1) (a 2) N rw nm (srF (rkN n kk) sn bf (t + 1)) (nF (f3F n kk (t + 1))), wT cI (b 1) (N + 1) (nF (psN n kk)), wA cI cZ a c fr tt sa tk]) _ := hP
                    have hD : va_D A (List.flatten [wS cI b (a 0) (a 1) (a 2) N rw nm (srF (rkN n kk) sn bf (t + 1)) (nF (f3F n kk (t + 1))), wT cI (b 1) (N + 1) (nF (psN n kk)), wA cI cZ a c fr tt sa tk]) := hD
                    exact ih_99 (t + 1) (by omega) (by omega) _ _ hP hD hS _ hl
              have hl : lv_has ls 7 [(5, .int (nI 0)), (0, .ref (b 0)), (1, .ref (b 3)), (2, .int (nI n)), (3, .ref (a 2)), (4, .ref (b 4))] := lv_sub hl [0, 1, 2, 3, 4, 5] rfl
              have hq0 : bf = srF (rkN n kk) sn bf 0 := rfl
              have hP : va_P D vwCl (List.flatten [wS cI b (a 0) (a 1) (a 2) N rw nm (srF (rkN n kk) sn bf 0) (nF (f3F n kk 0)), wT cI (b 1) (N + 1) (nF (psN n kk)), wA cI cZ a c fr tt sa tk]) _ := wCast hP (by rw [← hq0])
              have hD : va_D A (List.flatten [wS cI b (a 0) (a 1) (a 2) N rw nm (srF (rkN n kk) sn bf 0) (nF (f3F n kk 0)), wT cI (b 1) (N + 1) (nF (psN n kk)), wA cI cZ a c fr tt sa tk]) := dCast hD (by rw [← hq0])
              exact loop_99 (n + 1) 0 (by omega) (by omega) _ _ hP hD hS _ hl
            ·
              have n_50 : ¬ (N + 1) ≤ w := fun h9 => c_50 ((nI_leI (a := N + 1) (b := w) (by omega) (by omega)).mpr h9)
              refine lv_aload_n hx hb dX3_sortByCounting_53 rfl (lv_at hl 1 rfl) ?_
              refine q_get (D := D) (ci := 3) (v := .ref (b 1)) (C := RX3) (T := TX3) (N := 8) hx hb hts (by decide +kernel) hown hK hP 0 0 rfl rfl rfl 3 (by decide) (hts (.fieldLink RX3 31 "OffsetRows$Side" "offsets" "[I") (by decide +kernel)) (fun _ h9 => h9) rfl dX3_sortByCounting_54 ?_
              refine lv_iload hx hb dX3_sortByCounting_57 (lv_at hl 0 rfl) ?_
              refine lv_dup2_11 hx hb dX3_sortByCounting_59 rfl rfl ?_
              refine q_iald hx hb hK hP 1 0 0 rfl (f := nF (o2F n kk w)) rfl rfl (k := w) (nI_clamp (n := w) (by omega)) (vp_in_nI (show w < N + 1 from by omega) (by omega)) dX3_sortByCounting_60 ?_
              refine q_top (z := nI (cN n (eqB kk w))) (by simp [nF, o2F]) ?_
              refine lv_aload_n hx hb dX3_sortByCounting_61 rfl (lv_at hl 1 rfl) ?_
              refine q_get (D := D) (ci := 3) (v := .ref (b 1)) (C := RX3) (T := TX3) (N := 8) hx hb hts (by decide +kernel) hown hK hP 0 0 rfl rfl rfl 3 (by decide) (hts (.fieldLink RX3 31 "OffsetRows$Side" "offsets" "[I") (by decide +kernel)) (fun _ h9 => h9) rfl dX3_sortByCounting_62 ?_
              refine lv_iload hx hb dX3_sortByCounting_65 (lv_at hl 0 rfl) ?_
              refine lv_iconst (v := (1 : Int32)) hx hb dX3_sortByCounting_67 (by decide) ?_
              refine q_isub (z := nI (w - 1)) hx hb dX3_sortByCounting_68 (pk_sub (a := w) (b := 1) (by omega)) ?_
              refine q_iald hx hb hK hP 1 0 0 rfl (f := nF (o2F n kk w)) rfl rfl (k := w - 1) (nI_clamp (n := w - 1) (by omega)) (vp_in_nI (show w - 1 < N + 1 from by omega) (by omega)) dX3_sortByCounting_69 ?_
              refine q_top (z := nI (cN n (ltB kk (w - 1)))) (by simp only [nF, o2F]; rw [if_pos (by omega)]) ?_
              refine q_iadd (z := nI (cN n (eqB kk w) + (cN n (ltB kk (w - 1))))) hx hb dX3_sortByCounting_70 (nI_add (cN n (eqB kk w)) (cN n (ltB kk (w - 1)))) ?_
              refine q_iast hx hb hK hP hD hS 1 0 0 rfl (f := nF (o2F n kk w)) rfl rfl (k := w) (nI_clamp (n := w) (by omega)) (vp_in_nI (show w < N + 1 from by omega) (by omega)) dX3_sortByCounting_71 wT_s_tr (Fs' := [wS cI b (a 0) (a 1) (a 2) N rw nm bf fe, wT cI (b 1) (N + 1) (upd (nF (o2F n kk w)) w (nI (cN n (eqB kk w) + (cN n (ltB kk (w - 1)))))), wA cI cZ a c fr tt sa tk]) rfl (fun H locs hP hD hS => ?_)
              have hP : va_P D vwCl (List.flatten [wS cI b (a 0) (a 1) (a 2) N rw nm bf fe, wT cI (b 1) (N + 1) (nF (o2F n kk (w + 1))), wA cI cZ a c fr tt sa tk]) _ := wCast hP (by rw [show upd (nF (o2F n kk w)) w (nI (cN n (eqB kk w) + (cN n (ltB kk (w - 1))))) = nF (o2F n kk (w + 1)) from o2_w hw1])
              have hD : va_D A (List.flatten [wS cI b (a 0) (a 1) (a 2) N rw nm bf fe, wT cI (b 1) (N + 1) (nF (o2F n kk (w + 1))), wA cI cZ a c fr tt sa tk]) := dCast hD (by rw [show upd (nF (o2F n kk w)) w (nI (cN n (eqB kk w) + (cN n (ltB kk (w - 1))))) = nF (o2F n kk (w + 1)) from o2_w hw1])
              refine lv_iinc (v := nI (w + 1)) (lv' := [(5, .int (nI (w + 1))), (0, .ref (b 0)), (1, .ref (b 3)), (2, .int (nI n)), (3, .ref (a 2)), (4, .ref (b 4))]) hx hb dX3_sortByCounting_72 hl (k := 0) rfl (nI_add w 1) (by decide) rfl (fun ls hl => ?_)
              refine lv_goto (tgt := 43) hx hb dX3_sortByCounting_75 (by decide) ?_
              have hl : lv_has ls 7 [(5, .int (nI (w + 1))), (0, .ref (b 0)), (1, .ref (b 3)), (2, .int (nI n)), (3, .ref (a 2)), (4, .ref (b 4))] := lv_sub hl [0, 1, 2, 3, 4, 5] rfl
              have hP : va_P D vwCl (List.flatten [wS cI b (a 0) (a 1) (a 2) N rw nm bf fe, wT cI (b 1) (N + 1) (nF (o2F n kk (w + 1))), wA cI cZ a c fr tt sa tk]) _ := hP
              have hD : va_D A (List.flatten [wS cI b (a 0) (a 1) (a 2) N rw nm bf fe, wT cI (b 1) (N + 1) (nF (o2F n kk (w + 1))), wA cI cZ a c fr tt sa tk]) := hD
              exact ih_43 (w + 1) (by omega) (by omega) (by omega) _ _ hP hD hS _ hl
        have hl : lv_has ls 7 [(5, .int (nI 1)), (0, .ref (b 0)), (1, .ref (b 3)), (2, .int (nI n)), (3, .ref (a 2)), (4, .ref (b 4))] := lv_sub hl [0, 1, 2, 3, 4, 5] rfl
        have hq0 : nF (o1F kk i) = nF (o2F n kk 1) := by rw [show i = n by omega]; exact o2_1
        have hP : va_P D vwCl (List.flatten [wS cI b (a 0) (a 1) (a 2) N rw nm bf fe, wT cI (b 1) (N + 1) (nF (o2F n kk 1)), wA cI cZ a c fr tt sa tk]) _ := wCast hP (by rw [← hq0])
        have hD : va_D A (List.flatten [wS cI b (a 0) (a 1) (a 2) N rw nm bf fe, wT cI (b 1) (N + 1) (nF (o2F n kk 1)), wA cI cZ a c fr tt sa tk]) := dCast hD (by rw [← hq0])
        exact loop_43 ((N + 1) + 1) 1 (by omega) (by omega) (by omega) _ _ hP hD hS _ hl
      ·
        have n_14 : ¬ n ≤ i := fun h9 => c_14 ((nI_leI (a := n) (b := i) (by omega) (by omega)).mpr h9)
        refine lv_aload_n hx hb dX3_sortByCounting_17 rfl (lv_at hl 1 rfl) ?_
        refine q_get (D := D) (ci := 3) (v := .ref (b 1)) (C := RX3) (T := TX3) (N := 8) hx hb hts (by decide +kernel) hown hK hP 0 0 rfl rfl rfl 3 (by decide) (hts (.fieldLink RX3 31 "OffsetRows$Side" "offsets" "[I") (by decide +kernel)) (fun _ h9 => h9) rfl dX3_sortByCounting_18 ?_
        refine lv_aload_n hx hb dX3_sortByCounting_21 rfl (lv_at hl 4 rfl) ?_
        refine lv_aload_n hx hb dX3_sortByCounting_22 rfl (lv_at hl 2 rfl) ?_
        refine lv_iload hx hb dX3_sortByCounting_23 (lv_at hl 0 rfl) ?_
        refine q_iald hx hb hK hP 0 2 0 rfl (f := nm) rfl rfl (k := i) (nI_clamp (n := i) (by omega)) (vp_in_nI (show i < 160 from by omega) (by omega)) dX3_sortByCounting_25 ?_
        refine q_top (z := nI (sn i)) ((hs i (by omega)).1) ?_
        have hs9 := (hs i (by omega)).2
        refine q_iald hx hb hK hP 2 2 0 rfl (f := tt) rfl rfl (k := sn i) (nI_clamp (n := sn i) (by omega)) (vp_in_nI (show sn i < 160 from by omega) (by omega)) dX3_sortByCounting_26 ?_
        refine q_top (z := nI (kk i)) ((hk i (by omega)).1) ?_
        have hk9 := (hk i (by omega)).2
        refine lv_iconst (v := (1 : Int32)) hx hb dX3_sortByCounting_27 (by decide) ?_
        refine q_iadd (z := nI (kk i + 1)) hx hb dX3_sortByCounting_28 (nI_add (kk i) 1) ?_
        refine lv_dup2_11 hx hb dX3_sortByCounting_29 rfl rfl ?_
        refine q_iald hx hb hK hP 1 0 0 rfl (f := nF (o1F kk i)) rfl rfl (k := kk i + 1) (nI_clamp (n := kk i + 1) (by omega)) (vp_in_nI (show kk i + 1 < N + 1 from by omega) (by omega)) dX3_sortByCounting_30 ?_
        refine q_top (z := nI (o1F kk i (kk i + 1))) (rfl) ?_
        refine lv_iconst (v := (1 : Int32)) hx hb dX3_sortByCounting_31 (by decide) ?_
        refine q_iadd (z := nI (o1F kk i (kk i + 1) + 1)) hx hb dX3_sortByCounting_32 (nI_add (o1F kk i (kk i + 1)) 1) ?_
        refine q_iast hx hb hK hP hD hS 1 0 0 rfl (f := nF (o1F kk i)) rfl rfl (k := kk i + 1) (nI_clamp (n := kk i + 1) (by omega)) (vp_in_nI (show kk i + 1 < N + 1 from by omega) (by omega)) dX3_sortByCounting_33 wT_s_tr (Fs' := [wS cI b (a 0) (a 1) (a 2) N rw nm bf fe, wT cI (b 1) (N + 1) (upd (nF (o1F kk i)) (kk i + 1) (nI (o1F kk i (kk i + 1) + 1))), wA cI cZ a c fr tt sa tk]) rfl (fun H locs hP hD hS => ?_)
        have hP : va_P D vwCl (List.flatten [wS cI b (a 0) (a 1) (a 2) N rw nm bf fe, wT cI (b 1) (N + 1) (nF (o1F kk (i + 1))), wA cI cZ a c fr tt sa tk]) _ := wCast hP (by rw [show upd (nF (o1F kk i)) (kk i + 1) (nI (o1F kk i (kk i + 1) + 1)) = nF (o1F kk (i + 1)) from o1_w])
        have hD : va_D A (List.flatten [wS cI b (a 0) (a 1) (a 2) N rw nm bf fe, wT cI (b 1) (N + 1) (nF (o1F kk (i + 1))), wA cI cZ a c fr tt sa tk]) := dCast hD (by rw [show upd (nF (o1F kk i)) (kk i + 1) (nI (o1F kk i (kk i + 1) + 1)) = nF (o1F kk (i + 1)) from o1_w])
        refine lv_iinc (v := nI (i + 1)) (lv' := [(5, .int (nI (i + 1))), (0, .ref (b 0)), (1, .ref (b 3)), (2, .int (nI n)), (3, .ref (a 2)), (4, .ref (b 4))]) hx hb dX3_sortByCounting_34 hl (k := 0) rfl (nI_add i 1) (by decide) rfl (fun ls hl => ?_)
        refine lv_goto (tgt := 11) hx hb dX3_sortByCounting_37 (by decide) ?_
        have hl : lv_has ls 7 [(5, .int (nI (i + 1))), (0, .ref (b 0)), (1, .ref (b 3)), (2, .int (nI n)), (3, .ref (a 2)), (4, .ref (b 4))] := lv_sub hl [0, 1, 2, 3, 4, 5] rfl
        have hP : va_P D vwCl (List.flatten [wS cI b (a 0) (a 1) (a 2) N rw nm bf fe, wT cI (b 1) (N + 1) (nF (o1F kk (i + 1))), wA cI cZ a c fr tt sa tk]) _ := hP
        have hD : va_D A (List.flatten [wS cI b (a 0) (a 1) (a 2) N rw nm bf fe, wT cI (b 1) (N + 1) (nF (o1F kk (i + 1))), wA cI cZ a c fr tt sa tk]) := hD
        exact ih_11 (i + 1) (by omega) (by omega) _ _ hP hD hS _ hl
  have hl : lv_has ls 7 [(5, .int (nI 0)), (0, .ref (b 0)), (1, .ref (b 3)), (2, .int (nI n)), (3, .ref (a 2)), (4, .ref (b 4))] := lv_sub hl [0, 1, 2, 3, 4, 5] rfl
  have hP : va_P D vwCl (List.flatten [wS cI b (a 0) (a 1) (a 2) N rw nm bf fe, wT cI (b 1) (N + 1) (nF (o1F kk 0)), wA cI cZ a c fr tt sa tk]) _ := hP
  have hD : va_D A (List.flatten [wS cI b (a 0) (a 1) (a 2) N rw nm bf fe, wT cI (b 1) (N + 1) (nF (o1F kk 0)), wA cI cZ a c fr tt sa tk]) := hD
  exact loop_11 (n + 1) 0 (by omega) (by omega) _ _ hP hD hS _ hl

set_option maxHeartbeats 8000000 in
set_option maxRecDepth 100000 in
theorem k3o_sort2 (l : Launch) (D : va_G) (cI cZ cL : ClassId) (b : Nat → Nat) (N : Nat) (rw : Nat → Int32) (nm : Nat → Int32) (bf : Nat → Int32) (fe : Nat → Int32) (of : Nat → Int32) (a : Nat → Nat) (c : Nat) (fr : Nat → Int32) (tt : Nat → Int32) (sa : Nat → Int32) (tk : Nat → Int32) (n : Nat) (sn : Nat → Nat) (kk : Nat → Nat) (hN : N ≤ 24) (hn : n ≤ 160) (hs : ∀ i, i < n → bf i = nI (sn i) ∧ sn i < 160) (hk : ∀ i, i < n → fr (sn i) = nI (kk i) ∧ kk i < N) : McV l D (tY cI cZ cL) yX3_sortByCounting wsX3_sortByCounting 1 40 [.ref (b 0), .ref (b 4), .int (nI n), .ref (a 1), .ref (b 2)] ([wS cI b (a 0) (a 1) (a 2) N rw nm bf fe, wT cI (b 1) (N + 1) of, wA cI cZ a c fr tt sa tk]) (fun (_ : Unit) => True) (fun (_ : Unit) => [wS cI b (a 0) (a 1) (a 2) N (srF (rkN n kk) sn rw n) nm bf (nF (f3F n kk n)), wT cI (b 1) (N + 1) (nF (psN n kk)), wA cI cZ a c fr tt sa tk]) := by
  refine q_ofW (Qc := fun A => (va_Qv (fun (_ : Unit) => True) (fun u t => mAt D (tY cI cZ cL) A ((fun (_ : Unit) => [wS cI b (a 0) (a 1) (a 2) N (srF (rkN n kk) sn rw n) nm bf (nF (f3F n kk n)), wT cI (b 1) (N + 1) (nF (psN n kk)), wA cI cZ a c fr tt sa tk]) u) t) A)) (cc := cX3_sortByCounting) (maxL := 7) (ret := none) (by decide) rfl (Nat.le_of_ble_eq_true rfl) ?_
  intro pz ez sz mz bz tz cz hx hb hml hr hlocks hts hown hK hP A hD hA ls hl
  have hS : va_S A sz.heap sz.heap [] := va_S.rf
  have hl : lv_has ls 7 [(0, .ref (b 0)), (1, .ref (b 4)), (2, .int (nI n)), (3, .ref (a 1)), (4, .ref (b 2))] := hl
  refine lv_aload_n hx hb dX3_sortByCounting_0 rfl (lv_at hl 0 rfl) ?_
  refine q_get (D := D) (ci := 3) (v := .ref (b 1)) (C := RX3) (T := TX3) (N := 8) hx hb hts (by decide +kernel) hown hK hP 0 0 rfl rfl rfl 3 (by decide) (hts (.fieldLink RX3 31 "OffsetRows$Side" "offsets" "[I") (by decide +kernel)) (fun _ h9 => h9) rfl dX3_sortByCounting_1 ?_
  refine lv_iconst (v := (0 : Int32)) hx hb dX3_sortByCounting_4 (by decide) ?_
  refine q_callSv (index := 54) (n := 2) (As := [.ref (b 1), .int (0 : Int32)]) (rest := []) (js := [1]) ⟨hx, hb, hml, hown, hts⟩ hK hP hD hS hA (kJ_filli l D cI cZ cL (b 1) (N + 1) of (0 : Int32) (by omega)) rfl (by decide) (fun _ => by simp only [List.map_cons, List.map_nil, wT_fst]) (fun (_ : Unit) => [wS cI b (a 0) (a 1) (a 2) N rw nm bf fe, wT cI (b 1) (N + 1) (pfx (fun _ => (0 : Int32)) of (N + 1)), wA cI cZ a c fr tt sa tk]) (fun _ => rfl) gX3_sortByCounting_J7_fill_53178 rfl (by decide +kernel) rfl ⟨by decide, by decide⟩ hl.1 (Nat.le_of_ble_eq_true rfl) ⟨(Nat.zero_le _), (Nat.zero_le _)⟩ dX3_sortByCounting_5 rfl (fun _ H locs hw hP hD hS => ?_)
  have hP : va_P D vwCl (List.flatten [wS cI b (a 0) (a 1) (a 2) N rw nm bf fe, wT cI (b 1) (N + 1) (nF (o1F kk 0)), wA cI cZ a c fr tt sa tk]) _ := x_ext hP 1 0 rfl rfl (f := pfx (fun _ => (0 : Int32)) of (N + 1)) (g := nF (o1F kk 0)) (fun k h => by simp only [pfx, if_pos h]; rfl) wT_s_tr rfl
  have hD : va_D A (List.flatten [wS cI b (a 0) (a 1) (a 2) N rw nm bf fe, wT cI (b 1) (N + 1) (nF (o1F kk 0)), wA cI cZ a c fr tt sa tk]) := d_ext hD 1 0 rfl rfl (wT_s_tr (g9 := nF (o1F kk 0))) rfl
  refine lv_iconst (v := (0 : Int32)) hx hb dX3_sortByCounting_8 (by decide) ?_
  refine lv_istore (lv' := [(5, .int (0 : Int32)), (0, .ref (b 0)), (1, .ref (b 4)), (2, .int (nI n)), (3, .ref (a 1)), (4, .ref (b 2))]) hx hb dX3_sortByCounting_9 hl (by decide) rfl (fun ls hl => ?_)
  have loop_11 : ∀ (k_11 i : Nat), i ≤ n → n < i + k_11 → ∀ (H : Heap) (locs : List Loc), va_P D vwCl (List.flatten [wS cI b (a 0) (a 1) (a 2) N rw nm bf fe, wT cI (b 1) (N + 1) (nF (o1F kk i)), wA cI cZ a c fr tt sa tk]) H → va_D A (List.flatten [wS cI b (a 0) (a 1) (a 2) N rw nm bf fe, wT cI (b 1) (N + 1) (nF (o1F kk i)), wA cI cZ a c fr tt sa tk]) → va_S A sz.heap H locs → ∀ (ls : Array Slot), lv_has ls 7 [(5, .int (nI i)), (0, .ref (b 0)), (1, .ref (b 4)), (2, .int (nI n)), (3, .ref (a 1)), (4, .ref (b 2))] → W pz l ez (rM 1 40) sz mz [.ref (b 0), .ref (b 4), .int (nI n), .ref (a 1), .ref (b 2)].toArray bz tz cz H locs 0 0 (MQ bz (va_Qv (fun (_ : Unit) => True) (fun u t => mAt D (tY cI cZ cL) A ((fun (_ : Unit) => [wS cI b (a 0) (a 1) (a 2) N (srF (rkN n kk) sn rw n) nm bf (nF (f3F n kk n)), wT cI (b 1) (N + 1) (nF (psN n kk)), wA cI cZ a c fr tt sa tk]) u) t) A) [.ref (b 0), .ref (b 4), .int (nI n), .ref (a 1), .ref (b 2)].toArray sz 0 0 A) (F0 mz 11 ls [])  := by
    intro k_11
    induction k_11 with
    | zero => intro i hi_11 hk_11; exact absurd hk_11 (by omega)
    | succ k_11 ih_11 =>
      intro i hi_11 hk_11 H locs hP hD hS ls hl
      refine lv_iload hx hb dX3_sortByCounting_11 (lv_at hl 0 rfl) ?_
      refine lv_iload_n hx hb dX3_sortByCounting_13 rfl (lv_at hl 3 rfl) ?_
      refine lv_icmp_ge (tgt := 40) hx hb dX3_sortByCounting_14 (by decide) (fun c_14 => ?_) (fun c_14 => ?_)
      ·
        have n_14 : n ≤ i := (nI_leI (a := n) (b := i) (by omega) (by omega)).mp c_14
        refine lv_iconst (v := (1 : Int32)) hx hb dX3_sortByCounting_40 (by decide) ?_
        refine lv_istore (lv' := [(5, .int (1 : Int32)), (0, .ref (b 0)), (1, .ref (b 4)), (2, .int (nI n)), (3, .ref (a 1)), (4, .ref (b 2))]) hx hb dX3_sortByCounting_41 hl (by decide) rfl (fun ls hl => ?_)
        have loop_43 : ∀ (k_43 w : Nat), w ≤ N + 1 → N + 1 < w + k_43 → (1 ≤ w) → ∀ (H : Heap) (locs : List Loc), va_P D vwCl (List.flatten [wS cI b (a 0) (a 1) (a 2) N rw nm bf fe, wT cI (b 1) (N + 1) (nF (o2F n kk w)), wA cI cZ a c fr tt sa tk]) H → va_D A (List.flatten [wS cI b (a 0) (a 1) (a 2) N rw nm bf fe, wT cI (b 1) (N + 1) (nF (o2F n kk w)), wA cI cZ a c fr tt sa tk]) → va_S A sz.heap H locs → ∀ (ls : Array Slot), lv_has ls 7 [(5, .int (nI w)), (0, .ref (b 0)), (1, .ref (b 4)), (2, .int (nI n)), (3, .ref (a 1)), (4, .ref (b 2))] → W pz l ez (rM 1 40) sz mz [.ref (b 0), .ref (b 4), .int (nI n), .ref (a 1), .ref (b 2)].toArray bz tz cz H locs 0 0 (MQ bz (va_Qv (fun (_ : Unit) => True) (fun u t => mAt D (tY cI cZ cL) A ((fun (_ : Unit) => [wS cI b (a 0) (a 1) (a 2) N (srF (rkN n kk) sn rw n) nm bf (nF (f3F n kk n)), wT cI (b 1) (N + 1) (nF (psN n kk)), wA cI cZ a c fr tt sa tk]) u) t) A) [.ref (b 0), .ref (b 4), .int (nI n), .ref (a 1), .ref (b 2)].toArray sz 0 0 A) (F0 mz 43 ls [])  := by
          intro k_43
          induction k_43 with
          | zero => intro w hi_43 hk_43; exact absurd hk_43 (by omega)
          | succ k_43 ih_43 =>
            intro w hi_43 hk_43 hw1 H locs hP hD hS ls hl
            refine lv_iload hx hb dX3_sortByCounting_43 (lv_at hl 0 rfl) ?_
            refine lv_aload_n hx hb dX3_sortByCounting_45 rfl (lv_at hl 1 rfl) ?_
            refine q_get (D := D) (ci := 3) (v := .ref (b 1)) (C := RX3) (T := TX3) (N := 8) hx hb hts (by decide +kernel) hown hK hP 0 0 rfl rfl rfl 3 (by decide) (hts (.fieldLink RX3 31 "OffsetRows$Side" "offsets" "[I") (by decide +kernel)) (fun _ h9 => h9) rfl dX3_sortByCounting_46 ?_
            refine va_alen hx hb hK (fP hP (j := 1) rfl) 0 0 rfl rfl (v := nI (N + 1)) rfl dX3_sortByCounting_49 ?_
            refine lv_icmp_ge (tgt := 78) hx hb dX3_sortByCounting_50 (by decide) (fun c_50 => ?_) (fun c_50 => ?_)
            ·
              have n_50 : (N + 1) ≤ w := (nI_leI (a := N + 1) (b := w) (by omega) (by omega)).mp c_50
              refine lv_aload_n hx hb dX3_sortByCounting_78 rfl (lv_at hl 1 rfl) ?_
              refine q_get (D := D) (ci := 3) (v := .ref (b 1)) (C := RX3) (T := TX3) (N := 8) hx hb hts (by decide +kernel) hown hK hP 0 0 rfl rfl rfl 3 (by decide) (hts (.fieldLink RX3 31 "OffsetRows$Side" "offsets" "[I") (by decide +kernel)) (fun _ h9 => h9) rfl dX3_sortByCounting_79 ?_
              refine lv_iconst (v := (0 : Int32)) hx hb dX3_sortByCounting_82 (by decide) ?_
              refine lv_aload_n hx hb dX3_sortByCounting_83 rfl (lv_at hl 1 rfl) ?_
              refine q_get (D := D) (ci := 3) (v := .ref (b 5)) (C := RX3) (T := TX3) (N := 8) hx hb hts (by decide +kernel) hown hK hP 0 0 rfl rfl rfl 7 (by decide) (hts (.fieldLink RX3 34 "OffsetRows$Side" "free" "[I") (by decide +kernel)) (fun _ h9 => h9) rfl dX3_sortByCounting_84 ?_
              refine lv_iconst (v := (0 : Int32)) hx hb dX3_sortByCounting_87 (by decide) ?_
              refine lv_aload_n hx hb dX3_sortByCounting_88 rfl (lv_at hl 1 rfl) ?_
              refine q_get (D := D) (ci := 3) (v := .ref (b 1)) (C := RX3) (T := TX3) (N := 8) hx hb hts (by decide +kernel) hown hK hP 0 0 rfl rfl rfl 3 (by decide) (hts (.fieldLink RX3 31 "OffsetRows$Side" "offsets" "[I") (by decide +kernel)) (fun _ h9 => h9) rfl dX3_sortByCounting_89 ?_
              refine va_alen hx hb hK (fP hP (j := 1) rfl) 0 0 rfl rfl (v := nI (N + 1)) rfl dX3_sortByCounting_92 ?_
              refine q_copyi hx hb (hml.trans hl.1.symm) hown (hts (.methodLink RX3 60 arraycopyName) (by decide +kernel)) (hts (.native arraycopyName) (by decide +kernel)) (hts (.static arraycopyName) (by decide +kernel)) (hts (.initialized "java/lang/System") (by decide +kernel)) hK hP hD hS 1 0 0 4 0 rfl rfl rfl rfl rfl (k := N + 1) (nI_clamp (n := N + 1) (by omega)) (nI_pos (by omega)) (Nat.le_refl _) (Nat.le_refl _) (by decide) (by decide) dX3_sortByCounting_93 wS_s_fe (Fs' := [wS cI b (a 0) (a 1) (a 2) N rw nm bf (va_cpy (nF (o2F n kk w)) (fe) 0 0 (N + 1)), wT cI (b 1) (N + 1) (nF (o2F n kk w)), wA cI cZ a c fr tt sa tk]) rfl (fun H locs hP hD hS => ?_)
              have hP : va_P D vwCl (List.flatten [wS cI b (a 0) (a 1) (a 2) N rw nm bf (va_cpy (nF (o2F n kk w)) (fe) 0 0 (N + 1)), wT cI (b 1) (N + 1) (nF (psN n kk)), wA cI cZ a c fr tt sa tk]) _ := x_ext hP 1 0 rfl rfl (f := nF (o2F n kk w)) (g := nF (psN n kk)) (fun k h => by simp only [nF, psN, o2F, if_pos (show k < w by omega)]) wT_s_tr rfl
              have hD : va_D A (List.flatten [wS cI b (a 0) (a 1) (a 2) N rw nm bf (va_cpy (nF (o2F n kk w)) (fe) 0 0 (N + 1)), wT cI (b 1) (N + 1) (nF (psN n kk)), wA cI cZ a c fr tt sa tk]) := d_ext hD 1 0 rfl rfl (wT_s_tr (g9 := nF (psN n kk))) rfl
              have hP : va_P D vwCl (List.flatten [wS cI b (a 0) (a 1) (a 2) N rw nm bf (nF (f3F n kk 0)), wT cI (b 1) (N + 1) (nF (psN n kk)), wA cI cZ a c fr tt sa tk]) _ := x_ext hP 0 4 rfl rfl (f := va_cpy (nF (o2F n kk w)) (fe) 0 0 (N + 1)) (g := nF (f3F n kk 0)) (fun k h => by simp only [va_cpy, nF, o2F, f3F]; rw [if_pos (by omega), if_pos (show 0 + (k - 0) < w by omega)]; simp [cN]) wS_s_fe rfl
              have hD : va_D A (List.flatten [wS cI b (a 0) (a 1) (a 2) N rw nm bf (nF (f3F n kk 0)), wT cI (b 1) (N + 1) (nF (psN n kk)), wA cI cZ a c fr tt sa tk]) := d_ext hD 0 4 rfl rfl (wS_s_fe (g9 := nF (f3F n kk 0))) rfl
              refine lv_iconst (v := (0 : Int32)) hx hb dX3_sortByCounting_96 (by decide) ?_
              refine lv_istore (lv' := [(5, .int (0 : Int32)), (0, .ref (b 0)), (1, .ref (b 4)), (2, .int (nI n)), (3, .ref (a 1)), (4, .ref (b 2))]) hx hb dX3_sortByCounting_97 hl (by decide) rfl (fun ls hl => ?_)
              have loop_99 : ∀ (k_99 t : Nat), t ≤ n → n < t + k_99 → ∀ (H : Heap) (locs : List Loc), va_P D vwCl (List.flatten [wS cI b (a 0) (a 1) (a 2) N (srF (rkN n kk) sn rw t) nm bf (nF (f3F n kk t)), wT cI (b 1) (N + 1) (nF (psN n kk)), wA cI cZ a c fr tt sa tk]) H → va_D A (List.flatten [wS cI b (a 0) (a 1) (a 2) N (srF (rkN n kk) sn rw t) nm bf (nF (f3F n kk t)), wT cI (b 1) (N + 1) (nF (psN n kk)), wA cI cZ a c fr tt sa tk]) → va_S A sz.heap H locs → ∀ (ls : Array Slot), lv_has ls 7 [(5, .int (nI t)), (0, .ref (b 0)), (1, .ref (b 4)), (2, .int (nI n)), (3, .ref (a 1)), (4, .ref (b 2))] → W pz l ez (rM 1 40) sz mz [.ref (b 0), .ref (b 4), .int (nI n), .ref (a 1), .ref (b 2)].toArray bz tz cz H locs 0 0 (MQ bz (va_Qv (fun (_ : Unit) => True) (fun u t => mAt D (tY cI cZ cL) A ((fun (_ : Unit) => [wS cI b (a 0) (a 1) (a 2) N (srF (rkN n kk) sn rw n) nm bf (nF (f3F n kk n)), wT cI (b 1) (N + 1) (nF (psN n kk)), wA cI cZ a c fr tt sa tk]) u) t) A) [.ref (b 0), .ref (b 4), .int (nI n), .ref (a 1), .ref (b 2)].toArray sz 0 0 A) (F0 mz 99 ls [])  := by
                intro k_99
                induction k_99 with
                | zero => intro t hi_99 hk_99; exact absurd hk_99 (by omega)
                | succ k_99 ih_99 =>
                  intro t hi_99 hk_99 H locs hP hD hS ls hl
                  refine lv_iload hx hb dX3_sortByCounting_99 (lv_at hl 0 rfl) ?_
                  refine lv_iload_n hx hb dX3_sortByCounting_101 rfl (lv_at hl 3 rfl) ?_
                  refine lv_icmp_ge (tgt := 144) hx hb dX3_sortByCounting_102 (by decide) (fun c_102 => ?_) (fun c_102 => ?_)
                  ·
                    have n_102 : n ≤ t := (nI_leI (a := n) (b := t) (by omega) (by omega)).mp c_102
                    exact q_vret (()) hx hb hr hlocks hK hP hD hS (trivial) (by rw [show t = n by omega]) dX3_sortByCounting_144
                  ·
                    have n_102 : ¬ n ≤ t := fun h9 => c_102 ((nI_leI (a := n) (b := t) (by omega) (by omega)).mpr h9)
                    refine lv_aload_n hx hb dX3_sortByCounting_105 rfl (lv_at hl 4 rfl) ?_
                    refine lv_aload_n hx hb dX3_sortByCounting_106 rfl (lv_at hl 2 rfl) ?_
                    refine lv_iload hx hb dX3_sortByCounting_107 (lv_at hl 0 rfl) ?_
                    refine q_iald hx hb hK hP 0 3 0 rfl (f := bf) rfl rfl (k := t) (nI_clamp (n := t) (by omega)) (vp_in_nI (show t < 160 from by omega) (by omega)) dX3_sortByCounting_109 ?_
                    refine q_top (z := nI (sn t)) ((hs t (by omega)).1) ?_
                    have hs9 := (hs t (by omega)).2
                    refine q_iald hx hb hK hP 2 1 0 rfl (f := fr) rfl rfl (k := sn t) (nI_clamp (n := sn t) (by omega)) (vp_in_nI (show sn t < 160 from by omega) (by omega)) dX3_sortByCounting_110 ?_
                    refine q_top (z := nI (kk t)) ((hk t (by omega)).1) ?_
                    have hk9 := (hk t (by omega)).2
                    have hr9 := rk_lt (n := n) (i := t) (kk := kk) (by omega)
                    refine lv_istore (lv' := [(6, .int (nI (kk t))), (5, .int (nI t)), (0, .ref (b 0)), (1, .ref (b 4)), (2, .int (nI n)), (3, .ref (a 1)), (4, .ref (b 2))]) hx hb dX3_sortByCounting_111 hl (by decide) rfl (fun ls hl => ?_)
                    refine lv_aload hx hb dX3_sortByCounting_113 (lv_at hl 6 rfl) ?_
                    refine lv_aload_n hx hb dX3_sortByCounting_115 rfl (lv_at hl 2 rfl) ?_
                    refine q_get (D := D) (ci := 3) (v := .ref (b 5)) (C := RX3) (T := TX3) (N := 8) hx hb hts (by decide +kernel) hown hK hP 0 0 rfl rfl rfl 7 (by decide) (hts (.fieldLink RX3 34 "OffsetRows$Side" "free" "[I") (by decide +kernel)) (fun _ h9 => h9) rfl dX3_sortByCounting_116 ?_
                    refine lv_iload hx hb dX3_sortByCounting_119 (lv_at hl 0 rfl) ?_
                    refine q_iald hx hb hK hP 0 4 0 rfl (f := nF (f3F n kk t)) rfl rfl (k := kk t) (nI_clamp (n := kk t) (by omega)) (vp_in_nI (show kk t < N + 1 from by omega) (by omega)) dX3_sortByCounting_121 ?_
                    refine q_top (z := nI (rkN n kk t)) (rfl) ?_
                    refine lv_aload_n hx hb dX3_sortByCounting_122 rfl (lv_at hl 3 rfl) ?_
                    refine lv_iload hx hb dX3_sortByCounting_123 (lv_at hl 1 rfl) ?_
                    refine q_iald hx hb hK hP 0 3 0 rfl (f := bf) rfl rfl (k := t) (nI_clamp (n := t) (by omega)) (vp_in_nI (show t < 160 from by omega) (by omega)) dX3_sortByCounting_125 ?_
                    refine q_top (z := nI (sn t)) ((hs t (by omega)).1) ?_
                    refine q_iast hx hb hK hP hD hS 0 1 0 rfl (f := srF (rkN n kk) sn rw t) rfl rfl (k := rkN n kk t) (nI_clamp (n := rkN n kk t) (by omega)) (vp_in_nI (show rkN n kk t < 160 from by omega) (by omega)) dX3_sortByCounting_126 wS_s_rw (Fs' := [wS cI b (a 0) (a 1) (a 2) N (upd (srF (rkN n kk) sn rw t) (rkN n kk t) (nI (sn t))) nm bf (nF (f3F n kk t)), wT cI (b 1) (N + 1) (nF (psN n kk)), wA cI cZ a c fr tt sa tk]) rfl (fun H locs hP hD hS => ?_)
                    have hP : va_P D vwCl (List.flatten [wS cI b (a 0) (a 1) (a 2) N (srF (rkN n kk) sn rw (t + 1)) nm bf (nF (f3F n kk t)), wT cI (b 1) (N + 1) (nF (psN n kk)), wA cI cZ a c fr tt sa tk]) _ := wCast hP (by rw [show upd (srF (rkN n kk) sn rw t) (rkN n kk t) (nI (sn t)) = srF (rkN n kk) sn rw (t + 1) from rfl])
                    have hD : va_D A (List.flatten [wS cI b (a 0) (a 1) (a 2) N (srF (rkN n kk) sn rw (t + 1)) nm bf (nF (f3F n kk t)), wT cI (b 1) (N + 1) (nF (psN n kk)), wA cI cZ a c fr tt sa tk]) := dCast hD (by rw [show upd (srF (rkN n kk) sn rw t) (rkN n kk t) (nI (sn t)) = srF (rkN n kk) sn rw (t + 1) from rfl])
                    refine lv_aload_n hx hb dX3_sortByCounting_127 rfl (lv_at hl 2 rfl) ?_
                    refine q_get (D := D) (ci := 3) (v := .ref (b 5)) (C := RX3) (T := TX3) (N := 8) hx hb hts (by decide +kernel) hown hK hP 0 0 rfl rfl rfl 7 (by decide) (hts (.fieldLink RX3 34 "OffsetRows$Side" "free" "[I") (by decide +kernel)) (fun _ h9 => h9) rfl dX3_sortByCounting_128 ?_
                    refine lv_iload hx hb dX3_sortByCounting_131 (lv_at hl 0 rfl) ?_
                    refine lv_dup2_11 hx hb dX3_sortByCounting_133 rfl rfl ?_
                    refine q_iald hx hb hK hP 0 4 0 rfl (f := nF (f3F n kk t)) rfl rfl (k := kk t) (nI_clamp (n := kk t) (by omega)) (vp_in_nI (show kk t < N + 1 from by omega) (by omega)) dX3_sortByCounting_134 ?_
                    refine q_top (z := nI (f3F n kk t (kk t))) (rfl) ?_
                    refine lv_iconst (v := (1 : Int32)) hx hb dX3_sortByCounting_135 (by decide) ?_
                    refine q_iadd (z := nI (f3F n kk t (kk t) + 1)) hx hb dX3_sortByCounting_136 (nI_add (f3F n kk t (kk t)) 1) ?_
                    refine q_iast hx hb hK hP hD hS 0 4 0 rfl (f := nF (f3F n kk t)) rfl rfl (k := kk t) (nI_clamp (n := kk t) (by omega)) (vp_in_nI (show kk t < N + 1 from by omega) (by omega)) dX3_sortByCounting_137 wS_s_fe (Fs' := [wS cI b (a 0) (a 1) (a 2) N (srF (rkN n kk) sn rw (t + 1)) nm bf (upd (nF (f3F n kk t)) (kk t) (nI (f3F n kk t (kk t) + 1))), wT cI (b 1) (N + 1) (nF (psN n kk)), wA cI cZ a c fr tt sa tk]) rfl (fun H locs hP hD hS => ?_)
                    have hP : va_P D vwCl (List.flatten [wS cI b (a 0) (a 1) (a 2) N (srF (rkN n kk) sn rw (t + 1)) nm bf (nF (f3F n kk (t + 1))), wT cI (b 1) (N + 1) (nF (psN n kk)), wA cI cZ a c fr tt sa tk]) _ := wCast hP (by rw [show upd (nF (f3F n kk t)) (kk t) (nI (f3F n kk t (kk t) + 1)) = nF (f3F n kk (t + 1)) from f3_w])
                    have hD : va_D A (List.flatten [wS cI b (a 0) (a 1) (a 2) N (srF (rkN n kk) sn rw (t + 1)) nm bf (nF (f3F n kk (t + 1))), wT cI (b 1) (N + 1) (nF (psN n kk)), wA cI cZ a c fr tt sa tk]) := dCast hD (by rw [show upd (nF (f3F n kk t)) (kk t) (nI (f3F n kk t (kk t) + 1)) = nF (f3F n kk (t + 1)) from f3_w])
                    refine lv_iinc (v := nI (t + 1)) (lv' := [(5, .int (nI (t + 1))), (6, .int (nI (kk t))), (0, .ref (b 0)), (1, .ref (b 4)), (2, .int (nI n)), (3, .ref (a 1)), (4, .ref (b 2))]) hx hb dX3_sortByCounting_138 hl (k := 1) rfl (nI_add t 1) (by decide) rfl (fun ls hl => ?_)
                    refine lv_goto (tgt := 99) hx hb dX3_sortByCounting_141 (by decide) ?_
                    have hl : lv_has ls 7 [(5, .int (nI (t + 1))), (0, .ref (b 0)), (1, .ref (b 4)), (2, .int (nI n)), (3, .ref (a 1)), (4, .ref (b 2))] := lv_sub hl [0, 2, 3, 4, 5, 6] rfl
                    have hP : va_P D vwCl (List.flatten [wS cI b (a 0) (a 1) (a 2) N (srF (rkN n kk) sn rw (t + 1)) nm bf (nF (f3F n kk (t + 1))), wT cI (b 1) (N + 1) (nF (psN n kk)), wA cI cZ a c fr tt sa tk]) _ := hP
                    have hD : va_D A (List.flatten [wS cI b (a 0) (a 1) (a 2) N (srF (rkN n kk) sn rw (t + 1)) nm bf (nF (f3F n kk (t + 1))), wT cI (b 1) (N + 1) (nF (psN n kk)), wA cI cZ a c fr tt sa tk]) := hD
                    exact ih_99 (t + 1) (by omega) (by omega) _ _ hP hD hS _ hl
              have hl : lv_has ls 7 [(5, .int (nI 0)), (0, .ref (b 0)), (1, .ref (b 4)), (2, .int (nI n)), (3, .ref (a 1)), (4, .ref (b 2))] := lv_sub hl [0, 1, 2, 3, 4, 5] rfl
              have hq0 : rw = srF (rkN n kk) sn rw 0 := rfl
              have hP : va_P D vwCl (List.flatten [wS cI b (a 0) (a 1) (a 2) N (srF (rkN n kk) sn rw 0) nm bf (nF (f3F n kk 0)), wT cI (b 1) (N + 1) (nF (psN n kk)), wA cI cZ a c fr tt sa tk]) _ := wCast hP (by rw [← hq0])
              have hD : va_D A (List.flatten [wS cI b (a 0) (a 1) (a 2) N (srF (rkN n kk) sn rw 0) nm bf (nF (f3F n kk 0)), wT cI (b 1) (N + 1) (nF (psN n kk)), wA cI cZ a c fr tt sa tk]) := dCast hD (by rw [← hq0])
              exact loop_99 (n + 1) 0 (by omega) (by omega) _ _ hP hD hS _ hl
            ·
              have n_50 : ¬ (N + 1) ≤ w := fun h9 => c_50 ((nI_leI (a := N + 1) (b := w) (by omega) (by omega)).mpr h9)
              refine lv_aload_n hx hb dX3_sortByCounting_53 rfl (lv_at hl 1 rfl) ?_
              refine q_get (D := D) (ci := 3) (v := .ref (b 1)) (C := RX3) (T := TX3) (N := 8) hx hb hts (by decide +kernel) hown hK hP 0 0 rfl rfl rfl 3 (by decide) (hts (.fieldLink RX3 31 "OffsetRows$Side" "offsets" "[I") (by decide +kernel)) (fun _ h9 => h9) rfl dX3_sortByCounting_54 ?_
              refine lv_iload hx hb dX3_sortByCounting_57 (lv_at hl 0 rfl) ?_
              refine lv_dup2_11 hx hb dX3_sortByCounting_59 rfl rfl ?_
              refine q_iald hx hb hK hP 1 0 0 rfl (f := nF (o2F n kk w)) rfl rfl (k := w) (nI_clamp (n := w) (by omega)) (vp_in_nI (show w < N + 1 from by omega) (by omega)) dX3_sortByCounting_60 ?_
              refine q_top (z := nI (cN n (eqB kk w))) (by simp [nF, o2F]) ?_
              refine lv_aload_n hx hb dX3_sortByCounting_61 rfl (lv_at hl 1 rfl) ?_
              refine q_get (D := D) (ci := 3) (v := .ref (b 1)) (C := RX3) (T := TX3) (N := 8) hx hb hts (by decide +kernel) hown hK hP 0 0 rfl rfl rfl 3 (by decide) (hts (.fieldLink RX3 31 "OffsetRows$Side" "offsets" "[I") (by decide +kernel)) (fun _ h9 => h9) rfl dX3_sortByCounting_62 ?_
              refine lv_iload hx hb dX3_sortByCounting_65 (lv_at hl 0 rfl) ?_
              refine lv_iconst (v := (1 : Int32)) hx hb dX3_sortByCounting_67 (by decide) ?_
              refine q_isub (z := nI (w - 1)) hx hb dX3_sortByCounting_68 (pk_sub (a := w) (b := 1) (by omega)) ?_
              refine q_iald hx hb hK hP 1 0 0 rfl (f := nF (o2F n kk w)) rfl rfl (k := w - 1) (nI_clamp (n := w - 1) (by omega)) (vp_in_nI (show w - 1 < N + 1 from by omega) (by omega)) dX3_sortByCounting_69 ?_
              refine q_top (z := nI (cN n (ltB kk (w - 1)))) (by simp only [nF, o2F]; rw [if_pos (by omega)]) ?_
              refine q_iadd (z := nI (cN n (eqB kk w) + (cN n (ltB kk (w - 1))))) hx hb dX3_sortByCounting_70 (nI_add (cN n (eqB kk w)) (cN n (ltB kk (w - 1)))) ?_
              refine q_iast hx hb hK hP hD hS 1 0 0 rfl (f := nF (o2F n kk w)) rfl rfl (k := w) (nI_clamp (n := w) (by omega)) (vp_in_nI (show w < N + 1 from by omega) (by omega)) dX3_sortByCounting_71 wT_s_tr (Fs' := [wS cI b (a 0) (a 1) (a 2) N rw nm bf fe, wT cI (b 1) (N + 1) (upd (nF (o2F n kk w)) w (nI (cN n (eqB kk w) + (cN n (ltB kk (w - 1)))))), wA cI cZ a c fr tt sa tk]) rfl (fun H locs hP hD hS => ?_)
              have hP : va_P D vwCl (List.flatten [wS cI b (a 0) (a 1) (a 2) N rw nm bf fe, wT cI (b 1) (N + 1) (nF (o2F n kk (w + 1))), wA cI cZ a c fr tt sa tk]) _ := wCast hP (by rw [show upd (nF (o2F n kk w)) w (nI (cN n (eqB kk w) + (cN n (ltB kk (w - 1))))) = nF (o2F n kk (w + 1)) from o2_w hw1])
              have hD : va_D A (List.flatten [wS cI b (a 0) (a 1) (a 2) N rw nm bf fe, wT cI (b 1) (N + 1) (nF (o2F n kk (w + 1))), wA cI cZ a c fr tt sa tk]) := dCast hD (by rw [show upd (nF (o2F n kk w)) w (nI (cN n (eqB kk w) + (cN n (ltB kk (w - 1))))) = nF (o2F n kk (w + 1)) from o2_w hw1])
              refine lv_iinc (v := nI (w + 1)) (lv' := [(5, .int (nI (w + 1))), (0, .ref (b 0)), (1, .ref (b 4)), (2, .int (nI n)), (3, .ref (a 1)), (4, .ref (b 2))]) hx hb dX3_sortByCounting_72 hl (k := 0) rfl (nI_add w 1) (by decide) rfl (fun ls hl => ?_)
              refine lv_goto (tgt := 43) hx hb dX3_sortByCounting_75 (by decide) ?_
              have hl : lv_has ls 7 [(5, .int (nI (w + 1))), (0, .ref (b 0)), (1, .ref (b 4)), (2, .int (nI n)), (3, .ref (a 1)), (4, .ref (b 2))] := lv_sub hl [0, 1, 2, 3, 4, 5] rfl
              have hP : va_P D vwCl (List.flatten [wS cI b (a 0) (a 1) (a 2) N rw nm bf fe, wT cI (b 1) (N + 1) (nF (o2F n kk (w + 1))), wA cI cZ a c fr tt sa tk]) _ := hP
              have hD : va_D A (List.flatten [wS cI b (a 0) (a 1) (a 2) N rw nm bf fe, wT cI (b 1) (N + 1) (nF (o2F n kk (w + 1))), wA cI cZ a c fr tt sa tk]) := hD
              exact ih_43 (w + 1) (by omega) (by omega) (by omega) _ _ hP hD hS _ hl
        have hl : lv_has ls 7 [(5, .int (nI 1)), (0, .ref (b 0)), (1, .ref (b 4)), (2, .int (nI n)), (3, .ref (a 1)), (4, .ref (b 2))] := lv_sub hl [0, 1, 2, 3, 4, 5] rfl
        have hq0 : nF (o1F kk i) = nF (o2F n kk 1) := by rw [show i = n by omega]; exact o2_1
        have hP : va_P D vwCl (List.flatten [wS cI b (a 0) (a 1) (a 2) N rw nm bf fe, wT cI (b 1) (N + 1) (nF (o2F n kk 1)), wA cI cZ a c fr tt sa tk]) _ := wCast hP (by rw [← hq0])
        have hD : va_D A (List.flatten [wS cI b (a 0) (a 1) (a 2) N rw nm bf fe, wT cI (b 1) (N + 1) (nF (o2F n kk 1)), wA cI cZ a c fr tt sa tk]) := dCast hD (by rw [← hq0])
        exact loop_43 ((N + 1) + 1) 1 (by omega) (by omega) (by omega) _ _ hP hD hS _ hl
      ·
        have n_14 : ¬ n ≤ i := fun h9 => c_14 ((nI_leI (a := n) (b := i) (by omega) (by omega)).mpr h9)
        refine lv_aload_n hx hb dX3_sortByCounting_17 rfl (lv_at hl 1 rfl) ?_
        refine q_get (D := D) (ci := 3) (v := .ref (b 1)) (C := RX3) (T := TX3) (N := 8) hx hb hts (by decide +kernel) hown hK hP 0 0 rfl rfl rfl 3 (by decide) (hts (.fieldLink RX3 31 "OffsetRows$Side" "offsets" "[I") (by decide +kernel)) (fun _ h9 => h9) rfl dX3_sortByCounting_18 ?_
        refine lv_aload_n hx hb dX3_sortByCounting_21 rfl (lv_at hl 4 rfl) ?_
        refine lv_aload_n hx hb dX3_sortByCounting_22 rfl (lv_at hl 2 rfl) ?_
        refine lv_iload hx hb dX3_sortByCounting_23 (lv_at hl 0 rfl) ?_
        refine q_iald hx hb hK hP 0 3 0 rfl (f := bf) rfl rfl (k := i) (nI_clamp (n := i) (by omega)) (vp_in_nI (show i < 160 from by omega) (by omega)) dX3_sortByCounting_25 ?_
        refine q_top (z := nI (sn i)) ((hs i (by omega)).1) ?_
        have hs9 := (hs i (by omega)).2
        refine q_iald hx hb hK hP 2 1 0 rfl (f := fr) rfl rfl (k := sn i) (nI_clamp (n := sn i) (by omega)) (vp_in_nI (show sn i < 160 from by omega) (by omega)) dX3_sortByCounting_26 ?_
        refine q_top (z := nI (kk i)) ((hk i (by omega)).1) ?_
        have hk9 := (hk i (by omega)).2
        refine lv_iconst (v := (1 : Int32)) hx hb dX3_sortByCounting_27 (by decide) ?_
        refine q_iadd (z := nI (kk i + 1)) hx hb dX3_sortByCounting_28 (nI_add (kk i) 1) ?_
        refine lv_dup2_11 hx hb dX3_sortByCounting_29 rfl rfl ?_
        refine q_iald hx hb hK hP 1 0 0 rfl (f := nF (o1F kk i)) rfl rfl (k := kk i + 1) (nI_clamp (n := kk i + 1) (by omega)) (vp_in_nI (show kk i + 1 < N + 1 from by omega) (by omega)) dX3_sortByCounting_30 ?_
        refine q_top (z := nI (o1F kk i (kk i + 1))) (rfl) ?_
        refine lv_iconst (v := (1 : Int32)) hx hb dX3_sortByCounting_31 (by decide) ?_
        refine q_iadd (z := nI (o1F kk i (kk i + 1) + 1)) hx hb dX3_sortByCounting_32 (nI_add (o1F kk i (kk i + 1)) 1) ?_
        refine q_iast hx hb hK hP hD hS 1 0 0 rfl (f := nF (o1F kk i)) rfl rfl (k := kk i + 1) (nI_clamp (n := kk i + 1) (by omega)) (vp_in_nI (show kk i + 1 < N + 1 from by omega) (by omega)) dX3_sortByCounting_33 wT_s_tr (Fs' := [wS cI b (a 0) (a 1) (a 2) N rw nm bf fe, wT cI (b 1) (N + 1) (upd (nF (o1F kk i)) (kk i + 1) (nI (o1F kk i (kk i + 1) + 1))), wA cI cZ a c fr tt sa tk]) rfl (fun H locs hP hD hS => ?_)
        have hP : va_P D vwCl (List.flatten [wS cI b (a 0) (a 1) (a 2) N rw nm bf fe, wT cI (b 1) (N + 1) (nF (o1F kk (i + 1))), wA cI cZ a c fr tt sa tk]) _ := wCast hP (by rw [show upd (nF (o1F kk i)) (kk i + 1) (nI (o1F kk i (kk i + 1) + 1)) = nF (o1F kk (i + 1)) from o1_w])
        have hD : va_D A (List.flatten [wS cI b (a 0) (a 1) (a 2) N rw nm bf fe, wT cI (b 1) (N + 1) (nF (o1F kk (i + 1))), wA cI cZ a c fr tt sa tk]) := dCast hD (by rw [show upd (nF (o1F kk i)) (kk i + 1) (nI (o1F kk i (kk i + 1) + 1)) = nF (o1F kk (i + 1)) from o1_w])
        refine lv_iinc (v := nI (i + 1)) (lv' := [(5, .int (nI (i + 1))), (0, .ref (b 0)), (1, .ref (b 4)), (2, .int (nI n)), (3, .ref (a 1)), (4, .ref (b 2))]) hx hb dX3_sortByCounting_34 hl (k := 0) rfl (nI_add i 1) (by decide) rfl (fun ls hl => ?_)
        refine lv_goto (tgt := 11) hx hb dX3_sortByCounting_37 (by decide) ?_
        have hl : lv_has ls 7 [(5, .int (nI (i + 1))), (0, .ref (b 0)), (1, .ref (b 4)), (2, .int (nI n)), (3, .ref (a 1)), (4, .ref (b 2))] := lv_sub hl [0, 1, 2, 3, 4, 5] rfl
        have hP : va_P D vwCl (List.flatten [wS cI b (a 0) (a 1) (a 2) N rw nm bf fe, wT cI (b 1) (N + 1) (nF (o1F kk (i + 1))), wA cI cZ a c fr tt sa tk]) _ := hP
        have hD : va_D A (List.flatten [wS cI b (a 0) (a 1) (a 2) N rw nm bf fe, wT cI (b 1) (N + 1) (nF (o1F kk (i + 1))), wA cI cZ a c fr tt sa tk]) := hD
        exact ih_11 (i + 1) (by omega) (by omega) _ _ hP hD hS _ hl
  have hl : lv_has ls 7 [(5, .int (nI 0)), (0, .ref (b 0)), (1, .ref (b 4)), (2, .int (nI n)), (3, .ref (a 1)), (4, .ref (b 2))] := lv_sub hl [0, 1, 2, 3, 4, 5] rfl
  have hP : va_P D vwCl (List.flatten [wS cI b (a 0) (a 1) (a 2) N rw nm bf fe, wT cI (b 1) (N + 1) (nF (o1F kk 0)), wA cI cZ a c fr tt sa tk]) _ := hP
  have hD : va_D A (List.flatten [wS cI b (a 0) (a 1) (a 2) N rw nm bf fe, wT cI (b 1) (N + 1) (nF (o1F kk 0)), wA cI cZ a c fr tt sa tk]) := hD
  exact loop_11 (n + 1) 0 (by omega) (by omega) _ _ hP hD hS _ hl

set_option maxHeartbeats 8000000 in
set_option maxRecDepth 100000 in
theorem k3i_rowLength (l : Launch) (D : va_G) (cI cZ cL : ClassId) (b : Nat → Nat) (N : Nat) (rw : Nat → Int32) (nm : Nat → Int32) (bf : Nat → Int32) (fe : Nat → Int32) (a : Nat → Nat) (c : Nat) (fr : Nat → Int32) (tt : Nat → Int32) (sa : Nat → Int32) (tk : Nat → Int32) (oo : Nat → Nat) (v : Nat) (hc : c ≤ 160) (hN : N ≤ 24) (hv : v < N) (h1 : oo v ≤ oo (v + 1)) (h2 : oo (v + 1) ≤ 160) : McI l D (tY cI cZ cL) yX3_rowLength wsX3_rowLength 0 0 [.ref (b 0), .int (nI v)] ([wS cI b (a 0) (a 2) (a 1) N rw nm bf fe, wT cI (b 1) (N + 1) (nF oo), wA cI cZ a c fr tt sa tk]) (fun r (_ : Unit) => r = nI (oo (v + 1) - oo v)) (fun (_ : Unit) => [wS cI b (a 0) (a 2) (a 1) N rw nm bf fe, wT cI (b 1) (N + 1) (nF oo), wA cI cZ a c fr tt sa tk]) := by
  refine q_ofW (Qc := fun A => (va_Qi (fun r (_ : Unit) => r = nI (oo (v + 1) - oo v)) (fun u t => mAt D (tY cI cZ cL) A ((fun (_ : Unit) => [wS cI b (a 0) (a 2) (a 1) N rw nm bf fe, wT cI (b 1) (N + 1) (nF oo), wA cI cZ a c fr tt sa tk]) u) t) A)) (cc := cX3_rowLength) (maxL := 2) (ret := (some .int)) (by decide) rfl (Nat.le_of_ble_eq_true rfl) ?_
  intro pz ez sz mz bz tz cz hx hb hml hr hlocks hts hown hK hP A hD hA ls hl
  have hS : va_S A sz.heap sz.heap [] := va_S.rf
  have hl : lv_has ls 2 [(0, .ref (b 0)), (1, .int (nI v))] := hl
  refine lv_aload_n hx hb dX3_rowLength_0 rfl (lv_at hl 0 rfl) ?_
  refine q_get (D := D) (ci := 3) (v := .ref (b 1)) (C := RX3) (T := TX3) (N := 8) hx hb hts (by decide +kernel) hown hK hP 0 0 rfl rfl rfl 3 (by decide) (hts (.fieldLink RX3 31 "OffsetRows$Side" "offsets" "[I") (by decide +kernel)) (fun _ h9 => h9) rfl dX3_rowLength_1 ?_
  refine lv_iload_n hx hb dX3_rowLength_4 rfl (lv_at hl 1 rfl) ?_
  refine lv_iconst (v := (1 : Int32)) hx hb dX3_rowLength_5 (by decide) ?_
  refine q_iadd (z := nI (v + 1)) hx hb dX3_rowLength_6 (nI_add v 1) ?_
  refine q_iald hx hb hK hP 1 0 0 rfl (f := nF oo) rfl rfl (k := v + 1) (nI_clamp (n := v + 1) (by omega)) (vp_in_nI (show v + 1 < N + 1 from by omega) (by omega)) dX3_rowLength_7 ?_
  refine q_top (z := nI (oo (v + 1))) (rfl) ?_
  refine lv_aload_n hx hb dX3_rowLength_8 rfl (lv_at hl 0 rfl) ?_
  refine q_get (D := D) (ci := 3) (v := .ref (b 1)) (C := RX3) (T := TX3) (N := 8) hx hb hts (by decide +kernel) hown hK hP 0 0 rfl rfl rfl 3 (by decide) (hts (.fieldLink RX3 31 "OffsetRows$Side" "offsets" "[I") (by decide +kernel)) (fun _ h9 => h9) rfl dX3_rowLength_9 ?_
  refine lv_iload_n hx hb dX3_rowLength_12 rfl (lv_at hl 1 rfl) ?_
  refine q_iald hx hb hK hP 1 0 0 rfl (f := nF oo) rfl rfl (k := v) (nI_clamp (n := v) (by omega)) (vp_in_nI (show v < N + 1 from by omega) (by omega)) dX3_rowLength_13 ?_
  refine q_top (z := nI (oo v)) (rfl) ?_
  refine q_isub (z := nI ((oo (v + 1)) - (oo v))) hx hb dX3_rowLength_14 (pk_sub (a := oo (v + 1)) (b := oo v) (by omega)) ?_
  exact q_iret (()) hx hb hr hlocks hK hP hD hS (rfl) (rfl) dX3_rowLength_15

set_option maxHeartbeats 8000000 in
set_option maxRecDepth 100000 in
theorem k3i_countPlaces (l : Launch) (D : va_G) (cI cZ cL : ClassId) (b : Nat → Nat) (N : Nat) (rw : Nat → Int32) (nm : Nat → Int32) (bf : Nat → Int32) (fe : Nat → Int32) (a : Nat → Nat) (c : Nat) (fr : Nat → Int32) (tt : Nat → Int32) (sa : Nat → Int32) (tk : Nat → Int32) (oo : Nat → Nat) (v : Nat) (hc : c ≤ 160) (hN : N ≤ 24) (hv : v < N) (h1 : oo v ≤ oo (v + 1)) (h2 : oo (v + 1) ≤ 160) : McI l D (tY cI cZ cL) yX3_countPlaces wsX3_countPlaces 1 21 [.ref (b 0), .int (nI v)] ([wS cI b (a 0) (a 2) (a 1) N rw nm bf fe, wT cI (b 1) (N + 1) (nF oo), wA cI cZ a c fr tt sa tk]) (fun r (_ : Unit) => r = nI (plN c oo v)) (fun (_ : Unit) => [wS cI b (a 0) (a 2) (a 1) N rw nm bf fe, wT cI (b 1) (N + 1) (nF oo), wA cI cZ a c fr tt sa tk]) := by
  refine q_ofW (Qc := fun A => (va_Qi (fun r (_ : Unit) => r = nI (plN c oo v)) (fun u t => mAt D (tY cI cZ cL) A ((fun (_ : Unit) => [wS cI b (a 0) (a 2) (a 1) N rw nm bf fe, wT cI (b 1) (N + 1) (nF oo), wA cI cZ a c fr tt sa tk]) u) t) A)) (cc := cX3_countPlaces) (maxL := 2) (ret := (some .int)) (by decide) rfl (Nat.le_of_ble_eq_true rfl) ?_
  intro pz ez sz mz bz tz cz hx hb hml hr hlocks hts hown hK hP A hD hA ls hl
  have hS : va_S A sz.heap sz.heap [] := va_S.rf
  have hl : lv_has ls 2 [(0, .ref (b 0)), (1, .int (nI v))] := hl
  refine lv_aload_n hx hb dX3_countPlaces_0 rfl (lv_at hl 0 rfl) ?_
  refine lv_iload_n hx hb dX3_countPlaces_1 rfl (lv_at hl 1 rfl) ?_
  refine q_callVi (index := 66) (n := 1) (As := [.int (nI v)]) (rest := []) (js := [0, 1, 2]) (ci := 3) ⟨hx, hb, hml, hown, hts⟩ hK hP hD hS hA (k3i_rowLength l D cI cZ cL b N rw nm bf fe a c fr tt sa tk oo v (by omega) (by omega) (by omega) (by omega) (by omega)) rfl (by decide) (fun _ => by simp only [List.map_cons, List.map_nil, wA_fst, wS_fst, wT_fst]) (fun (_ : Unit) => [wS cI b (a 0) (a 2) (a 1) N rw nm bf fe, wT cI (b 1) (N + 1) (nF oo), wA cI cZ a c fr tt sa tk]) (fun _ => rfl) gX3_countPlaces_X3_rowLength rfl (by decide +kernel) rfl ⟨by decide, by decide⟩ rfl rfl rfl rfl hl.1 (Nat.le_of_ble_eq_true rfl) ⟨(Nat.zero_le _), (Nat.zero_le _)⟩ dX3_countPlaces_2 rfl (fun r _ H locs hw hP hD hS => ?_)
  have hw : r = nI (oo (v + 1) - oo v) := hw
  subst hw
  refine lv_aload_n hx hb dX3_countPlaces_5 rfl (lv_at hl 0 rfl) ?_
  refine q_get (D := D) (ci := 3) (v := .ref (a 0)) (C := RX3) (T := TX3) (N := 8) hx hb hts (by decide +kernel) hown hK hP 0 0 rfl rfl rfl 0 (by decide) (hts (.fieldLink RX3 21 "OffsetRows$Side" "arcs" "LOffsetRows$ArcList;") (by decide +kernel)) (fun _ h9 => h9) rfl dX3_countPlaces_6 ?_
  refine q_get (D := D) (ci := 0) (v := .int (nI c)) (C := RX0) (T := TX0) (N := 5) hx hb hts (by decide +kernel) hown hK hP 2 0 rfl rfl rfl 4 (by decide) (hts (.fieldLink RX3 45 "OffsetRows$ArcList" "count" "I") (by decide +kernel)) (fun _ h9 => h9) rfl dX3_countPlaces_9 ?_
  refine q_iadd (z := nI (oo (v + 1) - oo v + c)) hx hb dX3_countPlaces_12 (nI_add (oo (v + 1) - oo v) c) ?_
  exact q_iret (()) hx hb hr hlocks hK hP hD hS (rfl) (rfl) dX3_countPlaces_13

set_option maxHeartbeats 8000000 in
set_option maxRecDepth 100000 in
theorem k3i_arcAt (l : Launch) (D : va_G) (cI cZ cL : ClassId) (b : Nat → Nat) (N : Nat) (rw : Nat → Int32) (nm : Nat → Int32) (bf : Nat → Int32) (fe : Nat → Int32) (a : Nat → Nat) (c : Nat) (fr : Nat → Int32) (tt : Nat → Int32) (sa : Nat → Int32) (tk : Nat → Int32) (oo : Nat → Nat) (v : Nat) (p : Nat) (hc : c ≤ 160) (hN : N ≤ 24) (hv : v < N) (h1 : oo v ≤ oo (v + 1)) (h2 : oo (v + 1) ≤ 160) (hp : p ≤ 1000) : McI l D (tY cI cZ cL) yX3_arcAt wsX3_arcAt 2 42 [.ref (b 0), .int (nI v), .int (nI p)] ([wS cI b (a 0) (a 2) (a 1) N rw nm bf fe, wT cI (b 1) (N + 1) (nF oo), wA cI cZ a c fr tt sa tk]) (fun r (_ : Unit) => r = atV c sa tt rw oo v p) (fun (_ : Unit) => [wS cI b (a 0) (a 2) (a 1) N rw nm bf fe, wT cI (b 1) (N + 1) (nF oo), wA cI cZ a c fr tt sa tk]) := by
  refine q_ofW (Qc := fun A => (va_Qi (fun r (_ : Unit) => r = atV c sa tt rw oo v p) (fun u t => mAt D (tY cI cZ cL) A ((fun (_ : Unit) => [wS cI b (a 0) (a 2) (a 1) N rw nm bf fe, wT cI (b 1) (N + 1) (nF oo), wA cI cZ a c fr tt sa tk]) u) t) A)) (cc := cX3_arcAt) (maxL := 5) (ret := (some .int)) (by decide) rfl (Nat.le_of_ble_eq_true rfl) ?_
  intro pz ez sz mz bz tz cz hx hb hml hr hlocks hts hown hK hP A hD hA ls hl
  have hS : va_S A sz.heap sz.heap [] := va_S.rf
  have hl : lv_has ls 5 [(0, .ref (b 0)), (1, .int (nI v)), (2, .int (nI p))] := hl
  refine lv_aload_n hx hb dX3_arcAt_0 rfl (lv_at hl 0 rfl) ?_
  refine lv_iload_n hx hb dX3_arcAt_1 rfl (lv_at hl 1 rfl) ?_
  refine q_callVi (index := 66) (n := 1) (As := [.int (nI v)]) (rest := []) (js := [0, 1, 2]) (ci := 3) ⟨hx, hb, hml, hown, hts⟩ hK hP hD hS hA (k3i_rowLength l D cI cZ cL b N rw nm bf fe a c fr tt sa tk oo v (by omega) (by omega) (by omega) (by omega) (by omega)) rfl (by decide) (fun _ => by simp only [List.map_cons, List.map_nil, wA_fst, wS_fst, wT_fst]) (fun (_ : Unit) => [wS cI b (a 0) (a 2) (a 1) N rw nm bf fe, wT cI (b 1) (N + 1) (nF oo), wA cI cZ a c fr tt sa tk]) (fun _ => rfl) gX3_arcAt_X3_rowLength rfl (by decide +kernel) rfl ⟨by decide, by decide⟩ rfl rfl rfl rfl hl.1 (Nat.le_of_ble_eq_true rfl) ⟨(Nat.zero_le _), (Nat.zero_le _)⟩ dX3_arcAt_2 rfl (fun r _ H locs hw hP hD hS => ?_)
  have hw : r = nI (oo (v + 1) - oo v) := hw
  subst hw
  refine lv_istore_n (lv' := [(3, .int (nI (oo (v + 1) - oo v))), (0, .ref (b 0)), (1, .int (nI v)), (2, .int (nI p))]) hx hb dX3_arcAt_5 rfl hl (by decide) rfl (fun ls hl => ?_)
  refine lv_iload_n hx hb dX3_arcAt_6 rfl (lv_at hl 3 rfl) ?_
  refine lv_iload_n hx hb dX3_arcAt_7 rfl (lv_at hl 0 rfl) ?_
  refine lv_icmp_ge (tgt := 25) hx hb dX3_arcAt_8 (by decide) (fun c_8 => ?_) (fun c_8 => ?_)
  ·
    have n_8 : (oo (v + 1) - oo v) ≤ p := (nI_leI (a := oo (v + 1) - oo v) (b := p) (by omega) (by omega)).mp c_8
    refine lv_iload_n hx hb dX3_arcAt_25 rfl (lv_at hl 3 rfl) ?_
    refine lv_iload_n hx hb dX3_arcAt_26 rfl (lv_at hl 0 rfl) ?_
    refine q_isub (z := nI (p - (oo (v + 1) - oo v))) hx hb dX3_arcAt_27 (pk_sub (a := p) (b := oo (v + 1) - oo v) (by omega)) ?_
    refine lv_istore (lv' := [(4, .int (nI (p - (oo (v + 1) - oo v)))), (3, .int (nI (oo (v + 1) - oo v))), (0, .ref (b 0)), (1, .int (nI v)), (2, .int (nI p))]) hx hb dX3_arcAt_28 hl (by decide) rfl (fun ls hl => ?_)
    refine lv_aload_n hx hb dX3_arcAt_30 rfl (lv_at hl 2 rfl) ?_
    refine q_get (D := D) (ci := 3) (v := .ref (a 0)) (C := RX3) (T := TX3) (N := 8) hx hb hts (by decide +kernel) hown hK hP 0 0 rfl rfl rfl 0 (by decide) (hts (.fieldLink RX3 21 "OffsetRows$Side" "arcs" "LOffsetRows$ArcList;") (by decide +kernel)) (fun _ h9 => h9) rfl dX3_arcAt_31 ?_
    refine lv_iload hx hb dX3_arcAt_34 (lv_at hl 0 rfl) ?_
    refine q_callVi (index := 70) (n := 1) (As := [.int (nI (p - (oo (v + 1) - oo v)))]) (rest := []) (js := [2]) (ci := 0) ⟨hx, hb, hml, hown, hts⟩ hK hP hD hS hA (k0_isWaiting l D cI cZ cL a c fr tt sa tk (nI (p - (oo (v + 1) - oo v))) (by omega)) rfl (by decide) (fun _ => by simp only [List.map_cons, List.map_nil, wA_fst]) (fun (_ : Unit) => [wS cI b (a 0) (a 2) (a 1) N rw nm bf fe, wT cI (b 1) (N + 1) (nF oo), wA cI cZ a c fr tt sa tk]) (fun _ => rfl) gX3_arcAt_X0_isWaiting rfl (by decide +kernel) rfl ⟨by decide, by decide⟩ rfl rfl rfl rfl hl.1 (Nat.le_of_ble_eq_true rfl) ⟨(Nat.zero_le _), (Nat.zero_le _)⟩ dX3_arcAt_36 rfl (fun r _ H locs hw hP hD hS => ?_)
    have hw : r = bI (isWt c sa (nI (p - (oo (v + 1) - oo v)))) := hw
    subst hw
    refine lv_if_eq (tgt := 58) hx hb dX3_arcAt_39 (by decide) (fun c_39 => ?_) (fun c_39 => ?_)
    ·
      have n_39 : (isWt c sa (nI (p - (oo (v + 1) - oo v)))) = false := bI_0.mp c_39
      refine lv_iconst (v := (-1)) hx hb dX3_arcAt_58 (by decide) ?_
      exact q_iret (()) hx hb hr hlocks hK hP hD hS (by rw [atV, if_neg (by omega)]; simp [n_39]) (rfl) dX3_arcAt_59
    ·
      have n_39 : (isWt c sa (nI (p - (oo (v + 1) - oo v)))) = true := bI_n.mp c_39
      have hlt : p - (oo (v + 1) - oo v) < c := isWt_lt n_39 (by omega) (by omega)
      refine lv_aload_n hx hb dX3_arcAt_42 rfl (lv_at hl 2 rfl) ?_
      refine q_get (D := D) (ci := 3) (v := .ref (a 2)) (C := RX3) (T := TX3) (N := 8) hx hb hts (by decide +kernel) hown hK hP 0 0 rfl rfl rfl 1 (by decide) (hts (.fieldLink RX3 25 "OffsetRows$Side" "ownEnd" "[I") (by decide +kernel)) (fun _ h9 => h9) rfl dX3_arcAt_43 ?_
      refine lv_iload hx hb dX3_arcAt_46 (lv_at hl 0 rfl) ?_
      refine q_iald hx hb hK hP 2 2 0 rfl (f := tt) rfl rfl (k := p - (oo (v + 1) - oo v)) (nI_clamp (n := p - (oo (v + 1) - oo v)) (by omega)) (vp_in_nI (show p - (oo (v + 1) - oo v) < 160 from by omega) (by omega)) dX3_arcAt_48 ?_
      refine lv_iload_n hx hb dX3_arcAt_49 rfl (lv_at hl 3 rfl) ?_
      refine lv_icmp_ne (tgt := 58) hx hb dX3_arcAt_50 (by decide) (fun c_50 => ?_) (fun c_50 => ?_)
      ·
        refine lv_iconst (v := (-1)) hx hb dX3_arcAt_58 (by decide) ?_
        exact q_iret (()) hx hb hr hlocks hK hP hD hS (by rw [atV, if_neg (by omega)]; simp [n_39, c_50]) (rfl) dX3_arcAt_59
      ·
        refine lv_iload hx hb dX3_arcAt_53 (lv_at hl 0 rfl) ?_
        refine lv_goto (tgt := 59) hx hb dX3_arcAt_55 (by decide) ?_
        exact q_iret (()) hx hb hr hlocks hK hP hD hS (by rw [atV, if_neg (by omega)]; simp [n_39, c_50]) (rfl) dX3_arcAt_59
  ·
    have n_8 : ¬ (oo (v + 1) - oo v) ≤ p := fun h9 => c_8 ((nI_leI (a := oo (v + 1) - oo v) (b := p) (by omega) (by omega)).mpr h9)
    refine lv_aload_n hx hb dX3_arcAt_11 rfl (lv_at hl 1 rfl) ?_
    refine q_get (D := D) (ci := 3) (v := .ref (b 2)) (C := RX3) (T := TX3) (N := 8) hx hb hts (by decide +kernel) hown hK hP 0 0 rfl rfl rfl 4 (by decide) (hts (.fieldLink RX3 9 "OffsetRows$Side" "row" "[I") (by decide +kernel)) (fun _ h9 => h9) rfl dX3_arcAt_12 ?_
    refine lv_aload_n hx hb dX3_arcAt_15 rfl (lv_at hl 1 rfl) ?_
    refine q_get (D := D) (ci := 3) (v := .ref (b 1)) (C := RX3) (T := TX3) (N := 8) hx hb hts (by decide +kernel) hown hK hP 0 0 rfl rfl rfl 3 (by decide) (hts (.fieldLink RX3 31 "OffsetRows$Side" "offsets" "[I") (by decide +kernel)) (fun _ h9 => h9) rfl dX3_arcAt_16 ?_
    refine lv_iload_n hx hb dX3_arcAt_19 rfl (lv_at hl 2 rfl) ?_
    refine q_iald hx hb hK hP 1 0 0 rfl (f := nF oo) rfl rfl (k := v) (nI_clamp (n := v) (by omega)) (vp_in_nI (show v < N + 1 from by omega) (by omega)) dX3_arcAt_20 ?_
    refine q_top (z := nI (oo v)) (rfl) ?_
    refine lv_iload_n hx hb dX3_arcAt_21 rfl (lv_at hl 3 rfl) ?_
    refine q_iadd (z := nI (oo v + p)) hx hb dX3_arcAt_22 (nI_add (oo v) p) ?_
    refine q_iald hx hb hK hP 0 1 0 rfl (f := rw) rfl rfl (k := oo v + p) (nI_clamp (n := oo v + p) (by omega)) (vp_in_nI (show oo v + p < 160 from by omega) (by omega)) dX3_arcAt_23 ?_
    exact q_iret (()) hx hb hr hlocks hK hP hD hS (by rw [atV, if_pos (by omega)]) (rfl) dX3_arcAt_24

set_option maxHeartbeats 8000000 in
set_option maxRecDepth 100000 in
theorem k3i_livePlaceFrom (l : Launch) (D : va_G) (cI cZ cL : ClassId) (b : Nat → Nat) (N : Nat) (rw : Nat → Int32) (nm : Nat → Int32) (bf : Nat → Int32) (fe : Nat → Int32) (a : Nat → Nat) (c : Nat) (fr : Nat → Int32) (tt : Nat → Int32) (sa : Nat → Int32) (tk : Nat → Int32) (oo : Nat → Nat) (v : Nat) (q : Nat) (hc : c ≤ 160) (hN : N ≤ 24) (hv : v < N) (h1 : oo v ≤ oo (v + 1)) (h2 : oo (v + 1) ≤ 160) (hq : q ≤ plN c oo v) : McI l D (tY cI cZ cL) yX3_livePlaceFrom wsX3_livePlaceFrom 3 66 [.ref (b 0), .int (nI v), .int (nI q)] ([wS cI b (a 0) (a 2) (a 1) N rw nm bf fe, wT cI (b 1) (N + 1) (nF oo), wA cI cZ a c fr tt sa tk]) (fun r (_ : Unit) => r = lpR c sa tk tt rw oo v q) (fun (_ : Unit) => [wS cI b (a 0) (a 2) (a 1) N rw nm bf fe, wT cI (b 1) (N + 1) (nF oo), wA cI cZ a c fr tt sa tk]) := by
  refine q_ofW (Qc := fun A => (va_Qi (fun r (_ : Unit) => r = lpR c sa tk tt rw oo v q) (fun u t => mAt D (tY cI cZ cL) A ((fun (_ : Unit) => [wS cI b (a 0) (a 2) (a 1) N rw nm bf fe, wT cI (b 1) (N + 1) (nF oo), wA cI cZ a c fr tt sa tk]) u) t) A)) (cc := cX3_livePlaceFrom) (maxL := 5) (ret := (some .int)) (by decide) rfl (Nat.le_of_ble_eq_true rfl) ?_
  intro pz ez sz mz bz tz cz hx hb hml hr hlocks hts hown hK hP A hD hA ls hl
  have hS : va_S A sz.heap sz.heap [] := va_S.rf
  have hl : lv_has ls 5 [(0, .ref (b 0)), (1, .int (nI v)), (2, .int (nI q))] := hl
  have hpl : plN c oo v ≤ 320 := by unfold plN; omega
  refine lv_aload_n hx hb dX3_livePlaceFrom_0 rfl (lv_at hl 0 rfl) ?_
  refine lv_iload_n hx hb dX3_livePlaceFrom_1 rfl (lv_at hl 1 rfl) ?_
  refine q_callVi (index := 74) (n := 1) (As := [.int (nI v)]) (rest := []) (js := [0, 1, 2]) (ci := 3) ⟨hx, hb, hml, hown, hts⟩ hK hP hD hS hA (k3i_countPlaces l D cI cZ cL b N rw nm bf fe a c fr tt sa tk oo v (by omega) (by omega) (by omega) (by omega) (by omega)) rfl (by decide) (fun _ => by simp only [List.map_cons, List.map_nil, wA_fst, wS_fst, wT_fst]) (fun (_ : Unit) => [wS cI b (a 0) (a 2) (a 1) N rw nm bf fe, wT cI (b 1) (N + 1) (nF oo), wA cI cZ a c fr tt sa tk]) (fun _ => rfl) gX3_livePlaceFrom_X3_countPlaces rfl (by decide +kernel) rfl ⟨by decide, by decide⟩ rfl rfl rfl rfl hl.1 (Nat.le_of_ble_eq_true rfl) ⟨(Nat.zero_le _), (Nat.zero_le _)⟩ dX3_livePlaceFrom_2 rfl (fun r _ H locs hw hP hD hS => ?_)
  have hw : r = nI (plN c oo v) := hw
  subst hw
  refine lv_istore_n (lv' := [(3, .int (nI (plN c oo v))), (0, .ref (b 0)), (1, .int (nI v)), (2, .int (nI q))]) hx hb dX3_livePlaceFrom_5 rfl hl (by decide) rfl (fun ls hl => ?_)
  refine lv_iload_n hx hb dX3_livePlaceFrom_6 rfl (lv_at hl 3 rfl) ?_
  refine lv_istore (lv' := [(4, .int (nI q)), (3, .int (nI (plN c oo v))), (0, .ref (b 0)), (1, .int (nI v)), (2, .int (nI q))]) hx hb dX3_livePlaceFrom_7 hl (by decide) rfl (fun ls hl => ?_)
  have loop_9 : ∀ (k_9 i : Nat), i ≤ plN c oo v → plN c oo v < i + k_9 → (lpR c sa tk tt rw oo v q = fsv (atL c sa tk tt rw oo v) nI (plN c oo v - i) i) → ∀ (H : Heap) (locs : List Loc), va_P D vwCl (List.flatten [wS cI b (a 0) (a 2) (a 1) N rw nm bf fe, wT cI (b 1) (N + 1) (nF oo), wA cI cZ a c fr tt sa tk]) H → va_D A (List.flatten [wS cI b (a 0) (a 2) (a 1) N rw nm bf fe, wT cI (b 1) (N + 1) (nF oo), wA cI cZ a c fr tt sa tk]) → va_S A sz.heap H locs → ∀ (ls : Array Slot), lv_has ls 5 [(4, .int (nI i)), (3, .int (nI (plN c oo v))), (0, .ref (b 0)), (1, .int (nI v)), (2, .int (nI q))] → W pz l ez (rM 3 66) sz mz [.ref (b 0), .int (nI v), .int (nI q)].toArray bz tz cz H locs 0 0 (MQ bz (va_Qi (fun r (_ : Unit) => r = lpR c sa tk tt rw oo v q) (fun u t => mAt D (tY cI cZ cL) A ((fun (_ : Unit) => [wS cI b (a 0) (a 2) (a 1) N rw nm bf fe, wT cI (b 1) (N + 1) (nF oo), wA cI cZ a c fr tt sa tk]) u) t) A) [.ref (b 0), .int (nI v), .int (nI q)].toArray sz 0 0 A) (F0 mz 9 ls [])  := by
    intro k_9
    induction k_9 with
    | zero => intro i hi_9 hk_9; exact absurd hk_9 (by omega)
    | succ k_9 ih_9 =>
      intro i hi_9 hk_9 hinv H locs hP hD hS ls hl
      refine lv_iload hx hb dX3_livePlaceFrom_9 (lv_at hl 0 rfl) ?_
      refine lv_iload_n hx hb dX3_livePlaceFrom_11 rfl (lv_at hl 1 rfl) ?_
      refine lv_icmp_ge (tgt := 41) hx hb dX3_livePlaceFrom_12 (by decide) (fun c_12 => ?_) (fun c_12 => ?_)
      ·
        have n_12 : (plN c oo v) ≤ i := (nI_leI (a := plN c oo v) (b := i) (by omega) (by omega)).mp c_12
        refine lv_iconst (v := (-1)) hx hb dX3_livePlaceFrom_41 (by decide) ?_
        exact q_iret (()) hx hb hr hlocks hK hP hD hS (by rw [hinv, fsv_end (by omega)]) (rfl) dX3_livePlaceFrom_42
      ·
        have n_12 : ¬ (plN c oo v) ≤ i := fun h9 => c_12 ((nI_leI (a := plN c oo v) (b := i) (by omega) (by omega)).mpr h9)
        refine lv_aload_n hx hb dX3_livePlaceFrom_15 rfl (lv_at hl 2 rfl) ?_
        refine q_get (D := D) (ci := 3) (v := .ref (a 0)) (C := RX3) (T := TX3) (N := 8) hx hb hts (by decide +kernel) hown hK hP 0 0 rfl rfl rfl 0 (by decide) (hts (.fieldLink RX3 21 "OffsetRows$Side" "arcs" "LOffsetRows$ArcList;") (by decide +kernel)) (fun _ h9 => h9) rfl dX3_livePlaceFrom_16 ?_
        refine lv_aload_n hx hb dX3_livePlaceFrom_19 rfl (lv_at hl 2 rfl) ?_
        refine lv_iload_n hx hb dX3_livePlaceFrom_20 rfl (lv_at hl 3 rfl) ?_
        refine lv_iload hx hb dX3_livePlaceFrom_21 (lv_at hl 0 rfl) ?_
        refine q_callVi (index := 77) (n := 2) (As := [.int (nI v), .int (nI i)]) (rest := [.ref (a 0)]) (js := [0, 1, 2]) (ci := 3) ⟨hx, hb, hml, hown, hts⟩ hK hP hD hS hA (k3i_arcAt l D cI cZ cL b N rw nm bf fe a c fr tt sa tk oo v i (by omega) (by omega) (by omega) (by omega) (by omega) (by omega)) rfl (by decide) (fun _ => by simp only [List.map_cons, List.map_nil, wA_fst, wS_fst, wT_fst]) (fun (_ : Unit) => [wS cI b (a 0) (a 2) (a 1) N rw nm bf fe, wT cI (b 1) (N + 1) (nF oo), wA cI cZ a c fr tt sa tk]) (fun _ => rfl) gX3_livePlaceFrom_X3_arcAt rfl (by decide +kernel) rfl ⟨by decide, by decide⟩ rfl rfl rfl rfl hl.1 (Nat.le_of_ble_eq_true rfl) ⟨(Nat.zero_le _), (Nat.zero_le _)⟩ dX3_livePlaceFrom_23 rfl (fun r _ H locs hw hP hD hS => ?_)
        have hw : r = atV c sa tt rw oo v i := hw
        subst hw
        refine q_callVi (index := 81) (n := 1) (As := [.int (atV c sa tt rw oo v i)]) (rest := []) (js := [2]) (ci := 0) ⟨hx, hb, hml, hown, hts⟩ hK hP hD hS hA (k0_isLive l D cI cZ cL a c fr tt sa tk (atV c sa tt rw oo v i) (by omega)) rfl (by decide) (fun _ => by simp only [List.map_cons, List.map_nil, wA_fst]) (fun (_ : Unit) => [wS cI b (a 0) (a 2) (a 1) N rw nm bf fe, wT cI (b 1) (N + 1) (nF oo), wA cI cZ a c fr tt sa tk]) (fun _ => rfl) gX3_livePlaceFrom_X0_isLive rfl (by decide +kernel) rfl ⟨by decide, by decide⟩ rfl rfl rfl rfl hl.1 (Nat.le_of_ble_eq_true rfl) ⟨(Nat.zero_le _), (Nat.zero_le _)⟩ dX3_livePlaceFrom_26 rfl (fun r _ H locs hw hP hD hS => ?_)
        have hw : r = bI (isLv c sa tk (atV c sa tt rw oo v i)) := hw
        subst hw
        refine q_top (z := bI (atL c sa tk tt rw oo v i)) (rfl) ?_
        refine lv_if_eq (tgt := 35) hx hb dX3_livePlaceFrom_29 (by decide) (fun c_29 => ?_) (fun c_29 => ?_)
        ·
          have n_29 : (atL c sa tk tt rw oo v i) = false := bI_0.mp c_29
          refine lv_iinc (v := nI (i + 1)) (lv' := [(4, .int (nI (i + 1))), (3, .int (nI (plN c oo v))), (0, .ref (b 0)), (1, .int (nI v)), (2, .int (nI q))]) hx hb dX3_livePlaceFrom_35 hl (k := 0) rfl (nI_add i 1) (by decide) rfl (fun ls hl => ?_)
          refine lv_goto (tgt := 9) hx hb dX3_livePlaceFrom_38 (by decide) ?_
          have hl : lv_has ls 5 [(4, .int (nI (i + 1))), (3, .int (nI (plN c oo v))), (0, .ref (b 0)), (1, .int (nI v)), (2, .int (nI q))] := lv_sub hl [0, 1, 2, 3, 4] rfl
          have hP : va_P D vwCl (List.flatten [wS cI b (a 0) (a 2) (a 1) N rw nm bf fe, wT cI (b 1) (N + 1) (nF oo), wA cI cZ a c fr tt sa tk]) _ := hP
          have hD : va_D A (List.flatten [wS cI b (a 0) (a 2) (a 1) N rw nm bf fe, wT cI (b 1) (N + 1) (nF oo), wA cI cZ a c fr tt sa tk]) := hD
          exact ih_9 (i + 1) (by omega) (by omega) (hinv.trans (fsv_no (by omega) n_29)) _ _ hP hD hS _ hl
        ·
          have n_29 : (atL c sa tk tt rw oo v i) = true := bI_n.mp c_29
          refine lv_iload hx hb dX3_livePlaceFrom_32 (lv_at hl 0 rfl) ?_
          exact q_iret (()) hx hb hr hlocks hK hP hD hS (by rw [hinv, fsv_yes (by omega) n_29]) (rfl) dX3_livePlaceFrom_34
  have hl : lv_has ls 5 [(4, .int (nI q)), (3, .int (nI (plN c oo v))), (0, .ref (b 0)), (1, .int (nI v)), (2, .int (nI q))] := lv_sub hl [0, 1, 2, 3, 4] rfl
  have hP : va_P D vwCl (List.flatten [wS cI b (a 0) (a 2) (a 1) N rw nm bf fe, wT cI (b 1) (N + 1) (nF oo), wA cI cZ a c fr tt sa tk]) _ := hP
  have hD : va_D A (List.flatten [wS cI b (a 0) (a 2) (a 1) N rw nm bf fe, wT cI (b 1) (N + 1) (nF oo), wA cI cZ a c fr tt sa tk]) := hD
  exact loop_9 ((plN c oo v) + 1) q (by omega) (by omega) rfl _ _ hP hD hS _ hl

set_option maxHeartbeats 8000000 in
set_option maxRecDepth 100000 in
theorem k3i_countLive (l : Launch) (D : va_G) (cI cZ cL : ClassId) (b : Nat → Nat) (N : Nat) (rw : Nat → Int32) (nm : Nat → Int32) (bf : Nat → Int32) (fe : Nat → Int32) (a : Nat → Nat) (c : Nat) (fr : Nat → Int32) (tt : Nat → Int32) (sa : Nat → Int32) (tk : Nat → Int32) (oo : Nat → Nat) (v : Nat) (hc : c ≤ 160) (hN : N ≤ 24) (hv : v < N) (h1 : oo v ≤ oo (v + 1)) (h2 : oo (v + 1) ≤ 160) : McI l D (tY cI cZ cL) yX3_countLive wsX3_countLive 3 66 [.ref (b 0), .int (nI v)] ([wS cI b (a 0) (a 2) (a 1) N rw nm bf fe, wT cI (b 1) (N + 1) (nF oo), wA cI cZ a c fr tt sa tk]) (fun r (_ : Unit) => r = nI (cN (plN c oo v) (atL c sa tk tt rw oo v))) (fun (_ : Unit) => [wS cI b (a 0) (a 2) (a 1) N rw nm bf fe, wT cI (b 1) (N + 1) (nF oo), wA cI cZ a c fr tt sa tk]) := by
  refine q_ofW (Qc := fun A => (va_Qi (fun r (_ : Unit) => r = nI (cN (plN c oo v) (atL c sa tk tt rw oo v))) (fun u t => mAt D (tY cI cZ cL) A ((fun (_ : Unit) => [wS cI b (a 0) (a 2) (a 1) N rw nm bf fe, wT cI (b 1) (N + 1) (nF oo), wA cI cZ a c fr tt sa tk]) u) t) A)) (cc := cX3_countLive) (maxL := 5) (ret := (some .int)) (by decide) rfl (Nat.le_of_ble_eq_true rfl) ?_
  intro pz ez sz mz bz tz cz hx hb hml hr hlocks hts hown hK hP A hD hA ls hl
  have hS : va_S A sz.heap sz.heap [] := va_S.rf
  have hl : lv_has ls 5 [(0, .ref (b 0)), (1, .int (nI v))] := hl
  have hpl : plN c oo v ≤ 320 := by unfold plN; omega
  refine lv_aload_n hx hb dX3_countLive_0 rfl (lv_at hl 0 rfl) ?_
  refine lv_iload_n hx hb dX3_countLive_1 rfl (lv_at hl 1 rfl) ?_
  refine q_callVi (index := 74) (n := 1) (As := [.int (nI v)]) (rest := []) (js := [0, 1, 2]) (ci := 3) ⟨hx, hb, hml, hown, hts⟩ hK hP hD hS hA (k3i_countPlaces l D cI cZ cL b N rw nm bf fe a c fr tt sa tk oo v (by omega) (by omega) (by omega) (by omega) (by omega)) rfl (by decide) (fun _ => by simp only [List.map_cons, List.map_nil, wA_fst, wS_fst, wT_fst]) (fun (_ : Unit) => [wS cI b (a 0) (a 2) (a 1) N rw nm bf fe, wT cI (b 1) (N + 1) (nF oo), wA cI cZ a c fr tt sa tk]) (fun _ => rfl) gX3_countLive_X3_countPlaces rfl (by decide +kernel) rfl ⟨by decide, by decide⟩ rfl rfl rfl rfl hl.1 (Nat.le_of_ble_eq_true rfl) ⟨(Nat.zero_le _), (Nat.zero_le _)⟩ dX3_countLive_2 rfl (fun r _ H locs hw hP hD hS => ?_)
  have hw : r = nI (plN c oo v) := hw
  subst hw
  refine lv_istore_n (lv' := [(2, .int (nI (plN c oo v))), (0, .ref (b 0)), (1, .int (nI v))]) hx hb dX3_countLive_5 rfl hl (by decide) rfl (fun ls hl => ?_)
  refine lv_iconst (v := (0 : Int32)) hx hb dX3_countLive_6 (by decide) ?_
  refine lv_istore_n (lv' := [(3, .int (0 : Int32)), (2, .int (nI (plN c oo v))), (0, .ref (b 0)), (1, .int (nI v))]) hx hb dX3_countLive_7 rfl hl (by decide) rfl (fun ls hl => ?_)
  refine lv_iconst (v := (0 : Int32)) hx hb dX3_countLive_8 (by decide) ?_
  refine lv_istore (lv' := [(4, .int (0 : Int32)), (3, .int (0 : Int32)), (2, .int (nI (plN c oo v))), (0, .ref (b 0)), (1, .int (nI v))]) hx hb dX3_countLive_9 hl (by decide) rfl (fun ls hl => ?_)
  have loop_11 : ∀ (k_11 i : Nat), i ≤ plN c oo v → plN c oo v < i + k_11 → ∀ (H : Heap) (locs : List Loc), va_P D vwCl (List.flatten [wS cI b (a 0) (a 2) (a 1) N rw nm bf fe, wT cI (b 1) (N + 1) (nF oo), wA cI cZ a c fr tt sa tk]) H → va_D A (List.flatten [wS cI b (a 0) (a 2) (a 1) N rw nm bf fe, wT cI (b 1) (N + 1) (nF oo), wA cI cZ a c fr tt sa tk]) → va_S A sz.heap H locs → ∀ (ls : Array Slot), lv_has ls 5 [(4, .int (nI i)), (3, .int (nI (cN i (atL c sa tk tt rw oo v)))), (2, .int (nI (plN c oo v))), (0, .ref (b 0)), (1, .int (nI v))] → W pz l ez (rM 3 66) sz mz [.ref (b 0), .int (nI v)].toArray bz tz cz H locs 0 0 (MQ bz (va_Qi (fun r (_ : Unit) => r = nI (cN (plN c oo v) (atL c sa tk tt rw oo v))) (fun u t => mAt D (tY cI cZ cL) A ((fun (_ : Unit) => [wS cI b (a 0) (a 2) (a 1) N rw nm bf fe, wT cI (b 1) (N + 1) (nF oo), wA cI cZ a c fr tt sa tk]) u) t) A) [.ref (b 0), .int (nI v)].toArray sz 0 0 A) (F0 mz 11 ls [])  := by
    intro k_11
    induction k_11 with
    | zero => intro i hi_11 hk_11; exact absurd hk_11 (by omega)
    | succ k_11 ih_11 =>
      intro i hi_11 hk_11 H locs hP hD hS ls hl
      refine lv_iload hx hb dX3_countLive_11 (lv_at hl 0 rfl) ?_
      refine lv_iload_n hx hb dX3_countLive_13 rfl (lv_at hl 2 rfl) ?_
      refine lv_icmp_ge (tgt := 43) hx hb dX3_countLive_14 (by decide) (fun c_14 => ?_) (fun c_14 => ?_)
      ·
        have n_14 : (plN c oo v) ≤ i := (nI_leI (a := plN c oo v) (b := i) (by omega) (by omega)).mp c_14
        refine lv_iload_n hx hb dX3_countLive_43 rfl (lv_at hl 1 rfl) ?_
        exact q_iret (()) hx hb hr hlocks hK hP hD hS (by rw [show i = plN c oo v by omega]) (rfl) dX3_countLive_44
      ·
        have n_14 : ¬ (plN c oo v) ≤ i := fun h9 => c_14 ((nI_leI (a := plN c oo v) (b := i) (by omega) (by omega)).mpr h9)
        refine lv_aload_n hx hb dX3_countLive_17 rfl (lv_at hl 3 rfl) ?_
        refine q_get (D := D) (ci := 3) (v := .ref (a 0)) (C := RX3) (T := TX3) (N := 8) hx hb hts (by decide +kernel) hown hK hP 0 0 rfl rfl rfl 0 (by decide) (hts (.fieldLink RX3 21 "OffsetRows$Side" "arcs" "LOffsetRows$ArcList;") (by decide +kernel)) (fun _ h9 => h9) rfl dX3_countLive_18 ?_
        refine lv_aload_n hx hb dX3_countLive_21 rfl (lv_at hl 3 rfl) ?_
        refine lv_iload_n hx hb dX3_countLive_22 rfl (lv_at hl 4 rfl) ?_
        refine lv_iload hx hb dX3_countLive_23 (lv_at hl 0 rfl) ?_
        refine q_callVi (index := 77) (n := 2) (As := [.int (nI v), .int (nI i)]) (rest := [.ref (a 0)]) (js := [0, 1, 2]) (ci := 3) ⟨hx, hb, hml, hown, hts⟩ hK hP hD hS hA (k3i_arcAt l D cI cZ cL b N rw nm bf fe a c fr tt sa tk oo v i (by omega) (by omega) (by omega) (by omega) (by omega) (by omega)) rfl (by decide) (fun _ => by simp only [List.map_cons, List.map_nil, wA_fst, wS_fst, wT_fst]) (fun (_ : Unit) => [wS cI b (a 0) (a 2) (a 1) N rw nm bf fe, wT cI (b 1) (N + 1) (nF oo), wA cI cZ a c fr tt sa tk]) (fun _ => rfl) gX3_countLive_X3_arcAt rfl (by decide +kernel) rfl ⟨by decide, by decide⟩ rfl rfl rfl rfl hl.1 (Nat.le_of_ble_eq_true rfl) ⟨(Nat.zero_le _), (Nat.zero_le _)⟩ dX3_countLive_25 rfl (fun r _ H locs hw hP hD hS => ?_)
        have hw : r = atV c sa tt rw oo v i := hw
        subst hw
        refine q_callVi (index := 81) (n := 1) (As := [.int (atV c sa tt rw oo v i)]) (rest := []) (js := [2]) (ci := 0) ⟨hx, hb, hml, hown, hts⟩ hK hP hD hS hA (k0_isLive l D cI cZ cL a c fr tt sa tk (atV c sa tt rw oo v i) (by omega)) rfl (by decide) (fun _ => by simp only [List.map_cons, List.map_nil, wA_fst]) (fun (_ : Unit) => [wS cI b (a 0) (a 2) (a 1) N rw nm bf fe, wT cI (b 1) (N + 1) (nF oo), wA cI cZ a c fr tt sa tk]) (fun _ => rfl) gX3_countLive_X0_isLive rfl (by decide +kernel) rfl ⟨by decide, by decide⟩ rfl rfl rfl rfl hl.1 (Nat.le_of_ble_eq_true rfl) ⟨(Nat.zero_le _), (Nat.zero_le _)⟩ dX3_countLive_28 rfl (fun r _ H locs hw hP hD hS => ?_)
        have hw : r = bI (isLv c sa tk (atV c sa tt rw oo v i)) := hw
        subst hw
        refine q_top (z := bI (atL c sa tk tt rw oo v i)) (rfl) ?_
        refine lv_if_eq (tgt := 37) hx hb dX3_countLive_31 (by decide) (fun c_31 => ?_) (fun c_31 => ?_)
        ·
          have n_31 : (atL c sa tk tt rw oo v i) = false := bI_0.mp c_31
          refine lv_iinc (v := nI (i + 1)) (lv' := [(4, .int (nI (i + 1))), (3, .int (nI (cN i (atL c sa tk tt rw oo v)))), (2, .int (nI (plN c oo v))), (0, .ref (b 0)), (1, .int (nI v))]) hx hb dX3_countLive_37 hl (k := 0) rfl (nI_add i 1) (by decide) rfl (fun ls hl => ?_)
          refine lv_goto (tgt := 11) hx hb dX3_countLive_40 (by decide) ?_
          have hl : lv_has ls 5 [(4, .int (nI (i + 1))), (3, .int (nI (cN i (atL c sa tk tt rw oo v)))), (2, .int (nI (plN c oo v))), (0, .ref (b 0)), (1, .int (nI v))] := lv_sub hl [0, 1, 2, 3, 4] rfl
          have hl : lv_has ls 5 [(4, .int (nI (i + 1))), (3, .int (nI (cN (i + 1) (atL c sa tk tt rw oo v)))), (2, .int (nI (plN c oo v))), (0, .ref (b 0)), (1, .int (nI v))] := by
            rw [← show nI (cN i (atL c sa tk tt rw oo v)) = nI (cN (i + 1) (atL c sa tk tt rw oo v)) from by first | rfl | simp [cN, c_14, n_14, n_31]]
            exact hl
          have hP : va_P D vwCl (List.flatten [wS cI b (a 0) (a 2) (a 1) N rw nm bf fe, wT cI (b 1) (N + 1) (nF oo), wA cI cZ a c fr tt sa tk]) _ := hP
          have hD : va_D A (List.flatten [wS cI b (a 0) (a 2) (a 1) N rw nm bf fe, wT cI (b 1) (N + 1) (nF oo), wA cI cZ a c fr tt sa tk]) := hD
          exact ih_11 (i + 1) (by omega) (by omega) _ _ hP hD hS _ hl
        ·
          have n_31 : (atL c sa tk tt rw oo v i) = true := bI_n.mp c_31
          refine lv_iinc (v := nI (cN i (atL c sa tk tt rw oo v) + 1)) (lv' := [(3, .int (nI (cN i (atL c sa tk tt rw oo v) + 1))), (4, .int (nI i)), (2, .int (nI (plN c oo v))), (0, .ref (b 0)), (1, .int (nI v))]) hx hb dX3_countLive_34 hl (k := 1) rfl (nI_add (cN i (atL c sa tk tt rw oo v)) 1) (by decide) rfl (fun ls hl => ?_)
          refine lv_iinc (v := nI (i + 1)) (lv' := [(4, .int (nI (i + 1))), (3, .int (nI (cN i (atL c sa tk tt rw oo v) + 1))), (2, .int (nI (plN c oo v))), (0, .ref (b 0)), (1, .int (nI v))]) hx hb dX3_countLive_37 hl (k := 1) rfl (nI_add i 1) (by decide) rfl (fun ls hl => ?_)
          refine lv_goto (tgt := 11) hx hb dX3_countLive_40 (by decide) ?_
          have hl : lv_has ls 5 [(4, .int (nI (i + 1))), (3, .int (nI (cN i (atL c sa tk tt rw oo v) + 1))), (2, .int (nI (plN c oo v))), (0, .ref (b 0)), (1, .int (nI v))] := lv_sub hl [0, 1, 2, 3, 4] rfl
          have hl : lv_has ls 5 [(4, .int (nI (i + 1))), (3, .int (nI (cN (i + 1) (atL c sa tk tt rw oo v)))), (2, .int (nI (plN c oo v))), (0, .ref (b 0)), (1, .int (nI v))] := by
            rw [← show nI (cN i (atL c sa tk tt rw oo v) + 1) = nI (cN (i + 1) (atL c sa tk tt rw oo v)) from by first | rfl | simp [cN, c_14, n_14, n_31]]
            exact hl
          have hP : va_P D vwCl (List.flatten [wS cI b (a 0) (a 2) (a 1) N rw nm bf fe, wT cI (b 1) (N + 1) (nF oo), wA cI cZ a c fr tt sa tk]) _ := hP
          have hD : va_D A (List.flatten [wS cI b (a 0) (a 2) (a 1) N rw nm bf fe, wT cI (b 1) (N + 1) (nF oo), wA cI cZ a c fr tt sa tk]) := hD
          exact ih_11 (i + 1) (by omega) (by omega) _ _ hP hD hS _ hl
  have hl : lv_has ls 5 [(4, .int (nI 0)), (3, .int (nI (cN 0 (atL c sa tk tt rw oo v)))), (2, .int (nI (plN c oo v))), (0, .ref (b 0)), (1, .int (nI v))] := lv_sub hl [0, 1, 2, 3, 4] rfl
  have hP : va_P D vwCl (List.flatten [wS cI b (a 0) (a 2) (a 1) N rw nm bf fe, wT cI (b 1) (N + 1) (nF oo), wA cI cZ a c fr tt sa tk]) _ := hP
  have hD : va_D A (List.flatten [wS cI b (a 0) (a 2) (a 1) N rw nm bf fe, wT cI (b 1) (N + 1) (nF oo), wA cI cZ a c fr tt sa tk]) := hD
  exact loop_11 ((plN c oo v) + 1) 0 (by omega) (by omega) _ _ hP hD hS _ hl

set_option maxHeartbeats 8000000 in
set_option maxRecDepth 100000 in
theorem k3i_liveArc (l : Launch) (D : va_G) (cI cZ cL : ClassId) (b : Nat → Nat) (N : Nat) (rw : Nat → Int32) (nm : Nat → Int32) (bf : Nat → Int32) (fe : Nat → Int32) (a : Nat → Nat) (c : Nat) (fr : Nat → Int32) (tt : Nat → Int32) (sa : Nat → Int32) (tk : Nat → Int32) (oo : Nat → Nat) (v : Nat) (k : Nat) (hc : c ≤ 160) (hN : N ≤ 24) (hv : v < N) (h1 : oo v ≤ oo (v + 1)) (h2 : oo (v + 1) ≤ 160) (hk : k < 2 ^ 31) : McI l D (tY cI cZ cL) yX3_liveArc wsX3_liveArc 3 66 [.ref (b 0), .int (nI v), .int (nI k)] ([wS cI b (a 0) (a 2) (a 1) N rw nm bf fe, wT cI (b 1) (N + 1) (nF oo), wA cI cZ a c fr tt sa tk]) (fun r (_ : Unit) => r = laR c sa tk tt rw oo v k) (fun (_ : Unit) => [wS cI b (a 0) (a 2) (a 1) N rw nm bf fe, wT cI (b 1) (N + 1) (nF oo), wA cI cZ a c fr tt sa tk]) := by
  refine q_ofW (Qc := fun A => (va_Qi (fun r (_ : Unit) => r = laR c sa tk tt rw oo v k) (fun u t => mAt D (tY cI cZ cL) A ((fun (_ : Unit) => [wS cI b (a 0) (a 2) (a 1) N rw nm bf fe, wT cI (b 1) (N + 1) (nF oo), wA cI cZ a c fr tt sa tk]) u) t) A)) (cc := cX3_liveArc) (maxL := 7) (ret := (some .int)) (by decide) rfl (Nat.le_of_ble_eq_true rfl) ?_
  intro pz ez sz mz bz tz cz hx hb hml hr hlocks hts hown hK hP A hD hA ls hl
  have hS : va_S A sz.heap sz.heap [] := va_S.rf
  have hl : lv_has ls 7 [(0, .ref (b 0)), (1, .int (nI v)), (2, .int (nI k))] := hl
  have hpl : plN c oo v ≤ 320 := by unfold plN; omega
  refine lv_aload_n hx hb dX3_liveArc_0 rfl (lv_at hl 0 rfl) ?_
  refine lv_iload_n hx hb dX3_liveArc_1 rfl (lv_at hl 1 rfl) ?_
  refine q_callVi (index := 74) (n := 1) (As := [.int (nI v)]) (rest := []) (js := [0, 1, 2]) (ci := 3) ⟨hx, hb, hml, hown, hts⟩ hK hP hD hS hA (k3i_countPlaces l D cI cZ cL b N rw nm bf fe a c fr tt sa tk oo v (by omega) (by omega) (by omega) (by omega) (by omega)) rfl (by decide) (fun _ => by simp only [List.map_cons, List.map_nil, wA_fst, wS_fst, wT_fst]) (fun (_ : Unit) => [wS cI b (a 0) (a 2) (a 1) N rw nm bf fe, wT cI (b 1) (N + 1) (nF oo), wA cI cZ a c fr tt sa tk]) (fun _ => rfl) gX3_liveArc_X3_countPlaces rfl (by decide +kernel) rfl ⟨by decide, by decide⟩ rfl rfl rfl rfl hl.1 (Nat.le_of_ble_eq_true rfl) ⟨(Nat.zero_le _), (Nat.zero_le _)⟩ dX3_liveArc_2 rfl (fun r _ H locs hw hP hD hS => ?_)
  have hw : r = nI (plN c oo v) := hw
  subst hw
  refine lv_istore_n (lv' := [(3, .int (nI (plN c oo v))), (0, .ref (b 0)), (1, .int (nI v)), (2, .int (nI k))]) hx hb dX3_liveArc_5 rfl hl (by decide) rfl (fun ls hl => ?_)
  refine lv_iconst (v := (0 : Int32)) hx hb dX3_liveArc_6 (by decide) ?_
  refine lv_istore (lv' := [(4, .int (0 : Int32)), (3, .int (nI (plN c oo v))), (0, .ref (b 0)), (1, .int (nI v)), (2, .int (nI k))]) hx hb dX3_liveArc_7 hl (by decide) rfl (fun ls hl => ?_)
  refine lv_iconst (v := (0 : Int32)) hx hb dX3_liveArc_9 (by decide) ?_
  refine lv_istore (lv' := [(5, .int (0 : Int32)), (4, .int (0 : Int32)), (3, .int (nI (plN c oo v))), (0, .ref (b 0)), (1, .int (nI v)), (2, .int (nI k))]) hx hb dX3_liveArc_10 hl (by decide) rfl (fun ls hl => ?_)
  have loop_12 : ∀ (k_12 i : Nat), i ≤ plN c oo v → plN c oo v < i + k_12 → (laR c sa tk tt rw oo v k = fsv (laB c sa tk tt rw oo v k) (atV c sa tt rw oo v) (plN c oo v - i) i) → ∀ (H : Heap) (locs : List Loc), va_P D vwCl (List.flatten [wS cI b (a 0) (a 2) (a 1) N rw nm bf fe, wT cI (b 1) (N + 1) (nF oo), wA cI cZ a c fr tt sa tk]) H → va_D A (List.flatten [wS cI b (a 0) (a 2) (a 1) N rw nm bf fe, wT cI (b 1) (N + 1) (nF oo), wA cI cZ a c fr tt sa tk]) → va_S A sz.heap H locs → ∀ (ls : Array Slot), lv_has ls 7 [(5, .int (nI i)), (4, .int (nI (cN i (atL c sa tk tt rw oo v)))), (3, .int (nI (plN c oo v))), (0, .ref (b 0)), (1, .int (nI v)), (2, .int (nI k))] → W pz l ez (rM 3 66) sz mz [.ref (b 0), .int (nI v), .int (nI k)].toArray bz tz cz H locs 0 0 (MQ bz (va_Qi (fun r (_ : Unit) => r = laR c sa tk tt rw oo v k) (fun u t => mAt D (tY cI cZ cL) A ((fun (_ : Unit) => [wS cI b (a 0) (a 2) (a 1) N rw nm bf fe, wT cI (b 1) (N + 1) (nF oo), wA cI cZ a c fr tt sa tk]) u) t) A) [.ref (b 0), .int (nI v), .int (nI k)].toArray sz 0 0 A) (F0 mz 12 ls [])  := by
    intro k_12
    induction k_12 with
    | zero => intro i hi_12 hk_12; exact absurd hk_12 (by omega)
    | succ k_12 ih_12 =>
      intro i hi_12 hk_12 hinv H locs hP hD hS ls hl
      refine lv_iload hx hb dX3_liveArc_12 (lv_at hl 0 rfl) ?_
      refine lv_iload_n hx hb dX3_liveArc_14 rfl (lv_at hl 2 rfl) ?_
      refine lv_icmp_ge (tgt := 57) hx hb dX3_liveArc_15 (by decide) (fun c_15 => ?_) (fun c_15 => ?_)
      ·
        have n_15 : (plN c oo v) ≤ i := (nI_leI (a := plN c oo v) (b := i) (by omega) (by omega)).mp c_15
        refine lv_iconst (v := (-1)) hx hb dX3_liveArc_57 (by decide) ?_
        exact q_iret (()) hx hb hr hlocks hK hP hD hS (by rw [hinv, fsv_end (by omega)]) (rfl) dX3_liveArc_58
      ·
        have n_15 : ¬ (plN c oo v) ≤ i := fun h9 => c_15 ((nI_leI (a := plN c oo v) (b := i) (by omega) (by omega)).mpr h9)
        refine lv_aload_n hx hb dX3_liveArc_18 rfl (lv_at hl 3 rfl) ?_
        refine lv_iload_n hx hb dX3_liveArc_19 rfl (lv_at hl 4 rfl) ?_
        refine lv_iload hx hb dX3_liveArc_20 (lv_at hl 0 rfl) ?_
        refine q_callVi (index := 77) (n := 2) (As := [.int (nI v), .int (nI i)]) (rest := []) (js := [0, 1, 2]) (ci := 3) ⟨hx, hb, hml, hown, hts⟩ hK hP hD hS hA (k3i_arcAt l D cI cZ cL b N rw nm bf fe a c fr tt sa tk oo v i (by omega) (by omega) (by omega) (by omega) (by omega) (by omega)) rfl (by decide) (fun _ => by simp only [List.map_cons, List.map_nil, wA_fst, wS_fst, wT_fst]) (fun (_ : Unit) => [wS cI b (a 0) (a 2) (a 1) N rw nm bf fe, wT cI (b 1) (N + 1) (nF oo), wA cI cZ a c fr tt sa tk]) (fun _ => rfl) gX3_liveArc_X3_arcAt rfl (by decide +kernel) rfl ⟨by decide, by decide⟩ rfl rfl rfl rfl hl.1 (Nat.le_of_ble_eq_true rfl) ⟨(Nat.zero_le _), (Nat.zero_le _)⟩ dX3_liveArc_22 rfl (fun r _ H locs hw hP hD hS => ?_)
        have hw : r = atV c sa tt rw oo v i := hw
        subst hw
        refine lv_istore (lv' := [(6, .int (atV c sa tt rw oo v i)), (5, .int (nI i)), (4, .int (nI (cN i (atL c sa tk tt rw oo v)))), (3, .int (nI (plN c oo v))), (0, .ref (b 0)), (1, .int (nI v)), (2, .int (nI k))]) hx hb dX3_liveArc_25 hl (by decide) rfl (fun ls hl => ?_)
        refine lv_aload_n hx hb dX3_liveArc_27 rfl (lv_at hl 4 rfl) ?_
        refine q_get (D := D) (ci := 3) (v := .ref (a 0)) (C := RX3) (T := TX3) (N := 8) hx hb hts (by decide +kernel) hown hK hP 0 0 rfl rfl rfl 0 (by decide) (hts (.fieldLink RX3 21 "OffsetRows$Side" "arcs" "LOffsetRows$ArcList;") (by decide +kernel)) (fun _ h9 => h9) rfl dX3_liveArc_28 ?_
        refine lv_iload hx hb dX3_liveArc_31 (lv_at hl 0 rfl) ?_
        refine q_callVi (index := 81) (n := 1) (As := [.int (atV c sa tt rw oo v i)]) (rest := []) (js := [2]) (ci := 0) ⟨hx, hb, hml, hown, hts⟩ hK hP hD hS hA (k0_isLive l D cI cZ cL a c fr tt sa tk (atV c sa tt rw oo v i) (by omega)) rfl (by decide) (fun _ => by simp only [List.map_cons, List.map_nil, wA_fst]) (fun (_ : Unit) => [wS cI b (a 0) (a 2) (a 1) N rw nm bf fe, wT cI (b 1) (N + 1) (nF oo), wA cI cZ a c fr tt sa tk]) (fun _ => rfl) gX3_liveArc_X0_isLive rfl (by decide +kernel) rfl ⟨by decide, by decide⟩ rfl rfl rfl rfl hl.1 (Nat.le_of_ble_eq_true rfl) ⟨(Nat.zero_le _), (Nat.zero_le _)⟩ dX3_liveArc_33 rfl (fun r _ H locs hw hP hD hS => ?_)
        have hw : r = bI (isLv c sa tk (atV c sa tt rw oo v i)) := hw
        subst hw
        refine q_top (z := bI (atL c sa tk tt rw oo v i)) (rfl) ?_
        refine lv_if_eq (tgt := 51) hx hb dX3_liveArc_36 (by decide) (fun c_36 => ?_) (fun c_36 => ?_)
        ·
          have n_36 : (atL c sa tk tt rw oo v i) = false := bI_0.mp c_36
          refine lv_iinc (v := nI (i + 1)) (lv' := [(5, .int (nI (i + 1))), (6, .int (atV c sa tt rw oo v i)), (4, .int (nI (cN i (atL c sa tk tt rw oo v)))), (3, .int (nI (plN c oo v))), (0, .ref (b 0)), (1, .int (nI v)), (2, .int (nI k))]) hx hb dX3_liveArc_51 hl (k := 1) rfl (nI_add i 1) (by decide) rfl (fun ls hl => ?_)
          refine lv_goto (tgt := 12) hx hb dX3_liveArc_54 (by decide) ?_
          have hl : lv_has ls 7 [(5, .int (nI (i + 1))), (4, .int (nI (cN i (atL c sa tk tt rw oo v)))), (3, .int (nI (plN c oo v))), (0, .ref (b 0)), (1, .int (nI v)), (2, .int (nI k))] := lv_sub hl [0, 2, 3, 4, 5, 6] rfl
          have hl : lv_has ls 7 [(5, .int (nI (i + 1))), (4, .int (nI (cN (i + 1) (atL c sa tk tt rw oo v)))), (3, .int (nI (plN c oo v))), (0, .ref (b 0)), (1, .int (nI v)), (2, .int (nI k))] := by
            rw [← show nI (cN i (atL c sa tk tt rw oo v)) = nI (cN (i + 1) (atL c sa tk tt rw oo v)) from by first | rfl | simp [cN, hinv, c_15, n_15, n_36]]
            exact hl
          have hP : va_P D vwCl (List.flatten [wS cI b (a 0) (a 2) (a 1) N rw nm bf fe, wT cI (b 1) (N + 1) (nF oo), wA cI cZ a c fr tt sa tk]) _ := hP
          have hD : va_D A (List.flatten [wS cI b (a 0) (a 2) (a 1) N rw nm bf fe, wT cI (b 1) (N + 1) (nF oo), wA cI cZ a c fr tt sa tk]) := hD
          exact ih_12 (i + 1) (by omega) (by omega) (hinv.trans (fsv_no (by omega) (by simp [laB, n_36]))) _ _ hP hD hS _ hl
        ·
          have n_36 : (atL c sa tk tt rw oo v i) = true := bI_n.mp c_36
          refine lv_iload hx hb dX3_liveArc_39 (lv_at hl 2 rfl) ?_
          refine lv_iload_n hx hb dX3_liveArc_41 rfl (lv_at hl 6 rfl) ?_
          have hcn := cN_le i (atL c sa tk tt rw oo v)
          refine lv_icmp_ne (tgt := 48) hx hb dX3_liveArc_42 (by decide) (fun c_42 => ?_) (fun c_42 => ?_)
          ·
            have n_42 : ¬ (cN i (atL c sa tk tt rw oo v)) = k := fun h9 => c_42 ((nI_eq (a := cN i (atL c sa tk tt rw oo v)) (b := k) (by omega) (by omega)).mpr h9)
            refine lv_iinc (v := nI (cN i (atL c sa tk tt rw oo v) + 1)) (lv' := [(4, .int (nI (cN i (atL c sa tk tt rw oo v) + 1))), (6, .int (atV c sa tt rw oo v i)), (5, .int (nI i)), (3, .int (nI (plN c oo v))), (0, .ref (b 0)), (1, .int (nI v)), (2, .int (nI k))]) hx hb dX3_liveArc_48 hl (k := 2) rfl (nI_add (cN i (atL c sa tk tt rw oo v)) 1) (by decide) rfl (fun ls hl => ?_)
            refine lv_iinc (v := nI (i + 1)) (lv' := [(5, .int (nI (i + 1))), (4, .int (nI (cN i (atL c sa tk tt rw oo v) + 1))), (6, .int (atV c sa tt rw oo v i)), (3, .int (nI (plN c oo v))), (0, .ref (b 0)), (1, .int (nI v)), (2, .int (nI k))]) hx hb dX3_liveArc_51 hl (k := 2) rfl (nI_add i 1) (by decide) rfl (fun ls hl => ?_)
            refine lv_goto (tgt := 12) hx hb dX3_liveArc_54 (by decide) ?_
            have hl : lv_has ls 7 [(5, .int (nI (i + 1))), (4, .int (nI (cN i (atL c sa tk tt rw oo v) + 1))), (3, .int (nI (plN c oo v))), (0, .ref (b 0)), (1, .int (nI v)), (2, .int (nI k))] := lv_sub hl [0, 1, 3, 4, 5, 6] rfl
            have hl : lv_has ls 7 [(5, .int (nI (i + 1))), (4, .int (nI (cN (i + 1) (atL c sa tk tt rw oo v)))), (3, .int (nI (plN c oo v))), (0, .ref (b 0)), (1, .int (nI v)), (2, .int (nI k))] := by
              rw [← show nI (cN i (atL c sa tk tt rw oo v) + 1) = nI (cN (i + 1) (atL c sa tk tt rw oo v)) from by first | rfl | simp [cN, hinv, c_15, n_15, n_36, c_42, n_42]]
              exact hl
            have hP : va_P D vwCl (List.flatten [wS cI b (a 0) (a 2) (a 1) N rw nm bf fe, wT cI (b 1) (N + 1) (nF oo), wA cI cZ a c fr tt sa tk]) _ := hP
            have hD : va_D A (List.flatten [wS cI b (a 0) (a 2) (a 1) N rw nm bf fe, wT cI (b 1) (N + 1) (nF oo), wA cI cZ a c fr tt sa tk]) := hD
            exact ih_12 (i + 1) (by omega) (by omega) (hinv.trans (fsv_no (by omega) (by simp [laB, n_42]))) _ _ hP hD hS _ hl
          ·
            have n_42 : (cN i (atL c sa tk tt rw oo v)) = k := (nI_eq (a := cN i (atL c sa tk tt rw oo v)) (b := k) (by omega) (by omega)).mp c_42
            refine lv_iload hx hb dX3_liveArc_45 (lv_at hl 0 rfl) ?_
            exact q_iret (()) hx hb hr hlocks hK hP hD hS (by rw [hinv, fsv_yes (by omega) (by simp [laB, n_36, n_42])]) (rfl) dX3_liveArc_47
  have hl : lv_has ls 7 [(5, .int (nI 0)), (4, .int (nI (cN 0 (atL c sa tk tt rw oo v)))), (3, .int (nI (plN c oo v))), (0, .ref (b 0)), (1, .int (nI v)), (2, .int (nI k))] := lv_sub hl [0, 1, 2, 3, 4, 5] rfl
  have hP : va_P D vwCl (List.flatten [wS cI b (a 0) (a 2) (a 1) N rw nm bf fe, wT cI (b 1) (N + 1) (nF oo), wA cI cZ a c fr tt sa tk]) _ := hP
  have hD : va_D A (List.flatten [wS cI b (a 0) (a 2) (a 1) N rw nm bf fe, wT cI (b 1) (N + 1) (nF oo), wA cI cZ a c fr tt sa tk]) := hD
  exact loop_12 ((plN c oo v) + 1) 0 (by omega) (by omega) rfl _ _ hP hD hS _ hl

set_option maxHeartbeats 8000000 in
set_option maxRecDepth 100000 in
theorem k3i_listBuilt (l : Launch) (D : va_G) (cI cZ cL : ClassId) (b : Nat → Nat) (N : Nat) (rw : Nat → Int32) (nm : Nat → Int32) (bf : Nat → Int32) (fe : Nat → Int32) (of : Nat → Int32) (a : Nat → Nat) (c : Nat) (fr : Nat → Int32) (tt : Nat → Int32) (sa : Nat → Int32) (tk : Nat → Int32) (hc : c ≤ 160) : McI l D (tY cI cZ cL) yX3_listBuilt wsX3_listBuilt 0 0 [.ref (b 0)] ([wS cI b (a 0) (a 2) (a 1) N rw nm bf fe, wT cI (b 1) (N + 1) of, wA cI cZ a c fr tt sa tk]) (fun r (_ : Unit) => r = nI (cN c (stB sa 1))) (fun (_ : Unit) => [wS cI b (a 0) (a 2) (a 1) N rw (pkG (stB sa 1) nI nm c) bf fe, wT cI (b 1) (N + 1) of, wA cI cZ a c fr tt sa tk]) := by
  refine q_ofW (Qc := fun A => (va_Qi (fun r (_ : Unit) => r = nI (cN c (stB sa 1))) (fun u t => mAt D (tY cI cZ cL) A ((fun (_ : Unit) => [wS cI b (a 0) (a 2) (a 1) N rw (pkG (stB sa 1) nI nm c) bf fe, wT cI (b 1) (N + 1) of, wA cI cZ a c fr tt sa tk]) u) t) A)) (cc := cX3_listBuilt) (maxL := 3) (ret := (some .int)) (by decide) rfl (Nat.le_of_ble_eq_true rfl) ?_
  intro pz ez sz mz bz tz cz hx hb hml hr hlocks hts hown hK hP A hD hA ls hl
  have hS : va_S A sz.heap sz.heap [] := va_S.rf
  have hl : lv_has ls 3 [(0, .ref (b 0))] := hl
  refine lv_iconst (v := (0 : Int32)) hx hb dX3_listBuilt_0 (by decide) ?_
  refine lv_istore_n (lv' := [(1, .int (0 : Int32)), (0, .ref (b 0))]) hx hb dX3_listBuilt_1 rfl hl (by decide) rfl (fun ls hl => ?_)
  refine lv_iconst (v := (0 : Int32)) hx hb dX3_listBuilt_2 (by decide) ?_
  refine lv_istore_n (lv' := [(2, .int (0 : Int32)), (1, .int (0 : Int32)), (0, .ref (b 0))]) hx hb dX3_listBuilt_3 rfl hl (by decide) rfl (fun ls hl => ?_)
  have loop_4 : ∀ (k_4 j : Nat), j ≤ c → c < j + k_4 → ∀ (H : Heap) (locs : List Loc), va_P D vwCl (List.flatten [wS cI b (a 0) (a 2) (a 1) N rw (pkG (stB sa 1) nI nm j) bf fe, wT cI (b 1) (N + 1) of, wA cI cZ a c fr tt sa tk]) H → va_D A (List.flatten [wS cI b (a 0) (a 2) (a 1) N rw (pkG (stB sa 1) nI nm j) bf fe, wT cI (b 1) (N + 1) of, wA cI cZ a c fr tt sa tk]) → va_S A sz.heap H locs → ∀ (ls : Array Slot), lv_has ls 3 [(2, .int (nI j)), (1, .int (nI (cN j (stB sa 1)))), (0, .ref (b 0))] → W pz l ez (rM 0 0) sz mz [.ref (b 0)].toArray bz tz cz H locs 0 0 (MQ bz (va_Qi (fun r (_ : Unit) => r = nI (cN c (stB sa 1))) (fun u t => mAt D (tY cI cZ cL) A ((fun (_ : Unit) => [wS cI b (a 0) (a 2) (a 1) N rw (pkG (stB sa 1) nI nm c) bf fe, wT cI (b 1) (N + 1) of, wA cI cZ a c fr tt sa tk]) u) t) A) [.ref (b 0)].toArray sz 0 0 A) (F0 mz 4 ls [])  := by
    intro k_4
    induction k_4 with
    | zero => intro j hi_4 hk_4; exact absurd hk_4 (by omega)
    | succ k_4 ih_4 =>
      intro j hi_4 hk_4 H locs hP hD hS ls hl
      refine lv_iload_n hx hb dX3_listBuilt_4 rfl (lv_at hl 0 rfl) ?_
      refine lv_aload_n hx hb dX3_listBuilt_5 rfl (lv_at hl 2 rfl) ?_
      refine q_get (D := D) (ci := 3) (v := .ref (a 0)) (C := RX3) (T := TX3) (N := 8) hx hb hts (by decide +kernel) hown hK hP 0 0 rfl rfl rfl 0 (by decide) (hts (.fieldLink RX3 21 "OffsetRows$Side" "arcs" "LOffsetRows$ArcList;") (by decide +kernel)) (fun _ h9 => h9) rfl dX3_listBuilt_6 ?_
      refine q_get (D := D) (ci := 0) (v := .int (nI c)) (C := RX0) (T := TX0) (N := 5) hx hb hts (by decide +kernel) hown hK hP 2 0 rfl rfl rfl 4 (by decide) (hts (.fieldLink RX3 45 "OffsetRows$ArcList" "count" "I") (by decide +kernel)) (fun _ h9 => h9) rfl dX3_listBuilt_9 ?_
      have hcn := cN_le j (stB sa 1)
      refine lv_icmp_ge (tgt := 44) hx hb dX3_listBuilt_12 (by decide) (fun c_12 => ?_) (fun c_12 => ?_)
      ·
        have n_12 : c ≤ j := (nI_leI (a := c) (b := j) (by omega) (by omega)).mp c_12
        refine lv_iload_n hx hb dX3_listBuilt_44 rfl (lv_at hl 1 rfl) ?_
        exact q_iret (()) hx hb hr hlocks hK hP hD hS (by rw [show j = c by omega]) (by rw [show j = c by omega]) dX3_listBuilt_45
      ·
        have n_12 : ¬ c ≤ j := fun h9 => c_12 ((nI_leI (a := c) (b := j) (by omega) (by omega)).mpr h9)
        refine lv_aload_n hx hb dX3_listBuilt_15 rfl (lv_at hl 2 rfl) ?_
        refine q_get (D := D) (ci := 3) (v := .ref (a 0)) (C := RX3) (T := TX3) (N := 8) hx hb hts (by decide +kernel) hown hK hP 0 0 rfl rfl rfl 0 (by decide) (hts (.fieldLink RX3 21 "OffsetRows$Side" "arcs" "LOffsetRows$ArcList;") (by decide +kernel)) (fun _ h9 => h9) rfl dX3_listBuilt_16 ?_
        refine q_get (D := D) (ci := 0) (v := .ref (a 3)) (C := RX0) (T := TX0) (N := 5) hx hb hts (by decide +kernel) hown hK hP 2 0 rfl rfl rfl 2 (by decide) (hts (.fieldLink RX3 51 "OffsetRows$ArcList" "state" "[I") (by decide +kernel)) (fun _ h9 => h9) rfl dX3_listBuilt_19 ?_
        refine lv_iload_n hx hb dX3_listBuilt_22 rfl (lv_at hl 0 rfl) ?_
        refine q_iald hx hb hK hP 2 3 0 rfl (f := sa) rfl rfl (k := j) (nI_clamp (n := j) (by omega)) (vp_in_nI (show j < 160 from by omega) (by omega)) dX3_listBuilt_23 ?_
        refine lv_iconst (v := (1 : Int32)) hx hb dX3_listBuilt_24 (by decide) ?_
        refine lv_icmp_ne (tgt := 38) hx hb dX3_listBuilt_25 (by decide) (fun c_25 => ?_) (fun c_25 => ?_)
        ·
          refine lv_iinc (v := nI (j + 1)) (lv' := [(2, .int (nI (j + 1))), (1, .int (nI (cN j (stB sa 1)))), (0, .ref (b 0))]) hx hb dX3_listBuilt_38 hl (k := 0) rfl (nI_add j 1) (by decide) rfl (fun ls hl => ?_)
          refine lv_goto (tgt := 4) hx hb dX3_listBuilt_41 (by decide) ?_
          have hl : lv_has ls 3 [(2, .int (nI (j + 1))), (1, .int (nI (cN j (stB sa 1)))), (0, .ref (b 0))] := lv_sub hl [0, 1, 2] rfl
          have hl : lv_has ls 3 [(2, .int (nI (j + 1))), (1, .int (nI (cN (j + 1) (stB sa 1)))), (0, .ref (b 0))] := by
            rw [← show nI (cN j (stB sa 1)) = nI (cN (j + 1) (stB sa 1)) from by first | rfl | simp [cN, stB, c_12, n_12, c_25]]
            exact hl
          have hq0 : pkG (stB sa 1) nI nm j = pkG (stB sa 1) nI nm (j + 1) := pkG_n (by simp [stB, c_25])
          have hP : va_P D vwCl (List.flatten [wS cI b (a 0) (a 2) (a 1) N rw (pkG (stB sa 1) nI nm (j + 1)) bf fe, wT cI (b 1) (N + 1) of, wA cI cZ a c fr tt sa tk]) _ := wCast hP (by rw [← hq0])
          have hD : va_D A (List.flatten [wS cI b (a 0) (a 2) (a 1) N rw (pkG (stB sa 1) nI nm (j + 1)) bf fe, wT cI (b 1) (N + 1) of, wA cI cZ a c fr tt sa tk]) := dCast hD (by rw [← hq0])
          exact ih_4 (j + 1) (by omega) (by omega) _ _ hP hD hS _ hl
        ·
          refine lv_aload_n hx hb dX3_listBuilt_28 rfl (lv_at hl 2 rfl) ?_
          refine q_get (D := D) (ci := 3) (v := .ref (b 3)) (C := RX3) (T := TX3) (N := 8) hx hb hts (by decide +kernel) hown hK hP 0 0 rfl rfl rfl 5 (by decide) (hts (.fieldLink RX3 15 "OffsetRows$Side" "numbers" "[I") (by decide +kernel)) (fun _ h9 => h9) rfl dX3_listBuilt_29 ?_
          refine lv_iload_n hx hb dX3_listBuilt_32 rfl (lv_at hl 1 rfl) ?_
          refine lv_iload_n hx hb dX3_listBuilt_33 rfl (lv_at hl 0 rfl) ?_
          refine q_iast hx hb hK hP hD hS 0 2 0 rfl (f := pkG (stB sa 1) nI nm j) rfl rfl (k := cN j (stB sa 1)) (nI_clamp (n := cN j (stB sa 1)) (by omega)) (vp_in_nI (show cN j (stB sa 1) < 160 from by omega) (by omega)) dX3_listBuilt_34 wS_s_nm (Fs' := [wS cI b (a 0) (a 2) (a 1) N rw (upd (pkG (stB sa 1) nI nm j) (cN j (stB sa 1)) (nI j)) bf fe, wT cI (b 1) (N + 1) of, wA cI cZ a c fr tt sa tk]) rfl (fun H locs hP hD hS => ?_)
          have hP : va_P D vwCl (List.flatten [wS cI b (a 0) (a 2) (a 1) N rw (pkG (stB sa 1) nI nm (j + 1)) bf fe, wT cI (b 1) (N + 1) of, wA cI cZ a c fr tt sa tk]) _ := wCast hP (by rw [show upd (pkG (stB sa 1) nI nm j) (cN j (stB sa 1)) (nI j) = pkG (stB sa 1) nI nm (j + 1) from pkG_y (by simp [stB, c_25]) rfl])
          have hD : va_D A (List.flatten [wS cI b (a 0) (a 2) (a 1) N rw (pkG (stB sa 1) nI nm (j + 1)) bf fe, wT cI (b 1) (N + 1) of, wA cI cZ a c fr tt sa tk]) := dCast hD (by rw [show upd (pkG (stB sa 1) nI nm j) (cN j (stB sa 1)) (nI j) = pkG (stB sa 1) nI nm (j + 1) from pkG_y (by simp [stB, c_25]) rfl])
          refine lv_iinc (v := nI (cN j (stB sa 1) + 1)) (lv' := [(1, .int (nI (cN j (stB sa 1) + 1))), (2, .int (nI j)), (0, .ref (b 0))]) hx hb dX3_listBuilt_35 hl (k := 1) rfl (nI_add (cN j (stB sa 1)) 1) (by decide) rfl (fun ls hl => ?_)
          refine lv_iinc (v := nI (j + 1)) (lv' := [(2, .int (nI (j + 1))), (1, .int (nI (cN j (stB sa 1) + 1))), (0, .ref (b 0))]) hx hb dX3_listBuilt_38 hl (k := 1) rfl (nI_add j 1) (by decide) rfl (fun ls hl => ?_)
          refine lv_goto (tgt := 4) hx hb dX3_listBuilt_41 (by decide) ?_
          have hl : lv_has ls 3 [(2, .int (nI (j + 1))), (1, .int (nI (cN j (stB sa 1) + 1))), (0, .ref (b 0))] := lv_sub hl [0, 1, 2] rfl
          have hl : lv_has ls 3 [(2, .int (nI (j + 1))), (1, .int (nI (cN (j + 1) (stB sa 1)))), (0, .ref (b 0))] := by
            rw [← show nI (cN j (stB sa 1) + 1) = nI (cN (j + 1) (stB sa 1)) from by first | rfl | simp [cN, stB, c_12, n_12, c_25]]
            exact hl
          have hP : va_P D vwCl (List.flatten [wS cI b (a 0) (a 2) (a 1) N rw (pkG (stB sa 1) nI nm (j + 1)) bf fe, wT cI (b 1) (N + 1) of, wA cI cZ a c fr tt sa tk]) _ := hP
          have hD : va_D A (List.flatten [wS cI b (a 0) (a 2) (a 1) N rw (pkG (stB sa 1) nI nm (j + 1)) bf fe, wT cI (b 1) (N + 1) of, wA cI cZ a c fr tt sa tk]) := hD
          exact ih_4 (j + 1) (by omega) (by omega) _ _ hP hD hS _ hl
  have hl : lv_has ls 3 [(2, .int (nI 0)), (1, .int (nI (cN 0 (stB sa 1)))), (0, .ref (b 0))] := lv_sub hl [0, 1, 2] rfl
  have hq0 : nm = pkG (stB sa 1) nI nm 0 := rfl
  have hP : va_P D vwCl (List.flatten [wS cI b (a 0) (a 2) (a 1) N rw (pkG (stB sa 1) nI nm 0) bf fe, wT cI (b 1) (N + 1) of, wA cI cZ a c fr tt sa tk]) _ := wCast hP (by rw [← hq0])
  have hD : va_D A (List.flatten [wS cI b (a 0) (a 2) (a 1) N rw (pkG (stB sa 1) nI nm 0) bf fe, wT cI (b 1) (N + 1) of, wA cI cZ a c fr tt sa tk]) := dCast hD (by rw [← hq0])
  exact loop_4 (c + 1) 0 (by omega) (by omega) _ _ hP hD hS _ hl

set_option maxHeartbeats 8000000 in
set_option maxRecDepth 100000 in
theorem k3i_sort1 (l : Launch) (D : va_G) (cI cZ cL : ClassId) (b : Nat → Nat) (N : Nat) (rw : Nat → Int32) (nm : Nat → Int32) (bf : Nat → Int32) (fe : Nat → Int32) (of : Nat → Int32) (a : Nat → Nat) (c : Nat) (fr : Nat → Int32) (tt : Nat → Int32) (sa : Nat → Int32) (tk : Nat → Int32) (n : Nat) (sn : Nat → Nat) (kk : Nat → Nat) (hN : N ≤ 24) (hn : n ≤ 160) (hs : ∀ i, i < n → nm i = nI (sn i) ∧ sn i < 160) (hk : ∀ i, i < n → fr (sn i) = nI (kk i) ∧ kk i < N) : McV l D (tY cI cZ cL) yX3_sortByCounting wsX3_sortByCounting 1 40 [.ref (b 0), .ref (b 3), .int (nI n), .ref (a 1), .ref (b 4)] ([wS cI b (a 0) (a 2) (a 1) N rw nm bf fe, wT cI (b 1) (N + 1) of, wA cI cZ a c fr tt sa tk]) (fun (_ : Unit) => True) (fun (_ : Unit) => [wS cI b (a 0) (a 2) (a 1) N rw nm (srF (rkN n kk) sn bf n) (nF (f3F n kk n)), wT cI (b 1) (N + 1) (nF (psN n kk)), wA cI cZ a c fr tt sa tk]) := by
  refine q_ofW (Qc := fun A => (va_Qv (fun (_ : Unit) => True) (fun u t => mAt D (tY cI cZ cL) A ((fun (_ : Unit) => [wS cI b (a 0) (a 2) (a 1) N rw nm (srF (rkN n kk) sn bf n) (nF (f3F n kk n)), wT cI (b 1) (N + 1) (nF (psN n kk)), wA cI cZ a c fr tt sa tk]) u) t) A)) (cc := cX3_sortByCounting) (maxL := 7) (ret := none) (by decide) rfl (Nat.le_of_ble_eq_true rfl) ?_
  intro pz ez sz mz bz tz cz hx hb hml hr hlocks hts hown hK hP A hD hA ls hl
  have hS : va_S A sz.heap sz.heap [] := va_S.rf
  have hl : lv_has ls 7 [(0, .ref (b 0)), (1, .ref (b 3)), (2, .int (nI n)), (3, .ref (a 1)), (4, .ref (b 4))] := hl
  refine lv_aload_n hx hb dX3_sortByCounting_0 rfl (lv_at hl 0 rfl) ?_
  refine q_get (D := D) (ci := 3) (v := .ref (b 1)) (C := RX3) (T := TX3) (N := 8) hx hb hts (by decide +kernel) hown hK hP 0 0 rfl rfl rfl 3 (by decide) (hts (.fieldLink RX3 31 "OffsetRows$Side" "offsets" "[I") (by decide +kernel)) (fun _ h9 => h9) rfl dX3_sortByCounting_1 ?_
  refine lv_iconst (v := (0 : Int32)) hx hb dX3_sortByCounting_4 (by decide) ?_
  refine q_callSv (index := 54) (n := 2) (As := [.ref (b 1), .int (0 : Int32)]) (rest := []) (js := [1]) ⟨hx, hb, hml, hown, hts⟩ hK hP hD hS hA (kJ_filli l D cI cZ cL (b 1) (N + 1) of (0 : Int32) (by omega)) rfl (by decide) (fun _ => by simp only [List.map_cons, List.map_nil, wT_fst]) (fun (_ : Unit) => [wS cI b (a 0) (a 2) (a 1) N rw nm bf fe, wT cI (b 1) (N + 1) (pfx (fun _ => (0 : Int32)) of (N + 1)), wA cI cZ a c fr tt sa tk]) (fun _ => rfl) gX3_sortByCounting_J7_fill_53178 rfl (by decide +kernel) rfl ⟨by decide, by decide⟩ hl.1 (Nat.le_of_ble_eq_true rfl) ⟨(Nat.zero_le _), (Nat.zero_le _)⟩ dX3_sortByCounting_5 rfl (fun _ H locs hw hP hD hS => ?_)
  have hP : va_P D vwCl (List.flatten [wS cI b (a 0) (a 2) (a 1) N rw nm bf fe, wT cI (b 1) (N + 1) (nF (o1F kk 0)), wA cI cZ a c fr tt sa tk]) _ := x_ext hP 1 0 rfl rfl (f := pfx (fun _ => (0 : Int32)) of (N + 1)) (g := nF (o1F kk 0)) (fun k h => by simp only [pfx, if_pos h]; rfl) wT_s_tr rfl
  have hD : va_D A (List.flatten [wS cI b (a 0) (a 2) (a 1) N rw nm bf fe, wT cI (b 1) (N + 1) (nF (o1F kk 0)), wA cI cZ a c fr tt sa tk]) := d_ext hD 1 0 rfl rfl (wT_s_tr (g9 := nF (o1F kk 0))) rfl
  refine lv_iconst (v := (0 : Int32)) hx hb dX3_sortByCounting_8 (by decide) ?_
  refine lv_istore (lv' := [(5, .int (0 : Int32)), (0, .ref (b 0)), (1, .ref (b 3)), (2, .int (nI n)), (3, .ref (a 1)), (4, .ref (b 4))]) hx hb dX3_sortByCounting_9 hl (by decide) rfl (fun ls hl => ?_)
  have loop_11 : ∀ (k_11 i : Nat), i ≤ n → n < i + k_11 → ∀ (H : Heap) (locs : List Loc), va_P D vwCl (List.flatten [wS cI b (a 0) (a 2) (a 1) N rw nm bf fe, wT cI (b 1) (N + 1) (nF (o1F kk i)), wA cI cZ a c fr tt sa tk]) H → va_D A (List.flatten [wS cI b (a 0) (a 2) (a 1) N rw nm bf fe, wT cI (b 1) (N + 1) (nF (o1F kk i)), wA cI cZ a c fr tt sa tk]) → va_S A sz.heap H locs → ∀ (ls : Array Slot), lv_has ls 7 [(5, .int (nI i)), (0, .ref (b 0)), (1, .ref (b 3)), (2, .int (nI n)), (3, .ref (a 1)), (4, .ref (b 4))] → W pz l ez (rM 1 40) sz mz [.ref (b 0), .ref (b 3), .int (nI n), .ref (a 1), .ref (b 4)].toArray bz tz cz H locs 0 0 (MQ bz (va_Qv (fun (_ : Unit) => True) (fun u t => mAt D (tY cI cZ cL) A ((fun (_ : Unit) => [wS cI b (a 0) (a 2) (a 1) N rw nm (srF (rkN n kk) sn bf n) (nF (f3F n kk n)), wT cI (b 1) (N + 1) (nF (psN n kk)), wA cI cZ a c fr tt sa tk]) u) t) A) [.ref (b 0), .ref (b 3), .int (nI n), .ref (a 1), .ref (b 4)].toArray sz 0 0 A) (F0 mz 11 ls [])  := by
    intro k_11
    induction k_11 with
    | zero => intro i hi_11 hk_11; exact absurd hk_11 (by omega)
    | succ k_11 ih_11 =>
      intro i hi_11 hk_11 H locs hP hD hS ls hl
      refine lv_iload hx hb dX3_sortByCounting_11 (lv_at hl 0 rfl) ?_
      refine lv_iload_n hx hb dX3_sortByCounting_13 rfl (lv_at hl 3 rfl) ?_
      refine lv_icmp_ge (tgt := 40) hx hb dX3_sortByCounting_14 (by decide) (fun c_14 => ?_) (fun c_14 => ?_)
      ·
        have n_14 : n ≤ i := (nI_leI (a := n) (b := i) (by omega) (by omega)).mp c_14
        refine lv_iconst (v := (1 : Int32)) hx hb dX3_sortByCounting_40 (by decide) ?_
        refine lv_istore (lv' := [(5, .int (1 : Int32)), (0, .ref (b 0)), (1, .ref (b 3)), (2, .int (nI n)), (3, .ref (a 1)), (4, .ref (b 4))]) hx hb dX3_sortByCounting_41 hl (by decide) rfl (fun ls hl => ?_)
        have loop_43 : ∀ (k_43 w : Nat), w ≤ N + 1 → N + 1 < w + k_43 → (1 ≤ w) → ∀ (H : Heap) (locs : List Loc), va_P D vwCl (List.flatten [wS cI b (a 0) (a 2) (a 1) N rw nm bf fe, wT cI (b 1) (N + 1) (nF (o2F n kk w)), wA cI cZ a c fr tt sa tk]) H → va_D A (List.flatten [wS cI b (a 0) (a 2) (a 1) N rw nm bf fe, wT cI (b 1) (N + 1) (nF (o2F n kk w)), wA cI cZ a c fr tt sa tk]) → va_S A sz.heap H locs → ∀ (ls : Array Slot), lv_has ls 7 [(5, .int (nI w)), (0, .ref (b 0)), (1, .ref (b 3)), (2, .int (nI n)), (3, .ref (a 1)), (4, .ref (b 4))] → W pz l ez (rM 1 40) sz mz [.ref (b 0), .ref (b 3), .int (nI n), .ref (a 1), .ref (b 4)].toArray bz tz cz H locs 0 0 (MQ bz (va_Qv (fun (_ : Unit) => True) (fun u t => mAt D (tY cI cZ cL) A ((fun (_ : Unit) => [wS cI b (a 0) (a 2) (a 1) N rw nm (srF (rkN n kk) sn bf n) (nF (f3F n kk n)), wT cI (b 1) (N + 1) (nF (psN n kk)), wA cI cZ a c fr tt sa tk]) u) t) A) [.ref (b 0), .ref (b 3), .int (nI n), .ref (a 1), .ref (b 4)].toArray sz 0 0 A) (F0 mz 43 ls [])  := by
          intro k_43
          induction k_43 with
          | zero => intro w hi_43 hk_43; exact absurd hk_43 (by omega)
          | succ k_43 ih_43 =>
            intro w hi_43 hk_43 hw1 H locs hP hD hS ls hl
            refine lv_iload hx hb dX3_sortByCounting_43 (lv_at hl 0 rfl) ?_
            refine lv_aload_n hx hb dX3_sortByCounting_45 rfl (lv_at hl 1 rfl) ?_
            refine q_get (D := D) (ci := 3) (v := .ref (b 1)) (C := RX3) (T := TX3) (N := 8) hx hb hts (by decide +kernel) hown hK hP 0 0 rfl rfl rfl 3 (by decide) (hts (.fieldLink RX3 31 "OffsetRows$Side" "offsets" "[I") (by decide +kernel)) (fun _ h9 => h9) rfl dX3_sortByCounting_46 ?_
            refine va_alen hx hb hK (fP hP (j := 1) rfl) 0 0 rfl rfl (v := nI (N + 1)) rfl dX3_sortByCounting_49 ?_
            refine lv_icmp_ge (tgt := 78) hx hb dX3_sortByCounting_50 (by decide) (fun c_50 => ?_) (fun c_50 => ?_)
            ·
              have n_50 : (N + 1) ≤ w := (nI_leI (a := N + 1) (b := w) (by omega) (by omega)).mp c_50
              refine lv_aload_n hx hb dX3_sortByCounting_78 rfl (lv_at hl 1 rfl) ?_
              refine q_get (D := D) (ci := 3) (v := .ref (b 1)) (C := RX3) (T := TX3) (N := 8) hx hb hts (by decide +kernel) hown hK hP 0 0 rfl rfl rfl 3 (by decide) (hts (.fieldLink RX3 31 "OffsetRows$Side" "offsets" "[I") (by decide +kernel)) (fun _ h9 => h9) rfl dX3_sortByCounting_79 ?_
              refine lv_iconst (v := (0 : Int32)) hx hb dX3_sortByCounting_82 (by decide) ?_
              refine lv_aload_n hx hb dX3_sortByCounting_83 rfl (lv_at hl 1 rfl) ?_
              refine q_get (D := D) (ci := 3) (v := .ref (b 5)) (C := RX3) (T := TX3) (N := 8) hx hb hts (by decide +kernel) hown hK hP 0 0 rfl rfl rfl 7 (by decide) (hts (.fieldLink RX3 34 "OffsetRows$Side" "free" "[I") (by decide +kernel)) (fun _ h9 => h9) rfl dX3_sortByCounting_84 ?_
              refine lv_iconst (v := (0 : Int32)) hx hb dX3_sortByCounting_87 (by decide) ?_
              refine lv_aload_n hx hb dX3_sortByCounting_88 rfl (lv_at hl 1 rfl) ?_
              refine q_get (D := D) (ci := 3) (v := .ref (b 1)) (C := RX3) (T := TX3) (N := 8) hx hb hts (by decide +kernel) hown hK hP 0 0 rfl rfl rfl 3 (by decide) (hts (.fieldLink RX3 31 "OffsetRows$Side" "offsets" "[I") (by decide +kernel)) (fun _ h9 => h9) rfl dX3_sortByCounting_89 ?_
              refine va_alen hx hb hK (fP hP (j := 1) rfl) 0 0 rfl rfl (v := nI (N + 1)) rfl dX3_sortByCounting_92 ?_
              refine q_copyi hx hb (hml.trans hl.1.symm) hown (hts (.methodLink RX3 60 arraycopyName) (by decide +kernel)) (hts (.native arraycopyName) (by decide +kernel)) (hts (.static arraycopyName) (by decide +kernel)) (hts (.initialized "java/lang/System") (by decide +kernel)) hK hP hD hS 1 0 0 4 0 rfl rfl rfl rfl rfl (k := N + 1) (nI_clamp (n := N + 1) (by omega)) (nI_pos (by omega)) (Nat.le_refl _) (Nat.le_refl _) (by decide) (by decide) dX3_sortByCounting_93 wS_s_fe (Fs' := [wS cI b (a 0) (a 2) (a 1) N rw nm bf (va_cpy (nF (o2F n kk w)) (fe) 0 0 (N + 1)), wT cI (b 1) (N + 1) (nF (o2F n kk w)), wA cI cZ a c fr tt sa tk]) rfl (fun H locs hP hD hS => ?_)
              have hP : va_P D vwCl (List.flatten [wS cI b (a 0) (a 2) (a 1) N rw nm bf (va_cpy (nF (o2F n kk w)) (fe) 0 0 (N + 1)), wT cI (b 1) (N + 1) (nF (psN n kk)), wA cI cZ a c fr tt sa tk]) _ := x_ext hP 1 0 rfl rfl (f := nF (o2F n kk w)) (g := nF (psN n kk)) (fun k h => by simp only [nF, psN, o2F, if_pos (show k < w by omega)]) wT_s_tr rfl
              have hD : va_D A (List.flatten [wS cI b (a 0) (a 2) (a 1) N rw nm bf (va_cpy (nF (o2F n kk w)) (fe) 0 0 (N + 1)), wT cI (b 1) (N + 1) (nF (psN n kk)), wA cI cZ a c fr tt sa tk]) := d_ext hD 1 0 rfl rfl (wT_s_tr (g9 := nF (psN n kk))) rfl
              have hP : va_P D vwCl (List.flatten [wS cI b (a 0) (a 2) (a 1) N rw nm bf (nF (f3F n kk 0)), wT cI (b 1) (N + 1) (nF (psN n kk)), wA cI cZ a c fr tt sa tk]) _ := x_ext hP 0 4 rfl rfl (f := va_cpy (nF (o2F n kk w)) (fe) 0 0 (N + 1)) (g := nF (f3F n kk 0)) (fun k h => by simp only [va_cpy, nF, o2F, f3F]; rw [if_pos (by omega), if_pos (show 0 + (k - 0) < w by omega)]; simp [cN]) wS_s_fe rfl
              have hD : va_D A (List.flatten [wS cI b (a 0) (a 2) (a 1) N rw nm bf (nF (f3F n kk 0)), wT cI (b 1) (N + 1) (nF (psN n kk)), wA cI cZ a c fr tt sa tk]) := d_ext hD 0 4 rfl rfl (wS_s_fe (g9 := nF (f3F n kk 0))) rfl
              refine lv_iconst (v := (0 : Int32)) hx hb dX3_sortByCounting_96 (by decide) ?_
              refine lv_istore (lv' := [(5, .int (0 : Int32)), (0, .ref (b 0)), (1, .ref (b 3)), (2, .int (nI n)), (3, .ref (a 1)), (4, .ref (b 4))]) hx hb dX3_sortByCounting_97 hl (by decide) rfl (fun ls hl => ?_)
              have loop_99 : ∀ (k_99 t : Nat), t ≤ n → n < t + k_99 → ∀ (H : Heap) (locs : List Loc), va_P D vwCl (List.flatten [wS cI b (a 0) (a 2) (a 1) N rw nm (srF (rkN n kk) sn bf t) (nF (f3F n kk t)), wT cI (b 1) (N + 1) (nF (psN n kk)), wA cI cZ a c fr tt sa tk]) H → va_D A (List.flatten [wS cI b (a 0) (a 2) (a 1) N rw nm (srF (rkN n kk) sn bf t) (nF (f3F n kk t)), wT cI (b 1) (N + 1) (nF (psN n kk)), wA cI cZ a c fr tt sa tk]) → va_S A sz.heap H locs → ∀ (ls : Array Slot), lv_has ls 7 [(5, .int (nI t)), (0, .ref (b 0)), (1, .ref (b 3)), (2, .int (nI n)), (3, .ref (a 1)), (4, .ref (b 4))] → W pz l ez (rM 1 40) sz mz [.ref (b 0), .ref (b 3), .int (nI n), .ref (a 1), .ref (b 4)].toArray bz tz cz H locs 0 0 (MQ bz (va_Qv (fun (_ : Unit) => True) (fun u t => mAt D (tY cI cZ cL) A ((fun (_ : Unit) => [wS cI b (a 0) (a 2) (a 1) N rw nm (srF (rkN n kk) sn bf n) (nF (f3F n kk n)), wT cI (b 1) (N + 1) (nF (psN n kk)), wA cI cZ a c fr tt sa tk]) u) t) A) [.ref (b 0), .ref (b 3), .int (nI n), .ref (a 1), .ref (b 4)].toArray sz 0 0 A) (F0 mz 99 ls [])  := by
                intro k_99
                induction k_99 with
                | zero => intro t hi_99 hk_99; exact absurd hk_99 (by omega)
                | succ k_99 ih_99 =>
                  intro t hi_99 hk_99 H locs hP hD hS ls hl
                  refine lv_iload hx hb dX3_sortByCounting_99 (lv_at hl 0 rfl) ?_
                  refine lv_iload_n hx hb dX3_sortByCounting_101 rfl (lv_at hl 3 rfl) ?_
                  refine lv_icmp_ge (tgt := 144) hx hb dX3_sortByCounting_102 (by decide) (fun c_102 => ?_) (fun c_102 => ?_)
                  ·
                    have n_102 : n ≤ t := (nI_leI (a := n) (b := t) (by omega) (by omega)).mp c_102
                    exact q_vret (()) hx hb hr hlocks hK hP hD hS (trivial) (by rw [show t = n by omega]) dX3_sortByCounting_144
                  ·
                    have n_102 : ¬ n ≤ t := fun h9 => c_102 ((nI_leI (a := n) (b := t) (by omega) (by omega)).mpr h9)
                    refine lv_aload_n hx hb dX3_sortByCounting_105 rfl (lv_at hl 4 rfl) ?_
                    refine lv_aload_n hx hb dX3_sortByCounting_106 rfl (lv_at hl 2 rfl) ?_
                    refine lv_iload hx hb dX3_sortByCounting_107 (lv_at hl 0 rfl) ?_
                    refine q_iald hx hb hK hP 0 2 0 rfl (f := nm) rfl rfl (k := t) (nI_clamp (n := t) (by omega)) (vp_in_nI (show t < 160 from by omega) (by omega)) dX3_sortByCounting_109 ?_
                    refine q_top (z := nI (sn t)) ((hs t (by omega)).1) ?_
                    have hs9 := (hs t (by omega)).2
                    refine q_iald hx hb hK hP 2 1 0 rfl (f := fr) rfl rfl (k := sn t) (nI_clamp (n := sn t) (by omega)) (vp_in_nI (show sn t < 160 from by omega) (by omega)) dX3_sortByCounting_110 ?_
                    refine q_top (z := nI (kk t)) ((hk t (by omega)).1) ?_
                    have hk9 := (hk t (by omega)).2
                    have hr9 := rk_lt (n := n) (i := t) (kk := kk) (by omega)
                    refine lv_istore (lv' := [(6, .int (nI (kk t))), (5, .int (nI t)), (0, .ref (b 0)), (1, .ref (b 3)), (2, .int (nI n)), (3, .ref (a 1)), (4, .ref (b 4))]) hx hb dX3_sortByCounting_111 hl (by decide) rfl (fun ls hl => ?_)
                    refine lv_aload hx hb dX3_sortByCounting_113 (lv_at hl 6 rfl) ?_
                    refine lv_aload_n hx hb dX3_sortByCounting_115 rfl (lv_at hl 2 rfl) ?_
                    refine q_get (D := D) (ci := 3) (v := .ref (b 5)) (C := RX3) (T := TX3) (N := 8) hx hb hts (by decide +kernel) hown hK hP 0 0 rfl rfl rfl 7 (by decide) (hts (.fieldLink RX3 34 "OffsetRows$Side" "free" "[I") (by decide +kernel)) (fun _ h9 => h9) rfl dX3_sortByCounting_116 ?_
                    refine lv_iload hx hb dX3_sortByCounting_119 (lv_at hl 0 rfl) ?_
                    refine q_iald hx hb hK hP 0 4 0 rfl (f := nF (f3F n kk t)) rfl rfl (k := kk t) (nI_clamp (n := kk t) (by omega)) (vp_in_nI (show kk t < N + 1 from by omega) (by omega)) dX3_sortByCounting_121 ?_
                    refine q_top (z := nI (rkN n kk t)) (rfl) ?_
                    refine lv_aload_n hx hb dX3_sortByCounting_122 rfl (lv_at hl 3 rfl) ?_
                    refine lv_iload hx hb dX3_sortByCounting_123 (lv_at hl 1 rfl) ?_
                    refine q_iald hx hb hK hP 0 2 0 rfl (f := nm) rfl rfl (k := t) (nI_clamp (n := t) (by omega)) (vp_in_nI (show t < 160 from by omega) (by omega)) dX3_sortByCounting_125 ?_
                    refine q_top (z := nI (sn t)) ((hs t (by omega)).1) ?_
                    refine q_iast hx hb hK hP hD hS 0 3 0 rfl (f := srF (rkN n kk) sn bf t) rfl rfl (k := rkN n kk t) (nI_clamp (n := rkN n kk t) (by omega)) (vp_in_nI (show rkN n kk t < 160 from by omega) (by omega)) dX3_sortByCounting_126 wS_s_bf (Fs' := [wS cI b (a 0) (a 2) (a 1) N rw nm (upd (srF (rkN n kk) sn bf t) (rkN n kk t) (nI (sn t))) (nF (f3F n kk t)), wT cI (b 1) (N + 1) (nF (psN n kk)), wA cI cZ a c fr tt sa tk]) rfl (fun H locs hP hD hS => ?_)
                    have hP : va_P D vwCl (List.flatten [wS cI b (a 0) (a 2) (a 1) N rw nm (srF (rkN n kk) sn bf (t + 1)) (nF (f3F n kk t)), wT cI (b 1) (N + 1) (nF (psN n kk)), wA cI cZ a c fr tt sa tk]) _ := wCast hP (by rw [show upd (srF (rkN n kk) sn bf t) (rkN n kk t) (nI (sn t)) = srF (rkN n kk) sn bf (t + 1) from rfl])
                    have hD : va_D A (List.flatten [wS cI b (a 0) (a 2) (a 1) N rw nm (srF (rkN n kk) sn bf (t + 1)) (nF (f3F n kk t)), wT cI (b 1) (N + 1) (nF (psN n kk)), wA cI cZ a c fr tt sa tk]) := dCast hD (by rw [show upd (srF (rkN n kk) sn bf t) (rkN n kk t) (nI (sn t)) = srF (rkN n kk) sn bf (t + 1) from rfl])
                    refine lv_aload_n hx hb dX3_sortByCounting_127 rfl (lv_at hl 2 rfl) ?_
                    refine q_get (D := D) (ci := 3) (v := .ref (b 5)) (C := RX3) (T := TX3) (N := 8) hx hb hts (by decide +kernel) hown hK hP 0 0 rfl rfl rfl 7 (by decide) (hts (.fieldLink RX3 34 "OffsetRows$Side" "free" "[I") (by decide +kernel)) (fun _ h9 => h9) rfl dX3_sortByCounting_128 ?_
                    refine lv_iload hx hb dX3_sortByCounting_131 (lv_at hl 0 rfl) ?_
                    refine lv_dup2_11 hx hb dX3_sortByCounting_133 rfl rfl ?_
                    refine q_iald hx hb hK hP 0 4 0 rfl (f := nF (f3F n kk t)) rfl rfl (k := kk t) (nI_clamp (n := kk t) (by omega)) (vp_in_nI (show kk t < N + 1 from by omega) (by omega)) dX3_sortByCounting_134 ?_
                    refine q_top (z := nI (f3F n kk t (kk t))) (rfl) ?_
                    refine lv_iconst (v := (1 : Int32)) hx hb dX3_sortByCounting_135 (by decide) ?_
                    refine q_iadd (z := nI (f3F n kk t (kk t) + 1)) hx hb dX3_sortByCounting_136 (nI_add (f3F n kk t (kk t)) 1) ?_
                    refine q_iast hx hb hK hP hD hS 0 4 0 rfl (f := nF (f3F n kk t)) rfl rfl (k := kk t) (nI_clamp (n := kk t) (by omega)) (vp_in_nI (show kk t < N + 1 from by omega) (by omega)) dX3_sortByCounting_137 wS_s_fe (Fs' := [wS cI b (a 0) (a 2) (a 1) N rw nm (srF (rkN n kk) sn bf (t + 1)) (upd (nF (f3F n kk t)) (kk t) (nI (f3F n kk t (kk t) + 1))), wT cI (b 1) (N + 1) (nF (psN n kk)), wA cI cZ a c fr tt sa tk]) rfl (fun H locs hP hD hS => ?_)
                    have hP : va_P D vwCl (List.flatten [wS cI b (a 0) (a 2) (a 1) N rw nm (srF (rkN n kk) sn bf (t + 1)) (nF (f3F n kk (t + 1))), wT cI (b 1) (N + 1) (nF (psN n kk)), wA cI cZ a c fr tt sa tk]) _ := wCast hP (by rw [show upd (nF (f3F n kk t)) (kk t) (nI (f3F n kk t (kk t) + 1)) = nF (f3F n kk (t + 1)) from f3_w])
                    have hD : va_D A (List.flatten [wS cI b (a 0) (a 2) (a 1) N rw nm (srF (rkN n kk) sn bf (t + 1)) (nF (f3F n kk (t + 1))), wT cI (b 1) (N + 1) (nF (psN n kk)), wA cI cZ a c fr tt sa tk]) := dCast hD (by rw [show upd (nF (f3F n kk t)) (kk t) (nI (f3F n kk t (kk t) + 1)) = nF (f3F n kk (t + 1)) from f3_w])
                    refine lv_iinc (v := nI (t + 1)) (lv' := [(5, .int (nI (t + 1))), (6, .int (nI (kk t))), (0, .ref (b 0)), (1, .ref (b 3)), (2, .int (nI n)), (3, .ref (a 1)), (4, .ref (b 4))]) hx hb dX3_sortByCounting_138 hl (k := 1) rfl (nI_add t 1) (by decide) rfl (fun ls hl => ?_)
                    refine lv_goto (tgt := 99) hx hb dX3_sortByCounting_141 (by decide) ?_
                    have hl : lv_has ls 7 [(5, .int (nI (t + 1))), (0, .ref (b 0)), (1, .ref (b 3)), (2, .int (nI n)), (3, .ref (a 1)), (4, .ref (b 4))] := lv_sub hl [0, 2, 3, 4, 5, 6] rfl
                    have hP : va_P D vwCl (List.flatten [wS cI b (a 0) (a 2) (a 1) N rw nm (srF (rkN n kk) sn bf (t + 1)) (nF (f3F n kk (t + 1))), wT cI (b 1) (N + 1) (nF (psN n kk)), wA cI cZ a c fr tt sa tk]) _ := hP
                    have hD : va_D A (List.flatten [wS cI b (a 0) (a 2) (a 1) N rw nm (srF (rkN n kk) sn bf (t + 1)) (nF (f3F n kk (t + 1))), wT cI (b 1) (N + 1) (nF (psN n kk)), wA cI cZ a c fr tt sa tk]) := hD
                    exact ih_99 (t + 1) (by omega) (by omega) _ _ hP hD hS _ hl
              have hl : lv_has ls 7 [(5, .int (nI 0)), (0, .ref (b 0)), (1, .ref (b 3)), (2, .int (nI n)), (3, .ref (a 1)), (4, .ref (b 4))] := lv_sub hl [0, 1, 2, 3, 4, 5] rfl
              have hq0 : bf = srF (rkN n kk) sn bf 0 := rfl
              have hP : va_P D vwCl (List.flatten [wS cI b (a 0) (a 2) (a 1) N rw nm (srF (rkN n kk) sn bf 0) (nF (f3F n kk 0)), wT cI (b 1) (N + 1) (nF (psN n kk)), wA cI cZ a c fr tt sa tk]) _ := wCast hP (by rw [← hq0])
              have hD : va_D A (List.flatten [wS cI b (a 0) (a 2) (a 1) N rw nm (srF (rkN n kk) sn bf 0) (nF (f3F n kk 0)), wT cI (b 1) (N + 1) (nF (psN n kk)), wA cI cZ a c fr tt sa tk]) := dCast hD (by rw [← hq0])
              exact loop_99 (n + 1) 0 (by omega) (by omega) _ _ hP hD hS _ hl
            ·
              have n_50 : ¬ (N + 1) ≤ w := fun h9 => c_50 ((nI_leI (a := N + 1) (b := w) (by omega) (by omega)).mpr h9)
              refine lv_aload_n hx hb dX3_sortByCounting_53 rfl (lv_at hl 1 rfl) ?_
              refine q_get (D := D) (ci := 3) (v := .ref (b 1)) (C := RX3) (T := TX3) (N := 8) hx hb hts (by decide +kernel) hown hK hP 0 0 rfl rfl rfl 3 (by decide) (hts (.fieldLink RX3 31 "OffsetRows$Side" "offsets" "[I") (by decide +kernel)) (fun _ h9 => h9) rfl dX3_sortByCounting_54 ?_
              refine lv_iload hx hb dX3_sortByCounting_57 (lv_at hl 0 rfl) ?_
              refine lv_dup2_11 hx hb dX3_sortByCounting_59 rfl rfl ?_
              refine q_iald hx hb hK hP 1 0 0 rfl (f := nF (o2F n kk w)) rfl rfl (k := w) (nI_clamp (n := w) (by omega)) (vp_in_nI (show w < N + 1 from by omega) (by omega)) dX3_sortByCounting_60 ?_
              refine q_top (z := nI (cN n (eqB kk w))) (by simp [nF, o2F]) ?_
              refine lv_aload_n hx hb dX3_sortByCounting_61 rfl (lv_at hl 1 rfl) ?_
              refine q_get (D := D) (ci := 3) (v := .ref (b 1)) (C := RX3) (T := TX3) (N := 8) hx hb hts (by decide +kernel) hown hK hP 0 0 rfl rfl rfl 3 (by decide) (hts (.fieldLink RX3 31 "OffsetRows$Side" "offsets" "[I") (by decide +kernel)) (fun _ h9 => h9) rfl dX3_sortByCounting_62 ?_
              refine lv_iload hx hb dX3_sortByCounting_65 (lv_at hl 0 rfl) ?_
              refine lv_iconst (v := (1 : Int32)) hx hb dX3_sortByCounting_67 (by decide) ?_
              refine q_isub (z := nI (w - 1)) hx hb dX3_sortByCounting_68 (pk_sub (a := w) (b := 1) (by omega)) ?_
              refine q_iald hx hb hK hP 1 0 0 rfl (f := nF (o2F n kk w)) rfl rfl (k := w - 1) (nI_clamp (n := w - 1) (by omega)) (vp_in_nI (show w - 1 < N + 1 from by omega) (by omega)) dX3_sortByCounting_69 ?_
              refine q_top (z := nI (cN n (ltB kk (w - 1)))) (by simp only [nF, o2F]; rw [if_pos (by omega)]) ?_
              refine q_iadd (z := nI (cN n (eqB kk w) + (cN n (ltB kk (w - 1))))) hx hb dX3_sortByCounting_70 (nI_add (cN n (eqB kk w)) (cN n (ltB kk (w - 1)))) ?_
              refine q_iast hx hb hK hP hD hS 1 0 0 rfl (f := nF (o2F n kk w)) rfl rfl (k := w) (nI_clamp (n := w) (by omega)) (vp_in_nI (show w < N + 1 from by omega) (by omega)) dX3_sortByCounting_71 wT_s_tr (Fs' := [wS cI b (a 0) (a 2) (a 1) N rw nm bf fe, wT cI (b 1) (N + 1) (upd (nF (o2F n kk w)) w (nI (cN n (eqB kk w) + (cN n (ltB kk (w - 1)))))), wA cI cZ a c fr tt sa tk]) rfl (fun H locs hP hD hS => ?_)
              have hP : va_P D vwCl (List.flatten [wS cI b (a 0) (a 2) (a 1) N rw nm bf fe, wT cI (b 1) (N + 1) (nF (o2F n kk (w + 1))), wA cI cZ a c fr tt sa tk]) _ := wCast hP (by rw [show upd (nF (o2F n kk w)) w (nI (cN n (eqB kk w) + (cN n (ltB kk (w - 1))))) = nF (o2F n kk (w + 1)) from o2_w hw1])
              have hD : va_D A (List.flatten [wS cI b (a 0) (a 2) (a 1) N rw nm bf fe, wT cI (b 1) (N + 1) (nF (o2F n kk (w + 1))), wA cI cZ a c fr tt sa tk]) := dCast hD (by rw [show upd (nF (o2F n kk w)) w (nI (cN n (eqB kk w) + (cN n (ltB kk (w - 1))))) = nF (o2F n kk (w + 1)) from o2_w hw1])
              refine lv_iinc (v := nI (w + 1)) (lv' := [(5, .int (nI (w + 1))), (0, .ref (b 0)), (1, .ref (b 3)), (2, .int (nI n)), (3, .ref (a 1)), (4, .ref (b 4))]) hx hb dX3_sortByCounting_72 hl (k := 0) rfl (nI_add w 1) (by decide) rfl (fun ls hl => ?_)
              refine lv_goto (tgt := 43) hx hb dX3_sortByCounting_75 (by decide) ?_
              have hl : lv_has ls 7 [(5, .int (nI (w + 1))), (0, .ref (b 0)), (1, .ref (b 3)), (2, .int (nI n)), (3, .ref (a 1)), (4, .ref (b 4))] := lv_sub hl [0, 1, 2, 3, 4, 5] rfl
              have hP : va_P D vwCl (List.flatten [wS cI b (a 0) (a 2) (a 1) N rw nm bf fe, wT cI (b 1) (N + 1) (nF (o2F n kk (w + 1))), wA cI cZ a c fr tt sa tk]) _ := hP
              have hD : va_D A (List.flatten [wS cI b (a 0) (a 2) (a 1) N rw nm bf fe, wT cI (b 1) (N + 1) (nF (o2F n kk (w + 1))), wA cI cZ a c fr tt sa tk]) := hD
              exact ih_43 (w + 1) (by omega) (by omega) (by omega) _ _ hP hD hS _ hl
        have hl : lv_has ls 7 [(5, .int (nI 1)), (0, .ref (b 0)), (1, .ref (b 3)), (2, .int (nI n)), (3, .ref (a 1)), (4, .ref (b 4))] := lv_sub hl [0, 1, 2, 3, 4, 5] rfl
        have hq0 : nF (o1F kk i) = nF (o2F n kk 1) := by rw [show i = n by omega]; exact o2_1
        have hP : va_P D vwCl (List.flatten [wS cI b (a 0) (a 2) (a 1) N rw nm bf fe, wT cI (b 1) (N + 1) (nF (o2F n kk 1)), wA cI cZ a c fr tt sa tk]) _ := wCast hP (by rw [← hq0])
        have hD : va_D A (List.flatten [wS cI b (a 0) (a 2) (a 1) N rw nm bf fe, wT cI (b 1) (N + 1) (nF (o2F n kk 1)), wA cI cZ a c fr tt sa tk]) := dCast hD (by rw [← hq0])
        exact loop_43 ((N + 1) + 1) 1 (by omega) (by omega) (by omega) _ _ hP hD hS _ hl
      ·
        have n_14 : ¬ n ≤ i := fun h9 => c_14 ((nI_leI (a := n) (b := i) (by omega) (by omega)).mpr h9)
        refine lv_aload_n hx hb dX3_sortByCounting_17 rfl (lv_at hl 1 rfl) ?_
        refine q_get (D := D) (ci := 3) (v := .ref (b 1)) (C := RX3) (T := TX3) (N := 8) hx hb hts (by decide +kernel) hown hK hP 0 0 rfl rfl rfl 3 (by decide) (hts (.fieldLink RX3 31 "OffsetRows$Side" "offsets" "[I") (by decide +kernel)) (fun _ h9 => h9) rfl dX3_sortByCounting_18 ?_
        refine lv_aload_n hx hb dX3_sortByCounting_21 rfl (lv_at hl 4 rfl) ?_
        refine lv_aload_n hx hb dX3_sortByCounting_22 rfl (lv_at hl 2 rfl) ?_
        refine lv_iload hx hb dX3_sortByCounting_23 (lv_at hl 0 rfl) ?_
        refine q_iald hx hb hK hP 0 2 0 rfl (f := nm) rfl rfl (k := i) (nI_clamp (n := i) (by omega)) (vp_in_nI (show i < 160 from by omega) (by omega)) dX3_sortByCounting_25 ?_
        refine q_top (z := nI (sn i)) ((hs i (by omega)).1) ?_
        have hs9 := (hs i (by omega)).2
        refine q_iald hx hb hK hP 2 1 0 rfl (f := fr) rfl rfl (k := sn i) (nI_clamp (n := sn i) (by omega)) (vp_in_nI (show sn i < 160 from by omega) (by omega)) dX3_sortByCounting_26 ?_
        refine q_top (z := nI (kk i)) ((hk i (by omega)).1) ?_
        have hk9 := (hk i (by omega)).2
        refine lv_iconst (v := (1 : Int32)) hx hb dX3_sortByCounting_27 (by decide) ?_
        refine q_iadd (z := nI (kk i + 1)) hx hb dX3_sortByCounting_28 (nI_add (kk i) 1) ?_
        refine lv_dup2_11 hx hb dX3_sortByCounting_29 rfl rfl ?_
        refine q_iald hx hb hK hP 1 0 0 rfl (f := nF (o1F kk i)) rfl rfl (k := kk i + 1) (nI_clamp (n := kk i + 1) (by omega)) (vp_in_nI (show kk i + 1 < N + 1 from by omega) (by omega)) dX3_sortByCounting_30 ?_
        refine q_top (z := nI (o1F kk i (kk i + 1))) (rfl) ?_
        refine lv_iconst (v := (1 : Int32)) hx hb dX3_sortByCounting_31 (by decide) ?_
        refine q_iadd (z := nI (o1F kk i (kk i + 1) + 1)) hx hb dX3_sortByCounting_32 (nI_add (o1F kk i (kk i + 1)) 1) ?_
        refine q_iast hx hb hK hP hD hS 1 0 0 rfl (f := nF (o1F kk i)) rfl rfl (k := kk i + 1) (nI_clamp (n := kk i + 1) (by omega)) (vp_in_nI (show kk i + 1 < N + 1 from by omega) (by omega)) dX3_sortByCounting_33 wT_s_tr (Fs' := [wS cI b (a 0) (a 2) (a 1) N rw nm bf fe, wT cI (b 1) (N + 1) (upd (nF (o1F kk i)) (kk i + 1) (nI (o1F kk i (kk i + 1) + 1))), wA cI cZ a c fr tt sa tk]) rfl (fun H locs hP hD hS => ?_)
        have hP : va_P D vwCl (List.flatten [wS cI b (a 0) (a 2) (a 1) N rw nm bf fe, wT cI (b 1) (N + 1) (nF (o1F kk (i + 1))), wA cI cZ a c fr tt sa tk]) _ := wCast hP (by rw [show upd (nF (o1F kk i)) (kk i + 1) (nI (o1F kk i (kk i + 1) + 1)) = nF (o1F kk (i + 1)) from o1_w])
        have hD : va_D A (List.flatten [wS cI b (a 0) (a 2) (a 1) N rw nm bf fe, wT cI (b 1) (N + 1) (nF (o1F kk (i + 1))), wA cI cZ a c fr tt sa tk]) := dCast hD (by rw [show upd (nF (o1F kk i)) (kk i + 1) (nI (o1F kk i (kk i + 1) + 1)) = nF (o1F kk (i + 1)) from o1_w])
        refine lv_iinc (v := nI (i + 1)) (lv' := [(5, .int (nI (i + 1))), (0, .ref (b 0)), (1, .ref (b 3)), (2, .int (nI n)), (3, .ref (a 1)), (4, .ref (b 4))]) hx hb dX3_sortByCounting_34 hl (k := 0) rfl (nI_add i 1) (by decide) rfl (fun ls hl => ?_)
        refine lv_goto (tgt := 11) hx hb dX3_sortByCounting_37 (by decide) ?_
        have hl : lv_has ls 7 [(5, .int (nI (i + 1))), (0, .ref (b 0)), (1, .ref (b 3)), (2, .int (nI n)), (3, .ref (a 1)), (4, .ref (b 4))] := lv_sub hl [0, 1, 2, 3, 4, 5] rfl
        have hP : va_P D vwCl (List.flatten [wS cI b (a 0) (a 2) (a 1) N rw nm bf fe, wT cI (b 1) (N + 1) (nF (o1F kk (i + 1))), wA cI cZ a c fr tt sa tk]) _ := hP
        have hD : va_D A (List.flatten [wS cI b (a 0) (a 2) (a 1) N rw nm bf fe, wT cI (b 1) (N + 1) (nF (o1F kk (i + 1))), wA cI cZ a c fr tt sa tk]) := hD
        exact ih_11 (i + 1) (by omega) (by omega) _ _ hP hD hS _ hl
  have hl : lv_has ls 7 [(5, .int (nI 0)), (0, .ref (b 0)), (1, .ref (b 3)), (2, .int (nI n)), (3, .ref (a 1)), (4, .ref (b 4))] := lv_sub hl [0, 1, 2, 3, 4, 5] rfl
  have hP : va_P D vwCl (List.flatten [wS cI b (a 0) (a 2) (a 1) N rw nm bf fe, wT cI (b 1) (N + 1) (nF (o1F kk 0)), wA cI cZ a c fr tt sa tk]) _ := hP
  have hD : va_D A (List.flatten [wS cI b (a 0) (a 2) (a 1) N rw nm bf fe, wT cI (b 1) (N + 1) (nF (o1F kk 0)), wA cI cZ a c fr tt sa tk]) := hD
  exact loop_11 (n + 1) 0 (by omega) (by omega) _ _ hP hD hS _ hl

set_option maxHeartbeats 8000000 in
set_option maxRecDepth 100000 in
theorem k3i_sort2 (l : Launch) (D : va_G) (cI cZ cL : ClassId) (b : Nat → Nat) (N : Nat) (rw : Nat → Int32) (nm : Nat → Int32) (bf : Nat → Int32) (fe : Nat → Int32) (of : Nat → Int32) (a : Nat → Nat) (c : Nat) (fr : Nat → Int32) (tt : Nat → Int32) (sa : Nat → Int32) (tk : Nat → Int32) (n : Nat) (sn : Nat → Nat) (kk : Nat → Nat) (hN : N ≤ 24) (hn : n ≤ 160) (hs : ∀ i, i < n → bf i = nI (sn i) ∧ sn i < 160) (hk : ∀ i, i < n → tt (sn i) = nI (kk i) ∧ kk i < N) : McV l D (tY cI cZ cL) yX3_sortByCounting wsX3_sortByCounting 1 40 [.ref (b 0), .ref (b 4), .int (nI n), .ref (a 2), .ref (b 2)] ([wS cI b (a 0) (a 2) (a 1) N rw nm bf fe, wT cI (b 1) (N + 1) of, wA cI cZ a c fr tt sa tk]) (fun (_ : Unit) => True) (fun (_ : Unit) => [wS cI b (a 0) (a 2) (a 1) N (srF (rkN n kk) sn rw n) nm bf (nF (f3F n kk n)), wT cI (b 1) (N + 1) (nF (psN n kk)), wA cI cZ a c fr tt sa tk]) := by
  refine q_ofW (Qc := fun A => (va_Qv (fun (_ : Unit) => True) (fun u t => mAt D (tY cI cZ cL) A ((fun (_ : Unit) => [wS cI b (a 0) (a 2) (a 1) N (srF (rkN n kk) sn rw n) nm bf (nF (f3F n kk n)), wT cI (b 1) (N + 1) (nF (psN n kk)), wA cI cZ a c fr tt sa tk]) u) t) A)) (cc := cX3_sortByCounting) (maxL := 7) (ret := none) (by decide) rfl (Nat.le_of_ble_eq_true rfl) ?_
  intro pz ez sz mz bz tz cz hx hb hml hr hlocks hts hown hK hP A hD hA ls hl
  have hS : va_S A sz.heap sz.heap [] := va_S.rf
  have hl : lv_has ls 7 [(0, .ref (b 0)), (1, .ref (b 4)), (2, .int (nI n)), (3, .ref (a 2)), (4, .ref (b 2))] := hl
  refine lv_aload_n hx hb dX3_sortByCounting_0 rfl (lv_at hl 0 rfl) ?_
  refine q_get (D := D) (ci := 3) (v := .ref (b 1)) (C := RX3) (T := TX3) (N := 8) hx hb hts (by decide +kernel) hown hK hP 0 0 rfl rfl rfl 3 (by decide) (hts (.fieldLink RX3 31 "OffsetRows$Side" "offsets" "[I") (by decide +kernel)) (fun _ h9 => h9) rfl dX3_sortByCounting_1 ?_
  refine lv_iconst (v := (0 : Int32)) hx hb dX3_sortByCounting_4 (by decide) ?_
  refine q_callSv (index := 54) (n := 2) (As := [.ref (b 1), .int (0 : Int32)]) (rest := []) (js := [1]) ⟨hx, hb, hml, hown, hts⟩ hK hP hD hS hA (kJ_filli l D cI cZ cL (b 1) (N + 1) of (0 : Int32) (by omega)) rfl (by decide) (fun _ => by simp only [List.map_cons, List.map_nil, wT_fst]) (fun (_ : Unit) => [wS cI b (a 0) (a 2) (a 1) N rw nm bf fe, wT cI (b 1) (N + 1) (pfx (fun _ => (0 : Int32)) of (N + 1)), wA cI cZ a c fr tt sa tk]) (fun _ => rfl) gX3_sortByCounting_J7_fill_53178 rfl (by decide +kernel) rfl ⟨by decide, by decide⟩ hl.1 (Nat.le_of_ble_eq_true rfl) ⟨(Nat.zero_le _), (Nat.zero_le _)⟩ dX3_sortByCounting_5 rfl (fun _ H locs hw hP hD hS => ?_)
  have hP : va_P D vwCl (List.flatten [wS cI b (a 0) (a 2) (a 1) N rw nm bf fe, wT cI (b 1) (N + 1) (nF (o1F kk 0)), wA cI cZ a c fr tt sa tk]) _ := x_ext hP 1 0 rfl rfl (f := pfx (fun _ => (0 : Int32)) of (N + 1)) (g := nF (o1F kk 0)) (fun k h => by simp only [pfx, if_pos h]; rfl) wT_s_tr rfl
  have hD : va_D A (List.flatten [wS cI b (a 0) (a 2) (a 1) N rw nm bf fe, wT cI (b 1) (N + 1) (nF (o1F kk 0)), wA cI cZ a c fr tt sa tk]) := d_ext hD 1 0 rfl rfl (wT_s_tr (g9 := nF (o1F kk 0))) rfl
  refine lv_iconst (v := (0 : Int32)) hx hb dX3_sortByCounting_8 (by decide) ?_
  refine lv_istore (lv' := [(5, .int (0 : Int32)), (0, .ref (b 0)), (1, .ref (b 4)), (2, .int (nI n)), (3, .ref (a 2)), (4, .ref (b 2))]) hx hb dX3_sortByCounting_9 hl (by decide) rfl (fun ls hl => ?_)
  have loop_11 : ∀ (k_11 i : Nat), i ≤ n → n < i + k_11 → ∀ (H : Heap) (locs : List Loc), va_P D vwCl (List.flatten [wS cI b (a 0) (a 2) (a 1) N rw nm bf fe, wT cI (b 1) (N + 1) (nF (o1F kk i)), wA cI cZ a c fr tt sa tk]) H → va_D A (List.flatten [wS cI b (a 0) (a 2) (a 1) N rw nm bf fe, wT cI (b 1) (N + 1) (nF (o1F kk i)), wA cI cZ a c fr tt sa tk]) → va_S A sz.heap H locs → ∀ (ls : Array Slot), lv_has ls 7 [(5, .int (nI i)), (0, .ref (b 0)), (1, .ref (b 4)), (2, .int (nI n)), (3, .ref (a 2)), (4, .ref (b 2))] → W pz l ez (rM 1 40) sz mz [.ref (b 0), .ref (b 4), .int (nI n), .ref (a 2), .ref (b 2)].toArray bz tz cz H locs 0 0 (MQ bz (va_Qv (fun (_ : Unit) => True) (fun u t => mAt D (tY cI cZ cL) A ((fun (_ : Unit) => [wS cI b (a 0) (a 2) (a 1) N (srF (rkN n kk) sn rw n) nm bf (nF (f3F n kk n)), wT cI (b 1) (N + 1) (nF (psN n kk)), wA cI cZ a c fr tt sa tk]) u) t) A) [.ref (b 0), .ref (b 4), .int (nI n), .ref (a 2), .ref (b 2)].toArray sz 0 0 A) (F0 mz 11 ls [])  := by
    intro k_11
    induction k_11 with
    | zero => intro i hi_11 hk_11; exact absurd hk_11 (by omega)
    | succ k_11 ih_11 =>
      intro i hi_11 hk_11 H locs hP hD hS ls hl
      refine lv_iload hx hb dX3_sortByCounting_11 (lv_at hl 0 rfl) ?_
      refine lv_iload_n hx hb dX3_sortByCounting_13 rfl (lv_at hl 3 rfl) ?_
      refine lv_icmp_ge (tgt := 40) hx hb dX3_sortByCounting_14 (by decide) (fun c_14 => ?_) (fun c_14 => ?_)
      ·
        have n_14 : n ≤ i := (nI_leI (a := n) (b := i) (by omega) (by omega)).mp c_14
        refine lv_iconst (v := (1 : Int32)) hx hb dX3_sortByCounting_40 (by decide) ?_
        refine lv_istore (lv' := [(5, .int (1 : Int32)), (0, .ref (b 0)), (1, .ref (b 4)), (2, .int (nI n)), (3, .ref (a 2)), (4, .ref (b 2))]) hx hb dX3_sortByCounting_41 hl (by decide) rfl (fun ls hl => ?_)
        have loop_43 : ∀ (k_43 w : Nat), w ≤ N + 1 → N + 1 < w + k_43 → (1 ≤ w) → ∀ (H : Heap) (locs : List Loc), va_P D vwCl (List.flatten [wS cI b (a 0) (a 2) (a 1) N rw nm bf fe, wT cI (b 1) (N + 1) (nF (o2F n kk w)), wA cI cZ a c fr tt sa tk]) H → va_D A (List.flatten [wS cI b (a 0) (a 2) (a 1) N rw nm bf fe, wT cI (b 1) (N + 1) (nF (o2F n kk w)), wA cI cZ a c fr tt sa tk]) → va_S A sz.heap H locs → ∀ (ls : Array Slot), lv_has ls 7 [(5, .int (nI w)), (0, .ref (b 0)), (1, .ref (b 4)), (2, .int (nI n)), (3, .ref (a 2)), (4, .ref (b 2))] → W pz l ez (rM 1 40) sz mz [.ref (b 0), .ref (b 4), .int (nI n), .ref (a 2), .ref (b 2)].toArray bz tz cz H locs 0 0 (MQ bz (va_Qv (fun (_ : Unit) => True) (fun u t => mAt D (tY cI cZ cL) A ((fun (_ : Unit) => [wS cI b (a 0) (a 2) (a 1) N (srF (rkN n kk) sn rw n) nm bf (nF (f3F n kk n)), wT cI (b 1) (N + 1) (nF (psN n kk)), wA cI cZ a c fr tt sa tk]) u) t) A) [.ref (b 0), .ref (b 4), .int (nI n), .ref (a 2), .ref (b 2)].toArray sz 0 0 A) (F0 mz 43 ls [])  := by
          intro k_43
          induction k_43 with
          | zero => intro w hi_43 hk_43; exact absurd hk_43 (by omega)
          | succ k_43 ih_43 =>
            intro w hi_43 hk_43 hw1 H locs hP hD hS ls hl
            refine lv_iload hx hb dX3_sortByCounting_43 (lv_at hl 0 rfl) ?_
            refine lv_aload_n hx hb dX3_sortByCounting_45 rfl (lv_at hl 1 rfl) ?_
            refine q_get (D := D) (ci := 3) (v := .ref (b 1)) (C := RX3) (T := TX3) (N := 8) hx hb hts (by decide +kernel) hown hK hP 0 0 rfl rfl rfl 3 (by decide) (hts (.fieldLink RX3 31 "OffsetRows$Side" "offsets" "[I") (by decide +kernel)) (fun _ h9 => h9) rfl dX3_sortByCounting_46 ?_
            refine va_alen hx hb hK (fP hP (j := 1) rfl) 0 0 rfl rfl (v := nI (N + 1)) rfl dX3_sortByCounting_49 ?_
            refine lv_icmp_ge (tgt := 78) hx hb dX3_sortByCounting_50 (by decide) (fun c_50 => ?_) (fun c_50 => ?_)
            ·
              have n_50 : (N + 1) ≤ w := (nI_leI (a := N + 1) (b := w) (by omega) (by omega)).mp c_50
              refine lv_aload_n hx hb dX3_sortByCounting_78 rfl (lv_at hl 1 rfl) ?_
              refine q_get (D := D) (ci := 3) (v := .ref (b 1)) (C := RX3) (T := TX3) (N := 8) hx hb hts (by decide +kernel) hown hK hP 0 0 rfl rfl rfl 3 (by decide) (hts (.fieldLink RX3 31 "OffsetRows$Side" "offsets" "[I") (by decide +kernel)) (fun _ h9 => h9) rfl dX3_sortByCounting_79 ?_
              refine lv_iconst (v := (0 : Int32)) hx hb dX3_sortByCounting_82 (by decide) ?_
              refine lv_aload_n hx hb dX3_sortByCounting_83 rfl (lv_at hl 1 rfl) ?_
              refine q_get (D := D) (ci := 3) (v := .ref (b 5)) (C := RX3) (T := TX3) (N := 8) hx hb hts (by decide +kernel) hown hK hP 0 0 rfl rfl rfl 7 (by decide) (hts (.fieldLink RX3 34 "OffsetRows$Side" "free" "[I") (by decide +kernel)) (fun _ h9 => h9) rfl dX3_sortByCounting_84 ?_
              refine lv_iconst (v := (0 : Int32)) hx hb dX3_sortByCounting_87 (by decide) ?_
              refine lv_aload_n hx hb dX3_sortByCounting_88 rfl (lv_at hl 1 rfl) ?_
              refine q_get (D := D) (ci := 3) (v := .ref (b 1)) (C := RX3) (T := TX3) (N := 8) hx hb hts (by decide +kernel) hown hK hP 0 0 rfl rfl rfl 3 (by decide) (hts (.fieldLink RX3 31 "OffsetRows$Side" "offsets" "[I") (by decide +kernel)) (fun _ h9 => h9) rfl dX3_sortByCounting_89 ?_
              refine va_alen hx hb hK (fP hP (j := 1) rfl) 0 0 rfl rfl (v := nI (N + 1)) rfl dX3_sortByCounting_92 ?_
              refine q_copyi hx hb (hml.trans hl.1.symm) hown (hts (.methodLink RX3 60 arraycopyName) (by decide +kernel)) (hts (.native arraycopyName) (by decide +kernel)) (hts (.static arraycopyName) (by decide +kernel)) (hts (.initialized "java/lang/System") (by decide +kernel)) hK hP hD hS 1 0 0 4 0 rfl rfl rfl rfl rfl (k := N + 1) (nI_clamp (n := N + 1) (by omega)) (nI_pos (by omega)) (Nat.le_refl _) (Nat.le_refl _) (by decide) (by decide) dX3_sortByCounting_93 wS_s_fe (Fs' := [wS cI b (a 0) (a 2) (a 1) N rw nm bf (va_cpy (nF (o2F n kk w)) (fe) 0 0 (N + 1)), wT cI (b 1) (N + 1) (nF (o2F n kk w)), wA cI cZ a c fr tt sa tk]) rfl (fun H locs hP hD hS => ?_)
              have hP : va_P D vwCl (List.flatten [wS cI b (a 0) (a 2) (a 1) N rw nm bf (va_cpy (nF (o2F n kk w)) (fe) 0 0 (N + 1)), wT cI (b 1) (N + 1) (nF (psN n kk)), wA cI cZ a c fr tt sa tk]) _ := x_ext hP 1 0 rfl rfl (f := nF (o2F n kk w)) (g := nF (psN n kk)) (fun k h => by simp only [nF, psN, o2F, if_pos (show k < w by omega)]) wT_s_tr rfl
              have hD : va_D A (List.flatten [wS cI b (a 0) (a 2) (a 1) N rw nm bf (va_cpy (nF (o2F n kk w)) (fe) 0 0 (N + 1)), wT cI (b 1) (N + 1) (nF (psN n kk)), wA cI cZ a c fr tt sa tk]) := d_ext hD 1 0 rfl rfl (wT_s_tr (g9 := nF (psN n kk))) rfl
              have hP : va_P D vwCl (List.flatten [wS cI b (a 0) (a 2) (a 1) N rw nm bf (nF (f3F n kk 0)), wT cI (b 1) (N + 1) (nF (psN n kk)), wA cI cZ a c fr tt sa tk]) _ := x_ext hP 0 4 rfl rfl (f := va_cpy (nF (o2F n kk w)) (fe) 0 0 (N + 1)) (g := nF (f3F n kk 0)) (fun k h => by simp only [va_cpy, nF, o2F, f3F]; rw [if_pos (by omega), if_pos (show 0 + (k - 0) < w by omega)]; simp [cN]) wS_s_fe rfl
              have hD : va_D A (List.flatten [wS cI b (a 0) (a 2) (a 1) N rw nm bf (nF (f3F n kk 0)), wT cI (b 1) (N + 1) (nF (psN n kk)), wA cI cZ a c fr tt sa tk]) := d_ext hD 0 4 rfl rfl (wS_s_fe (g9 := nF (f3F n kk 0))) rfl
              refine lv_iconst (v := (0 : Int32)) hx hb dX3_sortByCounting_96 (by decide) ?_
              refine lv_istore (lv' := [(5, .int (0 : Int32)), (0, .ref (b 0)), (1, .ref (b 4)), (2, .int (nI n)), (3, .ref (a 2)), (4, .ref (b 2))]) hx hb dX3_sortByCounting_97 hl (by decide) rfl (fun ls hl => ?_)
              have loop_99 : ∀ (k_99 t : Nat), t ≤ n → n < t + k_99 → ∀ (H : Heap) (locs : List Loc), va_P D vwCl (List.flatten [wS cI b (a 0) (a 2) (a 1) N (srF (rkN n kk) sn rw t) nm bf (nF (f3F n kk t)), wT cI (b 1) (N + 1) (nF (psN n kk)), wA cI cZ a c fr tt sa tk]) H → va_D A (List.flatten [wS cI b (a 0) (a 2) (a 1) N (srF (rkN n kk) sn rw t) nm bf (nF (f3F n kk t)), wT cI (b 1) (N + 1) (nF (psN n kk)), wA cI cZ a c fr tt sa tk]) → va_S A sz.heap H locs → ∀ (ls : Array Slot), lv_has ls 7 [(5, .int (nI t)), (0, .ref (b 0)), (1, .ref (b 4)), (2, .int (nI n)), (3, .ref (a 2)), (4, .ref (b 2))] → W pz l ez (rM 1 40) sz mz [.ref (b 0), .ref (b 4), .int (nI n), .ref (a 2), .ref (b 2)].toArray bz tz cz H locs 0 0 (MQ bz (va_Qv (fun (_ : Unit) => True) (fun u t => mAt D (tY cI cZ cL) A ((fun (_ : Unit) => [wS cI b (a 0) (a 2) (a 1) N (srF (rkN n kk) sn rw n) nm bf (nF (f3F n kk n)), wT cI (b 1) (N + 1) (nF (psN n kk)), wA cI cZ a c fr tt sa tk]) u) t) A) [.ref (b 0), .ref (b 4), .int (nI n), .ref (a 2), .ref (b 2)].toArray sz 0 0 A) (F0 mz 99 ls [])  := by
                intro k_99
                induction k_99 with
                | zero => intro t hi_99 hk_99; exact absurd hk_99 (by omega)
                | succ k_99 ih_99 =>
                  intro t hi_99 hk_99 H locs hP hD hS ls hl
                  refine lv_iload hx hb dX3_sortByCounting_99 (lv_at hl 0 rfl) ?_
                  refine lv_iload_n hx hb dX3_sortByCounting_101 rfl (lv_at hl 3 rfl) ?_
                  refine lv_icmp_ge (tgt := 144) hx hb dX3_sortByCounting_102 (by decide) (fun c_102 => ?_) (fun c_102 => ?_)
                  ·
                    have n_102 : n ≤ t := (nI_leI (a := n) (b := t) (by omega) (by omega)).mp c_102
                    exact q_vret (()) hx hb hr hlocks hK hP hD hS (trivial) (by rw [show t = n by omega]) dX3_sortByCounting_144
                  ·
                    have n_102 : ¬ n ≤ t := fun h9 => c_102 ((nI_leI (a := n) (b := t) (by omega) (by omega)).mpr h9)
                    refine lv_aload_n hx hb dX3_sortByCounting_105 rfl (lv_at hl 4 rfl) ?_
                    refine lv_aload_n hx hb dX3_sortByCounting_106 rfl (lv_at hl 2 rfl) ?_
                    refine lv_iload hx hb dX3_sortByCounting_107 (lv_at hl 0 rfl) ?_
                    refine q_iald hx hb hK hP 0 3 0 rfl (f := bf) rfl rfl (k := t) (nI_clamp (n := t) (by omega)) (vp_in_nI (show t < 160 from by omega) (by omega)) dX3_sortByCounting_109 ?_
                    refine q_top (z := nI (sn t)) ((hs t (by omega)).1) ?_
                    have hs9 := (hs t (by omega)).2
                    refine q_iald hx hb hK hP 2 2 0 rfl (f := tt) rfl rfl (k := sn t) (nI_clamp (n := sn t) (by omega)) (vp_in_nI (show sn t < 160 from by omega) (by omega)) dX3_sortByCounting_110 ?_
                    refine q_top (z := nI (kk t)) ((hk t (by omega)).1) ?_
                    have hk9 := (hk t (by omega)).2
                    have hr9 := rk_lt (n := n) (i := t) (kk := kk) (by omega)
                    refine lv_istore (lv' := [(6, .int (nI (kk t))), (5, .int (nI t)), (0, .ref (b 0)), (1, .ref (b 4)), (2, .int (nI n)), (3, .ref (a 2)), (4, .ref (b 2))]) hx hb dX3_sortByCounting_111 hl (by decide) rfl (fun ls hl => ?_)
                    refine lv_aload hx hb dX3_sortByCounting_113 (lv_at hl 6 rfl) ?_
                    refine lv_aload_n hx hb dX3_sortByCounting_115 rfl (lv_at hl 2 rfl) ?_
                    refine q_get (D := D) (ci := 3) (v := .ref (b 5)) (C := RX3) (T := TX3) (N := 8) hx hb hts (by decide +kernel) hown hK hP 0 0 rfl rfl rfl 7 (by decide) (hts (.fieldLink RX3 34 "OffsetRows$Side" "free" "[I") (by decide +kernel)) (fun _ h9 => h9) rfl dX3_sortByCounting_116 ?_
                    refine lv_iload hx hb dX3_sortByCounting_119 (lv_at hl 0 rfl) ?_
                    refine q_iald hx hb hK hP 0 4 0 rfl (f := nF (f3F n kk t)) rfl rfl (k := kk t) (nI_clamp (n := kk t) (by omega)) (vp_in_nI (show kk t < N + 1 from by omega) (by omega)) dX3_sortByCounting_121 ?_
                    refine q_top (z := nI (rkN n kk t)) (rfl) ?_
                    refine lv_aload_n hx hb dX3_sortByCounting_122 rfl (lv_at hl 3 rfl) ?_
                    refine lv_iload hx hb dX3_sortByCounting_123 (lv_at hl 1 rfl) ?_
                    refine q_iald hx hb hK hP 0 3 0 rfl (f := bf) rfl rfl (k := t) (nI_clamp (n := t) (by omega)) (vp_in_nI (show t < 160 from by omega) (by omega)) dX3_sortByCounting_125 ?_
                    refine q_top (z := nI (sn t)) ((hs t (by omega)).1) ?_
                    refine q_iast hx hb hK hP hD hS 0 1 0 rfl (f := srF (rkN n kk) sn rw t) rfl rfl (k := rkN n kk t) (nI_clamp (n := rkN n kk t) (by omega)) (vp_in_nI (show rkN n kk t < 160 from by omega) (by omega)) dX3_sortByCounting_126 wS_s_rw (Fs' := [wS cI b (a 0) (a 2) (a 1) N (upd (srF (rkN n kk) sn rw t) (rkN n kk t) (nI (sn t))) nm bf (nF (f3F n kk t)), wT cI (b 1) (N + 1) (nF (psN n kk)), wA cI cZ a c fr tt sa tk]) rfl (fun H locs hP hD hS => ?_)
                    have hP : va_P D vwCl (List.flatten [wS cI b (a 0) (a 2) (a 1) N (srF (rkN n kk) sn rw (t + 1)) nm bf (nF (f3F n kk t)), wT cI (b 1) (N + 1) (nF (psN n kk)), wA cI cZ a c fr tt sa tk]) _ := wCast hP (by rw [show upd (srF (rkN n kk) sn rw t) (rkN n kk t) (nI (sn t)) = srF (rkN n kk) sn rw (t + 1) from rfl])
                    have hD : va_D A (List.flatten [wS cI b (a 0) (a 2) (a 1) N (srF (rkN n kk) sn rw (t + 1)) nm bf (nF (f3F n kk t)), wT cI (b 1) (N + 1) (nF (psN n kk)), wA cI cZ a c fr tt sa tk]) := dCast hD (by rw [show upd (srF (rkN n kk) sn rw t) (rkN n kk t) (nI (sn t)) = srF (rkN n kk) sn rw (t + 1) from rfl])
                    refine lv_aload_n hx hb dX3_sortByCounting_127 rfl (lv_at hl 2 rfl) ?_
                    refine q_get (D := D) (ci := 3) (v := .ref (b 5)) (C := RX3) (T := TX3) (N := 8) hx hb hts (by decide +kernel) hown hK hP 0 0 rfl rfl rfl 7 (by decide) (hts (.fieldLink RX3 34 "OffsetRows$Side" "free" "[I") (by decide +kernel)) (fun _ h9 => h9) rfl dX3_sortByCounting_128 ?_
                    refine lv_iload hx hb dX3_sortByCounting_131 (lv_at hl 0 rfl) ?_
                    refine lv_dup2_11 hx hb dX3_sortByCounting_133 rfl rfl ?_
                    refine q_iald hx hb hK hP 0 4 0 rfl (f := nF (f3F n kk t)) rfl rfl (k := kk t) (nI_clamp (n := kk t) (by omega)) (vp_in_nI (show kk t < N + 1 from by omega) (by omega)) dX3_sortByCounting_134 ?_
                    refine q_top (z := nI (f3F n kk t (kk t))) (rfl) ?_
                    refine lv_iconst (v := (1 : Int32)) hx hb dX3_sortByCounting_135 (by decide) ?_
                    refine q_iadd (z := nI (f3F n kk t (kk t) + 1)) hx hb dX3_sortByCounting_136 (nI_add (f3F n kk t (kk t)) 1) ?_
                    refine q_iast hx hb hK hP hD hS 0 4 0 rfl (f := nF (f3F n kk t)) rfl rfl (k := kk t) (nI_clamp (n := kk t) (by omega)) (vp_in_nI (show kk t < N + 1 from by omega) (by omega)) dX3_sortByCounting_137 wS_s_fe (Fs' := [wS cI b (a 0) (a 2) (a 1) N (srF (rkN n kk) sn rw (t + 1)) nm bf (upd (nF (f3F n kk t)) (kk t) (nI (f3F n kk t (kk t) + 1))), wT cI (b 1) (N + 1) (nF (psN n kk)), wA cI cZ a c fr tt sa tk]) rfl (fun H locs hP hD hS => ?_)
                    have hP : va_P D vwCl (List.flatten [wS cI b (a 0) (a 2) (a 1) N (srF (rkN n kk) sn rw (t + 1)) nm bf (nF (f3F n kk (t + 1))), wT cI (b 1) (N + 1) (nF (psN n kk)), wA cI cZ a c fr tt sa tk]) _ := wCast hP (by rw [show upd (nF (f3F n kk t)) (kk t) (nI (f3F n kk t (kk t) + 1)) = nF (f3F n kk (t + 1)) from f3_w])
                    have hD : va_D A (List.flatten [wS cI b (a 0) (a 2) (a 1) N (srF (rkN n kk) sn rw (t + 1)) nm bf (nF (f3F n kk (t + 1))), wT cI (b 1) (N + 1) (nF (psN n kk)), wA cI cZ a c fr tt sa tk]) := dCast hD (by rw [show upd (nF (f3F n kk t)) (kk t) (nI (f3F n kk t (kk t) + 1)) = nF (f3F n kk (t + 1)) from f3_w])
                    refine lv_iinc (v := nI (t + 1)) (lv' := [(5, .int (nI (t + 1))), (6, .int (nI (kk t))), (0, .ref (b 0)), (1, .ref (b 4)), (2, .int (nI n)), (3, .ref (a 2)), (4, .ref (b 2))]) hx hb dX3_sortByCounting_138 hl (k := 1) rfl (nI_add t 1) (by decide) rfl (fun ls hl => ?_)
                    refine lv_goto (tgt := 99) hx hb dX3_sortByCounting_141 (by decide) ?_
                    have hl : lv_has ls 7 [(5, .int (nI (t + 1))), (0, .ref (b 0)), (1, .ref (b 4)), (2, .int (nI n)), (3, .ref (a 2)), (4, .ref (b 2))] := lv_sub hl [0, 2, 3, 4, 5, 6] rfl
                    have hP : va_P D vwCl (List.flatten [wS cI b (a 0) (a 2) (a 1) N (srF (rkN n kk) sn rw (t + 1)) nm bf (nF (f3F n kk (t + 1))), wT cI (b 1) (N + 1) (nF (psN n kk)), wA cI cZ a c fr tt sa tk]) _ := hP
                    have hD : va_D A (List.flatten [wS cI b (a 0) (a 2) (a 1) N (srF (rkN n kk) sn rw (t + 1)) nm bf (nF (f3F n kk (t + 1))), wT cI (b 1) (N + 1) (nF (psN n kk)), wA cI cZ a c fr tt sa tk]) := hD
                    exact ih_99 (t + 1) (by omega) (by omega) _ _ hP hD hS _ hl
              have hl : lv_has ls 7 [(5, .int (nI 0)), (0, .ref (b 0)), (1, .ref (b 4)), (2, .int (nI n)), (3, .ref (a 2)), (4, .ref (b 2))] := lv_sub hl [0, 1, 2, 3, 4, 5] rfl
              have hq0 : rw = srF (rkN n kk) sn rw 0 := rfl
              have hP : va_P D vwCl (List.flatten [wS cI b (a 0) (a 2) (a 1) N (srF (rkN n kk) sn rw 0) nm bf (nF (f3F n kk 0)), wT cI (b 1) (N + 1) (nF (psN n kk)), wA cI cZ a c fr tt sa tk]) _ := wCast hP (by rw [← hq0])
              have hD : va_D A (List.flatten [wS cI b (a 0) (a 2) (a 1) N (srF (rkN n kk) sn rw 0) nm bf (nF (f3F n kk 0)), wT cI (b 1) (N + 1) (nF (psN n kk)), wA cI cZ a c fr tt sa tk]) := dCast hD (by rw [← hq0])
              exact loop_99 (n + 1) 0 (by omega) (by omega) _ _ hP hD hS _ hl
            ·
              have n_50 : ¬ (N + 1) ≤ w := fun h9 => c_50 ((nI_leI (a := N + 1) (b := w) (by omega) (by omega)).mpr h9)
              refine lv_aload_n hx hb dX3_sortByCounting_53 rfl (lv_at hl 1 rfl) ?_
              refine q_get (D := D) (ci := 3) (v := .ref (b 1)) (C := RX3) (T := TX3) (N := 8) hx hb hts (by decide +kernel) hown hK hP 0 0 rfl rfl rfl 3 (by decide) (hts (.fieldLink RX3 31 "OffsetRows$Side" "offsets" "[I") (by decide +kernel)) (fun _ h9 => h9) rfl dX3_sortByCounting_54 ?_
              refine lv_iload hx hb dX3_sortByCounting_57 (lv_at hl 0 rfl) ?_
              refine lv_dup2_11 hx hb dX3_sortByCounting_59 rfl rfl ?_
              refine q_iald hx hb hK hP 1 0 0 rfl (f := nF (o2F n kk w)) rfl rfl (k := w) (nI_clamp (n := w) (by omega)) (vp_in_nI (show w < N + 1 from by omega) (by omega)) dX3_sortByCounting_60 ?_
              refine q_top (z := nI (cN n (eqB kk w))) (by simp [nF, o2F]) ?_
              refine lv_aload_n hx hb dX3_sortByCounting_61 rfl (lv_at hl 1 rfl) ?_
              refine q_get (D := D) (ci := 3) (v := .ref (b 1)) (C := RX3) (T := TX3) (N := 8) hx hb hts (by decide +kernel) hown hK hP 0 0 rfl rfl rfl 3 (by decide) (hts (.fieldLink RX3 31 "OffsetRows$Side" "offsets" "[I") (by decide +kernel)) (fun _ h9 => h9) rfl dX3_sortByCounting_62 ?_
              refine lv_iload hx hb dX3_sortByCounting_65 (lv_at hl 0 rfl) ?_
              refine lv_iconst (v := (1 : Int32)) hx hb dX3_sortByCounting_67 (by decide) ?_
              refine q_isub (z := nI (w - 1)) hx hb dX3_sortByCounting_68 (pk_sub (a := w) (b := 1) (by omega)) ?_
              refine q_iald hx hb hK hP 1 0 0 rfl (f := nF (o2F n kk w)) rfl rfl (k := w - 1) (nI_clamp (n := w - 1) (by omega)) (vp_in_nI (show w - 1 < N + 1 from by omega) (by omega)) dX3_sortByCounting_69 ?_
              refine q_top (z := nI (cN n (ltB kk (w - 1)))) (by simp only [nF, o2F]; rw [if_pos (by omega)]) ?_
              refine q_iadd (z := nI (cN n (eqB kk w) + (cN n (ltB kk (w - 1))))) hx hb dX3_sortByCounting_70 (nI_add (cN n (eqB kk w)) (cN n (ltB kk (w - 1)))) ?_
              refine q_iast hx hb hK hP hD hS 1 0 0 rfl (f := nF (o2F n kk w)) rfl rfl (k := w) (nI_clamp (n := w) (by omega)) (vp_in_nI (show w < N + 1 from by omega) (by omega)) dX3_sortByCounting_71 wT_s_tr (Fs' := [wS cI b (a 0) (a 2) (a 1) N rw nm bf fe, wT cI (b 1) (N + 1) (upd (nF (o2F n kk w)) w (nI (cN n (eqB kk w) + (cN n (ltB kk (w - 1)))))), wA cI cZ a c fr tt sa tk]) rfl (fun H locs hP hD hS => ?_)
              have hP : va_P D vwCl (List.flatten [wS cI b (a 0) (a 2) (a 1) N rw nm bf fe, wT cI (b 1) (N + 1) (nF (o2F n kk (w + 1))), wA cI cZ a c fr tt sa tk]) _ := wCast hP (by rw [show upd (nF (o2F n kk w)) w (nI (cN n (eqB kk w) + (cN n (ltB kk (w - 1))))) = nF (o2F n kk (w + 1)) from o2_w hw1])
              have hD : va_D A (List.flatten [wS cI b (a 0) (a 2) (a 1) N rw nm bf fe, wT cI (b 1) (N + 1) (nF (o2F n kk (w + 1))), wA cI cZ a c fr tt sa tk]) := dCast hD (by rw [show upd (nF (o2F n kk w)) w (nI (cN n (eqB kk w) + (cN n (ltB kk (w - 1))))) = nF (o2F n kk (w + 1)) from o2_w hw1])
              refine lv_iinc (v := nI (w + 1)) (lv' := [(5, .int (nI (w + 1))), (0, .ref (b 0)), (1, .ref (b 4)), (2, .int (nI n)), (3, .ref (a 2)), (4, .ref (b 2))]) hx hb dX3_sortByCounting_72 hl (k := 0) rfl (nI_add w 1) (by decide) rfl (fun ls hl => ?_)
              refine lv_goto (tgt := 43) hx hb dX3_sortByCounting_75 (by decide) ?_
              have hl : lv_has ls 7 [(5, .int (nI (w + 1))), (0, .ref (b 0)), (1, .ref (b 4)), (2, .int (nI n)), (3, .ref (a 2)), (4, .ref (b 2))] := lv_sub hl [0, 1, 2, 3, 4, 5] rfl
              have hP : va_P D vwCl (List.flatten [wS cI b (a 0) (a 2) (a 1) N rw nm bf fe, wT cI (b 1) (N + 1) (nF (o2F n kk (w + 1))), wA cI cZ a c fr tt sa tk]) _ := hP
              have hD : va_D A (List.flatten [wS cI b (a 0) (a 2) (a 1) N rw nm bf fe, wT cI (b 1) (N + 1) (nF (o2F n kk (w + 1))), wA cI cZ a c fr tt sa tk]) := hD
              exact ih_43 (w + 1) (by omega) (by omega) (by omega) _ _ hP hD hS _ hl
        have hl : lv_has ls 7 [(5, .int (nI 1)), (0, .ref (b 0)), (1, .ref (b 4)), (2, .int (nI n)), (3, .ref (a 2)), (4, .ref (b 2))] := lv_sub hl [0, 1, 2, 3, 4, 5] rfl
        have hq0 : nF (o1F kk i) = nF (o2F n kk 1) := by rw [show i = n by omega]; exact o2_1
        have hP : va_P D vwCl (List.flatten [wS cI b (a 0) (a 2) (a 1) N rw nm bf fe, wT cI (b 1) (N + 1) (nF (o2F n kk 1)), wA cI cZ a c fr tt sa tk]) _ := wCast hP (by rw [← hq0])
        have hD : va_D A (List.flatten [wS cI b (a 0) (a 2) (a 1) N rw nm bf fe, wT cI (b 1) (N + 1) (nF (o2F n kk 1)), wA cI cZ a c fr tt sa tk]) := dCast hD (by rw [← hq0])
        exact loop_43 ((N + 1) + 1) 1 (by omega) (by omega) (by omega) _ _ hP hD hS _ hl
      ·
        have n_14 : ¬ n ≤ i := fun h9 => c_14 ((nI_leI (a := n) (b := i) (by omega) (by omega)).mpr h9)
        refine lv_aload_n hx hb dX3_sortByCounting_17 rfl (lv_at hl 1 rfl) ?_
        refine q_get (D := D) (ci := 3) (v := .ref (b 1)) (C := RX3) (T := TX3) (N := 8) hx hb hts (by decide +kernel) hown hK hP 0 0 rfl rfl rfl 3 (by decide) (hts (.fieldLink RX3 31 "OffsetRows$Side" "offsets" "[I") (by decide +kernel)) (fun _ h9 => h9) rfl dX3_sortByCounting_18 ?_
        refine lv_aload_n hx hb dX3_sortByCounting_21 rfl (lv_at hl 4 rfl) ?_
        refine lv_aload_n hx hb dX3_sortByCounting_22 rfl (lv_at hl 2 rfl) ?_
        refine lv_iload hx hb dX3_sortByCounting_23 (lv_at hl 0 rfl) ?_
        refine q_iald hx hb hK hP 0 3 0 rfl (f := bf) rfl rfl (k := i) (nI_clamp (n := i) (by omega)) (vp_in_nI (show i < 160 from by omega) (by omega)) dX3_sortByCounting_25 ?_
        refine q_top (z := nI (sn i)) ((hs i (by omega)).1) ?_
        have hs9 := (hs i (by omega)).2
        refine q_iald hx hb hK hP 2 2 0 rfl (f := tt) rfl rfl (k := sn i) (nI_clamp (n := sn i) (by omega)) (vp_in_nI (show sn i < 160 from by omega) (by omega)) dX3_sortByCounting_26 ?_
        refine q_top (z := nI (kk i)) ((hk i (by omega)).1) ?_
        have hk9 := (hk i (by omega)).2
        refine lv_iconst (v := (1 : Int32)) hx hb dX3_sortByCounting_27 (by decide) ?_
        refine q_iadd (z := nI (kk i + 1)) hx hb dX3_sortByCounting_28 (nI_add (kk i) 1) ?_
        refine lv_dup2_11 hx hb dX3_sortByCounting_29 rfl rfl ?_
        refine q_iald hx hb hK hP 1 0 0 rfl (f := nF (o1F kk i)) rfl rfl (k := kk i + 1) (nI_clamp (n := kk i + 1) (by omega)) (vp_in_nI (show kk i + 1 < N + 1 from by omega) (by omega)) dX3_sortByCounting_30 ?_
        refine q_top (z := nI (o1F kk i (kk i + 1))) (rfl) ?_
        refine lv_iconst (v := (1 : Int32)) hx hb dX3_sortByCounting_31 (by decide) ?_
        refine q_iadd (z := nI (o1F kk i (kk i + 1) + 1)) hx hb dX3_sortByCounting_32 (nI_add (o1F kk i (kk i + 1)) 1) ?_
        refine q_iast hx hb hK hP hD hS 1 0 0 rfl (f := nF (o1F kk i)) rfl rfl (k := kk i + 1) (nI_clamp (n := kk i + 1) (by omega)) (vp_in_nI (show kk i + 1 < N + 1 from by omega) (by omega)) dX3_sortByCounting_33 wT_s_tr (Fs' := [wS cI b (a 0) (a 2) (a 1) N rw nm bf fe, wT cI (b 1) (N + 1) (upd (nF (o1F kk i)) (kk i + 1) (nI (o1F kk i (kk i + 1) + 1))), wA cI cZ a c fr tt sa tk]) rfl (fun H locs hP hD hS => ?_)
        have hP : va_P D vwCl (List.flatten [wS cI b (a 0) (a 2) (a 1) N rw nm bf fe, wT cI (b 1) (N + 1) (nF (o1F kk (i + 1))), wA cI cZ a c fr tt sa tk]) _ := wCast hP (by rw [show upd (nF (o1F kk i)) (kk i + 1) (nI (o1F kk i (kk i + 1) + 1)) = nF (o1F kk (i + 1)) from o1_w])
        have hD : va_D A (List.flatten [wS cI b (a 0) (a 2) (a 1) N rw nm bf fe, wT cI (b 1) (N + 1) (nF (o1F kk (i + 1))), wA cI cZ a c fr tt sa tk]) := dCast hD (by rw [show upd (nF (o1F kk i)) (kk i + 1) (nI (o1F kk i (kk i + 1) + 1)) = nF (o1F kk (i + 1)) from o1_w])
        refine lv_iinc (v := nI (i + 1)) (lv' := [(5, .int (nI (i + 1))), (0, .ref (b 0)), (1, .ref (b 4)), (2, .int (nI n)), (3, .ref (a 2)), (4, .ref (b 2))]) hx hb dX3_sortByCounting_34 hl (k := 0) rfl (nI_add i 1) (by decide) rfl (fun ls hl => ?_)
        refine lv_goto (tgt := 11) hx hb dX3_sortByCounting_37 (by decide) ?_
        have hl : lv_has ls 7 [(5, .int (nI (i + 1))), (0, .ref (b 0)), (1, .ref (b 4)), (2, .int (nI n)), (3, .ref (a 2)), (4, .ref (b 2))] := lv_sub hl [0, 1, 2, 3, 4, 5] rfl
        have hP : va_P D vwCl (List.flatten [wS cI b (a 0) (a 2) (a 1) N rw nm bf fe, wT cI (b 1) (N + 1) (nF (o1F kk (i + 1))), wA cI cZ a c fr tt sa tk]) _ := hP
        have hD : va_D A (List.flatten [wS cI b (a 0) (a 2) (a 1) N rw nm bf fe, wT cI (b 1) (N + 1) (nF (o1F kk (i + 1))), wA cI cZ a c fr tt sa tk]) := hD
        exact ih_11 (i + 1) (by omega) (by omega) _ _ hP hD hS _ hl
  have hl : lv_has ls 7 [(5, .int (nI 0)), (0, .ref (b 0)), (1, .ref (b 4)), (2, .int (nI n)), (3, .ref (a 2)), (4, .ref (b 2))] := lv_sub hl [0, 1, 2, 3, 4, 5] rfl
  have hP : va_P D vwCl (List.flatten [wS cI b (a 0) (a 2) (a 1) N rw nm bf fe, wT cI (b 1) (N + 1) (nF (o1F kk 0)), wA cI cZ a c fr tt sa tk]) _ := hP
  have hD : va_D A (List.flatten [wS cI b (a 0) (a 2) (a 1) N rw nm bf fe, wT cI (b 1) (N + 1) (nF (o1F kk 0)), wA cI cZ a c fr tt sa tk]) := hD
  exact loop_11 (n + 1) 0 (by omega) (by omega) _ _ hP hD hS _ hl

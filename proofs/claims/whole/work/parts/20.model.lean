set_option maxHeartbeats 8000000 in
set_option maxRecDepth 100000 in
theorem k5_thrown (l : Launch) (D : va_G) (cI cZ cL : ClassId) (q : Nat → Nat) (th : Nat) (N : Nat) (c : Nat) (fr : Nat → Int32) (tt : Nat → Int32) (sa : Nat → Int32) (tk : Nat → Int32) (tn : Nat) (tr : Nat → Int32) (op : Nat → Int32) (sl : Nat → Int32) (nd : Nat → Int32) (oi : Nat → Int32) (il : Nat → Int32) (tl : Nat → Int32) (go : Nat → Int32) (gt : Nat → Int32) (fa : Nat → Int32) (mn : Nat → Int64) (nx : Nat → Int64) : McI l D (tY cI cZ cL) yX5_thrown wsX5_thrown 0 0 [.ref (q 0)] ([wM cI cZ cL q th N c fr tt sa tk tn tr op sl nd oi il tl go gt fa mn nx]) (fun r (_ : Unit) => r = nI th) (fun (_ : Unit) => [wM cI cZ cL q th N c fr tt sa tk tn tr op sl nd oi il tl go gt fa mn nx]) := by
  refine q_ofW (Qc := fun A => (va_Qi (fun r (_ : Unit) => r = nI th) (fun u t => mAt D (tY cI cZ cL) A ((fun (_ : Unit) => [wM cI cZ cL q th N c fr tt sa tk tn tr op sl nd oi il tl go gt fa mn nx]) u) t) A)) (cc := cX5_thrown) (maxL := 1) (ret := (some .int)) (by decide) rfl (Nat.le_of_ble_eq_true rfl) ?_
  intro pz ez sz mz bz tz cz hx hb hml hr hlocks hts hown hK hP A hD hA ls hl
  have hS : va_S A sz.heap sz.heap [] := va_S.rf
  have hl : lv_has ls 1 [(0, .ref (q 0))] := hl
  refine lv_aload_n hx hb dX5_thrown_0 rfl (lv_at hl 0 rfl) ?_
  refine q_get (D := D) (ci := 5) (v := .int (nI th)) (C := RX5) (T := TX5) (N := 20) hx hb hts (by decide +kernel) hown hK hP 0 0 rfl rfl rfl 0 (by decide) (hts (.fieldLink RX5 1 "OffsetRowsModel" "thrown" "I") (by decide +kernel)) (fun _ h9 => h9) rfl dX5_thrown_1 ?_
  exact q_iret (()) hx hb hr hlocks hK hP hD hS (rfl) (rfl) dX5_thrown_4

set_option maxHeartbeats 8000000 in
set_option maxRecDepth 100000 in
theorem k5_isNode (l : Launch) (D : va_G) (cI cZ cL : ClassId) (q : Nat → Nat) (th : Nat) (N : Nat) (c : Nat) (fr : Nat → Int32) (tt : Nat → Int32) (sa : Nat → Int32) (tk : Nat → Int32) (tn : Nat) (tr : Nat → Int32) (op : Nat → Int32) (sl : Nat → Int32) (nd : Nat → Int32) (oi : Nat → Int32) (il : Nat → Int32) (tl : Nat → Int32) (go : Nat → Int32) (gt : Nat → Int32) (fa : Nat → Int32) (mn : Nat → Int64) (nx : Nat → Int64) (x : Int32) : McI l D (tY cI cZ cL) yX5_isNode wsX5_isNode 0 0 [.ref (q 0), .int x] ([wM cI cZ cL q th N c fr tt sa tk tn tr op sl nd oi il tl go gt fa mn nx]) (fun r (_ : Unit) => r = bI (hasB N x)) (fun (_ : Unit) => [wM cI cZ cL q th N c fr tt sa tk tn tr op sl nd oi il tl go gt fa mn nx]) := by
  refine q_ofW (Qc := fun A => (va_Qi (fun r (_ : Unit) => r = bI (hasB N x)) (fun u t => mAt D (tY cI cZ cL) A ((fun (_ : Unit) => [wM cI cZ cL q th N c fr tt sa tk tn tr op sl nd oi il tl go gt fa mn nx]) u) t) A)) (cc := cX5_isNode) (maxL := 2) (ret := (some .boolean)) (by decide) rfl (Nat.le_of_ble_eq_true rfl) ?_
  intro pz ez sz mz bz tz cz hx hb hml hr hlocks hts hown hK hP A hD hA ls hl
  have hS : va_S A sz.heap sz.heap [] := va_S.rf
  have hl : lv_has ls 2 [(0, .ref (q 0)), (1, .int x)] := hl
  refine lv_iload_n hx hb dX5_isNode_0 rfl (lv_at hl 1 rfl) ?_
  refine lv_if_lt (tgt := 16) hx hb dX5_isNode_1 (by decide) (fun c_1 => ?_) (fun c_1 => ?_)
  ·
    refine lv_iconst (v := (0 : Int32)) hx hb dX5_isNode_16 (by decide) ?_
    exact q_zret (()) hx hb hr rfl hlocks hK hP hD hS (by simp [hasB, bI, c_1]) (rfl) dX5_isNode_17
  ·
    refine lv_iload_n hx hb dX5_isNode_4 rfl (lv_at hl 1 rfl) ?_
    refine lv_aload_n hx hb dX5_isNode_5 rfl (lv_at hl 0 rfl) ?_
    refine q_get (D := D) (ci := 5) (v := .int (nI N)) (C := RX5) (T := TX5) (N := 20) hx hb hts (by decide +kernel) hown hK hP 0 0 rfl rfl rfl 1 (by decide) (hts (.fieldLink RX5 64 "OffsetRowsModel" "nodes" "I") (by decide +kernel)) (fun _ h9 => h9) rfl dX5_isNode_6 ?_
    refine lv_icmp_ge (tgt := 16) hx hb dX5_isNode_9 (by decide) (fun c_9 => ?_) (fun c_9 => ?_)
    ·
      refine lv_iconst (v := (0 : Int32)) hx hb dX5_isNode_16 (by decide) ?_
      exact q_zret (()) hx hb hr rfl hlocks hK hP hD hS (by simp [hasB, bI, c_1, c_9]) (rfl) dX5_isNode_17
    ·
      refine lv_iconst (v := (1 : Int32)) hx hb dX5_isNode_12 (by decide) ?_
      refine lv_goto (tgt := 17) hx hb dX5_isNode_13 (by decide) ?_
      exact q_zret (()) hx hb hr rfl hlocks hK hP hD hS (by simp [hasB, bI, c_1, c_9]) (rfl) dX5_isNode_17

set_option maxHeartbeats 8000000 in
set_option maxRecDepth 100000 in
theorem k5_isArc (l : Launch) (D : va_G) (cI cZ cL : ClassId) (q : Nat → Nat) (th : Nat) (N : Nat) (c : Nat) (fr : Nat → Int32) (tt : Nat → Int32) (sa : Nat → Int32) (tk : Nat → Int32) (tn : Nat) (tr : Nat → Int32) (op : Nat → Int32) (sl : Nat → Int32) (nd : Nat → Int32) (oi : Nat → Int32) (il : Nat → Int32) (tl : Nat → Int32) (go : Nat → Int32) (gt : Nat → Int32) (fa : Nat → Int32) (mn : Nat → Int64) (nx : Nat → Int64) (x : Int32) : McI l D (tY cI cZ cL) yX5_isArc wsX5_isArc 0 0 [.ref (q 0), .int x] ([wM cI cZ cL q th N c fr tt sa tk tn tr op sl nd oi il tl go gt fa mn nx]) (fun r (_ : Unit) => r = bI (hasB c x)) (fun (_ : Unit) => [wM cI cZ cL q th N c fr tt sa tk tn tr op sl nd oi il tl go gt fa mn nx]) := by
  refine q_ofW (Qc := fun A => (va_Qi (fun r (_ : Unit) => r = bI (hasB c x)) (fun u t => mAt D (tY cI cZ cL) A ((fun (_ : Unit) => [wM cI cZ cL q th N c fr tt sa tk tn tr op sl nd oi il tl go gt fa mn nx]) u) t) A)) (cc := cX5_isArc) (maxL := 2) (ret := (some .boolean)) (by decide) rfl (Nat.le_of_ble_eq_true rfl) ?_
  intro pz ez sz mz bz tz cz hx hb hml hr hlocks hts hown hK hP A hD hA ls hl
  have hS : va_S A sz.heap sz.heap [] := va_S.rf
  have hl : lv_has ls 2 [(0, .ref (q 0)), (1, .int x)] := hl
  refine lv_iload_n hx hb dX5_isArc_0 rfl (lv_at hl 1 rfl) ?_
  refine lv_if_lt (tgt := 16) hx hb dX5_isArc_1 (by decide) (fun c_1 => ?_) (fun c_1 => ?_)
  ·
    refine lv_iconst (v := (0 : Int32)) hx hb dX5_isArc_16 (by decide) ?_
    exact q_zret (()) hx hb hr rfl hlocks hK hP hD hS (by simp [hasB, bI, c_1]) (rfl) dX5_isArc_17
  ·
    refine lv_iload_n hx hb dX5_isArc_4 rfl (lv_at hl 1 rfl) ?_
    refine lv_aload_n hx hb dX5_isArc_5 rfl (lv_at hl 0 rfl) ?_
    refine q_get (D := D) (ci := 5) (v := .int (nI c)) (C := RX5) (T := TX5) (N := 20) hx hb hts (by decide +kernel) hown hK hP 0 0 rfl rfl rfl 2 (by decide) (hts (.fieldLink RX5 67 "OffsetRowsModel" "arcs" "I") (by decide +kernel)) (fun _ h9 => h9) rfl dX5_isArc_6 ?_
    refine lv_icmp_ge (tgt := 16) hx hb dX5_isArc_9 (by decide) (fun c_9 => ?_) (fun c_9 => ?_)
    ·
      refine lv_iconst (v := (0 : Int32)) hx hb dX5_isArc_16 (by decide) ?_
      exact q_zret (()) hx hb hr rfl hlocks hK hP hD hS (by simp [hasB, bI, c_1, c_9]) (rfl) dX5_isArc_17
    ·
      refine lv_iconst (v := (1 : Int32)) hx hb dX5_isArc_12 (by decide) ?_
      refine lv_goto (tgt := 17) hx hb dX5_isArc_13 (by decide) ?_
      exact q_zret (()) hx hb hr rfl hlocks hK hP hD hS (by simp [hasB, bI, c_1, c_9]) (rfl) dX5_isArc_17

set_option maxHeartbeats 8000000 in
set_option maxRecDepth 100000 in
theorem k5_arc (l : Launch) (D : va_G) (cI cZ cL : ClassId) (q : Nat → Nat) (th : Nat) (N : Nat) (c : Nat) (fr : Nat → Int32) (tt : Nat → Int32) (sa : Nat → Int32) (tk : Nat → Int32) (tn : Nat) (tr : Nat → Int32) (op : Nat → Int32) (sl : Nat → Int32) (nd : Nat → Int32) (oi : Nat → Int32) (il : Nat → Int32) (tl : Nat → Int32) (go : Nat → Int32) (gt : Nat → Int32) (fa : Nat → Int32) (mn : Nat → Int64) (nx : Nat → Int64) (x : Int32) (y : Int32) (hc : c ≤ 160) : McI l D (tY cI cZ cL) yX5_arc wsX5_arc 1 21 [.ref (q 0), .int x, .int y] ([wM cI cZ cL q th N c fr tt sa tk tn tr op sl nd oi il tl go gt fa mn nx]) (fun r (_ : Unit) => r = arR N c x y) (fun (_ : Unit) => [wM cI cZ cL q 0 N (arC N c x y) (arF N c x y fr x) (arF N c x y tt y) (arF N c x y sa 0) (arF N c x y tk 0) tn tr op sl nd oi il tl go gt fa mn nx]) := by
  refine q_ofW (Qc := fun A => (va_Qi (fun r (_ : Unit) => r = arR N c x y) (fun u t => mAt D (tY cI cZ cL) A ((fun (_ : Unit) => [wM cI cZ cL q 0 N (arC N c x y) (arF N c x y fr x) (arF N c x y tt y) (arF N c x y sa 0) (arF N c x y tk 0) tn tr op sl nd oi il tl go gt fa mn nx]) u) t) A)) (cc := cX5_arc) (maxL := 3) (ret := (some .int)) (by decide) rfl (Nat.le_of_ble_eq_true rfl) ?_
  intro pz ez sz mz bz tz cz hx hb hml hr hlocks hts hown hK hP A hD hA ls hl
  have hS : va_S A sz.heap sz.heap [] := va_S.rf
  have hl : lv_has ls 3 [(0, .ref (q 0)), (1, .int x), (2, .int y)] := hl
  refine lv_aload_n hx hb dX5_arc_0 rfl (lv_at hl 0 rfl) ?_
  refine lv_iconst (v := (0 : Int32)) hx hb dX5_arc_1 (by decide) ?_
  refine q_put (D := D) (ci := 5) (v := .int (nI 0)) (ty := .int) (C := RX5) (T := TX5) (N := 20) hx hb hts (by decide +kernel) tyX5 tyX5_ok nmX5 hown hK hP hD hS 0 0 rfl rfl rfl 0 (by decide) (hts (.fieldLink RX5 1 "OffsetRowsModel" "thrown" "I") (by decide +kernel)) (fun _ h9 => h9) rfl (by decide +kernel) rfl rfl (Nat.le_of_ble_eq_true rfl) dX5_arc_2 (wM_s_th (g9 := 0)) (Fs' := [wM cI cZ cL q 0 N c fr tt sa tk tn tr op sl nd oi il tl go gt fa mn nx]) rfl (fun H locs hP hD hS => ?_)
  refine lv_aload_n hx hb dX5_arc_5 rfl (lv_at hl 0 rfl) ?_
  refine lv_iload_n hx hb dX5_arc_6 rfl (lv_at hl 1 rfl) ?_
  refine q_callVi (index := 70) (n := 1) (As := [.int x]) (rest := []) (js := [0]) (ci := 5) ⟨hx, hb, hml, hown, hts⟩ hK hP hD hS hA (k5_isNode l D cI cZ cL q 0 N c fr tt sa tk tn tr op sl nd oi il tl go gt fa mn nx x) rfl (by decide) (fun _ => by simp only [List.map_cons, List.map_nil, wM_fst]) (fun (_ : Unit) => [wM cI cZ cL q 0 N c fr tt sa tk tn tr op sl nd oi il tl go gt fa mn nx]) (fun _ => rfl) gX5_arc_X5_isNode rfl (by decide +kernel) rfl ⟨by decide, by decide⟩ rfl rfl rfl rfl hl.1 (Nat.le_of_ble_eq_true rfl) ⟨(Nat.zero_le _), (Nat.zero_le _)⟩ dX5_arc_7 rfl (fun r _ H locs hw hP hD hS => ?_)
  have hw : r = bI (hasB N x) := hw
  subst hw
  refine lv_if_eq (tgt := 21) hx hb dX5_arc_10 (by decide) (fun c_10 => ?_) (fun c_10 => ?_)
  ·
    have n_10 : (hasB N x) = false := bI_0.mp c_10
    refine lv_bipush (v := (-2)) hx hb dX5_arc_21 (by decide) ?_
    exact q_iret (()) hx hb hr hlocks hK hP hD hS (by simp [arR, arB, arC, arF, apR, apC, apF, n_10]) (by simp [arR, arB, arC, arF, apR, apC, apF, n_10]) dX5_arc_23
  ·
    have n_10 : (hasB N x) = true := bI_n.mp c_10
    refine lv_aload_n hx hb dX5_arc_13 rfl (lv_at hl 0 rfl) ?_
    refine lv_iload_n hx hb dX5_arc_14 rfl (lv_at hl 2 rfl) ?_
    refine q_callVi (index := 70) (n := 1) (As := [.int y]) (rest := []) (js := [0]) (ci := 5) ⟨hx, hb, hml, hown, hts⟩ hK hP hD hS hA (k5_isNode l D cI cZ cL q 0 N c fr tt sa tk tn tr op sl nd oi il tl go gt fa mn nx y) rfl (by decide) (fun _ => by simp only [List.map_cons, List.map_nil, wM_fst]) (fun (_ : Unit) => [wM cI cZ cL q 0 N c fr tt sa tk tn tr op sl nd oi il tl go gt fa mn nx]) (fun _ => rfl) gX5_arc_X5_isNode rfl (by decide +kernel) rfl ⟨by decide, by decide⟩ rfl rfl rfl rfl hl.1 (Nat.le_of_ble_eq_true rfl) ⟨(Nat.zero_le _), (Nat.zero_le _)⟩ dX5_arc_15 rfl (fun r _ H locs hw hP hD hS => ?_)
    have hw : r = bI (hasB N y) := hw
    subst hw
    refine lv_if_ne (tgt := 24) hx hb dX5_arc_18 (by decide) (fun c_18 => ?_) (fun c_18 => ?_)
    ·
      have n_18 : (hasB N y) = true := bI_n.mp c_18
      refine lv_aload_n hx hb dX5_arc_24 rfl (lv_at hl 0 rfl) ?_
      refine q_get (D := D) (ci := 5) (v := .int (nI c)) (C := RX5) (T := TX5) (N := 20) hx hb hts (by decide +kernel) hown hK hP 0 0 rfl rfl rfl 2 (by decide) (hts (.fieldLink RX5 67 "OffsetRowsModel" "arcs" "I") (by decide +kernel)) (fun _ h9 => h9) rfl dX5_arc_25 ?_
      refine lv_sipush (v := (160 : Int32)) hx hb dX5_arc_28 (by decide) ?_
      refine lv_icmp_ne (tgt := 37) hx hb dX5_arc_31 (by decide) (fun c_31 => ?_) (fun c_31 => ?_)
      ·
        have n_31 : ¬ c = 160 := fun h9 => c_31 ((nI_eq (a := c) (b := 160) (by omega) (by omega)).mpr h9)
        have h160 : c < 160 := by omega
        refine lv_aload_n hx hb dX5_arc_37 rfl (lv_at hl 0 rfl) ?_
        refine q_get (D := D) (ci := 5) (v := .ref (q 1)) (C := RX5) (T := TX5) (N := 20) hx hb hts (by decide +kernel) hown hK hP 0 0 rfl rfl rfl 3 (by decide) (hts (.fieldLink RX5 13 "OffsetRowsModel" "from" "[I") (by decide +kernel)) (fun _ h9 => h9) rfl dX5_arc_38 ?_
        refine lv_aload_n hx hb dX5_arc_41 rfl (lv_at hl 0 rfl) ?_
        refine q_get (D := D) (ci := 5) (v := .int (nI c)) (C := RX5) (T := TX5) (N := 20) hx hb hts (by decide +kernel) hown hK hP 0 0 rfl rfl rfl 2 (by decide) (hts (.fieldLink RX5 67 "OffsetRowsModel" "arcs" "I") (by decide +kernel)) (fun _ h9 => h9) rfl dX5_arc_42 ?_
        refine lv_iload_n hx hb dX5_arc_45 rfl (lv_at hl 1 rfl) ?_
        refine q_iast hx hb hK hP hD hS 0 1 0 rfl (f := fr) rfl rfl (k := c) (nI_clamp (n := c) (by omega)) (vp_in_nI (show c < 160 from by omega) (by omega)) dX5_arc_46 wM_s_fr (Fs' := [wM cI cZ cL q 0 N c (upd fr c x) tt sa tk tn tr op sl nd oi il tl go gt fa mn nx]) rfl (fun H locs hP hD hS => ?_)
        refine lv_aload_n hx hb dX5_arc_47 rfl (lv_at hl 0 rfl) ?_
        refine q_get (D := D) (ci := 5) (v := .ref (q 2)) (C := RX5) (T := TX5) (N := 20) hx hb hts (by decide +kernel) hown hK hP 0 0 rfl rfl rfl 4 (by decide) (hts (.fieldLink RX5 17 "OffsetRowsModel" "to" "[I") (by decide +kernel)) (fun _ h9 => h9) rfl dX5_arc_48 ?_
        refine lv_aload_n hx hb dX5_arc_51 rfl (lv_at hl 0 rfl) ?_
        refine q_get (D := D) (ci := 5) (v := .int (nI c)) (C := RX5) (T := TX5) (N := 20) hx hb hts (by decide +kernel) hown hK hP 0 0 rfl rfl rfl 2 (by decide) (hts (.fieldLink RX5 67 "OffsetRowsModel" "arcs" "I") (by decide +kernel)) (fun _ h9 => h9) rfl dX5_arc_52 ?_
        refine lv_iload_n hx hb dX5_arc_55 rfl (lv_at hl 2 rfl) ?_
        refine q_iast hx hb hK hP hD hS 0 2 0 rfl (f := tt) rfl rfl (k := c) (nI_clamp (n := c) (by omega)) (vp_in_nI (show c < 160 from by omega) (by omega)) dX5_arc_56 wM_s_tt (Fs' := [wM cI cZ cL q 0 N c (upd fr c x) (upd tt c y) sa tk tn tr op sl nd oi il tl go gt fa mn nx]) rfl (fun H locs hP hD hS => ?_)
        refine lv_aload_n hx hb dX5_arc_57 rfl (lv_at hl 0 rfl) ?_
        refine q_get (D := D) (ci := 5) (v := .ref (q 3)) (C := RX5) (T := TX5) (N := 20) hx hb hts (by decide +kernel) hown hK hP 0 0 rfl rfl rfl 5 (by decide) (hts (.fieldLink RX5 20 "OffsetRowsModel" "state" "[I") (by decide +kernel)) (fun _ h9 => h9) rfl dX5_arc_58 ?_
        refine lv_aload_n hx hb dX5_arc_61 rfl (lv_at hl 0 rfl) ?_
        refine q_get (D := D) (ci := 5) (v := .int (nI c)) (C := RX5) (T := TX5) (N := 20) hx hb hts (by decide +kernel) hown hK hP 0 0 rfl rfl rfl 2 (by decide) (hts (.fieldLink RX5 67 "OffsetRowsModel" "arcs" "I") (by decide +kernel)) (fun _ h9 => h9) rfl dX5_arc_62 ?_
        refine lv_iconst (v := (0 : Int32)) hx hb dX5_arc_65 (by decide) ?_
        refine q_iast hx hb hK hP hD hS 0 3 0 rfl (f := sa) rfl rfl (k := c) (nI_clamp (n := c) (by omega)) (vp_in_nI (show c < 160 from by omega) (by omega)) dX5_arc_66 wM_s_sa (Fs' := [wM cI cZ cL q 0 N c (upd fr c x) (upd tt c y) (upd sa c (0 : Int32)) tk tn tr op sl nd oi il tl go gt fa mn nx]) rfl (fun H locs hP hD hS => ?_)
        refine lv_aload_n hx hb dX5_arc_67 rfl (lv_at hl 0 rfl) ?_
        refine q_get (D := D) (ci := 5) (v := .ref (q 4)) (C := RX5) (T := TX5) (N := 20) hx hb hts (by decide +kernel) hown hK hP 0 0 rfl rfl rfl 6 (by decide) (hts (.fieldLink RX5 23 "OffsetRowsModel" "isTaken" "[Z") (by decide +kernel)) (fun _ h9 => h9) rfl dX5_arc_68 ?_
        refine lv_aload_n hx hb dX5_arc_71 rfl (lv_at hl 0 rfl) ?_
        refine q_get (D := D) (ci := 5) (v := .int (nI c)) (C := RX5) (T := TX5) (N := 20) hx hb hts (by decide +kernel) hown hK hP 0 0 rfl rfl rfl 2 (by decide) (hts (.fieldLink RX5 67 "OffsetRowsModel" "arcs" "I") (by decide +kernel)) (fun _ h9 => h9) rfl dX5_arc_72 ?_
        refine lv_iconst (v := (0 : Int32)) hx hb dX5_arc_75 (by decide) ?_
        refine q_zast hx hb hK hP hD hS 0 4 1 rfl (f := tk) rfl rfl (k := c) (nI_clamp (n := c) (by omega)) (vp_in_nI (show c < 160 from by omega) (by omega)) rfl dX5_arc_76 wM_s_tk (Fs' := [wM cI cZ cL q 0 N c (upd fr c x) (upd tt c y) (upd sa c (0 : Int32)) (upd tk c (0 : Int32)) tn tr op sl nd oi il tl go gt fa mn nx]) rfl (fun H locs hP hD hS => ?_)
        refine lv_aload_n hx hb dX5_arc_77 rfl (lv_at hl 0 rfl) ?_
        refine lv_dup hx hb dX5_arc_78 rfl ?_
        refine q_get (D := D) (ci := 5) (v := .int (nI c)) (C := RX5) (T := TX5) (N := 20) hx hb hts (by decide +kernel) hown hK hP 0 0 rfl rfl rfl 2 (by decide) (hts (.fieldLink RX5 67 "OffsetRowsModel" "arcs" "I") (by decide +kernel)) (fun _ h9 => h9) rfl dX5_arc_79 ?_
        refine lv_iconst (v := (1 : Int32)) hx hb dX5_arc_82 (by decide) ?_
        refine q_iadd (z := nI (c + 1)) hx hb dX5_arc_83 (nI_add c 1) ?_
        refine q_put (D := D) (ci := 5) (v := .int (nI (c + 1))) (ty := .int) (C := RX5) (T := TX5) (N := 20) hx hb hts (by decide +kernel) tyX5 tyX5_ok nmX5 hown hK hP hD hS 0 0 rfl rfl rfl 2 (by decide) (hts (.fieldLink RX5 67 "OffsetRowsModel" "arcs" "I") (by decide +kernel)) (fun _ h9 => h9) rfl (by decide +kernel) rfl rfl (Nat.le_of_ble_eq_true rfl) dX5_arc_84 (wM_s_c (g9 := c + 1)) (Fs' := [wM cI cZ cL q 0 N (c + 1) (upd fr c x) (upd tt c y) (upd sa c (0 : Int32)) (upd tk c (0 : Int32)) tn tr op sl nd oi il tl go gt fa mn nx]) rfl (fun H locs hP hD hS => ?_)
        refine lv_aload_n hx hb dX5_arc_87 rfl (lv_at hl 0 rfl) ?_
        refine q_get (D := D) (ci := 5) (v := .int (nI (c + 1))) (C := RX5) (T := TX5) (N := 20) hx hb hts (by decide +kernel) hown hK hP 0 0 rfl rfl rfl 2 (by decide) (hts (.fieldLink RX5 67 "OffsetRowsModel" "arcs" "I") (by decide +kernel)) (fun _ h9 => h9) rfl dX5_arc_88 ?_
        refine lv_iconst (v := (1 : Int32)) hx hb dX5_arc_91 (by decide) ?_
        refine q_isub (z := nI ((c + 1) - 1)) hx hb dX5_arc_92 (pk_sub (a := c + 1) (b := 1) (by omega)) ?_
        exact q_iret (()) hx hb hr hlocks hK hP hD hS (by simp [arR, arB, arC, arF, apR, apC, apF, n_10, n_18, c_31, n_31, h160]) (by simp [arR, arB, arC, arF, apR, apC, apF, n_10, n_18, c_31, n_31, h160]) dX5_arc_93
      ·
        have n_31 : c = 160 := (nI_eq (a := c) (b := 160) (by omega) (by omega)).mp c_31
        have h160 : ¬ c < 160 := by omega
        refine lv_bipush (v := (-6)) hx hb dX5_arc_34 (by decide) ?_
        exact q_iret (()) hx hb hr hlocks hK hP hD hS (by simp [arR, arB, arC, arF, apR, apC, apF, n_10, n_18, c_31, n_31, h160]) (by simp [arR, arB, arC, arF, apR, apC, apF, n_10, n_18, c_31, n_31, h160]) dX5_arc_36
    ·
      have n_18 : (hasB N y) = false := bI_0.mp c_18
      refine lv_bipush (v := (-2)) hx hb dX5_arc_21 (by decide) ?_
      exact q_iret (()) hx hb hr hlocks hK hP hD hS (by simp [arR, arB, arC, arF, apR, apC, apF, n_10, n_18]) (by simp [arR, arB, arC, arF, apR, apC, apF, n_10, n_18]) dX5_arc_23

set_option maxHeartbeats 8000000 in
set_option maxRecDepth 100000 in
theorem k5_take (l : Launch) (D : va_G) (cI cZ cL : ClassId) (q : Nat → Nat) (th : Nat) (N : Nat) (c : Nat) (fr : Nat → Int32) (tt : Nat → Int32) (sa : Nat → Int32) (tk : Nat → Int32) (tn : Nat) (tr : Nat → Int32) (op : Nat → Int32) (sl : Nat → Int32) (nd : Nat → Int32) (oi : Nat → Int32) (il : Nat → Int32) (tl : Nat → Int32) (go : Nat → Int32) (gt : Nat → Int32) (fa : Nat → Int32) (mn : Nat → Int64) (nx : Nat → Int64) (x : Int32) (hc : c ≤ 160) : McI l D (tY cI cZ cL) yX5_take wsX5_take 1 21 [.ref (q 0), .int x] ([wM cI cZ cL q th N c fr tt sa tk tn tr op sl nd oi il tl go gt fa mn nx]) (fun r (_ : Unit) => r = mtR c sa tk x 1) (fun (_ : Unit) => [wM cI cZ cL q 0 N c fr tt sa (mtF c sa tk x 1) tn tr op sl nd oi il tl go gt fa mn nx]) := by
  refine q_ofW (Qc := fun A => (va_Qi (fun r (_ : Unit) => r = mtR c sa tk x 1) (fun u t => mAt D (tY cI cZ cL) A ((fun (_ : Unit) => [wM cI cZ cL q 0 N c fr tt sa (mtF c sa tk x 1) tn tr op sl nd oi il tl go gt fa mn nx]) u) t) A)) (cc := cX5_take) (maxL := 3) (ret := (some .int)) (by decide) rfl (Nat.le_of_ble_eq_true rfl) ?_
  intro pz ez sz mz bz tz cz hx hb hml hr hlocks hts hown hK hP A hD hA ls hl
  have hS : va_S A sz.heap sz.heap [] := va_S.rf
  have hl : lv_has ls 3 [(0, .ref (q 0)), (1, .int x)] := hl
  refine lv_aload_n hx hb dX5_take_0 rfl (lv_at hl 0 rfl) ?_
  refine lv_iconst (v := (0 : Int32)) hx hb dX5_take_1 (by decide) ?_
  refine q_put (D := D) (ci := 5) (v := .int (nI 0)) (ty := .int) (C := RX5) (T := TX5) (N := 20) hx hb hts (by decide +kernel) tyX5 tyX5_ok nmX5 hown hK hP hD hS 0 0 rfl rfl rfl 0 (by decide) (hts (.fieldLink RX5 1 "OffsetRowsModel" "thrown" "I") (by decide +kernel)) (fun _ h9 => h9) rfl (by decide +kernel) rfl rfl (Nat.le_of_ble_eq_true rfl) dX5_take_2 (wM_s_th (g9 := 0)) (Fs' := [wM cI cZ cL q 0 N c fr tt sa tk tn tr op sl nd oi il tl go gt fa mn nx]) rfl (fun H locs hP hD hS => ?_)
  refine lv_aload_n hx hb dX5_take_5 rfl (lv_at hl 0 rfl) ?_
  refine lv_iload_n hx hb dX5_take_6 rfl (lv_at hl 1 rfl) ?_
  refine q_callVi (index := 74) (n := 1) (As := [.int x]) (rest := []) (js := [0]) (ci := 5) ⟨hx, hb, hml, hown, hts⟩ hK hP hD hS hA (k5_isArc l D cI cZ cL q 0 N c fr tt sa tk tn tr op sl nd oi il tl go gt fa mn nx x) rfl (by decide) (fun _ => by simp only [List.map_cons, List.map_nil, wM_fst]) (fun (_ : Unit) => [wM cI cZ cL q 0 N c fr tt sa tk tn tr op sl nd oi il tl go gt fa mn nx]) (fun _ => rfl) gX5_take_X5_isArc rfl (by decide +kernel) rfl ⟨by decide, by decide⟩ rfl rfl rfl rfl hl.1 (Nat.le_of_ble_eq_true rfl) ⟨(Nat.zero_le _), (Nat.zero_le _)⟩ dX5_take_7 rfl (fun r _ H locs hw hP hD hS => ?_)
  have hw : r = bI (hasB c x) := hw
  subst hw
  refine lv_if_ne (tgt := 16) hx hb dX5_take_10 (by decide) (fun c_10 => ?_) (fun c_10 => ?_)
  ·
    have n_10 : (hasB c x) = true := bI_n.mp c_10
    refine lv_aload_n hx hb dX5_take_16 rfl (lv_at hl 0 rfl) ?_
    refine q_get (D := D) (ci := 5) (v := .ref (q 3)) (C := RX5) (T := TX5) (N := 20) hx hb hts (by decide +kernel) hown hK hP 0 0 rfl rfl rfl 5 (by decide) (hts (.fieldLink RX5 20 "OffsetRowsModel" "state" "[I") (by decide +kernel)) (fun _ h9 => h9) rfl dX5_take_17 ?_
    refine lv_iload_n hx hb dX5_take_20 rfl (lv_at hl 1 rfl) ?_
    refine q_iald hx hb hK hP 0 3 0 rfl (f := sa) rfl rfl (k := x.toNatClampNeg) rfl (hasB_in n_10 hc (by decide)) dX5_take_21 ?_
    refine lv_iconst (v := (2 : Int32)) hx hb dX5_take_22 (by decide) ?_
    refine lv_icmp_ne (tgt := 29) hx hb dX5_take_23 (by decide) (fun c_23 => ?_) (fun c_23 => ?_)
    ·
      refine lv_aload_n hx hb dX5_take_29 rfl (lv_at hl 0 rfl) ?_
      refine q_get (D := D) (ci := 5) (v := .ref (q 4)) (C := RX5) (T := TX5) (N := 20) hx hb hts (by decide +kernel) hown hK hP 0 0 rfl rfl rfl 6 (by decide) (hts (.fieldLink RX5 23 "OffsetRowsModel" "isTaken" "[Z") (by decide +kernel)) (fun _ h9 => h9) rfl dX5_take_30 ?_
      refine lv_iload_n hx hb dX5_take_33 rfl (lv_at hl 1 rfl) ?_
      refine q_zald hx hb hK hP 0 4 1 rfl (f := tk) rfl rfl (k := x.toNatClampNeg) rfl (hasB_in n_10 hc (by decide)) dX5_take_34 ?_
      refine lv_if_eq (tgt := 42) hx hb dX5_take_35 (by decide) (fun c_35 => ?_) (fun c_35 => ?_)
      ·
        refine lv_iconst (v := (1 : Int32)) hx hb dX5_take_42 (by decide) ?_
        refine lv_istore_n (lv' := [(2, .int (1 : Int32)), (0, .ref (q 0)), (1, .int x)]) hx hb dX5_take_43 rfl hl (by decide) rfl (fun ls hl => ?_)
        refine lv_aload_n hx hb dX5_take_44 rfl (lv_at hl 1 rfl) ?_
        refine q_get (D := D) (ci := 5) (v := .ref (q 4)) (C := RX5) (T := TX5) (N := 20) hx hb hts (by decide +kernel) hown hK hP 0 0 rfl rfl rfl 6 (by decide) (hts (.fieldLink RX5 23 "OffsetRowsModel" "isTaken" "[Z") (by decide +kernel)) (fun _ h9 => h9) rfl dX5_take_45 ?_
        refine lv_iload_n hx hb dX5_take_48 rfl (lv_at hl 2 rfl) ?_
        refine lv_iconst (v := (1 : Int32)) hx hb dX5_take_49 (by decide) ?_
        refine q_zast hx hb hK hP hD hS 0 4 1 rfl (f := tk) rfl rfl (k := x.toNatClampNeg) rfl (hasB_in n_10 hc (by decide)) rfl dX5_take_50 wM_s_tk (Fs' := [wM cI cZ cL q 0 N c fr tt sa (upd tk x.toNatClampNeg (1 : Int32)) tn tr op sl nd oi il tl go gt fa mn nx]) rfl (fun H locs hP hD hS => ?_)
        refine lv_iload_n hx hb dX5_take_51 rfl (lv_at hl 0 rfl) ?_
        exact q_iret (()) hx hb hr hlocks hK hP hD hS (by simp [mtR, mtF, n_10, c_23, c_35]) (by simp [mtR, mtF, n_10, c_23, c_35]) dX5_take_52
      ·
        refine lv_iconst (v := (0 : Int32)) hx hb dX5_take_38 (by decide) ?_
        refine lv_goto (tgt := 43) hx hb dX5_take_39 (by decide) ?_
        refine lv_istore_n (lv' := [(2, .int (0 : Int32)), (0, .ref (q 0)), (1, .int x)]) hx hb dX5_take_43 rfl hl (by decide) rfl (fun ls hl => ?_)
        refine lv_aload_n hx hb dX5_take_44 rfl (lv_at hl 1 rfl) ?_
        refine q_get (D := D) (ci := 5) (v := .ref (q 4)) (C := RX5) (T := TX5) (N := 20) hx hb hts (by decide +kernel) hown hK hP 0 0 rfl rfl rfl 6 (by decide) (hts (.fieldLink RX5 23 "OffsetRowsModel" "isTaken" "[Z") (by decide +kernel)) (fun _ h9 => h9) rfl dX5_take_45 ?_
        refine lv_iload_n hx hb dX5_take_48 rfl (lv_at hl 2 rfl) ?_
        refine lv_iconst (v := (1 : Int32)) hx hb dX5_take_49 (by decide) ?_
        refine q_zast hx hb hK hP hD hS 0 4 1 rfl (f := tk) rfl rfl (k := x.toNatClampNeg) rfl (hasB_in n_10 hc (by decide)) rfl dX5_take_50 wM_s_tk (Fs' := [wM cI cZ cL q 0 N c fr tt sa (upd tk x.toNatClampNeg (1 : Int32)) tn tr op sl nd oi il tl go gt fa mn nx]) rfl (fun H locs hP hD hS => ?_)
        refine lv_iload_n hx hb dX5_take_51 rfl (lv_at hl 0 rfl) ?_
        exact q_iret (()) hx hb hr hlocks hK hP hD hS (by simp [mtR, mtF, n_10, c_23, c_35]) (by simp [mtR, mtF, n_10, c_23, c_35]) dX5_take_52
    ·
      refine lv_bipush (v := (-5)) hx hb dX5_take_26 (by decide) ?_
      exact q_iret (()) hx hb hr hlocks hK hP hD hS (by simp [mtR, mtF, n_10, c_23]) (by simp [mtR, mtF, n_10, c_23]) dX5_take_28
  ·
    have n_10 : (hasB c x) = false := bI_0.mp c_10
    refine lv_bipush (v := (-2)) hx hb dX5_take_13 (by decide) ?_
    exact q_iret (()) hx hb hr hlocks hK hP hD hS (by simp [mtR, mtF, n_10]) (by simp [mtR, mtF, n_10]) dX5_take_15

set_option maxHeartbeats 8000000 in
set_option maxRecDepth 100000 in
theorem k5_untake (l : Launch) (D : va_G) (cI cZ cL : ClassId) (q : Nat → Nat) (th : Nat) (N : Nat) (c : Nat) (fr : Nat → Int32) (tt : Nat → Int32) (sa : Nat → Int32) (tk : Nat → Int32) (tn : Nat) (tr : Nat → Int32) (op : Nat → Int32) (sl : Nat → Int32) (nd : Nat → Int32) (oi : Nat → Int32) (il : Nat → Int32) (tl : Nat → Int32) (go : Nat → Int32) (gt : Nat → Int32) (fa : Nat → Int32) (mn : Nat → Int64) (nx : Nat → Int64) (x : Int32) (hc : c ≤ 160) : McI l D (tY cI cZ cL) yX5_untake wsX5_untake 1 21 [.ref (q 0), .int x] ([wM cI cZ cL q th N c fr tt sa tk tn tr op sl nd oi il tl go gt fa mn nx]) (fun r (_ : Unit) => r = mtR c sa tk x 0) (fun (_ : Unit) => [wM cI cZ cL q 0 N c fr tt sa (mtF c sa tk x 0) tn tr op sl nd oi il tl go gt fa mn nx]) := by
  refine q_ofW (Qc := fun A => (va_Qi (fun r (_ : Unit) => r = mtR c sa tk x 0) (fun u t => mAt D (tY cI cZ cL) A ((fun (_ : Unit) => [wM cI cZ cL q 0 N c fr tt sa (mtF c sa tk x 0) tn tr op sl nd oi il tl go gt fa mn nx]) u) t) A)) (cc := cX5_untake) (maxL := 3) (ret := (some .int)) (by decide) rfl (Nat.le_of_ble_eq_true rfl) ?_
  intro pz ez sz mz bz tz cz hx hb hml hr hlocks hts hown hK hP A hD hA ls hl
  have hS : va_S A sz.heap sz.heap [] := va_S.rf
  have hl : lv_has ls 3 [(0, .ref (q 0)), (1, .int x)] := hl
  refine lv_aload_n hx hb dX5_untake_0 rfl (lv_at hl 0 rfl) ?_
  refine lv_iconst (v := (0 : Int32)) hx hb dX5_untake_1 (by decide) ?_
  refine q_put (D := D) (ci := 5) (v := .int (nI 0)) (ty := .int) (C := RX5) (T := TX5) (N := 20) hx hb hts (by decide +kernel) tyX5 tyX5_ok nmX5 hown hK hP hD hS 0 0 rfl rfl rfl 0 (by decide) (hts (.fieldLink RX5 1 "OffsetRowsModel" "thrown" "I") (by decide +kernel)) (fun _ h9 => h9) rfl (by decide +kernel) rfl rfl (Nat.le_of_ble_eq_true rfl) dX5_untake_2 (wM_s_th (g9 := 0)) (Fs' := [wM cI cZ cL q 0 N c fr tt sa tk tn tr op sl nd oi il tl go gt fa mn nx]) rfl (fun H locs hP hD hS => ?_)
  refine lv_aload_n hx hb dX5_untake_5 rfl (lv_at hl 0 rfl) ?_
  refine lv_iload_n hx hb dX5_untake_6 rfl (lv_at hl 1 rfl) ?_
  refine q_callVi (index := 74) (n := 1) (As := [.int x]) (rest := []) (js := [0]) (ci := 5) ⟨hx, hb, hml, hown, hts⟩ hK hP hD hS hA (k5_isArc l D cI cZ cL q 0 N c fr tt sa tk tn tr op sl nd oi il tl go gt fa mn nx x) rfl (by decide) (fun _ => by simp only [List.map_cons, List.map_nil, wM_fst]) (fun (_ : Unit) => [wM cI cZ cL q 0 N c fr tt sa tk tn tr op sl nd oi il tl go gt fa mn nx]) (fun _ => rfl) gX5_untake_X5_isArc rfl (by decide +kernel) rfl ⟨by decide, by decide⟩ rfl rfl rfl rfl hl.1 (Nat.le_of_ble_eq_true rfl) ⟨(Nat.zero_le _), (Nat.zero_le _)⟩ dX5_untake_7 rfl (fun r _ H locs hw hP hD hS => ?_)
  have hw : r = bI (hasB c x) := hw
  subst hw
  refine lv_if_ne (tgt := 16) hx hb dX5_untake_10 (by decide) (fun c_10 => ?_) (fun c_10 => ?_)
  ·
    have n_10 : (hasB c x) = true := bI_n.mp c_10
    refine lv_aload_n hx hb dX5_untake_16 rfl (lv_at hl 0 rfl) ?_
    refine q_get (D := D) (ci := 5) (v := .ref (q 3)) (C := RX5) (T := TX5) (N := 20) hx hb hts (by decide +kernel) hown hK hP 0 0 rfl rfl rfl 5 (by decide) (hts (.fieldLink RX5 20 "OffsetRowsModel" "state" "[I") (by decide +kernel)) (fun _ h9 => h9) rfl dX5_untake_17 ?_
    refine lv_iload_n hx hb dX5_untake_20 rfl (lv_at hl 1 rfl) ?_
    refine q_iald hx hb hK hP 0 3 0 rfl (f := sa) rfl rfl (k := x.toNatClampNeg) rfl (hasB_in n_10 hc (by decide)) dX5_untake_21 ?_
    refine lv_iconst (v := (2 : Int32)) hx hb dX5_untake_22 (by decide) ?_
    refine lv_icmp_ne (tgt := 29) hx hb dX5_untake_23 (by decide) (fun c_23 => ?_) (fun c_23 => ?_)
    ·
      refine lv_aload_n hx hb dX5_untake_29 rfl (lv_at hl 0 rfl) ?_
      refine q_get (D := D) (ci := 5) (v := .ref (q 4)) (C := RX5) (T := TX5) (N := 20) hx hb hts (by decide +kernel) hown hK hP 0 0 rfl rfl rfl 6 (by decide) (hts (.fieldLink RX5 23 "OffsetRowsModel" "isTaken" "[Z") (by decide +kernel)) (fun _ h9 => h9) rfl dX5_untake_30 ?_
      refine lv_iload_n hx hb dX5_untake_33 rfl (lv_at hl 1 rfl) ?_
      refine q_zald hx hb hK hP 0 4 1 rfl (f := tk) rfl rfl (k := x.toNatClampNeg) rfl (hasB_in n_10 hc (by decide)) dX5_untake_34 ?_
      refine lv_if_eq (tgt := 42) hx hb dX5_untake_35 (by decide) (fun c_35 => ?_) (fun c_35 => ?_)
      ·
        refine lv_iconst (v := (0 : Int32)) hx hb dX5_untake_42 (by decide) ?_
        refine lv_istore_n (lv' := [(2, .int (0 : Int32)), (0, .ref (q 0)), (1, .int x)]) hx hb dX5_untake_43 rfl hl (by decide) rfl (fun ls hl => ?_)
        refine lv_aload_n hx hb dX5_untake_44 rfl (lv_at hl 1 rfl) ?_
        refine q_get (D := D) (ci := 5) (v := .ref (q 4)) (C := RX5) (T := TX5) (N := 20) hx hb hts (by decide +kernel) hown hK hP 0 0 rfl rfl rfl 6 (by decide) (hts (.fieldLink RX5 23 "OffsetRowsModel" "isTaken" "[Z") (by decide +kernel)) (fun _ h9 => h9) rfl dX5_untake_45 ?_
        refine lv_iload_n hx hb dX5_untake_48 rfl (lv_at hl 2 rfl) ?_
        refine lv_iconst (v := (0 : Int32)) hx hb dX5_untake_49 (by decide) ?_
        refine q_zast hx hb hK hP hD hS 0 4 1 rfl (f := tk) rfl rfl (k := x.toNatClampNeg) rfl (hasB_in n_10 hc (by decide)) rfl dX5_untake_50 wM_s_tk (Fs' := [wM cI cZ cL q 0 N c fr tt sa (upd tk x.toNatClampNeg (0 : Int32)) tn tr op sl nd oi il tl go gt fa mn nx]) rfl (fun H locs hP hD hS => ?_)
        refine lv_iload_n hx hb dX5_untake_51 rfl (lv_at hl 0 rfl) ?_
        exact q_iret (()) hx hb hr hlocks hK hP hD hS (by simp [mtR, mtF, n_10, c_23, c_35]) (by simp [mtR, mtF, n_10, c_23, c_35]) dX5_untake_52
      ·
        refine lv_iconst (v := (1 : Int32)) hx hb dX5_untake_38 (by decide) ?_
        refine lv_goto (tgt := 43) hx hb dX5_untake_39 (by decide) ?_
        refine lv_istore_n (lv' := [(2, .int (1 : Int32)), (0, .ref (q 0)), (1, .int x)]) hx hb dX5_untake_43 rfl hl (by decide) rfl (fun ls hl => ?_)
        refine lv_aload_n hx hb dX5_untake_44 rfl (lv_at hl 1 rfl) ?_
        refine q_get (D := D) (ci := 5) (v := .ref (q 4)) (C := RX5) (T := TX5) (N := 20) hx hb hts (by decide +kernel) hown hK hP 0 0 rfl rfl rfl 6 (by decide) (hts (.fieldLink RX5 23 "OffsetRowsModel" "isTaken" "[Z") (by decide +kernel)) (fun _ h9 => h9) rfl dX5_untake_45 ?_
        refine lv_iload_n hx hb dX5_untake_48 rfl (lv_at hl 2 rfl) ?_
        refine lv_iconst (v := (0 : Int32)) hx hb dX5_untake_49 (by decide) ?_
        refine q_zast hx hb hK hP hD hS 0 4 1 rfl (f := tk) rfl rfl (k := x.toNatClampNeg) rfl (hasB_in n_10 hc (by decide)) rfl dX5_untake_50 wM_s_tk (Fs' := [wM cI cZ cL q 0 N c fr tt sa (upd tk x.toNatClampNeg (0 : Int32)) tn tr op sl nd oi il tl go gt fa mn nx]) rfl (fun H locs hP hD hS => ?_)
        refine lv_iload_n hx hb dX5_untake_51 rfl (lv_at hl 0 rfl) ?_
        exact q_iret (()) hx hb hr hlocks hK hP hD hS (by simp [mtR, mtF, n_10, c_23, c_35]) (by simp [mtR, mtF, n_10, c_23, c_35]) dX5_untake_52
    ·
      refine lv_bipush (v := (-5)) hx hb dX5_untake_26 (by decide) ?_
      exact q_iret (()) hx hb hr hlocks hK hP hD hS (by simp [mtR, mtF, n_10, c_23]) (by simp [mtR, mtF, n_10, c_23]) dX5_untake_28
  ·
    have n_10 : (hasB c x) = false := bI_0.mp c_10
    refine lv_bipush (v := (-2)) hx hb dX5_untake_13 (by decide) ?_
    exact q_iret (()) hx hb hr hlocks hK hP hD hS (by simp [mtR, mtF, n_10]) (by simp [mtR, mtF, n_10]) dX5_untake_15

set_option maxHeartbeats 8000000 in
set_option maxRecDepth 100000 in
theorem k5_stale (l : Launch) (D : va_G) (cI cZ cL : ClassId) (q : Nat → Nat) (th : Nat) (N : Nat) (c : Nat) (fr : Nat → Int32) (tt : Nat → Int32) (sa : Nat → Int32) (tk : Nat → Int32) (tn : Nat) (tr : Nat → Int32) (op : Nat → Int32) (sl : Nat → Int32) (nd : Nat → Int32) (oi : Nat → Int32) (il : Nat → Int32) (tl : Nat → Int32) (go : Nat → Int32) (gt : Nat → Int32) (fa : Nat → Int32) (mn : Nat → Int64) (nx : Nat → Int64) : McV l D (tY cI cZ cL) yX5_stale wsX5_stale 0 0 [.ref (q 0)] ([wM cI cZ cL q th N c fr tt sa tk tn tr op sl nd oi il tl go gt fa mn nx]) (fun (_ : Unit) => True) (fun (_ : Unit) => [wM cI cZ cL q th N c fr tt sa tk tn tr op (stl sl) nd oi il tl go gt fa mn nx]) := by
  refine q_ofW (Qc := fun A => (va_Qv (fun (_ : Unit) => True) (fun u t => mAt D (tY cI cZ cL) A ((fun (_ : Unit) => [wM cI cZ cL q th N c fr tt sa tk tn tr op (stl sl) nd oi il tl go gt fa mn nx]) u) t) A)) (cc := cX5_stale) (maxL := 2) (ret := none) (by decide) rfl (Nat.le_of_ble_eq_true rfl) ?_
  intro pz ez sz mz bz tz cz hx hb hml hr hlocks hts hown hK hP A hD hA ls hl
  have hS : va_S A sz.heap sz.heap [] := va_S.rf
  have hl : lv_has ls 2 [(0, .ref (q 0))] := hl
  refine lv_iconst (v := (0 : Int32)) hx hb dX5_stale_0 (by decide) ?_
  refine lv_istore_n (lv' := [(1, .int (0 : Int32)), (0, .ref (q 0))]) hx hb dX5_stale_1 rfl hl (by decide) rfl (fun ls hl => ?_)
  have loop_2 : ∀ (k_2 i : Nat), i ≤ 8 → 8 < i + k_2 → ∀ (H : Heap) (locs : List Loc), va_P D vwCl (List.flatten [wM cI cZ cL q th N c fr tt sa tk tn tr op (pfx (fun _ => 1) sl i) nd oi il tl go gt fa mn nx]) H → va_D A (List.flatten [wM cI cZ cL q th N c fr tt sa tk tn tr op (pfx (fun _ => 1) sl i) nd oi il tl go gt fa mn nx]) → va_S A sz.heap H locs → ∀ (ls : Array Slot), lv_has ls 2 [(1, .int (nI i)), (0, .ref (q 0))] → W pz l ez (rM 0 0) sz mz [.ref (q 0)].toArray bz tz cz H locs 0 0 (MQ bz (va_Qv (fun (_ : Unit) => True) (fun u t => mAt D (tY cI cZ cL) A ((fun (_ : Unit) => [wM cI cZ cL q th N c fr tt sa tk tn tr op (stl sl) nd oi il tl go gt fa mn nx]) u) t) A) [.ref (q 0)].toArray sz 0 0 A) (F0 mz 2 ls [])  := by
    intro k_2
    induction k_2 with
    | zero => intro i hi_2 hk_2; exact absurd hk_2 (by omega)
    | succ k_2 ih_2 =>
      intro i hi_2 hk_2 H locs hP hD hS ls hl
      refine lv_iload_n hx hb dX5_stale_2 rfl (lv_at hl 0 rfl) ?_
      refine lv_bipush (v := (8 : Int32)) hx hb dX5_stale_3 (by decide) ?_
      refine lv_icmp_ge (tgt := 21) hx hb dX5_stale_5 (by decide) (fun c_5 => ?_) (fun c_5 => ?_)
      ·
        have n_5 : 8 ≤ i := (nI_leI (a := 8) (b := i) (by omega) (by omega)).mp c_5
        exact q_vret (()) hx hb hr hlocks hK hP hD hS (trivial) (by rw [show i = 8 by omega]; rfl) dX5_stale_21
      ·
        have n_5 : ¬ 8 ≤ i := fun h9 => c_5 ((nI_leI (a := 8) (b := i) (by omega) (by omega)).mpr h9)
        refine lv_aload_n hx hb dX5_stale_8 rfl (lv_at hl 1 rfl) ?_
        refine q_get (D := D) (ci := 5) (v := .ref (q 7)) (C := RX5) (T := TX5) (N := 20) hx hb hts (by decide +kernel) hown hK hP 0 0 rfl rfl rfl 10 (by decide) (hts (.fieldLink RX5 33 "OffsetRowsModel" "isStale" "[Z") (by decide +kernel)) (fun _ h9 => h9) rfl dX5_stale_9 ?_
        refine lv_iload_n hx hb dX5_stale_12 rfl (lv_at hl 0 rfl) ?_
        refine lv_iconst (v := (1 : Int32)) hx hb dX5_stale_13 (by decide) ?_
        refine q_zast hx hb hK hP hD hS 0 7 1 rfl (f := pfx (fun _ => 1) sl i) rfl rfl (k := i) (nI_clamp (n := i) (by omega)) (vp_in_nI (show i < 8 from by omega) (by omega)) rfl dX5_stale_14 wM_s_sl (Fs' := [wM cI cZ cL q th N c fr tt sa tk tn tr op (upd (pfx (fun _ => 1) sl i) i (1 : Int32)) nd oi il tl go gt fa mn nx]) rfl (fun H locs hP hD hS => ?_)
        have hP : va_P D vwCl (List.flatten [wM cI cZ cL q th N c fr tt sa tk tn tr op (pfx (fun _ => 1) sl (i + 1)) nd oi il tl go gt fa mn nx]) _ := wCast hP (by rw [show upd (pfx (fun _ => 1) sl i) i (1 : Int32) = pfx (fun _ => 1) sl (i + 1) from pfx_w rfl])
        have hD : va_D A (List.flatten [wM cI cZ cL q th N c fr tt sa tk tn tr op (pfx (fun _ => 1) sl (i + 1)) nd oi il tl go gt fa mn nx]) := dCast hD (by rw [show upd (pfx (fun _ => 1) sl i) i (1 : Int32) = pfx (fun _ => 1) sl (i + 1) from pfx_w rfl])
        refine lv_iinc (v := nI (i + 1)) (lv' := [(1, .int (nI (i + 1))), (0, .ref (q 0))]) hx hb dX5_stale_15 hl (k := 0) rfl (nI_add i 1) (by decide) rfl (fun ls hl => ?_)
        refine lv_goto (tgt := 2) hx hb dX5_stale_18 (by decide) ?_
        have hl : lv_has ls 2 [(1, .int (nI (i + 1))), (0, .ref (q 0))] := lv_sub hl [0, 1] rfl
        have hP : va_P D vwCl (List.flatten [wM cI cZ cL q th N c fr tt sa tk tn tr op (pfx (fun _ => 1) sl (i + 1)) nd oi il tl go gt fa mn nx]) _ := hP
        have hD : va_D A (List.flatten [wM cI cZ cL q th N c fr tt sa tk tn tr op (pfx (fun _ => 1) sl (i + 1)) nd oi il tl go gt fa mn nx]) := hD
        exact ih_2 (i + 1) (by omega) (by omega) _ _ hP hD hS _ hl
  have hl : lv_has ls 2 [(1, .int (nI 0)), (0, .ref (q 0))] := lv_sub hl [0, 1] rfl
  have hq0 : sl = pfx (fun _ => 1) sl 0 := pfx_0.symm
  have hP : va_P D vwCl (List.flatten [wM cI cZ cL q th N c fr tt sa tk tn tr op (pfx (fun _ => 1) sl 0) nd oi il tl go gt fa mn nx]) _ := wCast hP (by rw [← hq0])
  have hD : va_D A (List.flatten [wM cI cZ cL q th N c fr tt sa tk tn tr op (pfx (fun _ => 1) sl 0) nd oi il tl go gt fa mn nx]) := dCast hD (by rw [← hq0])
  exact loop_2 (8 + 1) 0 (by omega) (by omega) _ _ hP hD hS _ hl

set_option maxHeartbeats 8000000 in
set_option maxRecDepth 100000 in
theorem k5_merge (l : Launch) (D : va_G) (cI cZ cL : ClassId) (q : Nat → Nat) (th : Nat) (N : Nat) (c : Nat) (fr : Nat → Int32) (tt : Nat → Int32) (sa : Nat → Int32) (tk : Nat → Int32) (tn : Nat) (tr : Nat → Int32) (op : Nat → Int32) (sl : Nat → Int32) (nd : Nat → Int32) (oi : Nat → Int32) (il : Nat → Int32) (tl : Nat → Int32) (go : Nat → Int32) (gt : Nat → Int32) (fa : Nat → Int32) (mn : Nat → Int64) (nx : Nat → Int64) (hc : c ≤ 160) : McI l D (tY cI cZ cL) yX5_merge wsX5_merge 1 21 [.ref (q 0)] ([wM cI cZ cL q th N c fr tt sa tk tn tr op sl nd oi il tl go gt fa mn nx]) (fun r (_ : Unit) => r = nI (cN c (mvB tk sa))) (fun (_ : Unit) => [wM cI cZ cL q 0 N c fr tt (msS tk sa c) tk tn tr op (stl sl) nd oi il tl go gt fa mn nx]) := by
  refine q_ofW (Qc := fun A => (va_Qi (fun r (_ : Unit) => r = nI (cN c (mvB tk sa))) (fun u t => mAt D (tY cI cZ cL) A ((fun (_ : Unit) => [wM cI cZ cL q 0 N c fr tt (msS tk sa c) tk tn tr op (stl sl) nd oi il tl go gt fa mn nx]) u) t) A)) (cc := cX5_merge) (maxL := 4) (ret := (some .int)) (by decide) rfl (Nat.le_of_ble_eq_true rfl) ?_
  intro pz ez sz mz bz tz cz hx hb hml hr hlocks hts hown hK hP A hD hA ls hl
  have hS : va_S A sz.heap sz.heap [] := va_S.rf
  have hl : lv_has ls 4 [(0, .ref (q 0))] := hl
  refine lv_aload_n hx hb dX5_merge_0 rfl (lv_at hl 0 rfl) ?_
  refine lv_iconst (v := (0 : Int32)) hx hb dX5_merge_1 (by decide) ?_
  refine q_put (D := D) (ci := 5) (v := .int (nI 0)) (ty := .int) (C := RX5) (T := TX5) (N := 20) hx hb hts (by decide +kernel) tyX5 tyX5_ok nmX5 hown hK hP hD hS 0 0 rfl rfl rfl 0 (by decide) (hts (.fieldLink RX5 1 "OffsetRowsModel" "thrown" "I") (by decide +kernel)) (fun _ h9 => h9) rfl (by decide +kernel) rfl rfl (Nat.le_of_ble_eq_true rfl) dX5_merge_2 (wM_s_th (g9 := 0)) (Fs' := [wM cI cZ cL q 0 N c fr tt sa tk tn tr op sl nd oi il tl go gt fa mn nx]) rfl (fun H locs hP hD hS => ?_)
  refine lv_iconst (v := (0 : Int32)) hx hb dX5_merge_5 (by decide) ?_
  refine lv_istore_n (lv' := [(1, .int (0 : Int32)), (0, .ref (q 0))]) hx hb dX5_merge_6 rfl hl (by decide) rfl (fun ls hl => ?_)
  refine lv_iconst (v := (0 : Int32)) hx hb dX5_merge_7 (by decide) ?_
  refine lv_istore_n (lv' := [(2, .int (0 : Int32)), (1, .int (0 : Int32)), (0, .ref (q 0))]) hx hb dX5_merge_8 rfl hl (by decide) rfl (fun ls hl => ?_)
  have loop_9 : ∀ (k_9 i : Nat), i ≤ c → c < i + k_9 → ∀ (H : Heap) (locs : List Loc), va_P D vwCl (List.flatten [wM cI cZ cL q 0 N c fr tt (msS tk sa i) tk tn tr op sl nd oi il tl go gt fa mn nx]) H → va_D A (List.flatten [wM cI cZ cL q 0 N c fr tt (msS tk sa i) tk tn tr op sl nd oi il tl go gt fa mn nx]) → va_S A sz.heap H locs → ∀ (ls : Array Slot), lv_has ls 4 [(2, .int (nI i)), (1, .int (nI (cN i (mvB tk sa)))), (0, .ref (q 0))] → W pz l ez (rM 1 21) sz mz [.ref (q 0)].toArray bz tz cz H locs 0 0 (MQ bz (va_Qi (fun r (_ : Unit) => r = nI (cN c (mvB tk sa))) (fun u t => mAt D (tY cI cZ cL) A ((fun (_ : Unit) => [wM cI cZ cL q 0 N c fr tt (msS tk sa c) tk tn tr op (stl sl) nd oi il tl go gt fa mn nx]) u) t) A) [.ref (q 0)].toArray sz 0 0 A) (F0 mz 9 ls [])  := by
    intro k_9
    induction k_9 with
    | zero => intro i hi_9 hk_9; exact absurd hk_9 (by omega)
    | succ k_9 ih_9 =>
      intro i hi_9 hk_9 H locs hP hD hS ls hl
      refine lv_iload_n hx hb dX5_merge_9 rfl (lv_at hl 0 rfl) ?_
      refine lv_aload_n hx hb dX5_merge_10 rfl (lv_at hl 2 rfl) ?_
      refine q_get (D := D) (ci := 5) (v := .int (nI c)) (C := RX5) (T := TX5) (N := 20) hx hb hts (by decide +kernel) hown hK hP 0 0 rfl rfl rfl 2 (by decide) (hts (.fieldLink RX5 67 "OffsetRowsModel" "arcs" "I") (by decide +kernel)) (fun _ h9 => h9) rfl dX5_merge_11 ?_
      refine lv_icmp_ge (tgt := 73) hx hb dX5_merge_14 (by decide) (fun c_14 => ?_) (fun c_14 => ?_)
      ·
        have n_14 : c ≤ i := (nI_leI (a := c) (b := i) (by omega) (by omega)).mp c_14
        refine lv_aload_n hx hb dX5_merge_73 rfl (lv_at hl 2 rfl) ?_
        refine q_callVv (index := 77) (n := 0) (As := []) (rest := []) (js := [0]) (ci := 5) ⟨hx, hb, hml, hown, hts⟩ hK hP hD hS hA (k5_stale l D cI cZ cL q 0 N c fr tt (msS tk sa i) tk tn tr op sl nd oi il tl go gt fa mn nx) rfl (by decide) (fun _ => by simp only [List.map_cons, List.map_nil, wM_fst]) (fun (_ : Unit) => [wM cI cZ cL q 0 N c fr tt (msS tk sa i) tk tn tr op (stl sl) nd oi il tl go gt fa mn nx]) (fun _ => rfl) gX5_merge_X5_stale rfl (by decide +kernel) rfl ⟨by decide, by decide⟩ rfl rfl rfl rfl hl.1 (Nat.le_of_ble_eq_true rfl) ⟨(Nat.zero_le _), (Nat.zero_le _)⟩ dX5_merge_74 rfl (fun _ H locs hw hP hD hS => ?_)
        refine lv_iload_n hx hb dX5_merge_77 rfl (lv_at hl 1 rfl) ?_
        exact q_iret (()) hx hb hr hlocks hK hP hD hS (by rw [show i = c by omega]) (by rw [show i = c by omega]) dX5_merge_78
      ·
        have n_14 : ¬ c ≤ i := fun h9 => c_14 ((nI_leI (a := c) (b := i) (by omega) (by omega)).mpr h9)
        refine lv_aload_n hx hb dX5_merge_17 rfl (lv_at hl 2 rfl) ?_
        refine q_get (D := D) (ci := 5) (v := .ref (q 3)) (C := RX5) (T := TX5) (N := 20) hx hb hts (by decide +kernel) hown hK hP 0 0 rfl rfl rfl 5 (by decide) (hts (.fieldLink RX5 20 "OffsetRowsModel" "state" "[I") (by decide +kernel)) (fun _ h9 => h9) rfl dX5_merge_18 ?_
        refine lv_iload_n hx hb dX5_merge_21 rfl (lv_at hl 0 rfl) ?_
        refine q_iald hx hb hK hP 0 3 0 rfl (f := msS tk sa i) rfl rfl (k := i) (nI_clamp (n := i) (by omega)) (vp_in_nI (show i < 160 from by omega) (by omega)) dX5_merge_22 ?_
        refine q_top (z := sa i) (pfx_i) ?_
        refine lv_istore_n (lv' := [(3, .int (sa i)), (2, .int (nI i)), (1, .int (nI (cN i (mvB tk sa)))), (0, .ref (q 0))]) hx hb dX5_merge_23 rfl hl (by decide) rfl (fun ls hl => ?_)
        refine lv_aload_n hx hb dX5_merge_24 rfl (lv_at hl 3 rfl) ?_
        refine q_get (D := D) (ci := 5) (v := .ref (q 3)) (C := RX5) (T := TX5) (N := 20) hx hb hts (by decide +kernel) hown hK hP 0 0 rfl rfl rfl 5 (by decide) (hts (.fieldLink RX5 20 "OffsetRowsModel" "state" "[I") (by decide +kernel)) (fun _ h9 => h9) rfl dX5_merge_25 ?_
        refine lv_iload_n hx hb dX5_merge_28 rfl (lv_at hl 1 rfl) ?_
        refine lv_iload_n hx hb dX5_merge_29 rfl (lv_at hl 0 rfl) ?_
        refine lv_iconst (v := (2 : Int32)) hx hb dX5_merge_30 (by decide) ?_
        refine lv_icmp_eq (tgt := 43) hx hb dX5_merge_31 (by decide) (fun c_31 => ?_) (fun c_31 => ?_)
        ·
          refine lv_iconst (v := (2 : Int32)) hx hb dX5_merge_43 (by decide) ?_
          refine lv_goto (tgt := 48) hx hb dX5_merge_44 (by decide) ?_
          refine q_iast hx hb hK hP hD hS 0 3 0 rfl (f := msS tk sa i) rfl rfl (k := i) (nI_clamp (n := i) (by omega)) (vp_in_nI (show i < 160 from by omega) (by omega)) dX5_merge_48 wM_s_sa (Fs' := [wM cI cZ cL q 0 N c fr tt (upd (msS tk sa i) i (2 : Int32)) tk tn tr op sl nd oi il tl go gt fa mn nx]) rfl (fun H locs hP hD hS => ?_)
          have hP : va_P D vwCl (List.flatten [wM cI cZ cL q 0 N c fr tt (msS tk sa (i + 1)) tk tn tr op sl nd oi il tl go gt fa mn nx]) _ := wCast hP (by rw [show upd (msS tk sa i) i (2 : Int32) = msS tk sa (i + 1) from pfx_w (by simp [mv, c_14, n_14, c_31])])
          have hD : va_D A (List.flatten [wM cI cZ cL q 0 N c fr tt (msS tk sa (i + 1)) tk tn tr op sl nd oi il tl go gt fa mn nx]) := dCast hD (by rw [show upd (msS tk sa i) i (2 : Int32) = msS tk sa (i + 1) from pfx_w (by simp [mv, c_14, n_14, c_31])])
          refine lv_iload_n hx hb dX5_merge_49 rfl (lv_at hl 2 rfl) ?_
          refine lv_aload_n hx hb dX5_merge_50 rfl (lv_at hl 3 rfl) ?_
          refine q_get (D := D) (ci := 5) (v := .ref (q 3)) (C := RX5) (T := TX5) (N := 20) hx hb hts (by decide +kernel) hown hK hP 0 0 rfl rfl rfl 5 (by decide) (hts (.fieldLink RX5 20 "OffsetRowsModel" "state" "[I") (by decide +kernel)) (fun _ h9 => h9) rfl dX5_merge_51 ?_
          refine lv_iload_n hx hb dX5_merge_54 rfl (lv_at hl 1 rfl) ?_
          refine q_iald hx hb hK hP 0 3 0 rfl (f := msS tk sa (i + 1)) rfl rfl (k := i) (nI_clamp (n := i) (by omega)) (vp_in_nI (show i < 160 from by omega) (by omega)) dX5_merge_55 ?_
          refine q_top (z := mv tk sa i) (pfx_lt (by omega)) ?_
          refine lv_iload_n hx hb dX5_merge_56 rfl (lv_at hl 0 rfl) ?_
          refine lv_icmp_eq (tgt := 64) hx hb dX5_merge_57 (by decide) (fun c_57 => ?_) (fun c_57 => ?_)
          ·
            refine lv_iconst (v := (0 : Int32)) hx hb dX5_merge_64 (by decide) ?_
            refine q_iadd (z := nI (cN i (mvB tk sa) + 0)) hx hb dX5_merge_65 (nI_add (cN i (mvB tk sa)) 0) ?_
            refine lv_istore_n (lv' := [(1, .int (nI (cN i (mvB tk sa) + 0))), (3, .int (sa i)), (2, .int (nI i)), (0, .ref (q 0))]) hx hb dX5_merge_66 rfl hl (by decide) rfl (fun ls hl => ?_)
            refine lv_iinc (v := nI (i + 1)) (lv' := [(2, .int (nI (i + 1))), (1, .int (nI (cN i (mvB tk sa) + 0))), (3, .int (sa i)), (0, .ref (q 0))]) hx hb dX5_merge_67 hl (k := 2) rfl (nI_add i 1) (by decide) rfl (fun ls hl => ?_)
            refine lv_goto (tgt := 9) hx hb dX5_merge_70 (by decide) ?_
            have hl : lv_has ls 4 [(2, .int (nI (i + 1))), (1, .int (nI (cN i (mvB tk sa) + 0))), (0, .ref (q 0))] := lv_sub hl [0, 1, 3] rfl
            have hl : lv_has ls 4 [(2, .int (nI (i + 1))), (1, .int (nI (cN (i + 1) (mvB tk sa)))), (0, .ref (q 0))] := by
              rw [← show nI (cN i (mvB tk sa) + 0) = nI (cN (i + 1) (mvB tk sa)) from by simp [mvB, cN, c_57]]
              exact hl
            have hP : va_P D vwCl (List.flatten [wM cI cZ cL q 0 N c fr tt (msS tk sa (i + 1)) tk tn tr op sl nd oi il tl go gt fa mn nx]) _ := hP
            have hD : va_D A (List.flatten [wM cI cZ cL q 0 N c fr tt (msS tk sa (i + 1)) tk tn tr op sl nd oi il tl go gt fa mn nx]) := hD
            exact ih_9 (i + 1) (by omega) (by omega) _ _ hP hD hS _ hl
          ·
            refine lv_iconst (v := (1 : Int32)) hx hb dX5_merge_60 (by decide) ?_
            refine lv_goto (tgt := 65) hx hb dX5_merge_61 (by decide) ?_
            refine q_iadd (z := nI (cN i (mvB tk sa) + 1)) hx hb dX5_merge_65 (nI_add (cN i (mvB tk sa)) 1) ?_
            refine lv_istore_n (lv' := [(1, .int (nI (cN i (mvB tk sa) + 1))), (3, .int (sa i)), (2, .int (nI i)), (0, .ref (q 0))]) hx hb dX5_merge_66 rfl hl (by decide) rfl (fun ls hl => ?_)
            refine lv_iinc (v := nI (i + 1)) (lv' := [(2, .int (nI (i + 1))), (1, .int (nI (cN i (mvB tk sa) + 1))), (3, .int (sa i)), (0, .ref (q 0))]) hx hb dX5_merge_67 hl (k := 2) rfl (nI_add i 1) (by decide) rfl (fun ls hl => ?_)
            refine lv_goto (tgt := 9) hx hb dX5_merge_70 (by decide) ?_
            have hl : lv_has ls 4 [(2, .int (nI (i + 1))), (1, .int (nI (cN i (mvB tk sa) + 1))), (0, .ref (q 0))] := lv_sub hl [0, 1, 3] rfl
            have hl : lv_has ls 4 [(2, .int (nI (i + 1))), (1, .int (nI (cN (i + 1) (mvB tk sa)))), (0, .ref (q 0))] := by
              rw [← show nI (cN i (mvB tk sa) + 1) = nI (cN (i + 1) (mvB tk sa)) from by simp [mvB, cN, c_57]]
              exact hl
            have hP : va_P D vwCl (List.flatten [wM cI cZ cL q 0 N c fr tt (msS tk sa (i + 1)) tk tn tr op sl nd oi il tl go gt fa mn nx]) _ := hP
            have hD : va_D A (List.flatten [wM cI cZ cL q 0 N c fr tt (msS tk sa (i + 1)) tk tn tr op sl nd oi il tl go gt fa mn nx]) := hD
            exact ih_9 (i + 1) (by omega) (by omega) _ _ hP hD hS _ hl
        ·
          refine lv_aload_n hx hb dX5_merge_34 rfl (lv_at hl 3 rfl) ?_
          refine q_get (D := D) (ci := 5) (v := .ref (q 4)) (C := RX5) (T := TX5) (N := 20) hx hb hts (by decide +kernel) hown hK hP 0 0 rfl rfl rfl 6 (by decide) (hts (.fieldLink RX5 23 "OffsetRowsModel" "isTaken" "[Z") (by decide +kernel)) (fun _ h9 => h9) rfl dX5_merge_35 ?_
          refine lv_iload_n hx hb dX5_merge_38 rfl (lv_at hl 1 rfl) ?_
          refine q_zald hx hb hK hP 0 4 1 rfl (f := tk) rfl rfl (k := i) (nI_clamp (n := i) (by omega)) (vp_in_nI (show i < 160 from by omega) (by omega)) dX5_merge_39 ?_
          refine lv_if_eq (tgt := 47) hx hb dX5_merge_40 (by decide) (fun c_40 => ?_) (fun c_40 => ?_)
          ·
            refine lv_iconst (v := (1 : Int32)) hx hb dX5_merge_47 (by decide) ?_
            refine q_iast hx hb hK hP hD hS 0 3 0 rfl (f := msS tk sa i) rfl rfl (k := i) (nI_clamp (n := i) (by omega)) (vp_in_nI (show i < 160 from by omega) (by omega)) dX5_merge_48 wM_s_sa (Fs' := [wM cI cZ cL q 0 N c fr tt (upd (msS tk sa i) i (1 : Int32)) tk tn tr op sl nd oi il tl go gt fa mn nx]) rfl (fun H locs hP hD hS => ?_)
            have hP : va_P D vwCl (List.flatten [wM cI cZ cL q 0 N c fr tt (msS tk sa (i + 1)) tk tn tr op sl nd oi il tl go gt fa mn nx]) _ := wCast hP (by rw [show upd (msS tk sa i) i (1 : Int32) = msS tk sa (i + 1) from pfx_w (by simp [mv, c_14, n_14, c_31, c_40])])
            have hD : va_D A (List.flatten [wM cI cZ cL q 0 N c fr tt (msS tk sa (i + 1)) tk tn tr op sl nd oi il tl go gt fa mn nx]) := dCast hD (by rw [show upd (msS tk sa i) i (1 : Int32) = msS tk sa (i + 1) from pfx_w (by simp [mv, c_14, n_14, c_31, c_40])])
            refine lv_iload_n hx hb dX5_merge_49 rfl (lv_at hl 2 rfl) ?_
            refine lv_aload_n hx hb dX5_merge_50 rfl (lv_at hl 3 rfl) ?_
            refine q_get (D := D) (ci := 5) (v := .ref (q 3)) (C := RX5) (T := TX5) (N := 20) hx hb hts (by decide +kernel) hown hK hP 0 0 rfl rfl rfl 5 (by decide) (hts (.fieldLink RX5 20 "OffsetRowsModel" "state" "[I") (by decide +kernel)) (fun _ h9 => h9) rfl dX5_merge_51 ?_
            refine lv_iload_n hx hb dX5_merge_54 rfl (lv_at hl 1 rfl) ?_
            refine q_iald hx hb hK hP 0 3 0 rfl (f := msS tk sa (i + 1)) rfl rfl (k := i) (nI_clamp (n := i) (by omega)) (vp_in_nI (show i < 160 from by omega) (by omega)) dX5_merge_55 ?_
            refine q_top (z := mv tk sa i) (pfx_lt (by omega)) ?_
            refine lv_iload_n hx hb dX5_merge_56 rfl (lv_at hl 0 rfl) ?_
            refine lv_icmp_eq (tgt := 64) hx hb dX5_merge_57 (by decide) (fun c_57 => ?_) (fun c_57 => ?_)
            ·
              refine lv_iconst (v := (0 : Int32)) hx hb dX5_merge_64 (by decide) ?_
              refine q_iadd (z := nI (cN i (mvB tk sa) + 0)) hx hb dX5_merge_65 (nI_add (cN i (mvB tk sa)) 0) ?_
              refine lv_istore_n (lv' := [(1, .int (nI (cN i (mvB tk sa) + 0))), (3, .int (sa i)), (2, .int (nI i)), (0, .ref (q 0))]) hx hb dX5_merge_66 rfl hl (by decide) rfl (fun ls hl => ?_)
              refine lv_iinc (v := nI (i + 1)) (lv' := [(2, .int (nI (i + 1))), (1, .int (nI (cN i (mvB tk sa) + 0))), (3, .int (sa i)), (0, .ref (q 0))]) hx hb dX5_merge_67 hl (k := 2) rfl (nI_add i 1) (by decide) rfl (fun ls hl => ?_)
              refine lv_goto (tgt := 9) hx hb dX5_merge_70 (by decide) ?_
              have hl : lv_has ls 4 [(2, .int (nI (i + 1))), (1, .int (nI (cN i (mvB tk sa) + 0))), (0, .ref (q 0))] := lv_sub hl [0, 1, 3] rfl
              have hl : lv_has ls 4 [(2, .int (nI (i + 1))), (1, .int (nI (cN (i + 1) (mvB tk sa)))), (0, .ref (q 0))] := by
                rw [← show nI (cN i (mvB tk sa) + 0) = nI (cN (i + 1) (mvB tk sa)) from by simp [mvB, cN, c_57]]
                exact hl
              have hP : va_P D vwCl (List.flatten [wM cI cZ cL q 0 N c fr tt (msS tk sa (i + 1)) tk tn tr op sl nd oi il tl go gt fa mn nx]) _ := hP
              have hD : va_D A (List.flatten [wM cI cZ cL q 0 N c fr tt (msS tk sa (i + 1)) tk tn tr op sl nd oi il tl go gt fa mn nx]) := hD
              exact ih_9 (i + 1) (by omega) (by omega) _ _ hP hD hS _ hl
            ·
              refine lv_iconst (v := (1 : Int32)) hx hb dX5_merge_60 (by decide) ?_
              refine lv_goto (tgt := 65) hx hb dX5_merge_61 (by decide) ?_
              refine q_iadd (z := nI (cN i (mvB tk sa) + 1)) hx hb dX5_merge_65 (nI_add (cN i (mvB tk sa)) 1) ?_
              refine lv_istore_n (lv' := [(1, .int (nI (cN i (mvB tk sa) + 1))), (3, .int (sa i)), (2, .int (nI i)), (0, .ref (q 0))]) hx hb dX5_merge_66 rfl hl (by decide) rfl (fun ls hl => ?_)
              refine lv_iinc (v := nI (i + 1)) (lv' := [(2, .int (nI (i + 1))), (1, .int (nI (cN i (mvB tk sa) + 1))), (3, .int (sa i)), (0, .ref (q 0))]) hx hb dX5_merge_67 hl (k := 2) rfl (nI_add i 1) (by decide) rfl (fun ls hl => ?_)
              refine lv_goto (tgt := 9) hx hb dX5_merge_70 (by decide) ?_
              have hl : lv_has ls 4 [(2, .int (nI (i + 1))), (1, .int (nI (cN i (mvB tk sa) + 1))), (0, .ref (q 0))] := lv_sub hl [0, 1, 3] rfl
              have hl : lv_has ls 4 [(2, .int (nI (i + 1))), (1, .int (nI (cN (i + 1) (mvB tk sa)))), (0, .ref (q 0))] := by
                rw [← show nI (cN i (mvB tk sa) + 1) = nI (cN (i + 1) (mvB tk sa)) from by simp [mvB, cN, c_57]]
                exact hl
              have hP : va_P D vwCl (List.flatten [wM cI cZ cL q 0 N c fr tt (msS tk sa (i + 1)) tk tn tr op sl nd oi il tl go gt fa mn nx]) _ := hP
              have hD : va_D A (List.flatten [wM cI cZ cL q 0 N c fr tt (msS tk sa (i + 1)) tk tn tr op sl nd oi il tl go gt fa mn nx]) := hD
              exact ih_9 (i + 1) (by omega) (by omega) _ _ hP hD hS _ hl
          ·
            refine lv_iconst (v := (2 : Int32)) hx hb dX5_merge_43 (by decide) ?_
            refine lv_goto (tgt := 48) hx hb dX5_merge_44 (by decide) ?_
            refine q_iast hx hb hK hP hD hS 0 3 0 rfl (f := msS tk sa i) rfl rfl (k := i) (nI_clamp (n := i) (by omega)) (vp_in_nI (show i < 160 from by omega) (by omega)) dX5_merge_48 wM_s_sa (Fs' := [wM cI cZ cL q 0 N c fr tt (upd (msS tk sa i) i (2 : Int32)) tk tn tr op sl nd oi il tl go gt fa mn nx]) rfl (fun H locs hP hD hS => ?_)
            have hP : va_P D vwCl (List.flatten [wM cI cZ cL q 0 N c fr tt (msS tk sa (i + 1)) tk tn tr op sl nd oi il tl go gt fa mn nx]) _ := wCast hP (by rw [show upd (msS tk sa i) i (2 : Int32) = msS tk sa (i + 1) from pfx_w (by simp [mv, c_14, n_14, c_31, c_40])])
            have hD : va_D A (List.flatten [wM cI cZ cL q 0 N c fr tt (msS tk sa (i + 1)) tk tn tr op sl nd oi il tl go gt fa mn nx]) := dCast hD (by rw [show upd (msS tk sa i) i (2 : Int32) = msS tk sa (i + 1) from pfx_w (by simp [mv, c_14, n_14, c_31, c_40])])
            refine lv_iload_n hx hb dX5_merge_49 rfl (lv_at hl 2 rfl) ?_
            refine lv_aload_n hx hb dX5_merge_50 rfl (lv_at hl 3 rfl) ?_
            refine q_get (D := D) (ci := 5) (v := .ref (q 3)) (C := RX5) (T := TX5) (N := 20) hx hb hts (by decide +kernel) hown hK hP 0 0 rfl rfl rfl 5 (by decide) (hts (.fieldLink RX5 20 "OffsetRowsModel" "state" "[I") (by decide +kernel)) (fun _ h9 => h9) rfl dX5_merge_51 ?_
            refine lv_iload_n hx hb dX5_merge_54 rfl (lv_at hl 1 rfl) ?_
            refine q_iald hx hb hK hP 0 3 0 rfl (f := msS tk sa (i + 1)) rfl rfl (k := i) (nI_clamp (n := i) (by omega)) (vp_in_nI (show i < 160 from by omega) (by omega)) dX5_merge_55 ?_
            refine q_top (z := mv tk sa i) (pfx_lt (by omega)) ?_
            refine lv_iload_n hx hb dX5_merge_56 rfl (lv_at hl 0 rfl) ?_
            refine lv_icmp_eq (tgt := 64) hx hb dX5_merge_57 (by decide) (fun c_57 => ?_) (fun c_57 => ?_)
            ·
              refine lv_iconst (v := (0 : Int32)) hx hb dX5_merge_64 (by decide) ?_
              refine q_iadd (z := nI (cN i (mvB tk sa) + 0)) hx hb dX5_merge_65 (nI_add (cN i (mvB tk sa)) 0) ?_
              refine lv_istore_n (lv' := [(1, .int (nI (cN i (mvB tk sa) + 0))), (3, .int (sa i)), (2, .int (nI i)), (0, .ref (q 0))]) hx hb dX5_merge_66 rfl hl (by decide) rfl (fun ls hl => ?_)
              refine lv_iinc (v := nI (i + 1)) (lv' := [(2, .int (nI (i + 1))), (1, .int (nI (cN i (mvB tk sa) + 0))), (3, .int (sa i)), (0, .ref (q 0))]) hx hb dX5_merge_67 hl (k := 2) rfl (nI_add i 1) (by decide) rfl (fun ls hl => ?_)
              refine lv_goto (tgt := 9) hx hb dX5_merge_70 (by decide) ?_
              have hl : lv_has ls 4 [(2, .int (nI (i + 1))), (1, .int (nI (cN i (mvB tk sa) + 0))), (0, .ref (q 0))] := lv_sub hl [0, 1, 3] rfl
              have hl : lv_has ls 4 [(2, .int (nI (i + 1))), (1, .int (nI (cN (i + 1) (mvB tk sa)))), (0, .ref (q 0))] := by
                rw [← show nI (cN i (mvB tk sa) + 0) = nI (cN (i + 1) (mvB tk sa)) from by simp [mvB, cN, c_57]]
                exact hl
              have hP : va_P D vwCl (List.flatten [wM cI cZ cL q 0 N c fr tt (msS tk sa (i + 1)) tk tn tr op sl nd oi il tl go gt fa mn nx]) _ := hP
              have hD : va_D A (List.flatten [wM cI cZ cL q 0 N c fr tt (msS tk sa (i + 1)) tk tn tr op sl nd oi il tl go gt fa mn nx]) := hD
              exact ih_9 (i + 1) (by omega) (by omega) _ _ hP hD hS _ hl
            ·
              refine lv_iconst (v := (1 : Int32)) hx hb dX5_merge_60 (by decide) ?_
              refine lv_goto (tgt := 65) hx hb dX5_merge_61 (by decide) ?_
              refine q_iadd (z := nI (cN i (mvB tk sa) + 1)) hx hb dX5_merge_65 (nI_add (cN i (mvB tk sa)) 1) ?_
              refine lv_istore_n (lv' := [(1, .int (nI (cN i (mvB tk sa) + 1))), (3, .int (sa i)), (2, .int (nI i)), (0, .ref (q 0))]) hx hb dX5_merge_66 rfl hl (by decide) rfl (fun ls hl => ?_)
              refine lv_iinc (v := nI (i + 1)) (lv' := [(2, .int (nI (i + 1))), (1, .int (nI (cN i (mvB tk sa) + 1))), (3, .int (sa i)), (0, .ref (q 0))]) hx hb dX5_merge_67 hl (k := 2) rfl (nI_add i 1) (by decide) rfl (fun ls hl => ?_)
              refine lv_goto (tgt := 9) hx hb dX5_merge_70 (by decide) ?_
              have hl : lv_has ls 4 [(2, .int (nI (i + 1))), (1, .int (nI (cN i (mvB tk sa) + 1))), (0, .ref (q 0))] := lv_sub hl [0, 1, 3] rfl
              have hl : lv_has ls 4 [(2, .int (nI (i + 1))), (1, .int (nI (cN (i + 1) (mvB tk sa)))), (0, .ref (q 0))] := by
                rw [← show nI (cN i (mvB tk sa) + 1) = nI (cN (i + 1) (mvB tk sa)) from by simp [mvB, cN, c_57]]
                exact hl
              have hP : va_P D vwCl (List.flatten [wM cI cZ cL q 0 N c fr tt (msS tk sa (i + 1)) tk tn tr op sl nd oi il tl go gt fa mn nx]) _ := hP
              have hD : va_D A (List.flatten [wM cI cZ cL q 0 N c fr tt (msS tk sa (i + 1)) tk tn tr op sl nd oi il tl go gt fa mn nx]) := hD
              exact ih_9 (i + 1) (by omega) (by omega) _ _ hP hD hS _ hl
  have hl : lv_has ls 4 [(2, .int (0 : Int32)), (1, .int (0 : Int32)), (0, .ref (q 0))] := lv_sub hl [0, 1, 2] rfl
  have hl : lv_has ls 4 [(2, .int (nI 0)), (1, .int (nI (cN 0 (mvB tk sa)))), (0, .ref (q 0))] := by
    rw [← show (0 : Int32) = nI (cN 0 (mvB tk sa)) from by first | rfl | simp [mvB, mv, cN]]
    exact hl
  have hq0 : sa = msS tk sa 0 := pfx_0.symm
  have hP : va_P D vwCl (List.flatten [wM cI cZ cL q 0 N c fr tt (msS tk sa 0) tk tn tr op sl nd oi il tl go gt fa mn nx]) _ := wCast hP (by rw [← hq0])
  have hD : va_D A (List.flatten [wM cI cZ cL q 0 N c fr tt (msS tk sa 0) tk tn tr op sl nd oi il tl go gt fa mn nx]) := dCast hD (by rw [← hq0])
  exact loop_9 (c + 1) 0 (by omega) (by omega) _ _ hP hD hS _ hl

set_option maxHeartbeats 8000000 in
set_option maxRecDepth 100000 in
theorem k5_pack (l : Launch) (D : va_G) (cI cZ cL : ClassId) (q : Nat → Nat) (th : Nat) (N : Nat) (c : Nat) (fr : Nat → Int32) (tt : Nat → Int32) (sa : Nat → Int32) (tk : Nat → Int32) (tn : Nat) (tr : Nat → Int32) (op : Nat → Int32) (sl : Nat → Int32) (nd : Nat → Int32) (oi : Nat → Int32) (il : Nat → Int32) (tl : Nat → Int32) (go : Nat → Int32) (gt : Nat → Int32) (fa : Nat → Int32) (mn : Nat → Int64) (nx : Nat → Int64) (hc : c ≤ 160) : McI l D (tY cI cZ cL) yX5_pack wsX5_pack 2 44 [.ref (q 0)] ([wM cI cZ cL q th N c fr tt sa tk tn tr op sl nd oi il tl go gt fa mn nx]) (fun r (_ : Unit) => r = nI (cN c (nlB (msS tk sa c)))) (fun (_ : Unit) => [wM cI cZ cL q 0 N (cN c (nlB (msS tk sa c))) (pkG (nlB (msS tk sa c)) fr fr c) (pkG (nlB (msS tk sa c)) tt tt c) (pkG (nlB (msS tk sa c)) (fun _ => 1) (msS tk sa c) c) (pkG (nlB (msS tk sa c)) (fun _ => 0) tk c) c (pfx (trV (nlB (msS tk sa c))) tr c) op (stl sl) nd oi il tl go gt fa mn nx]) := by
  refine q_ofW (Qc := fun A => (va_Qi (fun r (_ : Unit) => r = nI (cN c (nlB (msS tk sa c)))) (fun u t => mAt D (tY cI cZ cL) A ((fun (_ : Unit) => [wM cI cZ cL q 0 N (cN c (nlB (msS tk sa c))) (pkG (nlB (msS tk sa c)) fr fr c) (pkG (nlB (msS tk sa c)) tt tt c) (pkG (nlB (msS tk sa c)) (fun _ => 1) (msS tk sa c) c) (pkG (nlB (msS tk sa c)) (fun _ => 0) tk c) c (pfx (trV (nlB (msS tk sa c))) tr c) op (stl sl) nd oi il tl go gt fa mn nx]) u) t) A)) (cc := cX5_pack) (maxL := 3) (ret := (some .int)) (by decide) rfl (Nat.le_of_ble_eq_true rfl) ?_
  intro pz ez sz mz bz tz cz hx hb hml hr hlocks hts hown hK hP A hD hA ls hl
  have hS : va_S A sz.heap sz.heap [] := va_S.rf
  have hl : lv_has ls 3 [(0, .ref (q 0))] := hl
  refine lv_aload_n hx hb dX5_pack_0 rfl (lv_at hl 0 rfl) ?_
  refine lv_iconst (v := (0 : Int32)) hx hb dX5_pack_1 (by decide) ?_
  refine q_put (D := D) (ci := 5) (v := .int (nI 0)) (ty := .int) (C := RX5) (T := TX5) (N := 20) hx hb hts (by decide +kernel) tyX5 tyX5_ok nmX5 hown hK hP hD hS 0 0 rfl rfl rfl 0 (by decide) (hts (.fieldLink RX5 1 "OffsetRowsModel" "thrown" "I") (by decide +kernel)) (fun _ h9 => h9) rfl (by decide +kernel) rfl rfl (Nat.le_of_ble_eq_true rfl) dX5_pack_2 (wM_s_th (g9 := 0)) (Fs' := [wM cI cZ cL q 0 N c fr tt sa tk tn tr op sl nd oi il tl go gt fa mn nx]) rfl (fun H locs hP hD hS => ?_)
  refine lv_aload_n hx hb dX5_pack_5 rfl (lv_at hl 0 rfl) ?_
  refine q_callVi (index := 80) (n := 0) (As := []) (rest := []) (js := [0]) (ci := 5) ⟨hx, hb, hml, hown, hts⟩ hK hP hD hS hA (k5_merge l D cI cZ cL q 0 N c fr tt sa tk tn tr op sl nd oi il tl go gt fa mn nx (by omega)) rfl (by decide) (fun _ => by simp only [List.map_cons, List.map_nil, wM_fst]) (fun (_ : Unit) => [wM cI cZ cL q 0 N c fr tt (msS tk sa c) tk tn tr op (stl sl) nd oi il tl go gt fa mn nx]) (fun _ => rfl) gX5_pack_X5_merge rfl (by decide +kernel) rfl ⟨by decide, by decide⟩ rfl rfl rfl rfl hl.1 (Nat.le_of_ble_eq_true rfl) ⟨(Nat.zero_le _), (Nat.zero_le _)⟩ dX5_pack_6 rfl (fun r _ H locs hw hP hD hS => ?_)
  have hw : r = nI (cN c (mvB tk sa)) := hw
  subst hw
  refine lv_pop hx hb dX5_pack_9 rfl ?_
  refine lv_iconst (v := (0 : Int32)) hx hb dX5_pack_10 (by decide) ?_
  refine lv_istore_n (lv' := [(1, .int (0 : Int32)), (0, .ref (q 0))]) hx hb dX5_pack_11 rfl hl (by decide) rfl (fun ls hl => ?_)
  refine lv_iconst (v := (0 : Int32)) hx hb dX5_pack_12 (by decide) ?_
  refine lv_istore_n (lv' := [(2, .int (0 : Int32)), (1, .int (0 : Int32)), (0, .ref (q 0))]) hx hb dX5_pack_13 rfl hl (by decide) rfl (fun ls hl => ?_)
  have loop_14 : ∀ (k_14 i : Nat), i ≤ c → c < i + k_14 → ∀ (H : Heap) (locs : List Loc), va_P D vwCl (List.flatten [wM cI cZ cL q 0 N c (pkG (nlB (msS tk sa c)) fr fr i) (pkG (nlB (msS tk sa c)) tt tt i) (pkG (nlB (msS tk sa c)) (fun _ => 1) (msS tk sa c) i) (pkG (nlB (msS tk sa c)) (fun _ => 0) tk i) tn (pfx (trV (nlB (msS tk sa c))) tr i) op (stl sl) nd oi il tl go gt fa mn nx]) H → va_D A (List.flatten [wM cI cZ cL q 0 N c (pkG (nlB (msS tk sa c)) fr fr i) (pkG (nlB (msS tk sa c)) tt tt i) (pkG (nlB (msS tk sa c)) (fun _ => 1) (msS tk sa c) i) (pkG (nlB (msS tk sa c)) (fun _ => 0) tk i) tn (pfx (trV (nlB (msS tk sa c))) tr i) op (stl sl) nd oi il tl go gt fa mn nx]) → va_S A sz.heap H locs → ∀ (ls : Array Slot), lv_has ls 3 [(2, .int (nI i)), (1, .int (nI (cN i (nlB (msS tk sa c))))), (0, .ref (q 0))] → W pz l ez (rM 2 44) sz mz [.ref (q 0)].toArray bz tz cz H locs 0 0 (MQ bz (va_Qi (fun r (_ : Unit) => r = nI (cN c (nlB (msS tk sa c)))) (fun u t => mAt D (tY cI cZ cL) A ((fun (_ : Unit) => [wM cI cZ cL q 0 N (cN c (nlB (msS tk sa c))) (pkG (nlB (msS tk sa c)) fr fr c) (pkG (nlB (msS tk sa c)) tt tt c) (pkG (nlB (msS tk sa c)) (fun _ => 1) (msS tk sa c) c) (pkG (nlB (msS tk sa c)) (fun _ => 0) tk c) c (pfx (trV (nlB (msS tk sa c))) tr c) op (stl sl) nd oi il tl go gt fa mn nx]) u) t) A) [.ref (q 0)].toArray sz 0 0 A) (F0 mz 14 ls [])  := by
    intro k_14
    induction k_14 with
    | zero => intro i hi_14 hk_14; exact absurd hk_14 (by omega)
    | succ k_14 ih_14 =>
      intro i hi_14 hk_14 H locs hP hD hS ls hl
      refine lv_iload_n hx hb dX5_pack_14 rfl (lv_at hl 0 rfl) ?_
      refine lv_aload_n hx hb dX5_pack_15 rfl (lv_at hl 2 rfl) ?_
      refine q_get (D := D) (ci := 5) (v := .int (nI c)) (C := RX5) (T := TX5) (N := 20) hx hb hts (by decide +kernel) hown hK hP 0 0 rfl rfl rfl 2 (by decide) (hts (.fieldLink RX5 67 "OffsetRowsModel" "arcs" "I") (by decide +kernel)) (fun _ h9 => h9) rfl dX5_pack_16 ?_
      have hcn := cN_le i (nlB (msS tk sa c))
      refine lv_icmp_ge (tgt := 93) hx hb dX5_pack_19 (by decide) (fun c_19 => ?_) (fun c_19 => ?_)
      ·
        have n_19 : c ≤ i := (nI_leI (a := c) (b := i) (by omega) (by omega)).mp c_19
        refine lv_aload_n hx hb dX5_pack_93 rfl (lv_at hl 2 rfl) ?_
        refine lv_aload_n hx hb dX5_pack_94 rfl (lv_at hl 2 rfl) ?_
        refine q_get (D := D) (ci := 5) (v := .int (nI c)) (C := RX5) (T := TX5) (N := 20) hx hb hts (by decide +kernel) hown hK hP 0 0 rfl rfl rfl 2 (by decide) (hts (.fieldLink RX5 67 "OffsetRowsModel" "arcs" "I") (by decide +kernel)) (fun _ h9 => h9) rfl dX5_pack_95 ?_
        refine q_put (D := D) (ci := 5) (v := .int (nI c)) (ty := .int) (C := RX5) (T := TX5) (N := 20) hx hb hts (by decide +kernel) tyX5 tyX5_ok nmX5 hown hK hP hD hS 0 0 rfl rfl rfl 7 (by decide) (hts (.fieldLink RX5 84 "OffsetRowsModel" "turns" "I") (by decide +kernel)) (fun _ h9 => h9) rfl (by decide +kernel) rfl rfl (Nat.le_of_ble_eq_true rfl) dX5_pack_98 (wM_s_tn (g9 := c)) (Fs' := [wM cI cZ cL q 0 N c (pkG (nlB (msS tk sa c)) fr fr i) (pkG (nlB (msS tk sa c)) tt tt i) (pkG (nlB (msS tk sa c)) (fun _ => 1) (msS tk sa c) i) (pkG (nlB (msS tk sa c)) (fun _ => 0) tk i) c (pfx (trV (nlB (msS tk sa c))) tr i) op (stl sl) nd oi il tl go gt fa mn nx]) rfl (fun H locs hP hD hS => ?_)
        refine lv_aload_n hx hb dX5_pack_101 rfl (lv_at hl 2 rfl) ?_
        refine lv_iload_n hx hb dX5_pack_102 rfl (lv_at hl 1 rfl) ?_
        refine q_put (D := D) (ci := 5) (v := .int (nI (cN i (nlB (msS tk sa c))))) (ty := .int) (C := RX5) (T := TX5) (N := 20) hx hb hts (by decide +kernel) tyX5 tyX5_ok nmX5 hown hK hP hD hS 0 0 rfl rfl rfl 2 (by decide) (hts (.fieldLink RX5 67 "OffsetRowsModel" "arcs" "I") (by decide +kernel)) (fun _ h9 => h9) rfl (by decide +kernel) rfl rfl (Nat.le_of_ble_eq_true rfl) dX5_pack_103 (wM_s_c (g9 := cN i (nlB (msS tk sa c)))) (Fs' := [wM cI cZ cL q 0 N (cN i (nlB (msS tk sa c))) (pkG (nlB (msS tk sa c)) fr fr i) (pkG (nlB (msS tk sa c)) tt tt i) (pkG (nlB (msS tk sa c)) (fun _ => 1) (msS tk sa c) i) (pkG (nlB (msS tk sa c)) (fun _ => 0) tk i) c (pfx (trV (nlB (msS tk sa c))) tr i) op (stl sl) nd oi il tl go gt fa mn nx]) rfl (fun H locs hP hD hS => ?_)
        refine lv_iload_n hx hb dX5_pack_106 rfl (lv_at hl 1 rfl) ?_
        exact q_iret (()) hx hb hr hlocks hK hP hD hS (by rw [show i = c by omega]) (by rw [show i = c by omega]) dX5_pack_107
      ·
        have n_19 : ¬ c ≤ i := fun h9 => c_19 ((nI_leI (a := c) (b := i) (by omega) (by omega)).mpr h9)
        refine lv_aload_n hx hb dX5_pack_22 rfl (lv_at hl 2 rfl) ?_
        refine q_get (D := D) (ci := 5) (v := .ref (q 5)) (C := RX5) (T := TX5) (N := 20) hx hb hts (by decide +kernel) hown hK hP 0 0 rfl rfl rfl 8 (by decide) (hts (.fieldLink RX5 27 "OffsetRowsModel" "turn" "[I") (by decide +kernel)) (fun _ h9 => h9) rfl dX5_pack_23 ?_
        refine lv_iload_n hx hb dX5_pack_26 rfl (lv_at hl 0 rfl) ?_
        refine lv_iconst (v := (-1)) hx hb dX5_pack_27 (by decide) ?_
        refine q_iast hx hb hK hP hD hS 0 5 0 rfl (f := pfx (trV (nlB (msS tk sa c))) tr i) rfl rfl (k := i) (nI_clamp (n := i) (by omega)) (vp_in_nI (show i < 160 from by omega) (by omega)) dX5_pack_28 wM_s_tr (Fs' := [wM cI cZ cL q 0 N c (pkG (nlB (msS tk sa c)) fr fr i) (pkG (nlB (msS tk sa c)) tt tt i) (pkG (nlB (msS tk sa c)) (fun _ => 1) (msS tk sa c) i) (pkG (nlB (msS tk sa c)) (fun _ => 0) tk i) tn (upd (pfx (trV (nlB (msS tk sa c))) tr i) i (-1 : Int32)) op (stl sl) nd oi il tl go gt fa mn nx]) rfl (fun H locs hP hD hS => ?_)
        refine lv_aload_n hx hb dX5_pack_29 rfl (lv_at hl 2 rfl) ?_
        refine q_get (D := D) (ci := 5) (v := .ref (q 3)) (C := RX5) (T := TX5) (N := 20) hx hb hts (by decide +kernel) hown hK hP 0 0 rfl rfl rfl 5 (by decide) (hts (.fieldLink RX5 20 "OffsetRowsModel" "state" "[I") (by decide +kernel)) (fun _ h9 => h9) rfl dX5_pack_30 ?_
        refine lv_iload_n hx hb dX5_pack_33 rfl (lv_at hl 0 rfl) ?_
        refine q_iald hx hb hK hP 0 3 0 rfl (f := pkG (nlB (msS tk sa c)) (fun _ => 1) (msS tk sa c) i) rfl rfl (k := i) (nI_clamp (n := i) (by omega)) (vp_in_nI (show i < 160 from by omega) (by omega)) dX5_pack_34 ?_
        refine q_top (z := msS tk sa c i) (pkG_ge (Nat.le_refl i)) ?_
        refine lv_iconst (v := (2 : Int32)) hx hb dX5_pack_35 (by decide) ?_
        refine lv_icmp_eq (tgt := 87) hx hb dX5_pack_36 (by decide) (fun c_36 => ?_) (fun c_36 => ?_)
        ·
          refine lv_iinc (v := nI (i + 1)) (lv' := [(2, .int (nI (i + 1))), (1, .int (nI (cN i (nlB (msS tk sa c))))), (0, .ref (q 0))]) hx hb dX5_pack_87 hl (k := 0) rfl (nI_add i 1) (by decide) rfl (fun ls hl => ?_)
          refine lv_goto (tgt := 14) hx hb dX5_pack_90 (by decide) ?_
          have hl : lv_has ls 3 [(2, .int (nI (i + 1))), (1, .int (nI (cN i (nlB (msS tk sa c))))), (0, .ref (q 0))] := lv_sub hl [0, 1, 2] rfl
          have hl : lv_has ls 3 [(2, .int (nI (i + 1))), (1, .int (nI (cN (i + 1) (nlB (msS tk sa c))))), (0, .ref (q 0))] := by
            rw [← show nI (cN i (nlB (msS tk sa c))) = nI (cN (i + 1) (nlB (msS tk sa c))) from by first | rfl | simp [cN, nlB, c_19, n_19, c_36]]
            exact hl
          have hq0 : pkG (nlB (msS tk sa c)) fr fr i = pkG (nlB (msS tk sa c)) fr fr (i + 1) := pkG_n (by simp [nlB, c_19, n_19, c_36])
          have hq1 : pkG (nlB (msS tk sa c)) tt tt i = pkG (nlB (msS tk sa c)) tt tt (i + 1) := pkG_n (by simp [nlB, c_19, n_19, c_36])
          have hq2 : pkG (nlB (msS tk sa c)) (fun _ => 1) (msS tk sa c) i = pkG (nlB (msS tk sa c)) (fun _ => 1) (msS tk sa c) (i + 1) := pkG_n (by simp [nlB, c_19, n_19, c_36])
          have hq3 : pkG (nlB (msS tk sa c)) (fun _ => 0) tk i = pkG (nlB (msS tk sa c)) (fun _ => 0) tk (i + 1) := pkG_n (by simp [nlB, c_19, n_19, c_36])
          have hq4 : upd (pfx (trV (nlB (msS tk sa c))) tr i) i (-1 : Int32) = pfx (trV (nlB (msS tk sa c))) tr (i + 1) := pfx_w (by simp [trV, nlB, c_19, n_19, c_36])
          have hP : va_P D vwCl (List.flatten [wM cI cZ cL q 0 N c (pkG (nlB (msS tk sa c)) fr fr (i + 1)) (pkG (nlB (msS tk sa c)) tt tt (i + 1)) (pkG (nlB (msS tk sa c)) (fun _ => 1) (msS tk sa c) (i + 1)) (pkG (nlB (msS tk sa c)) (fun _ => 0) tk (i + 1)) tn (pfx (trV (nlB (msS tk sa c))) tr (i + 1)) op (stl sl) nd oi il tl go gt fa mn nx]) _ := wCast hP (by rw [← hq0, ← hq1, ← hq2, ← hq3, ← hq4])
          have hD : va_D A (List.flatten [wM cI cZ cL q 0 N c (pkG (nlB (msS tk sa c)) fr fr (i + 1)) (pkG (nlB (msS tk sa c)) tt tt (i + 1)) (pkG (nlB (msS tk sa c)) (fun _ => 1) (msS tk sa c) (i + 1)) (pkG (nlB (msS tk sa c)) (fun _ => 0) tk (i + 1)) tn (pfx (trV (nlB (msS tk sa c))) tr (i + 1)) op (stl sl) nd oi il tl go gt fa mn nx]) := dCast hD (by rw [← hq0, ← hq1, ← hq2, ← hq3, ← hq4])
          exact ih_14 (i + 1) (by omega) (by omega) _ _ hP hD hS _ hl
        ·
          refine lv_aload_n hx hb dX5_pack_39 rfl (lv_at hl 2 rfl) ?_
          refine q_get (D := D) (ci := 5) (v := .ref (q 5)) (C := RX5) (T := TX5) (N := 20) hx hb hts (by decide +kernel) hown hK hP 0 0 rfl rfl rfl 8 (by decide) (hts (.fieldLink RX5 27 "OffsetRowsModel" "turn" "[I") (by decide +kernel)) (fun _ h9 => h9) rfl dX5_pack_40 ?_
          refine lv_iload_n hx hb dX5_pack_43 rfl (lv_at hl 0 rfl) ?_
          refine lv_iload_n hx hb dX5_pack_44 rfl (lv_at hl 1 rfl) ?_
          refine q_iast hx hb hK hP hD hS 0 5 0 rfl (f := upd (pfx (trV (nlB (msS tk sa c))) tr i) i (-1 : Int32)) rfl rfl (k := i) (nI_clamp (n := i) (by omega)) (vp_in_nI (show i < 160 from by omega) (by omega)) dX5_pack_45 wM_s_tr (Fs' := [wM cI cZ cL q 0 N c (pkG (nlB (msS tk sa c)) fr fr i) (pkG (nlB (msS tk sa c)) tt tt i) (pkG (nlB (msS tk sa c)) (fun _ => 1) (msS tk sa c) i) (pkG (nlB (msS tk sa c)) (fun _ => 0) tk i) tn (upd (upd (pfx (trV (nlB (msS tk sa c))) tr i) i (-1 : Int32)) i (nI (cN i (nlB (msS tk sa c))))) op (stl sl) nd oi il tl go gt fa mn nx]) rfl (fun H locs hP hD hS => ?_)
          have hP : va_P D vwCl (List.flatten [wM cI cZ cL q 0 N c (pkG (nlB (msS tk sa c)) fr fr i) (pkG (nlB (msS tk sa c)) tt tt i) (pkG (nlB (msS tk sa c)) (fun _ => 1) (msS tk sa c) i) (pkG (nlB (msS tk sa c)) (fun _ => 0) tk i) tn (pfx (trV (nlB (msS tk sa c))) tr (i + 1)) op (stl sl) nd oi il tl go gt fa mn nx]) _ := wCast hP (by rw [show upd (upd (pfx (trV (nlB (msS tk sa c))) tr i) i (-1 : Int32)) i (nI (cN i (nlB (msS tk sa c)))) = pfx (trV (nlB (msS tk sa c))) tr (i + 1) from pfx_w2 (by simp [trV, nlB, c_19, n_19, c_36])])
          have hD : va_D A (List.flatten [wM cI cZ cL q 0 N c (pkG (nlB (msS tk sa c)) fr fr i) (pkG (nlB (msS tk sa c)) tt tt i) (pkG (nlB (msS tk sa c)) (fun _ => 1) (msS tk sa c) i) (pkG (nlB (msS tk sa c)) (fun _ => 0) tk i) tn (pfx (trV (nlB (msS tk sa c))) tr (i + 1)) op (stl sl) nd oi il tl go gt fa mn nx]) := dCast hD (by rw [show upd (upd (pfx (trV (nlB (msS tk sa c))) tr i) i (-1 : Int32)) i (nI (cN i (nlB (msS tk sa c)))) = pfx (trV (nlB (msS tk sa c))) tr (i + 1) from pfx_w2 (by simp [trV, nlB, c_19, n_19, c_36])])
          refine lv_aload_n hx hb dX5_pack_46 rfl (lv_at hl 2 rfl) ?_
          refine q_get (D := D) (ci := 5) (v := .ref (q 1)) (C := RX5) (T := TX5) (N := 20) hx hb hts (by decide +kernel) hown hK hP 0 0 rfl rfl rfl 3 (by decide) (hts (.fieldLink RX5 13 "OffsetRowsModel" "from" "[I") (by decide +kernel)) (fun _ h9 => h9) rfl dX5_pack_47 ?_
          refine lv_iload_n hx hb dX5_pack_50 rfl (lv_at hl 1 rfl) ?_
          refine lv_aload_n hx hb dX5_pack_51 rfl (lv_at hl 2 rfl) ?_
          refine q_get (D := D) (ci := 5) (v := .ref (q 1)) (C := RX5) (T := TX5) (N := 20) hx hb hts (by decide +kernel) hown hK hP 0 0 rfl rfl rfl 3 (by decide) (hts (.fieldLink RX5 13 "OffsetRowsModel" "from" "[I") (by decide +kernel)) (fun _ h9 => h9) rfl dX5_pack_52 ?_
          refine lv_iload_n hx hb dX5_pack_55 rfl (lv_at hl 0 rfl) ?_
          refine q_iald hx hb hK hP 0 1 0 rfl (f := pkG (nlB (msS tk sa c)) fr fr i) rfl rfl (k := i) (nI_clamp (n := i) (by omega)) (vp_in_nI (show i < 160 from by omega) (by omega)) dX5_pack_56 ?_
          refine q_top (z := fr i) (pkG_ge (Nat.le_refl i)) ?_
          refine q_iast hx hb hK hP hD hS 0 1 0 rfl (f := pkG (nlB (msS tk sa c)) fr fr i) rfl rfl (k := cN i (nlB (msS tk sa c))) (nI_clamp (n := cN i (nlB (msS tk sa c))) (by omega)) (vp_in_nI (show cN i (nlB (msS tk sa c)) < 160 from by omega) (by omega)) dX5_pack_57 wM_s_fr (Fs' := [wM cI cZ cL q 0 N c (upd (pkG (nlB (msS tk sa c)) fr fr i) (cN i (nlB (msS tk sa c))) (fr i)) (pkG (nlB (msS tk sa c)) tt tt i) (pkG (nlB (msS tk sa c)) (fun _ => 1) (msS tk sa c) i) (pkG (nlB (msS tk sa c)) (fun _ => 0) tk i) tn (pfx (trV (nlB (msS tk sa c))) tr (i + 1)) op (stl sl) nd oi il tl go gt fa mn nx]) rfl (fun H locs hP hD hS => ?_)
          have hP : va_P D vwCl (List.flatten [wM cI cZ cL q 0 N c (pkG (nlB (msS tk sa c)) fr fr (i + 1)) (pkG (nlB (msS tk sa c)) tt tt i) (pkG (nlB (msS tk sa c)) (fun _ => 1) (msS tk sa c) i) (pkG (nlB (msS tk sa c)) (fun _ => 0) tk i) tn (pfx (trV (nlB (msS tk sa c))) tr (i + 1)) op (stl sl) nd oi il tl go gt fa mn nx]) _ := wCast hP (by rw [show upd (pkG (nlB (msS tk sa c)) fr fr i) (cN i (nlB (msS tk sa c))) (fr i) = pkG (nlB (msS tk sa c)) fr fr (i + 1) from pkG_y (by simp [nlB, c_19, n_19, c_36]) rfl])
          have hD : va_D A (List.flatten [wM cI cZ cL q 0 N c (pkG (nlB (msS tk sa c)) fr fr (i + 1)) (pkG (nlB (msS tk sa c)) tt tt i) (pkG (nlB (msS tk sa c)) (fun _ => 1) (msS tk sa c) i) (pkG (nlB (msS tk sa c)) (fun _ => 0) tk i) tn (pfx (trV (nlB (msS tk sa c))) tr (i + 1)) op (stl sl) nd oi il tl go gt fa mn nx]) := dCast hD (by rw [show upd (pkG (nlB (msS tk sa c)) fr fr i) (cN i (nlB (msS tk sa c))) (fr i) = pkG (nlB (msS tk sa c)) fr fr (i + 1) from pkG_y (by simp [nlB, c_19, n_19, c_36]) rfl])
          refine lv_aload_n hx hb dX5_pack_58 rfl (lv_at hl 2 rfl) ?_
          refine q_get (D := D) (ci := 5) (v := .ref (q 2)) (C := RX5) (T := TX5) (N := 20) hx hb hts (by decide +kernel) hown hK hP 0 0 rfl rfl rfl 4 (by decide) (hts (.fieldLink RX5 17 "OffsetRowsModel" "to" "[I") (by decide +kernel)) (fun _ h9 => h9) rfl dX5_pack_59 ?_
          refine lv_iload_n hx hb dX5_pack_62 rfl (lv_at hl 1 rfl) ?_
          refine lv_aload_n hx hb dX5_pack_63 rfl (lv_at hl 2 rfl) ?_
          refine q_get (D := D) (ci := 5) (v := .ref (q 2)) (C := RX5) (T := TX5) (N := 20) hx hb hts (by decide +kernel) hown hK hP 0 0 rfl rfl rfl 4 (by decide) (hts (.fieldLink RX5 17 "OffsetRowsModel" "to" "[I") (by decide +kernel)) (fun _ h9 => h9) rfl dX5_pack_64 ?_
          refine lv_iload_n hx hb dX5_pack_67 rfl (lv_at hl 0 rfl) ?_
          refine q_iald hx hb hK hP 0 2 0 rfl (f := pkG (nlB (msS tk sa c)) tt tt i) rfl rfl (k := i) (nI_clamp (n := i) (by omega)) (vp_in_nI (show i < 160 from by omega) (by omega)) dX5_pack_68 ?_
          refine q_top (z := tt i) (pkG_ge (Nat.le_refl i)) ?_
          refine q_iast hx hb hK hP hD hS 0 2 0 rfl (f := pkG (nlB (msS tk sa c)) tt tt i) rfl rfl (k := cN i (nlB (msS tk sa c))) (nI_clamp (n := cN i (nlB (msS tk sa c))) (by omega)) (vp_in_nI (show cN i (nlB (msS tk sa c)) < 160 from by omega) (by omega)) dX5_pack_69 wM_s_tt (Fs' := [wM cI cZ cL q 0 N c (pkG (nlB (msS tk sa c)) fr fr (i + 1)) (upd (pkG (nlB (msS tk sa c)) tt tt i) (cN i (nlB (msS tk sa c))) (tt i)) (pkG (nlB (msS tk sa c)) (fun _ => 1) (msS tk sa c) i) (pkG (nlB (msS tk sa c)) (fun _ => 0) tk i) tn (pfx (trV (nlB (msS tk sa c))) tr (i + 1)) op (stl sl) nd oi il tl go gt fa mn nx]) rfl (fun H locs hP hD hS => ?_)
          have hP : va_P D vwCl (List.flatten [wM cI cZ cL q 0 N c (pkG (nlB (msS tk sa c)) fr fr (i + 1)) (pkG (nlB (msS tk sa c)) tt tt (i + 1)) (pkG (nlB (msS tk sa c)) (fun _ => 1) (msS tk sa c) i) (pkG (nlB (msS tk sa c)) (fun _ => 0) tk i) tn (pfx (trV (nlB (msS tk sa c))) tr (i + 1)) op (stl sl) nd oi il tl go gt fa mn nx]) _ := wCast hP (by rw [show upd (pkG (nlB (msS tk sa c)) tt tt i) (cN i (nlB (msS tk sa c))) (tt i) = pkG (nlB (msS tk sa c)) tt tt (i + 1) from pkG_y (by simp [nlB, c_19, n_19, c_36]) rfl])
          have hD : va_D A (List.flatten [wM cI cZ cL q 0 N c (pkG (nlB (msS tk sa c)) fr fr (i + 1)) (pkG (nlB (msS tk sa c)) tt tt (i + 1)) (pkG (nlB (msS tk sa c)) (fun _ => 1) (msS tk sa c) i) (pkG (nlB (msS tk sa c)) (fun _ => 0) tk i) tn (pfx (trV (nlB (msS tk sa c))) tr (i + 1)) op (stl sl) nd oi il tl go gt fa mn nx]) := dCast hD (by rw [show upd (pkG (nlB (msS tk sa c)) tt tt i) (cN i (nlB (msS tk sa c))) (tt i) = pkG (nlB (msS tk sa c)) tt tt (i + 1) from pkG_y (by simp [nlB, c_19, n_19, c_36]) rfl])
          refine lv_aload_n hx hb dX5_pack_70 rfl (lv_at hl 2 rfl) ?_
          refine q_get (D := D) (ci := 5) (v := .ref (q 3)) (C := RX5) (T := TX5) (N := 20) hx hb hts (by decide +kernel) hown hK hP 0 0 rfl rfl rfl 5 (by decide) (hts (.fieldLink RX5 20 "OffsetRowsModel" "state" "[I") (by decide +kernel)) (fun _ h9 => h9) rfl dX5_pack_71 ?_
          refine lv_iload_n hx hb dX5_pack_74 rfl (lv_at hl 1 rfl) ?_
          refine lv_iconst (v := (1 : Int32)) hx hb dX5_pack_75 (by decide) ?_
          refine q_iast hx hb hK hP hD hS 0 3 0 rfl (f := pkG (nlB (msS tk sa c)) (fun _ => 1) (msS tk sa c) i) rfl rfl (k := cN i (nlB (msS tk sa c))) (nI_clamp (n := cN i (nlB (msS tk sa c))) (by omega)) (vp_in_nI (show cN i (nlB (msS tk sa c)) < 160 from by omega) (by omega)) dX5_pack_76 wM_s_sa (Fs' := [wM cI cZ cL q 0 N c (pkG (nlB (msS tk sa c)) fr fr (i + 1)) (pkG (nlB (msS tk sa c)) tt tt (i + 1)) (upd (pkG (nlB (msS tk sa c)) (fun _ => 1) (msS tk sa c) i) (cN i (nlB (msS tk sa c))) (1 : Int32)) (pkG (nlB (msS tk sa c)) (fun _ => 0) tk i) tn (pfx (trV (nlB (msS tk sa c))) tr (i + 1)) op (stl sl) nd oi il tl go gt fa mn nx]) rfl (fun H locs hP hD hS => ?_)
          have hP : va_P D vwCl (List.flatten [wM cI cZ cL q 0 N c (pkG (nlB (msS tk sa c)) fr fr (i + 1)) (pkG (nlB (msS tk sa c)) tt tt (i + 1)) (pkG (nlB (msS tk sa c)) (fun _ => 1) (msS tk sa c) (i + 1)) (pkG (nlB (msS tk sa c)) (fun _ => 0) tk i) tn (pfx (trV (nlB (msS tk sa c))) tr (i + 1)) op (stl sl) nd oi il tl go gt fa mn nx]) _ := wCast hP (by rw [show upd (pkG (nlB (msS tk sa c)) (fun _ => 1) (msS tk sa c) i) (cN i (nlB (msS tk sa c))) (1 : Int32) = pkG (nlB (msS tk sa c)) (fun _ => 1) (msS tk sa c) (i + 1) from pkG_y (by simp [nlB, c_19, n_19, c_36]) rfl])
          have hD : va_D A (List.flatten [wM cI cZ cL q 0 N c (pkG (nlB (msS tk sa c)) fr fr (i + 1)) (pkG (nlB (msS tk sa c)) tt tt (i + 1)) (pkG (nlB (msS tk sa c)) (fun _ => 1) (msS tk sa c) (i + 1)) (pkG (nlB (msS tk sa c)) (fun _ => 0) tk i) tn (pfx (trV (nlB (msS tk sa c))) tr (i + 1)) op (stl sl) nd oi il tl go gt fa mn nx]) := dCast hD (by rw [show upd (pkG (nlB (msS tk sa c)) (fun _ => 1) (msS tk sa c) i) (cN i (nlB (msS tk sa c))) (1 : Int32) = pkG (nlB (msS tk sa c)) (fun _ => 1) (msS tk sa c) (i + 1) from pkG_y (by simp [nlB, c_19, n_19, c_36]) rfl])
          refine lv_aload_n hx hb dX5_pack_77 rfl (lv_at hl 2 rfl) ?_
          refine q_get (D := D) (ci := 5) (v := .ref (q 4)) (C := RX5) (T := TX5) (N := 20) hx hb hts (by decide +kernel) hown hK hP 0 0 rfl rfl rfl 6 (by decide) (hts (.fieldLink RX5 23 "OffsetRowsModel" "isTaken" "[Z") (by decide +kernel)) (fun _ h9 => h9) rfl dX5_pack_78 ?_
          refine lv_iload_n hx hb dX5_pack_81 rfl (lv_at hl 1 rfl) ?_
          refine lv_iconst (v := (0 : Int32)) hx hb dX5_pack_82 (by decide) ?_
          refine q_zast hx hb hK hP hD hS 0 4 1 rfl (f := pkG (nlB (msS tk sa c)) (fun _ => 0) tk i) rfl rfl (k := cN i (nlB (msS tk sa c))) (nI_clamp (n := cN i (nlB (msS tk sa c))) (by omega)) (vp_in_nI (show cN i (nlB (msS tk sa c)) < 160 from by omega) (by omega)) rfl dX5_pack_83 wM_s_tk (Fs' := [wM cI cZ cL q 0 N c (pkG (nlB (msS tk sa c)) fr fr (i + 1)) (pkG (nlB (msS tk sa c)) tt tt (i + 1)) (pkG (nlB (msS tk sa c)) (fun _ => 1) (msS tk sa c) (i + 1)) (upd (pkG (nlB (msS tk sa c)) (fun _ => 0) tk i) (cN i (nlB (msS tk sa c))) (0 : Int32)) tn (pfx (trV (nlB (msS tk sa c))) tr (i + 1)) op (stl sl) nd oi il tl go gt fa mn nx]) rfl (fun H locs hP hD hS => ?_)
          have hP : va_P D vwCl (List.flatten [wM cI cZ cL q 0 N c (pkG (nlB (msS tk sa c)) fr fr (i + 1)) (pkG (nlB (msS tk sa c)) tt tt (i + 1)) (pkG (nlB (msS tk sa c)) (fun _ => 1) (msS tk sa c) (i + 1)) (pkG (nlB (msS tk sa c)) (fun _ => 0) tk (i + 1)) tn (pfx (trV (nlB (msS tk sa c))) tr (i + 1)) op (stl sl) nd oi il tl go gt fa mn nx]) _ := wCast hP (by rw [show upd (pkG (nlB (msS tk sa c)) (fun _ => 0) tk i) (cN i (nlB (msS tk sa c))) (0 : Int32) = pkG (nlB (msS tk sa c)) (fun _ => 0) tk (i + 1) from pkG_y (by simp [nlB, c_19, n_19, c_36]) rfl])
          have hD : va_D A (List.flatten [wM cI cZ cL q 0 N c (pkG (nlB (msS tk sa c)) fr fr (i + 1)) (pkG (nlB (msS tk sa c)) tt tt (i + 1)) (pkG (nlB (msS tk sa c)) (fun _ => 1) (msS tk sa c) (i + 1)) (pkG (nlB (msS tk sa c)) (fun _ => 0) tk (i + 1)) tn (pfx (trV (nlB (msS tk sa c))) tr (i + 1)) op (stl sl) nd oi il tl go gt fa mn nx]) := dCast hD (by rw [show upd (pkG (nlB (msS tk sa c)) (fun _ => 0) tk i) (cN i (nlB (msS tk sa c))) (0 : Int32) = pkG (nlB (msS tk sa c)) (fun _ => 0) tk (i + 1) from pkG_y (by simp [nlB, c_19, n_19, c_36]) rfl])
          refine lv_iinc (v := nI (cN i (nlB (msS tk sa c)) + 1)) (lv' := [(1, .int (nI (cN i (nlB (msS tk sa c)) + 1))), (2, .int (nI i)), (0, .ref (q 0))]) hx hb dX5_pack_84 hl (k := 1) rfl (nI_add (cN i (nlB (msS tk sa c))) 1) (by decide) rfl (fun ls hl => ?_)
          refine lv_iinc (v := nI (i + 1)) (lv' := [(2, .int (nI (i + 1))), (1, .int (nI (cN i (nlB (msS tk sa c)) + 1))), (0, .ref (q 0))]) hx hb dX5_pack_87 hl (k := 1) rfl (nI_add i 1) (by decide) rfl (fun ls hl => ?_)
          refine lv_goto (tgt := 14) hx hb dX5_pack_90 (by decide) ?_
          have hl : lv_has ls 3 [(2, .int (nI (i + 1))), (1, .int (nI (cN i (nlB (msS tk sa c)) + 1))), (0, .ref (q 0))] := lv_sub hl [0, 1, 2] rfl
          have hl : lv_has ls 3 [(2, .int (nI (i + 1))), (1, .int (nI (cN (i + 1) (nlB (msS tk sa c))))), (0, .ref (q 0))] := by
            rw [← show nI (cN i (nlB (msS tk sa c)) + 1) = nI (cN (i + 1) (nlB (msS tk sa c))) from by first | rfl | simp [cN, nlB, c_19, n_19, c_36]]
            exact hl
          have hP : va_P D vwCl (List.flatten [wM cI cZ cL q 0 N c (pkG (nlB (msS tk sa c)) fr fr (i + 1)) (pkG (nlB (msS tk sa c)) tt tt (i + 1)) (pkG (nlB (msS tk sa c)) (fun _ => 1) (msS tk sa c) (i + 1)) (pkG (nlB (msS tk sa c)) (fun _ => 0) tk (i + 1)) tn (pfx (trV (nlB (msS tk sa c))) tr (i + 1)) op (stl sl) nd oi il tl go gt fa mn nx]) _ := hP
          have hD : va_D A (List.flatten [wM cI cZ cL q 0 N c (pkG (nlB (msS tk sa c)) fr fr (i + 1)) (pkG (nlB (msS tk sa c)) tt tt (i + 1)) (pkG (nlB (msS tk sa c)) (fun _ => 1) (msS tk sa c) (i + 1)) (pkG (nlB (msS tk sa c)) (fun _ => 0) tk (i + 1)) tn (pfx (trV (nlB (msS tk sa c))) tr (i + 1)) op (stl sl) nd oi il tl go gt fa mn nx]) := hD
          exact ih_14 (i + 1) (by omega) (by omega) _ _ hP hD hS _ hl
  have hl : lv_has ls 3 [(2, .int (0 : Int32)), (1, .int (0 : Int32)), (0, .ref (q 0))] := lv_sub hl [0, 1, 2] rfl
  have hl : lv_has ls 3 [(2, .int (nI 0)), (1, .int (nI (cN 0 (nlB (msS tk sa c))))), (0, .ref (q 0))] := by
    rw [← show (0 : Int32) = nI (cN 0 (nlB (msS tk sa c))) from by first | rfl | simp [cN, nlB]]
    exact hl
  have hq0 : fr = pkG (nlB (msS tk sa c)) fr fr 0 := rfl
  have hq1 : tt = pkG (nlB (msS tk sa c)) tt tt 0 := rfl
  have hq2 : msS tk sa c = pkG (nlB (msS tk sa c)) (fun _ => 1) (msS tk sa c) 0 := rfl
  have hq3 : tk = pkG (nlB (msS tk sa c)) (fun _ => 0) tk 0 := rfl
  have hq4 : tr = pfx (trV (nlB (msS tk sa c))) tr 0 := pfx_0.symm
  have hP : va_P D vwCl (List.flatten [wM cI cZ cL q 0 N c (pkG (nlB (msS tk sa c)) fr fr 0) (pkG (nlB (msS tk sa c)) tt tt 0) (pkG (nlB (msS tk sa c)) (fun _ => 1) (msS tk sa c) 0) (pkG (nlB (msS tk sa c)) (fun _ => 0) tk 0) tn (pfx (trV (nlB (msS tk sa c))) tr 0) op (stl sl) nd oi il tl go gt fa mn nx]) _ := wCast hP (by rw [← hq0, ← hq1, ← hq2, ← hq3, ← hq4])
  have hD : va_D A (List.flatten [wM cI cZ cL q 0 N c (pkG (nlB (msS tk sa c)) fr fr 0) (pkG (nlB (msS tk sa c)) tt tt 0) (pkG (nlB (msS tk sa c)) (fun _ => 1) (msS tk sa c) 0) (pkG (nlB (msS tk sa c)) (fun _ => 0) tk 0) tn (pfx (trV (nlB (msS tk sa c))) tr 0) op (stl sl) nd oi il tl go gt fa mn nx]) := dCast hD (by rw [← hq0, ← hq1, ← hq2, ← hq3, ← hq4])
  exact loop_14 (c + 1) 0 (by omega) (by omega) _ _ hP hD hS _ hl

set_option maxHeartbeats 8000000 in
set_option maxRecDepth 100000 in
theorem k5_turned (l : Launch) (D : va_G) (cI cZ cL : ClassId) (q : Nat → Nat) (th : Nat) (N : Nat) (c : Nat) (fr : Nat → Int32) (tt : Nat → Int32) (sa : Nat → Int32) (tk : Nat → Int32) (tn : Nat) (tr : Nat → Int32) (op : Nat → Int32) (sl : Nat → Int32) (nd : Nat → Int32) (oi : Nat → Int32) (il : Nat → Int32) (tl : Nat → Int32) (go : Nat → Int32) (gt : Nat → Int32) (fa : Nat → Int32) (mn : Nat → Int64) (nx : Nat → Int64) (x : Int32) (htn : tn ≤ 160) : McI l D (tY cI cZ cL) yX5_turned wsX5_turned 0 0 [.ref (q 0), .int x] ([wM cI cZ cL q th N c fr tt sa tk tn tr op sl nd oi il tl go gt fa mn nx]) (fun r (_ : Unit) => r = tdR tn tr x) (fun (_ : Unit) => [wM cI cZ cL q 0 N c fr tt sa tk tn tr op sl nd oi il tl go gt fa mn nx]) := by
  refine q_ofW (Qc := fun A => (va_Qi (fun r (_ : Unit) => r = tdR tn tr x) (fun u t => mAt D (tY cI cZ cL) A ((fun (_ : Unit) => [wM cI cZ cL q 0 N c fr tt sa tk tn tr op sl nd oi il tl go gt fa mn nx]) u) t) A)) (cc := cX5_turned) (maxL := 2) (ret := (some .int)) (by decide) rfl (Nat.le_of_ble_eq_true rfl) ?_
  intro pz ez sz mz bz tz cz hx hb hml hr hlocks hts hown hK hP A hD hA ls hl
  have hS : va_S A sz.heap sz.heap [] := va_S.rf
  have hl : lv_has ls 2 [(0, .ref (q 0)), (1, .int x)] := hl
  refine lv_aload_n hx hb dX5_turned_0 rfl (lv_at hl 0 rfl) ?_
  refine lv_iconst (v := (0 : Int32)) hx hb dX5_turned_1 (by decide) ?_
  refine q_put (D := D) (ci := 5) (v := .int (nI 0)) (ty := .int) (C := RX5) (T := TX5) (N := 20) hx hb hts (by decide +kernel) tyX5 tyX5_ok nmX5 hown hK hP hD hS 0 0 rfl rfl rfl 0 (by decide) (hts (.fieldLink RX5 1 "OffsetRowsModel" "thrown" "I") (by decide +kernel)) (fun _ h9 => h9) rfl (by decide +kernel) rfl rfl (Nat.le_of_ble_eq_true rfl) dX5_turned_2 (wM_s_th (g9 := 0)) (Fs' := [wM cI cZ cL q 0 N c fr tt sa tk tn tr op sl nd oi il tl go gt fa mn nx]) rfl (fun H locs hP hD hS => ?_)
  refine lv_iload_n hx hb dX5_turned_5 rfl (lv_at hl 1 rfl) ?_
  refine lv_if_lt (tgt := 26) hx hb dX5_turned_6 (by decide) (fun c_6 => ?_) (fun c_6 => ?_)
  ·
    refine lv_bipush (v := (-2)) hx hb dX5_turned_26 (by decide) ?_
    exact q_iret (()) hx hb hr hlocks hK hP hD hS (by simp [tdR, hasB, c_6]) (rfl) dX5_turned_28
  ·
    refine lv_iload_n hx hb dX5_turned_9 rfl (lv_at hl 1 rfl) ?_
    refine lv_aload_n hx hb dX5_turned_10 rfl (lv_at hl 0 rfl) ?_
    refine q_get (D := D) (ci := 5) (v := .int (nI tn)) (C := RX5) (T := TX5) (N := 20) hx hb hts (by decide +kernel) hown hK hP 0 0 rfl rfl rfl 7 (by decide) (hts (.fieldLink RX5 84 "OffsetRowsModel" "turns" "I") (by decide +kernel)) (fun _ h9 => h9) rfl dX5_turned_11 ?_
    refine lv_icmp_ge (tgt := 26) hx hb dX5_turned_14 (by decide) (fun c_14 => ?_) (fun c_14 => ?_)
    ·
      refine lv_bipush (v := (-2)) hx hb dX5_turned_26 (by decide) ?_
      exact q_iret (()) hx hb hr hlocks hK hP hD hS (by simp [tdR, hasB, c_6, c_14]) (rfl) dX5_turned_28
    ·
      refine lv_aload_n hx hb dX5_turned_17 rfl (lv_at hl 0 rfl) ?_
      refine q_get (D := D) (ci := 5) (v := .ref (q 5)) (C := RX5) (T := TX5) (N := 20) hx hb hts (by decide +kernel) hown hK hP 0 0 rfl rfl rfl 8 (by decide) (hts (.fieldLink RX5 27 "OffsetRowsModel" "turn" "[I") (by decide +kernel)) (fun _ h9 => h9) rfl dX5_turned_18 ?_
      refine lv_iload_n hx hb dX5_turned_21 rfl (lv_at hl 1 rfl) ?_
      refine q_iald hx hb hK hP 0 5 0 rfl (f := tr) rfl rfl (k := x.toNatClampNeg) rfl (hasB_in (c := tn) (by simp [hasB, c_6, c_14]) htn (by decide)) dX5_turned_22 ?_
      refine lv_goto (tgt := 28) hx hb dX5_turned_23 (by decide) ?_
      exact q_iret (()) hx hb hr hlocks hK hP hD hS (by simp [tdR, hasB, c_6, c_14]) (rfl) dX5_turned_28

set_option maxHeartbeats 8000000 in
set_option maxRecDepth 100000 in
theorem k5_own (l : Launch) (D : va_G) (cI cZ cL : ClassId) (q : Nat → Nat) (th : Nat) (N : Nat) (c : Nat) (fr : Nat → Int32) (tt : Nat → Int32) (sa : Nat → Int32) (tk : Nat → Int32) (tn : Nat) (tr : Nat → Int32) (op : Nat → Int32) (sl : Nat → Int32) (nd : Nat → Int32) (oi : Nat → Int32) (il : Nat → Int32) (tl : Nat → Int32) (go : Nat → Int32) (gt : Nat → Int32) (fa : Nat → Int32) (mn : Nat → Int64) (nx : Nat → Int64) (j : Nat) (z : Int32) (hc : c ≤ 160) (hj : j < c) : McI l D (tY cI cZ cL) yX5_own wsX5_own 0 0 [.ref (q 0), .int (nI j), .int z] ([wM cI cZ cL q th N c fr tt sa tk tn tr op sl nd oi il tl go gt fa mn nx]) (fun r (_ : Unit) => r = ownI fr tt z j) (fun (_ : Unit) => [wM cI cZ cL q th N c fr tt sa tk tn tr op sl nd oi il tl go gt fa mn nx]) := by
  refine q_ofW (Qc := fun A => (va_Qi (fun r (_ : Unit) => r = ownI fr tt z j) (fun u t => mAt D (tY cI cZ cL) A ((fun (_ : Unit) => [wM cI cZ cL q th N c fr tt sa tk tn tr op sl nd oi il tl go gt fa mn nx]) u) t) A)) (cc := cX5_own) (maxL := 3) (ret := (some .int)) (by decide) rfl (Nat.le_of_ble_eq_true rfl) ?_
  intro pz ez sz mz bz tz cz hx hb hml hr hlocks hts hown hK hP A hD hA ls hl
  have hS : va_S A sz.heap sz.heap [] := va_S.rf
  have hl : lv_has ls 3 [(0, .ref (q 0)), (1, .int (nI j)), (2, .int z)] := hl
  refine lv_iload_n hx hb dX5_own_0 rfl (lv_at hl 2 rfl) ?_
  refine lv_if_eq (tgt := 13) hx hb dX5_own_1 (by decide) (fun c_1 => ?_) (fun c_1 => ?_)
  ·
    refine lv_aload_n hx hb dX5_own_13 rfl (lv_at hl 0 rfl) ?_
    refine q_get (D := D) (ci := 5) (v := .ref (q 1)) (C := RX5) (T := TX5) (N := 20) hx hb hts (by decide +kernel) hown hK hP 0 0 rfl rfl rfl 3 (by decide) (hts (.fieldLink RX5 13 "OffsetRowsModel" "from" "[I") (by decide +kernel)) (fun _ h9 => h9) rfl dX5_own_14 ?_
    refine lv_iload_n hx hb dX5_own_17 rfl (lv_at hl 1 rfl) ?_
    refine q_iald hx hb hK hP 0 1 0 rfl (f := fr) rfl rfl (k := j) (nI_clamp (n := j) (by omega)) (vp_in_nI (show j < 160 from by omega) (by omega)) dX5_own_18 ?_
    exact q_iret (()) hx hb hr hlocks hK hP hD hS (by simp [ownI, c_1]) (rfl) dX5_own_19
  ·
    refine lv_aload_n hx hb dX5_own_4 rfl (lv_at hl 0 rfl) ?_
    refine q_get (D := D) (ci := 5) (v := .ref (q 2)) (C := RX5) (T := TX5) (N := 20) hx hb hts (by decide +kernel) hown hK hP 0 0 rfl rfl rfl 4 (by decide) (hts (.fieldLink RX5 17 "OffsetRowsModel" "to" "[I") (by decide +kernel)) (fun _ h9 => h9) rfl dX5_own_5 ?_
    refine lv_iload_n hx hb dX5_own_8 rfl (lv_at hl 1 rfl) ?_
    refine q_iald hx hb hK hP 0 2 0 rfl (f := tt) rfl rfl (k := j) (nI_clamp (n := j) (by omega)) (vp_in_nI (show j < 160 from by omega) (by omega)) dX5_own_9 ?_
    refine lv_goto (tgt := 19) hx hb dX5_own_10 (by decide) ?_
    exact q_iret (()) hx hb hr hlocks hK hP hD hS (by simp [ownI, c_1]) (rfl) dX5_own_19

set_option maxHeartbeats 8000000 in
set_option maxRecDepth 100000 in
theorem k5_other (l : Launch) (D : va_G) (cI cZ cL : ClassId) (q : Nat → Nat) (th : Nat) (N : Nat) (c : Nat) (fr : Nat → Int32) (tt : Nat → Int32) (sa : Nat → Int32) (tk : Nat → Int32) (tn : Nat) (tr : Nat → Int32) (op : Nat → Int32) (sl : Nat → Int32) (nd : Nat → Int32) (oi : Nat → Int32) (il : Nat → Int32) (tl : Nat → Int32) (go : Nat → Int32) (gt : Nat → Int32) (fa : Nat → Int32) (mn : Nat → Int64) (nx : Nat → Int64) (j : Nat) (z : Int32) (hc : c ≤ 160) (hj : j < c) : McI l D (tY cI cZ cL) yX5_other wsX5_other 0 0 [.ref (q 0), .int (nI j), .int z] ([wM cI cZ cL q th N c fr tt sa tk tn tr op sl nd oi il tl go gt fa mn nx]) (fun r (_ : Unit) => r = othI fr tt z j) (fun (_ : Unit) => [wM cI cZ cL q th N c fr tt sa tk tn tr op sl nd oi il tl go gt fa mn nx]) := by
  refine q_ofW (Qc := fun A => (va_Qi (fun r (_ : Unit) => r = othI fr tt z j) (fun u t => mAt D (tY cI cZ cL) A ((fun (_ : Unit) => [wM cI cZ cL q th N c fr tt sa tk tn tr op sl nd oi il tl go gt fa mn nx]) u) t) A)) (cc := cX5_other) (maxL := 3) (ret := (some .int)) (by decide) rfl (Nat.le_of_ble_eq_true rfl) ?_
  intro pz ez sz mz bz tz cz hx hb hml hr hlocks hts hown hK hP A hD hA ls hl
  have hS : va_S A sz.heap sz.heap [] := va_S.rf
  have hl : lv_has ls 3 [(0, .ref (q 0)), (1, .int (nI j)), (2, .int z)] := hl
  refine lv_iload_n hx hb dX5_other_0 rfl (lv_at hl 2 rfl) ?_
  refine lv_if_eq (tgt := 13) hx hb dX5_other_1 (by decide) (fun c_1 => ?_) (fun c_1 => ?_)
  ·
    refine lv_aload_n hx hb dX5_other_13 rfl (lv_at hl 0 rfl) ?_
    refine q_get (D := D) (ci := 5) (v := .ref (q 2)) (C := RX5) (T := TX5) (N := 20) hx hb hts (by decide +kernel) hown hK hP 0 0 rfl rfl rfl 4 (by decide) (hts (.fieldLink RX5 17 "OffsetRowsModel" "to" "[I") (by decide +kernel)) (fun _ h9 => h9) rfl dX5_other_14 ?_
    refine lv_iload_n hx hb dX5_other_17 rfl (lv_at hl 1 rfl) ?_
    refine q_iald hx hb hK hP 0 2 0 rfl (f := tt) rfl rfl (k := j) (nI_clamp (n := j) (by omega)) (vp_in_nI (show j < 160 from by omega) (by omega)) dX5_other_18 ?_
    exact q_iret (()) hx hb hr hlocks hK hP hD hS (by simp [othI, c_1]) (rfl) dX5_other_19
  ·
    refine lv_aload_n hx hb dX5_other_4 rfl (lv_at hl 0 rfl) ?_
    refine q_get (D := D) (ci := 5) (v := .ref (q 1)) (C := RX5) (T := TX5) (N := 20) hx hb hts (by decide +kernel) hown hK hP 0 0 rfl rfl rfl 3 (by decide) (hts (.fieldLink RX5 13 "OffsetRowsModel" "from" "[I") (by decide +kernel)) (fun _ h9 => h9) rfl dX5_other_5 ?_
    refine lv_iload_n hx hb dX5_other_8 rfl (lv_at hl 1 rfl) ?_
    refine q_iald hx hb hK hP 0 1 0 rfl (f := fr) rfl rfl (k := j) (nI_clamp (n := j) (by omega)) (vp_in_nI (show j < 160 from by omega) (by omega)) dX5_other_9 ?_
    refine lv_goto (tgt := 19) hx hb dX5_other_10 (by decide) ?_
    exact q_iret (()) hx hb hr hlocks hK hP hD hS (by simp [othI, c_1]) (rfl) dX5_other_19

set_option maxHeartbeats 8000000 in
set_option maxRecDepth 100000 in
theorem k5_isAhead (l : Launch) (D : va_G) (cI cZ cL : ClassId) (q : Nat → Nat) (th : Nat) (N : Nat) (c : Nat) (fr : Nat → Int32) (tt : Nat → Int32) (sa : Nat → Int32) (tk : Nat → Int32) (tn : Nat) (tr : Nat → Int32) (op : Nat → Int32) (sl : Nat → Int32) (nd : Nat → Int32) (oi : Nat → Int32) (il : Nat → Int32) (tl : Nat → Int32) (go : Nat → Int32) (gt : Nat → Int32) (fa : Nat → Int32) (mn : Nat → Int64) (nx : Nat → Int64) (j : Nat) (k : Nat) (z : Int32) (hc : c ≤ 160) (hj : j < c) (hk : k < c) : McI l D (tY cI cZ cL) yX5_isAhead wsX5_isAhead 1 22 [.ref (q 0), .int (nI j), .int (nI k), .int z] ([wM cI cZ cL q th N c fr tt sa tk tn tr op sl nd oi il tl go gt fa mn nx]) (fun r (_ : Unit) => r = bI (ahB fr tt sa z j k)) (fun (_ : Unit) => [wM cI cZ cL q th N c fr tt sa tk tn tr op sl nd oi il tl go gt fa mn nx]) := by
  refine q_ofW (Qc := fun A => (va_Qi (fun r (_ : Unit) => r = bI (ahB fr tt sa z j k)) (fun u t => mAt D (tY cI cZ cL) A ((fun (_ : Unit) => [wM cI cZ cL q th N c fr tt sa tk tn tr op sl nd oi il tl go gt fa mn nx]) u) t) A)) (cc := cX5_isAhead) (maxL := 4) (ret := (some .boolean)) (by decide) rfl (Nat.le_of_ble_eq_true rfl) ?_
  intro pz ez sz mz bz tz cz hx hb hml hr hlocks hts hown hK hP A hD hA ls hl
  have hS : va_S A sz.heap sz.heap [] := va_S.rf
  have hl : lv_has ls 4 [(0, .ref (q 0)), (1, .int (nI j)), (2, .int (nI k)), (3, .int z)] := hl
  refine lv_aload_n hx hb dX5_isAhead_0 rfl (lv_at hl 0 rfl) ?_
  refine q_get (D := D) (ci := 5) (v := .ref (q 3)) (C := RX5) (T := TX5) (N := 20) hx hb hts (by decide +kernel) hown hK hP 0 0 rfl rfl rfl 5 (by decide) (hts (.fieldLink RX5 20 "OffsetRowsModel" "state" "[I") (by decide +kernel)) (fun _ h9 => h9) rfl dX5_isAhead_1 ?_
  refine lv_iload_n hx hb dX5_isAhead_4 rfl (lv_at hl 1 rfl) ?_
  refine q_iald hx hb hK hP 0 3 0 rfl (f := sa) rfl rfl (k := j) (nI_clamp (n := j) (by omega)) (vp_in_nI (show j < 160 from by omega) (by omega)) dX5_isAhead_5 ?_
  refine lv_aload_n hx hb dX5_isAhead_6 rfl (lv_at hl 0 rfl) ?_
  refine q_get (D := D) (ci := 5) (v := .ref (q 3)) (C := RX5) (T := TX5) (N := 20) hx hb hts (by decide +kernel) hown hK hP 0 0 rfl rfl rfl 5 (by decide) (hts (.fieldLink RX5 20 "OffsetRowsModel" "state" "[I") (by decide +kernel)) (fun _ h9 => h9) rfl dX5_isAhead_7 ?_
  refine lv_iload_n hx hb dX5_isAhead_10 rfl (lv_at hl 2 rfl) ?_
  refine q_iald hx hb hK hP 0 3 0 rfl (f := sa) rfl rfl (k := k) (nI_clamp (n := k) (by omega)) (vp_in_nI (show k < 160 from by omega) (by omega)) dX5_isAhead_11 ?_
  refine lv_icmp_eq (tgt := 31) hx hb dX5_isAhead_12 (by decide) (fun c_12 => ?_) (fun c_12 => ?_)
  ·
    refine lv_aload_n hx hb dX5_isAhead_31 rfl (lv_at hl 0 rfl) ?_
    refine q_get (D := D) (ci := 5) (v := .ref (q 3)) (C := RX5) (T := TX5) (N := 20) hx hb hts (by decide +kernel) hown hK hP 0 0 rfl rfl rfl 5 (by decide) (hts (.fieldLink RX5 20 "OffsetRowsModel" "state" "[I") (by decide +kernel)) (fun _ h9 => h9) rfl dX5_isAhead_32 ?_
    refine lv_iload_n hx hb dX5_isAhead_35 rfl (lv_at hl 1 rfl) ?_
    refine q_iald hx hb hK hP 0 3 0 rfl (f := sa) rfl rfl (k := j) (nI_clamp (n := j) (by omega)) (vp_in_nI (show j < 160 from by omega) (by omega)) dX5_isAhead_36 ?_
    refine lv_iconst (v := (1 : Int32)) hx hb dX5_isAhead_37 (by decide) ?_
    refine lv_icmp_ne (tgt := 77) hx hb dX5_isAhead_38 (by decide) (fun c_38 => ?_) (fun c_38 => ?_)
    ·
      refine lv_iload_n hx hb dX5_isAhead_77 rfl (lv_at hl 1 rfl) ?_
      refine lv_iload_n hx hb dX5_isAhead_78 rfl (lv_at hl 2 rfl) ?_
      refine lv_icmp_ge (tgt := 86) hx hb dX5_isAhead_79 (by decide) (fun c_79 => ?_) (fun c_79 => ?_)
      ·
        have n_79 : k ≤ j := (nI_leI (a := k) (b := j) (by omega) (by omega)).mp c_79
        refine lv_iconst (v := (0 : Int32)) hx hb dX5_isAhead_86 (by decide) ?_
        exact q_zret (()) hx hb hr rfl hlocks hK hP hD hS (by unfold ahB; rw [if_pos c_12]; simp [bI, c_38, c_79, n_79]) (rfl) dX5_isAhead_87
      ·
        have n_79 : ¬ k ≤ j := fun h9 => c_79 ((nI_leI (a := k) (b := j) (by omega) (by omega)).mpr h9)
        refine lv_iconst (v := (1 : Int32)) hx hb dX5_isAhead_82 (by decide) ?_
        refine lv_goto (tgt := 87) hx hb dX5_isAhead_83 (by decide) ?_
        exact q_zret (()) hx hb hr rfl hlocks hK hP hD hS (by unfold ahB; rw [if_pos c_12]; simp [bI, c_38, c_79, n_79]) (rfl) dX5_isAhead_87
    ·
      refine lv_aload_n hx hb dX5_isAhead_41 rfl (lv_at hl 0 rfl) ?_
      refine lv_iload_n hx hb dX5_isAhead_42 rfl (lv_at hl 1 rfl) ?_
      refine lv_iload_n hx hb dX5_isAhead_43 rfl (lv_at hl 3 rfl) ?_
      refine q_callVi (index := 87) (n := 2) (As := [.int (nI j), .int z]) (rest := []) (js := [0]) (ci := 5) ⟨hx, hb, hml, hown, hts⟩ hK hP hD hS hA (k5_other l D cI cZ cL q th N c fr tt sa tk tn tr op sl nd oi il tl go gt fa mn nx j z (by omega) (by omega)) rfl (by decide) (fun _ => by simp only [List.map_cons, List.map_nil, wM_fst]) (fun (_ : Unit) => [wM cI cZ cL q th N c fr tt sa tk tn tr op sl nd oi il tl go gt fa mn nx]) (fun _ => rfl) gX5_isAhead_X5_other rfl (by decide +kernel) rfl ⟨by decide, by decide⟩ rfl rfl rfl rfl hl.1 (Nat.le_of_ble_eq_true rfl) ⟨(Nat.zero_le _), (Nat.zero_le _)⟩ dX5_isAhead_44 rfl (fun r _ H locs hw hP hD hS => ?_)
      have hw : r = othI fr tt z j := hw
      subst hw
      refine lv_aload_n hx hb dX5_isAhead_47 rfl (lv_at hl 0 rfl) ?_
      refine lv_iload_n hx hb dX5_isAhead_48 rfl (lv_at hl 2 rfl) ?_
      refine lv_iload_n hx hb dX5_isAhead_49 rfl (lv_at hl 3 rfl) ?_
      refine q_callVi (index := 87) (n := 2) (As := [.int (nI k), .int z]) (rest := [.int (othI fr tt z j)]) (js := [0]) (ci := 5) ⟨hx, hb, hml, hown, hts⟩ hK hP hD hS hA (k5_other l D cI cZ cL q th N c fr tt sa tk tn tr op sl nd oi il tl go gt fa mn nx k z (by omega) (by omega)) rfl (by decide) (fun _ => by simp only [List.map_cons, List.map_nil, wM_fst]) (fun (_ : Unit) => [wM cI cZ cL q th N c fr tt sa tk tn tr op sl nd oi il tl go gt fa mn nx]) (fun _ => rfl) gX5_isAhead_X5_other rfl (by decide +kernel) rfl ⟨by decide, by decide⟩ rfl rfl rfl rfl hl.1 (Nat.le_of_ble_eq_true rfl) ⟨(Nat.zero_le _), (Nat.zero_le _)⟩ dX5_isAhead_50 rfl (fun r _ H locs hw hP hD hS => ?_)
      have hw : r = othI fr tt z k := hw
      subst hw
      refine lv_icmp_eq (tgt := 77) hx hb dX5_isAhead_53 (by decide) (fun c_53 => ?_) (fun c_53 => ?_)
      ·
        refine lv_iload_n hx hb dX5_isAhead_77 rfl (lv_at hl 1 rfl) ?_
        refine lv_iload_n hx hb dX5_isAhead_78 rfl (lv_at hl 2 rfl) ?_
        refine lv_icmp_ge (tgt := 86) hx hb dX5_isAhead_79 (by decide) (fun c_79 => ?_) (fun c_79 => ?_)
        ·
          have n_79 : k ≤ j := (nI_leI (a := k) (b := j) (by omega) (by omega)).mp c_79
          refine lv_iconst (v := (0 : Int32)) hx hb dX5_isAhead_86 (by decide) ?_
          exact q_zret (()) hx hb hr rfl hlocks hK hP hD hS (by unfold ahB; rw [if_pos c_12]; simp [bI, c_38, c_53, c_79, n_79]) (rfl) dX5_isAhead_87
        ·
          have n_79 : ¬ k ≤ j := fun h9 => c_79 ((nI_leI (a := k) (b := j) (by omega) (by omega)).mpr h9)
          refine lv_iconst (v := (1 : Int32)) hx hb dX5_isAhead_82 (by decide) ?_
          refine lv_goto (tgt := 87) hx hb dX5_isAhead_83 (by decide) ?_
          exact q_zret (()) hx hb hr rfl hlocks hK hP hD hS (by unfold ahB; rw [if_pos c_12]; simp [bI, c_38, c_53, c_79, n_79]) (rfl) dX5_isAhead_87
      ·
        refine lv_aload_n hx hb dX5_isAhead_56 rfl (lv_at hl 0 rfl) ?_
        refine lv_iload_n hx hb dX5_isAhead_57 rfl (lv_at hl 1 rfl) ?_
        refine lv_iload_n hx hb dX5_isAhead_58 rfl (lv_at hl 3 rfl) ?_
        refine q_callVi (index := 87) (n := 2) (As := [.int (nI j), .int z]) (rest := []) (js := [0]) (ci := 5) ⟨hx, hb, hml, hown, hts⟩ hK hP hD hS hA (k5_other l D cI cZ cL q th N c fr tt sa tk tn tr op sl nd oi il tl go gt fa mn nx j z (by omega) (by omega)) rfl (by decide) (fun _ => by simp only [List.map_cons, List.map_nil, wM_fst]) (fun (_ : Unit) => [wM cI cZ cL q th N c fr tt sa tk tn tr op sl nd oi il tl go gt fa mn nx]) (fun _ => rfl) gX5_isAhead_X5_other rfl (by decide +kernel) rfl ⟨by decide, by decide⟩ rfl rfl rfl rfl hl.1 (Nat.le_of_ble_eq_true rfl) ⟨(Nat.zero_le _), (Nat.zero_le _)⟩ dX5_isAhead_59 rfl (fun r _ H locs hw hP hD hS => ?_)
        have hw : r = othI fr tt z j := hw
        subst hw
        refine lv_aload_n hx hb dX5_isAhead_62 rfl (lv_at hl 0 rfl) ?_
        refine lv_iload_n hx hb dX5_isAhead_63 rfl (lv_at hl 2 rfl) ?_
        refine lv_iload_n hx hb dX5_isAhead_64 rfl (lv_at hl 3 rfl) ?_
        refine q_callVi (index := 87) (n := 2) (As := [.int (nI k), .int z]) (rest := [.int (othI fr tt z j)]) (js := [0]) (ci := 5) ⟨hx, hb, hml, hown, hts⟩ hK hP hD hS hA (k5_other l D cI cZ cL q th N c fr tt sa tk tn tr op sl nd oi il tl go gt fa mn nx k z (by omega) (by omega)) rfl (by decide) (fun _ => by simp only [List.map_cons, List.map_nil, wM_fst]) (fun (_ : Unit) => [wM cI cZ cL q th N c fr tt sa tk tn tr op sl nd oi il tl go gt fa mn nx]) (fun _ => rfl) gX5_isAhead_X5_other rfl (by decide +kernel) rfl ⟨by decide, by decide⟩ rfl rfl rfl rfl hl.1 (Nat.le_of_ble_eq_true rfl) ⟨(Nat.zero_le _), (Nat.zero_le _)⟩ dX5_isAhead_65 rfl (fun r _ H locs hw hP hD hS => ?_)
        have hw : r = othI fr tt z k := hw
        subst hw
        refine lv_icmp_ge (tgt := 75) hx hb dX5_isAhead_68 (by decide) (fun c_68 => ?_) (fun c_68 => ?_)
        ·
          refine lv_iconst (v := (0 : Int32)) hx hb dX5_isAhead_75 (by decide) ?_
          exact q_zret (()) hx hb hr rfl hlocks hK hP hD hS (by unfold ahB; rw [if_pos c_12]; simp [bI, c_38, c_53, c_68]) (rfl) dX5_isAhead_76
        ·
          refine lv_iconst (v := (1 : Int32)) hx hb dX5_isAhead_71 (by decide) ?_
          refine lv_goto (tgt := 76) hx hb dX5_isAhead_72 (by decide) ?_
          exact q_zret (()) hx hb hr rfl hlocks hK hP hD hS (by unfold ahB; rw [if_pos c_12]; simp [bI, c_38, c_53, c_68]) (rfl) dX5_isAhead_76
  ·
    refine lv_aload_n hx hb dX5_isAhead_15 rfl (lv_at hl 0 rfl) ?_
    refine q_get (D := D) (ci := 5) (v := .ref (q 3)) (C := RX5) (T := TX5) (N := 20) hx hb hts (by decide +kernel) hown hK hP 0 0 rfl rfl rfl 5 (by decide) (hts (.fieldLink RX5 20 "OffsetRowsModel" "state" "[I") (by decide +kernel)) (fun _ h9 => h9) rfl dX5_isAhead_16 ?_
    refine lv_iload_n hx hb dX5_isAhead_19 rfl (lv_at hl 1 rfl) ?_
    refine q_iald hx hb hK hP 0 3 0 rfl (f := sa) rfl rfl (k := j) (nI_clamp (n := j) (by omega)) (vp_in_nI (show j < 160 from by omega) (by omega)) dX5_isAhead_20 ?_
    refine lv_iconst (v := (1 : Int32)) hx hb dX5_isAhead_21 (by decide) ?_
    refine lv_icmp_ne (tgt := 29) hx hb dX5_isAhead_22 (by decide) (fun c_22 => ?_) (fun c_22 => ?_)
    ·
      refine lv_iconst (v := (0 : Int32)) hx hb dX5_isAhead_29 (by decide) ?_
      exact q_zret (()) hx hb hr rfl hlocks hK hP hD hS (by unfold ahB; rw [if_neg c_12]; simp [bI, c_22]) (rfl) dX5_isAhead_30
    ·
      refine lv_iconst (v := (1 : Int32)) hx hb dX5_isAhead_25 (by decide) ?_
      refine lv_goto (tgt := 30) hx hb dX5_isAhead_26 (by decide) ?_
      exact q_zret (()) hx hb hr rfl hlocks hK hP hD hS (by unfold ahB; rw [if_neg c_12]; simp [bI, c_22]) (rfl) dX5_isAhead_30

set_option maxHeartbeats 8000000 in
set_option maxRecDepth 100000 in
theorem k5_isOf (l : Launch) (D : va_G) (cI cZ cL : ClassId) (q : Nat → Nat) (th : Nat) (N : Nat) (c : Nat) (fr : Nat → Int32) (tt : Nat → Int32) (sa : Nat → Int32) (tk : Nat → Int32) (tn : Nat) (tr : Nat → Int32) (op : Nat → Int32) (sl : Nat → Int32) (nd : Nat → Int32) (oi : Nat → Int32) (il : Nat → Int32) (tl : Nat → Int32) (go : Nat → Int32) (gt : Nat → Int32) (fa : Nat → Int32) (mn : Nat → Int64) (nx : Nat → Int64) (j : Nat) (x : Int32) (z : Int32) (w : Int32) (hc : c ≤ 160) (hj : j < c) : McI l D (tY cI cZ cL) yX5_isOf wsX5_isOf 1 22 [.ref (q 0), .int (nI j), .int x, .int z, .int w] ([wM cI cZ cL q th N c fr tt sa tk tn tr op sl nd oi il tl go gt fa mn nx]) (fun r (_ : Unit) => r = bI (ofB fr tt sa tk x z w j)) (fun (_ : Unit) => [wM cI cZ cL q th N c fr tt sa tk tn tr op sl nd oi il tl go gt fa mn nx]) := by
  refine q_ofW (Qc := fun A => (va_Qi (fun r (_ : Unit) => r = bI (ofB fr tt sa tk x z w j)) (fun u t => mAt D (tY cI cZ cL) A ((fun (_ : Unit) => [wM cI cZ cL q th N c fr tt sa tk tn tr op sl nd oi il tl go gt fa mn nx]) u) t) A)) (cc := cX5_isOf) (maxL := 5) (ret := (some .boolean)) (by decide) rfl (Nat.le_of_ble_eq_true rfl) ?_
  intro pz ez sz mz bz tz cz hx hb hml hr hlocks hts hown hK hP A hD hA ls hl
  have hS : va_S A sz.heap sz.heap [] := va_S.rf
  have hl : lv_has ls 5 [(0, .ref (q 0)), (1, .int (nI j)), (2, .int x), (3, .int z), (4, .int w)] := hl
  refine lv_aload_n hx hb dX5_isOf_0 rfl (lv_at hl 0 rfl) ?_
  refine lv_iload_n hx hb dX5_isOf_1 rfl (lv_at hl 1 rfl) ?_
  refine lv_iload_n hx hb dX5_isOf_2 rfl (lv_at hl 3 rfl) ?_
  refine q_callVi (index := 91) (n := 2) (As := [.int (nI j), .int z]) (rest := []) (js := [0]) (ci := 5) ⟨hx, hb, hml, hown, hts⟩ hK hP hD hS hA (k5_own l D cI cZ cL q th N c fr tt sa tk tn tr op sl nd oi il tl go gt fa mn nx j z (by omega) (by omega)) rfl (by decide) (fun _ => by simp only [List.map_cons, List.map_nil, wM_fst]) (fun (_ : Unit) => [wM cI cZ cL q th N c fr tt sa tk tn tr op sl nd oi il tl go gt fa mn nx]) (fun _ => rfl) gX5_isOf_X5_own rfl (by decide +kernel) rfl ⟨by decide, by decide⟩ rfl rfl rfl rfl hl.1 (Nat.le_of_ble_eq_true rfl) ⟨(Nat.zero_le _), (Nat.zero_le _)⟩ dX5_isOf_3 rfl (fun r _ H locs hw hP hD hS => ?_)
  have hw : r = ownI fr tt z j := hw
  subst hw
  refine lv_iload_n hx hb dX5_isOf_6 rfl (lv_at hl 2 rfl) ?_
  refine lv_icmp_ne (tgt := 51) hx hb dX5_isOf_7 (by decide) (fun c_7 => ?_) (fun c_7 => ?_)
  ·
    refine lv_iconst (v := (0 : Int32)) hx hb dX5_isOf_51 (by decide) ?_
    exact q_zret (()) hx hb hr rfl hlocks hK hP hD hS (by simp [ofB, lvB, bI, c_7]) (rfl) dX5_isOf_52
  ·
    refine lv_iload hx hb dX5_isOf_10 (lv_at hl 4 rfl) ?_
    refine lv_if_eq (tgt := 37) hx hb dX5_isOf_12 (by decide) (fun c_12 => ?_) (fun c_12 => ?_)
    ·
      refine lv_aload_n hx hb dX5_isOf_37 rfl (lv_at hl 0 rfl) ?_
      refine q_get (D := D) (ci := 5) (v := .ref (q 3)) (C := RX5) (T := TX5) (N := 20) hx hb hts (by decide +kernel) hown hK hP 0 0 rfl rfl rfl 5 (by decide) (hts (.fieldLink RX5 20 "OffsetRowsModel" "state" "[I") (by decide +kernel)) (fun _ h9 => h9) rfl dX5_isOf_38 ?_
      refine lv_iload_n hx hb dX5_isOf_41 rfl (lv_at hl 1 rfl) ?_
      refine q_iald hx hb hK hP 0 3 0 rfl (f := sa) rfl rfl (k := j) (nI_clamp (n := j) (by omega)) (vp_in_nI (show j < 160 from by omega) (by omega)) dX5_isOf_42 ?_
      refine lv_iconst (v := (1 : Int32)) hx hb dX5_isOf_43 (by decide) ?_
      refine lv_icmp_ne (tgt := 51) hx hb dX5_isOf_44 (by decide) (fun c_44 => ?_) (fun c_44 => ?_)
      ·
        refine lv_iconst (v := (0 : Int32)) hx hb dX5_isOf_51 (by decide) ?_
        exact q_zret (()) hx hb hr rfl hlocks hK hP hD hS (by simp [ofB, lvB, bI, c_7, c_12, c_44]) (rfl) dX5_isOf_52
      ·
        refine lv_iconst (v := (1 : Int32)) hx hb dX5_isOf_47 (by decide) ?_
        refine lv_goto (tgt := 52) hx hb dX5_isOf_48 (by decide) ?_
        exact q_zret (()) hx hb hr rfl hlocks hK hP hD hS (by simp [ofB, lvB, bI, c_7, c_12, c_44]) (rfl) dX5_isOf_52
    ·
      refine lv_aload_n hx hb dX5_isOf_15 rfl (lv_at hl 0 rfl) ?_
      refine q_get (D := D) (ci := 5) (v := .ref (q 3)) (C := RX5) (T := TX5) (N := 20) hx hb hts (by decide +kernel) hown hK hP 0 0 rfl rfl rfl 5 (by decide) (hts (.fieldLink RX5 20 "OffsetRowsModel" "state" "[I") (by decide +kernel)) (fun _ h9 => h9) rfl dX5_isOf_16 ?_
      refine lv_iload_n hx hb dX5_isOf_19 rfl (lv_at hl 1 rfl) ?_
      refine q_iald hx hb hK hP 0 3 0 rfl (f := sa) rfl rfl (k := j) (nI_clamp (n := j) (by omega)) (vp_in_nI (show j < 160 from by omega) (by omega)) dX5_isOf_20 ?_
      refine lv_iconst (v := (2 : Int32)) hx hb dX5_isOf_21 (by decide) ?_
      refine lv_icmp_eq (tgt := 51) hx hb dX5_isOf_22 (by decide) (fun c_22 => ?_) (fun c_22 => ?_)
      ·
        refine lv_iconst (v := (0 : Int32)) hx hb dX5_isOf_51 (by decide) ?_
        exact q_zret (()) hx hb hr rfl hlocks hK hP hD hS (by simp [ofB, lvB, bI, c_7, c_12, c_22]) (rfl) dX5_isOf_52
      ·
        refine lv_aload_n hx hb dX5_isOf_25 rfl (lv_at hl 0 rfl) ?_
        refine q_get (D := D) (ci := 5) (v := .ref (q 4)) (C := RX5) (T := TX5) (N := 20) hx hb hts (by decide +kernel) hown hK hP 0 0 rfl rfl rfl 6 (by decide) (hts (.fieldLink RX5 23 "OffsetRowsModel" "isTaken" "[Z") (by decide +kernel)) (fun _ h9 => h9) rfl dX5_isOf_26 ?_
        refine lv_iload_n hx hb dX5_isOf_29 rfl (lv_at hl 1 rfl) ?_
        refine q_zald hx hb hK hP 0 4 1 rfl (f := tk) rfl rfl (k := j) (nI_clamp (n := j) (by omega)) (vp_in_nI (show j < 160 from by omega) (by omega)) dX5_isOf_30 ?_
        refine lv_if_ne (tgt := 51) hx hb dX5_isOf_31 (by decide) (fun c_31 => ?_) (fun c_31 => ?_)
        ·
          refine lv_iconst (v := (0 : Int32)) hx hb dX5_isOf_51 (by decide) ?_
          exact q_zret (()) hx hb hr rfl hlocks hK hP hD hS (by simp [ofB, lvB, bI, c_7, c_12, c_22, c_31]) (rfl) dX5_isOf_52
        ·
          refine lv_goto (tgt := 47) hx hb dX5_isOf_34 (by decide) ?_
          refine lv_iconst (v := (1 : Int32)) hx hb dX5_isOf_47 (by decide) ?_
          refine lv_goto (tgt := 52) hx hb dX5_isOf_48 (by decide) ?_
          exact q_zret (()) hx hb hr rfl hlocks hK hP hD hS (by simp [ofB, lvB, bI, c_7, c_12, c_22, c_31]) (rfl) dX5_isOf_52

set_option maxHeartbeats 8000000 in
set_option maxRecDepth 100000 in
theorem k5_place (l : Launch) (D : va_G) (cI cZ cL : ClassId) (q : Nat → Nat) (th : Nat) (N : Nat) (c : Nat) (fr : Nat → Int32) (tt : Nat → Int32) (sa : Nat → Int32) (tk : Nat → Int32) (tn : Nat) (tr : Nat → Int32) (op : Nat → Int32) (sl : Nat → Int32) (nd : Nat → Int32) (oi : Nat → Int32) (il : Nat → Int32) (tl : Nat → Int32) (go : Nat → Int32) (gt : Nat → Int32) (fa : Nat → Int32) (mn : Nat → Int64) (nx : Nat → Int64) (x : Int32) (z : Int32) (w : Int32) (k : Int32) (hc : c ≤ 160) : McI l D (tY cI cZ cL) yX5_place wsX5_place 2 46 [.ref (q 0), .int x, .int z, .int w, .int k] ([wM cI cZ cL q th N c fr tt sa tk tn tr op sl nd oi il tl go gt fa mn nx]) (fun r (_ : Unit) => r = plR c fr tt sa tk x z w k) (fun (_ : Unit) => [wM cI cZ cL q th N c fr tt sa tk tn tr op sl nd oi il tl go gt fa mn nx]) := by
  refine q_ofW (Qc := fun A => (va_Qi (fun r (_ : Unit) => r = plR c fr tt sa tk x z w k) (fun u t => mAt D (tY cI cZ cL) A ((fun (_ : Unit) => [wM cI cZ cL q th N c fr tt sa tk tn tr op sl nd oi il tl go gt fa mn nx]) u) t) A)) (cc := cX5_place) (maxL := 8) (ret := (some .int)) (by decide) rfl (Nat.le_of_ble_eq_true rfl) ?_
  intro pz ez sz mz bz tz cz hx hb hml hr hlocks hts hown hK hP A hD hA ls hl
  have hS : va_S A sz.heap sz.heap [] := va_S.rf
  have hl : lv_has ls 8 [(0, .ref (q 0)), (1, .int x), (2, .int z), (3, .int w), (4, .int k)] := hl
  refine lv_iconst (v := (0 : Int32)) hx hb dX5_place_0 (by decide) ?_
  refine lv_istore (lv' := [(5, .int (0 : Int32)), (0, .ref (q 0)), (1, .int x), (2, .int z), (3, .int w), (4, .int k)]) hx hb dX5_place_1 hl (by decide) rfl (fun ls hl => ?_)
  have loop_3 : ∀ (k_3 i : Nat), i ≤ c → c < i + k_3 → (plR c fr tt sa tk x z w k = fsv (plB c fr tt sa tk x z w k) nI (c - i) i) → ∀ (H : Heap) (locs : List Loc), va_P D vwCl (List.flatten [wM cI cZ cL q th N c fr tt sa tk tn tr op sl nd oi il tl go gt fa mn nx]) H → va_D A (List.flatten [wM cI cZ cL q th N c fr tt sa tk tn tr op sl nd oi il tl go gt fa mn nx]) → va_S A sz.heap H locs → ∀ (ls : Array Slot), lv_has ls 8 [(5, .int (nI i)), (0, .ref (q 0)), (1, .int x), (2, .int z), (3, .int w), (4, .int k)] → W pz l ez (rM 2 46) sz mz [.ref (q 0), .int x, .int z, .int w, .int k].toArray bz tz cz H locs 0 0 (MQ bz (va_Qi (fun r (_ : Unit) => r = plR c fr tt sa tk x z w k) (fun u t => mAt D (tY cI cZ cL) A ((fun (_ : Unit) => [wM cI cZ cL q th N c fr tt sa tk tn tr op sl nd oi il tl go gt fa mn nx]) u) t) A) [.ref (q 0), .int x, .int z, .int w, .int k].toArray sz 0 0 A) (F0 mz 3 ls [])  := by
    intro k_3
    induction k_3 with
    | zero => intro i hi_3 hk_3; exact absurd hk_3 (by omega)
    | succ k_3 ih_3 =>
      intro i hi_3 hk_3 hinv H locs hP hD hS ls hl
      refine lv_iload hx hb dX5_place_3 (lv_at hl 0 rfl) ?_
      refine lv_aload_n hx hb dX5_place_5 rfl (lv_at hl 1 rfl) ?_
      refine q_get (D := D) (ci := 5) (v := .int (nI c)) (C := RX5) (T := TX5) (N := 20) hx hb hts (by decide +kernel) hown hK hP 0 0 rfl rfl rfl 2 (by decide) (hts (.fieldLink RX5 67 "OffsetRowsModel" "arcs" "I") (by decide +kernel)) (fun _ h9 => h9) rfl dX5_place_6 ?_
      refine lv_icmp_ge (tgt := 98) hx hb dX5_place_9 (by decide) (fun c_9 => ?_) (fun c_9 => ?_)
      ·
        have n_9 : c ≤ i := (nI_leI (a := c) (b := i) (by omega) (by omega)).mp c_9
        refine lv_iconst (v := (-1)) hx hb dX5_place_98 (by decide) ?_
        exact q_iret (()) hx hb hr hlocks hK hP hD hS (by rw [hinv, fsv_end (by omega)]) (rfl) dX5_place_99
      ·
        have n_9 : ¬ c ≤ i := fun h9 => c_9 ((nI_leI (a := c) (b := i) (by omega) (by omega)).mpr h9)
        refine lv_aload_n hx hb dX5_place_12 rfl (lv_at hl 1 rfl) ?_
        refine lv_iload hx hb dX5_place_13 (lv_at hl 0 rfl) ?_
        refine lv_iload_n hx hb dX5_place_15 rfl (lv_at hl 2 rfl) ?_
        refine lv_iload_n hx hb dX5_place_16 rfl (lv_at hl 3 rfl) ?_
        refine lv_iload_n hx hb dX5_place_17 rfl (lv_at hl 4 rfl) ?_
        refine q_callVi (index := 94) (n := 4) (As := [.int (nI i), .int x, .int z, .int w]) (rest := []) (js := [0]) (ci := 5) ⟨hx, hb, hml, hown, hts⟩ hK hP hD hS hA (k5_isOf l D cI cZ cL q th N c fr tt sa tk tn tr op sl nd oi il tl go gt fa mn nx i x z w (by omega) (by omega)) rfl (by decide) (fun _ => by simp only [List.map_cons, List.map_nil, wM_fst]) (fun (_ : Unit) => [wM cI cZ cL q th N c fr tt sa tk tn tr op sl nd oi il tl go gt fa mn nx]) (fun _ => rfl) gX5_place_X5_isOf rfl (by decide +kernel) rfl ⟨by decide, by decide⟩ rfl rfl rfl rfl hl.1 (Nat.le_of_ble_eq_true rfl) ⟨(Nat.zero_le _), (Nat.zero_le _)⟩ dX5_place_18 rfl (fun r _ H locs hw hP hD hS => ?_)
        have hw : r = bI (ofB fr tt sa tk x z w i) := hw
        subst hw
        refine lv_if_ne (tgt := 27) hx hb dX5_place_21 (by decide) (fun c_21 => ?_) (fun c_21 => ?_)
        ·
          have n_21 : (ofB fr tt sa tk x z w i) = true := bI_n.mp c_21
          refine lv_iconst (v := (0 : Int32)) hx hb dX5_place_27 (by decide) ?_
          refine lv_istore (lv' := [(6, .int (0 : Int32)), (5, .int (nI i)), (0, .ref (q 0)), (1, .int x), (2, .int z), (3, .int w), (4, .int k)]) hx hb dX5_place_28 hl (by decide) rfl (fun ls hl => ?_)
          refine lv_iconst (v := (0 : Int32)) hx hb dX5_place_30 (by decide) ?_
          refine lv_istore (lv' := [(7, .int (0 : Int32)), (6, .int (0 : Int32)), (5, .int (nI i)), (0, .ref (q 0)), (1, .int x), (2, .int z), (3, .int w), (4, .int k)]) hx hb dX5_place_31 hl (by decide) rfl (fun ls hl => ?_)
          have loop_33 : ∀ (k_33 t : Nat), t ≤ c → c < t + k_33 → ∀ (H : Heap) (locs : List Loc), va_P D vwCl (List.flatten [wM cI cZ cL q th N c fr tt sa tk tn tr op sl nd oi il tl go gt fa mn nx]) H → va_D A (List.flatten [wM cI cZ cL q th N c fr tt sa tk tn tr op sl nd oi il tl go gt fa mn nx]) → va_S A sz.heap H locs → ∀ (ls : Array Slot), lv_has ls 8 [(7, .int (nI t)), (6, .int (nI (cN t (anB fr tt sa tk x z w i)))), (5, .int (nI i)), (0, .ref (q 0)), (1, .int x), (2, .int z), (3, .int w), (4, .int k)] → W pz l ez (rM 2 46) sz mz [.ref (q 0), .int x, .int z, .int w, .int k].toArray bz tz cz H locs 0 0 (MQ bz (va_Qi (fun r (_ : Unit) => r = plR c fr tt sa tk x z w k) (fun u t => mAt D (tY cI cZ cL) A ((fun (_ : Unit) => [wM cI cZ cL q th N c fr tt sa tk tn tr op sl nd oi il tl go gt fa mn nx]) u) t) A) [.ref (q 0), .int x, .int z, .int w, .int k].toArray sz 0 0 A) (F0 mz 33 ls [])  := by
            intro k_33
            induction k_33 with
            | zero => intro t hi_33 hk_33; exact absurd hk_33 (by omega)
            | succ k_33 ih_33 =>
              intro t hi_33 hk_33 H locs hP hD hS ls hl
              refine lv_iload hx hb dX5_place_33 (lv_at hl 0 rfl) ?_
              refine lv_aload_n hx hb dX5_place_35 rfl (lv_at hl 3 rfl) ?_
              refine q_get (D := D) (ci := 5) (v := .int (nI c)) (C := RX5) (T := TX5) (N := 20) hx hb hts (by decide +kernel) hown hK hP 0 0 rfl rfl rfl 2 (by decide) (hts (.fieldLink RX5 67 "OffsetRowsModel" "arcs" "I") (by decide +kernel)) (fun _ h9 => h9) rfl dX5_place_36 ?_
              refine lv_icmp_ge (tgt := 82) hx hb dX5_place_39 (by decide) (fun c_39 => ?_) (fun c_39 => ?_)
              ·
                have n_39 : c ≤ t := (nI_leI (a := c) (b := t) (by omega) (by omega)).mp c_39
                have ht : t = c := by omega
                refine lv_iload hx hb dX5_place_82 (lv_at hl 1 rfl) ?_
                refine lv_iload hx hb dX5_place_84 (lv_at hl 7 rfl) ?_
                refine lv_icmp_ne (tgt := 92) hx hb dX5_place_86 (by decide) (fun c_86 => ?_) (fun c_86 => ?_)
                ·
                  refine lv_iinc (v := nI (i + 1)) (lv' := [(5, .int (nI (i + 1))), (7, .int (nI t)), (6, .int (nI (cN t (anB fr tt sa tk x z w i)))), (0, .ref (q 0)), (1, .int x), (2, .int z), (3, .int w), (4, .int k)]) hx hb dX5_place_92 hl (k := 2) rfl (nI_add i 1) (by decide) rfl (fun ls hl => ?_)
                  refine lv_goto (tgt := 3) hx hb dX5_place_95 (by decide) ?_
                  have hl : lv_has ls 8 [(5, .int (nI (i + 1))), (0, .ref (q 0)), (1, .int x), (2, .int z), (3, .int w), (4, .int k)] := lv_sub hl [0, 3, 4, 5, 6, 7] rfl
                  have hP : va_P D vwCl (List.flatten [wM cI cZ cL q th N c fr tt sa tk tn tr op sl nd oi il tl go gt fa mn nx]) _ := hP
                  have hD : va_D A (List.flatten [wM cI cZ cL q th N c fr tt sa tk tn tr op sl nd oi il tl go gt fa mn nx]) := hD
                  exact ih_3 (i + 1) (by omega) (by omega) (hinv.trans (fsv_no (by omega) (by first | (simp [plB, n_21]; done) | (rw [ht] at c_86; simp [plB, n_21, c_86])))) _ _ hP hD hS _ hl
                ·
                  refine lv_iload hx hb dX5_place_89 (lv_at hl 2 rfl) ?_
                  exact q_iret (()) hx hb hr hlocks hK hP hD hS (by rw [hinv, fsv_yes (by omega) (by rw [ht] at c_86; simp [plB, n_21, c_86])]) (rfl) dX5_place_91
              ·
                have n_39 : ¬ c ≤ t := fun h9 => c_39 ((nI_leI (a := c) (b := t) (by omega) (by omega)).mpr h9)
                refine lv_iload hx hb dX5_place_42 (lv_at hl 1 rfl) ?_
                refine lv_aload_n hx hb dX5_place_44 rfl (lv_at hl 3 rfl) ?_
                refine lv_iload hx hb dX5_place_45 (lv_at hl 0 rfl) ?_
                refine lv_iload_n hx hb dX5_place_47 rfl (lv_at hl 4 rfl) ?_
                refine lv_iload_n hx hb dX5_place_48 rfl (lv_at hl 5 rfl) ?_
                refine lv_iload_n hx hb dX5_place_49 rfl (lv_at hl 6 rfl) ?_
                refine q_callVi (index := 94) (n := 4) (As := [.int (nI t), .int x, .int z, .int w]) (rest := [.int (nI (cN t (anB fr tt sa tk x z w i)))]) (js := [0]) (ci := 5) ⟨hx, hb, hml, hown, hts⟩ hK hP hD hS hA (k5_isOf l D cI cZ cL q th N c fr tt sa tk tn tr op sl nd oi il tl go gt fa mn nx t x z w (by omega) (by omega)) rfl (by decide) (fun _ => by simp only [List.map_cons, List.map_nil, wM_fst]) (fun (_ : Unit) => [wM cI cZ cL q th N c fr tt sa tk tn tr op sl nd oi il tl go gt fa mn nx]) (fun _ => rfl) gX5_place_X5_isOf rfl (by decide +kernel) rfl ⟨by decide, by decide⟩ rfl rfl rfl rfl hl.1 (Nat.le_of_ble_eq_true rfl) ⟨(Nat.zero_le _), (Nat.zero_le _)⟩ dX5_place_50 rfl (fun r _ H locs hw hP hD hS => ?_)
                have hw : r = bI (ofB fr tt sa tk x z w t) := hw
                subst hw
                refine lv_if_eq (tgt := 72) hx hb dX5_place_53 (by decide) (fun c_53 => ?_) (fun c_53 => ?_)
                ·
                  have n_53 : (ofB fr tt sa tk x z w t) = false := bI_0.mp c_53
                  refine lv_iconst (v := (0 : Int32)) hx hb dX5_place_72 (by decide) ?_
                  refine q_iadd (z := nI (cN t (anB fr tt sa tk x z w i) + 0)) hx hb dX5_place_73 (nI_add (cN t (anB fr tt sa tk x z w i)) 0) ?_
                  refine lv_istore (lv' := [(6, .int (nI (cN t (anB fr tt sa tk x z w i) + 0))), (7, .int (nI t)), (5, .int (nI i)), (0, .ref (q 0)), (1, .int x), (2, .int z), (3, .int w), (4, .int k)]) hx hb dX5_place_74 hl (by decide) rfl (fun ls hl => ?_)
                  refine lv_iinc (v := nI (t + 1)) (lv' := [(7, .int (nI (t + 1))), (6, .int (nI (cN t (anB fr tt sa tk x z w i) + 0))), (5, .int (nI i)), (0, .ref (q 0)), (1, .int x), (2, .int z), (3, .int w), (4, .int k)]) hx hb dX5_place_76 hl (k := 1) rfl (nI_add t 1) (by decide) rfl (fun ls hl => ?_)
                  refine lv_goto (tgt := 33) hx hb dX5_place_79 (by decide) ?_
                  have hl : lv_has ls 8 [(7, .int (nI (t + 1))), (6, .int (nI (cN t (anB fr tt sa tk x z w i) + 0))), (5, .int (nI i)), (0, .ref (q 0)), (1, .int x), (2, .int z), (3, .int w), (4, .int k)] := lv_sub hl [0, 1, 2, 3, 4, 5, 6, 7] rfl
                  have hl : lv_has ls 8 [(7, .int (nI (t + 1))), (6, .int (nI (cN (t + 1) (anB fr tt sa tk x z w i)))), (5, .int (nI i)), (0, .ref (q 0)), (1, .int x), (2, .int z), (3, .int w), (4, .int k)] := by
                    rw [← show nI (cN t (anB fr tt sa tk x z w i) + 0) = nI (cN (t + 1) (anB fr tt sa tk x z w i)) from by first | rfl | simp [cN, anB, hinv, c_9, n_9, n_21, c_39, n_39, n_53]]
                    exact hl
                  have hP : va_P D vwCl (List.flatten [wM cI cZ cL q th N c fr tt sa tk tn tr op sl nd oi il tl go gt fa mn nx]) _ := hP
                  have hD : va_D A (List.flatten [wM cI cZ cL q th N c fr tt sa tk tn tr op sl nd oi il tl go gt fa mn nx]) := hD
                  exact ih_33 (t + 1) (by omega) (by omega) _ _ hP hD hS _ hl
                ·
                  have n_53 : (ofB fr tt sa tk x z w t) = true := bI_n.mp c_53
                  refine lv_aload_n hx hb dX5_place_56 rfl (lv_at hl 3 rfl) ?_
                  refine lv_iload hx hb dX5_place_57 (lv_at hl 0 rfl) ?_
                  refine lv_iload hx hb dX5_place_59 (lv_at hl 2 rfl) ?_
                  refine lv_iload_n hx hb dX5_place_61 rfl (lv_at hl 5 rfl) ?_
                  refine q_callVi (index := 98) (n := 3) (As := [.int (nI t), .int (nI i), .int z]) (rest := [.int (nI (cN t (anB fr tt sa tk x z w i)))]) (js := [0]) (ci := 5) ⟨hx, hb, hml, hown, hts⟩ hK hP hD hS hA (k5_isAhead l D cI cZ cL q th N c fr tt sa tk tn tr op sl nd oi il tl go gt fa mn nx t i z (by omega) (by omega) (by omega)) rfl (by decide) (fun _ => by simp only [List.map_cons, List.map_nil, wM_fst]) (fun (_ : Unit) => [wM cI cZ cL q th N c fr tt sa tk tn tr op sl nd oi il tl go gt fa mn nx]) (fun _ => rfl) gX5_place_X5_isAhead rfl (by decide +kernel) rfl ⟨by decide, by decide⟩ rfl rfl rfl rfl hl.1 (Nat.le_of_ble_eq_true rfl) ⟨(Nat.zero_le _), (Nat.zero_le _)⟩ dX5_place_62 rfl (fun r _ H locs hw hP hD hS => ?_)
                  have hw : r = bI (ahB fr tt sa z t i) := hw
                  subst hw
                  refine lv_if_eq (tgt := 72) hx hb dX5_place_65 (by decide) (fun c_65 => ?_) (fun c_65 => ?_)
                  ·
                    have n_65 : (ahB fr tt sa z t i) = false := bI_0.mp c_65
                    refine lv_iconst (v := (0 : Int32)) hx hb dX5_place_72 (by decide) ?_
                    refine q_iadd (z := nI (cN t (anB fr tt sa tk x z w i) + 0)) hx hb dX5_place_73 (nI_add (cN t (anB fr tt sa tk x z w i)) 0) ?_
                    refine lv_istore (lv' := [(6, .int (nI (cN t (anB fr tt sa tk x z w i) + 0))), (7, .int (nI t)), (5, .int (nI i)), (0, .ref (q 0)), (1, .int x), (2, .int z), (3, .int w), (4, .int k)]) hx hb dX5_place_74 hl (by decide) rfl (fun ls hl => ?_)
                    refine lv_iinc (v := nI (t + 1)) (lv' := [(7, .int (nI (t + 1))), (6, .int (nI (cN t (anB fr tt sa tk x z w i) + 0))), (5, .int (nI i)), (0, .ref (q 0)), (1, .int x), (2, .int z), (3, .int w), (4, .int k)]) hx hb dX5_place_76 hl (k := 1) rfl (nI_add t 1) (by decide) rfl (fun ls hl => ?_)
                    refine lv_goto (tgt := 33) hx hb dX5_place_79 (by decide) ?_
                    have hl : lv_has ls 8 [(7, .int (nI (t + 1))), (6, .int (nI (cN t (anB fr tt sa tk x z w i) + 0))), (5, .int (nI i)), (0, .ref (q 0)), (1, .int x), (2, .int z), (3, .int w), (4, .int k)] := lv_sub hl [0, 1, 2, 3, 4, 5, 6, 7] rfl
                    have hl : lv_has ls 8 [(7, .int (nI (t + 1))), (6, .int (nI (cN (t + 1) (anB fr tt sa tk x z w i)))), (5, .int (nI i)), (0, .ref (q 0)), (1, .int x), (2, .int z), (3, .int w), (4, .int k)] := by
                      rw [← show nI (cN t (anB fr tt sa tk x z w i) + 0) = nI (cN (t + 1) (anB fr tt sa tk x z w i)) from by first | rfl | simp [cN, anB, hinv, c_9, n_9, n_21, c_39, n_39, n_53, n_65]]
                      exact hl
                    have hP : va_P D vwCl (List.flatten [wM cI cZ cL q th N c fr tt sa tk tn tr op sl nd oi il tl go gt fa mn nx]) _ := hP
                    have hD : va_D A (List.flatten [wM cI cZ cL q th N c fr tt sa tk tn tr op sl nd oi il tl go gt fa mn nx]) := hD
                    exact ih_33 (t + 1) (by omega) (by omega) _ _ hP hD hS _ hl
                  ·
                    have n_65 : (ahB fr tt sa z t i) = true := bI_n.mp c_65
                    refine lv_iconst (v := (1 : Int32)) hx hb dX5_place_68 (by decide) ?_
                    refine lv_goto (tgt := 73) hx hb dX5_place_69 (by decide) ?_
                    refine q_iadd (z := nI (cN t (anB fr tt sa tk x z w i) + 1)) hx hb dX5_place_73 (nI_add (cN t (anB fr tt sa tk x z w i)) 1) ?_
                    refine lv_istore (lv' := [(6, .int (nI (cN t (anB fr tt sa tk x z w i) + 1))), (7, .int (nI t)), (5, .int (nI i)), (0, .ref (q 0)), (1, .int x), (2, .int z), (3, .int w), (4, .int k)]) hx hb dX5_place_74 hl (by decide) rfl (fun ls hl => ?_)
                    refine lv_iinc (v := nI (t + 1)) (lv' := [(7, .int (nI (t + 1))), (6, .int (nI (cN t (anB fr tt sa tk x z w i) + 1))), (5, .int (nI i)), (0, .ref (q 0)), (1, .int x), (2, .int z), (3, .int w), (4, .int k)]) hx hb dX5_place_76 hl (k := 1) rfl (nI_add t 1) (by decide) rfl (fun ls hl => ?_)
                    refine lv_goto (tgt := 33) hx hb dX5_place_79 (by decide) ?_
                    have hl : lv_has ls 8 [(7, .int (nI (t + 1))), (6, .int (nI (cN t (anB fr tt sa tk x z w i) + 1))), (5, .int (nI i)), (0, .ref (q 0)), (1, .int x), (2, .int z), (3, .int w), (4, .int k)] := lv_sub hl [0, 1, 2, 3, 4, 5, 6, 7] rfl
                    have hl : lv_has ls 8 [(7, .int (nI (t + 1))), (6, .int (nI (cN (t + 1) (anB fr tt sa tk x z w i)))), (5, .int (nI i)), (0, .ref (q 0)), (1, .int x), (2, .int z), (3, .int w), (4, .int k)] := by
                      rw [← show nI (cN t (anB fr tt sa tk x z w i) + 1) = nI (cN (t + 1) (anB fr tt sa tk x z w i)) from by first | rfl | simp [cN, anB, hinv, c_9, n_9, n_21, c_39, n_39, n_53, n_65]]
                      exact hl
                    have hP : va_P D vwCl (List.flatten [wM cI cZ cL q th N c fr tt sa tk tn tr op sl nd oi il tl go gt fa mn nx]) _ := hP
                    have hD : va_D A (List.flatten [wM cI cZ cL q th N c fr tt sa tk tn tr op sl nd oi il tl go gt fa mn nx]) := hD
                    exact ih_33 (t + 1) (by omega) (by omega) _ _ hP hD hS _ hl
          have hl : lv_has ls 8 [(7, .int (0 : Int32)), (6, .int (0 : Int32)), (5, .int (nI i)), (0, .ref (q 0)), (1, .int x), (2, .int z), (3, .int w), (4, .int k)] := lv_sub hl [0, 1, 2, 3, 4, 5, 6, 7] rfl
          have hl : lv_has ls 8 [(7, .int (nI 0)), (6, .int (nI (cN 0 (anB fr tt sa tk x z w i)))), (5, .int (nI i)), (0, .ref (q 0)), (1, .int x), (2, .int z), (3, .int w), (4, .int k)] := by
            rw [← show (0 : Int32) = nI (cN 0 (anB fr tt sa tk x z w i)) from by first | rfl | simp [cN, anB, hinv, c_9, n_9, n_21]]
            exact hl
          have hP : va_P D vwCl (List.flatten [wM cI cZ cL q th N c fr tt sa tk tn tr op sl nd oi il tl go gt fa mn nx]) _ := hP
          have hD : va_D A (List.flatten [wM cI cZ cL q th N c fr tt sa tk tn tr op sl nd oi il tl go gt fa mn nx]) := hD
          exact loop_33 (c + 1) 0 (by omega) (by omega) _ _ hP hD hS _ hl
        ·
          have n_21 : (ofB fr tt sa tk x z w i) = false := bI_0.mp c_21
          refine lv_goto (tgt := 92) hx hb dX5_place_24 (by decide) ?_
          refine lv_iinc (v := nI (i + 1)) (lv' := [(5, .int (nI (i + 1))), (0, .ref (q 0)), (1, .int x), (2, .int z), (3, .int w), (4, .int k)]) hx hb dX5_place_92 hl (k := 0) rfl (nI_add i 1) (by decide) rfl (fun ls hl => ?_)
          refine lv_goto (tgt := 3) hx hb dX5_place_95 (by decide) ?_
          have hl : lv_has ls 8 [(5, .int (nI (i + 1))), (0, .ref (q 0)), (1, .int x), (2, .int z), (3, .int w), (4, .int k)] := lv_sub hl [0, 1, 2, 3, 4, 5] rfl
          have hP : va_P D vwCl (List.flatten [wM cI cZ cL q th N c fr tt sa tk tn tr op sl nd oi il tl go gt fa mn nx]) _ := hP
          have hD : va_D A (List.flatten [wM cI cZ cL q th N c fr tt sa tk tn tr op sl nd oi il tl go gt fa mn nx]) := hD
          exact ih_3 (i + 1) (by omega) (by omega) (hinv.trans (fsv_no (by omega) (by first | (simp [plB, n_21]; done) | (rw [ht] at c_86; simp [plB, n_21, c_86])))) _ _ hP hD hS _ hl
  have hl : lv_has ls 8 [(5, .int (nI 0)), (0, .ref (q 0)), (1, .int x), (2, .int z), (3, .int w), (4, .int k)] := lv_sub hl [0, 1, 2, 3, 4, 5] rfl
  have hP : va_P D vwCl (List.flatten [wM cI cZ cL q th N c fr tt sa tk tn tr op sl nd oi il tl go gt fa mn nx]) _ := hP
  have hD : va_D A (List.flatten [wM cI cZ cL q th N c fr tt sa tk tn tr op sl nd oi il tl go gt fa mn nx]) := hD
  exact loop_3 (c + 1) 0 (by omega) (by omega) rfl _ _ hP hD hS _ hl

set_option maxHeartbeats 8000000 in
set_option maxRecDepth 100000 in
theorem k5_inRow (l : Launch) (D : va_G) (cI cZ cL : ClassId) (q : Nat → Nat) (th : Nat) (N : Nat) (c : Nat) (fr : Nat → Int32) (tt : Nat → Int32) (sa : Nat → Int32) (tk : Nat → Int32) (tn : Nat) (tr : Nat → Int32) (op : Nat → Int32) (sl : Nat → Int32) (nd : Nat → Int32) (oi : Nat → Int32) (il : Nat → Int32) (tl : Nat → Int32) (go : Nat → Int32) (gt : Nat → Int32) (fa : Nat → Int32) (mn : Nat → Int64) (nx : Nat → Int64) (x : Int32) (z : Int32) (k : Int32) (hc : c ≤ 160) : McI l D (tY cI cZ cL) yX5_inRow wsX5_inRow 3 73 [.ref (q 0), .int x, .int z, .int k] ([wM cI cZ cL q th N c fr tt sa tk tn tr op sl nd oi il tl go gt fa mn nx]) (fun r (_ : Unit) => r = irR N c fr tt sa tk x z k) (fun (_ : Unit) => [wM cI cZ cL q (irT N c fr tt sa tk x z k) N c fr tt sa tk tn tr op sl nd oi il tl go gt fa mn nx]) := by
  refine q_ofW (Qc := fun A => (va_Qi (fun r (_ : Unit) => r = irR N c fr tt sa tk x z k) (fun u t => mAt D (tY cI cZ cL) A ((fun (_ : Unit) => [wM cI cZ cL q (irT N c fr tt sa tk x z k) N c fr tt sa tk tn tr op sl nd oi il tl go gt fa mn nx]) u) t) A)) (cc := cX5_inRow) (maxL := 5) (ret := (some .int)) (by decide) rfl (Nat.le_of_ble_eq_true rfl) ?_
  intro pz ez sz mz bz tz cz hx hb hml hr hlocks hts hown hK hP A hD hA ls hl
  have hS : va_S A sz.heap sz.heap [] := va_S.rf
  have hl : lv_has ls 5 [(0, .ref (q 0)), (1, .int x), (2, .int z), (3, .int k)] := hl
  refine lv_aload_n hx hb dX5_inRow_0 rfl (lv_at hl 0 rfl) ?_
  refine lv_iload_n hx hb dX5_inRow_1 rfl (lv_at hl 1 rfl) ?_
  refine q_callVi (index := 70) (n := 1) (As := [.int x]) (rest := []) (js := [0]) (ci := 5) ⟨hx, hb, hml, hown, hts⟩ hK hP hD hS hA (k5_isNode l D cI cZ cL q th N c fr tt sa tk tn tr op sl nd oi il tl go gt fa mn nx x) rfl (by decide) (fun _ => by simp only [List.map_cons, List.map_nil, wM_fst]) (fun (_ : Unit) => [wM cI cZ cL q th N c fr tt sa tk tn tr op sl nd oi il tl go gt fa mn nx]) (fun _ => rfl) gX5_inRow_X5_isNode rfl (by decide +kernel) rfl ⟨by decide, by decide⟩ rfl rfl rfl rfl hl.1 (Nat.le_of_ble_eq_true rfl) ⟨(Nat.zero_le _), (Nat.zero_le _)⟩ dX5_inRow_2 rfl (fun r _ H locs hw hP hD hS => ?_)
  have hw : r = bI (hasB N x) := hw
  subst hw
  refine lv_if_eq (tgt := 23) hx hb dX5_inRow_5 (by decide) (fun c_5 => ?_) (fun c_5 => ?_)
  ·
    have n_5 : (hasB N x) = false := bI_0.mp c_5
    refine lv_iconst (v := (-1)) hx hb dX5_inRow_23 (by decide) ?_
    refine lv_istore (lv' := [(4, .int (-1 : Int32)), (0, .ref (q 0)), (1, .int x), (2, .int z), (3, .int k)]) hx hb dX5_inRow_24 hl (by decide) rfl (fun ls hl => ?_)
    refine lv_aload_n hx hb dX5_inRow_26 rfl (lv_at hl 1 rfl) ?_
    refine lv_iload hx hb dX5_inRow_27 (lv_at hl 0 rfl) ?_
    refine lv_iconst (v := (-1)) hx hb dX5_inRow_29 (by decide) ?_
    refine lv_icmp_ne (tgt := 37) hx hb dX5_inRow_30 (by decide) (fun c_30 => ?_) (fun c_30 => ?_)
    ·
      exact absurd (by decide) c_30
    ·
      refine lv_iconst (v := (1 : Int32)) hx hb dX5_inRow_33 (by decide) ?_
      refine lv_goto (tgt := 38) hx hb dX5_inRow_34 (by decide) ?_
      refine q_put (D := D) (ci := 5) (v := .int (nI 1)) (ty := .int) (C := RX5) (T := TX5) (N := 20) hx hb hts (by decide +kernel) tyX5 tyX5_ok nmX5 hown hK hP hD hS 0 0 rfl rfl rfl 0 (by decide) (hts (.fieldLink RX5 1 "OffsetRowsModel" "thrown" "I") (by decide +kernel)) (fun _ h9 => h9) rfl (by decide +kernel) rfl rfl (Nat.le_of_ble_eq_true rfl) dX5_inRow_38 (wM_s_th (g9 := 1)) (Fs' := [wM cI cZ cL q 1 N c fr tt sa tk tn tr op sl nd oi il tl go gt fa mn nx]) rfl (fun H locs hP hD hS => ?_)
      refine lv_iload hx hb dX5_inRow_41 (lv_at hl 0 rfl) ?_
      refine lv_iconst (v := (-1)) hx hb dX5_inRow_43 (by decide) ?_
      refine lv_icmp_ne (tgt := 51) hx hb dX5_inRow_44 (by decide) (fun c_44 => ?_) (fun c_44 => ?_)
      ·
        exact absurd (by decide) c_44
      ·
        refine lv_iconst (v := (0 : Int32)) hx hb dX5_inRow_47 (by decide) ?_
        refine lv_goto (tgt := 53) hx hb dX5_inRow_48 (by decide) ?_
        exact q_iret (()) hx hb hr hlocks hK hP hD hS (by simp [irR, irT, irA, n_5, c_30, c_44]) (by simp [irR, irT, irA, n_5, c_30, c_44]) dX5_inRow_53
  ·
    have n_5 : (hasB N x) = true := bI_n.mp c_5
    refine lv_iload_n hx hb dX5_inRow_8 rfl (lv_at hl 3 rfl) ?_
    refine lv_if_lt (tgt := 23) hx hb dX5_inRow_9 (by decide) (fun c_9 => ?_) (fun c_9 => ?_)
    ·
      refine lv_iconst (v := (-1)) hx hb dX5_inRow_23 (by decide) ?_
      refine lv_istore (lv' := [(4, .int (-1 : Int32)), (0, .ref (q 0)), (1, .int x), (2, .int z), (3, .int k)]) hx hb dX5_inRow_24 hl (by decide) rfl (fun ls hl => ?_)
      refine lv_aload_n hx hb dX5_inRow_26 rfl (lv_at hl 1 rfl) ?_
      refine lv_iload hx hb dX5_inRow_27 (lv_at hl 0 rfl) ?_
      refine lv_iconst (v := (-1)) hx hb dX5_inRow_29 (by decide) ?_
      refine lv_icmp_ne (tgt := 37) hx hb dX5_inRow_30 (by decide) (fun c_30 => ?_) (fun c_30 => ?_)
      ·
        exact absurd (by decide) c_30
      ·
        refine lv_iconst (v := (1 : Int32)) hx hb dX5_inRow_33 (by decide) ?_
        refine lv_goto (tgt := 38) hx hb dX5_inRow_34 (by decide) ?_
        refine q_put (D := D) (ci := 5) (v := .int (nI 1)) (ty := .int) (C := RX5) (T := TX5) (N := 20) hx hb hts (by decide +kernel) tyX5 tyX5_ok nmX5 hown hK hP hD hS 0 0 rfl rfl rfl 0 (by decide) (hts (.fieldLink RX5 1 "OffsetRowsModel" "thrown" "I") (by decide +kernel)) (fun _ h9 => h9) rfl (by decide +kernel) rfl rfl (Nat.le_of_ble_eq_true rfl) dX5_inRow_38 (wM_s_th (g9 := 1)) (Fs' := [wM cI cZ cL q 1 N c fr tt sa tk tn tr op sl nd oi il tl go gt fa mn nx]) rfl (fun H locs hP hD hS => ?_)
        refine lv_iload hx hb dX5_inRow_41 (lv_at hl 0 rfl) ?_
        refine lv_iconst (v := (-1)) hx hb dX5_inRow_43 (by decide) ?_
        refine lv_icmp_ne (tgt := 51) hx hb dX5_inRow_44 (by decide) (fun c_44 => ?_) (fun c_44 => ?_)
        ·
          exact absurd (by decide) c_44
        ·
          refine lv_iconst (v := (0 : Int32)) hx hb dX5_inRow_47 (by decide) ?_
          refine lv_goto (tgt := 53) hx hb dX5_inRow_48 (by decide) ?_
          exact q_iret (()) hx hb hr hlocks hK hP hD hS (by simp [irR, irT, irA, n_5, c_9, c_30, c_44]) (by simp [irR, irT, irA, n_5, c_9, c_30, c_44]) dX5_inRow_53
    ·
      refine lv_aload_n hx hb dX5_inRow_12 rfl (lv_at hl 0 rfl) ?_
      refine lv_iload_n hx hb dX5_inRow_13 rfl (lv_at hl 1 rfl) ?_
      refine lv_iload_n hx hb dX5_inRow_14 rfl (lv_at hl 2 rfl) ?_
      refine lv_iconst (v := (0 : Int32)) hx hb dX5_inRow_15 (by decide) ?_
      refine lv_iload_n hx hb dX5_inRow_16 rfl (lv_at hl 3 rfl) ?_
      refine q_callVi (index := 102) (n := 4) (As := [.int x, .int z, .int (0 : Int32), .int k]) (rest := []) (js := [0]) (ci := 5) ⟨hx, hb, hml, hown, hts⟩ hK hP hD hS hA (k5_place l D cI cZ cL q th N c fr tt sa tk tn tr op sl nd oi il tl go gt fa mn nx x z (0 : Int32) k (by omega)) rfl (by decide) (fun _ => by simp only [List.map_cons, List.map_nil, wM_fst]) (fun (_ : Unit) => [wM cI cZ cL q th N c fr tt sa tk tn tr op sl nd oi il tl go gt fa mn nx]) (fun _ => rfl) gX5_inRow_X5_place rfl (by decide +kernel) rfl ⟨by decide, by decide⟩ rfl rfl rfl rfl hl.1 (Nat.le_of_ble_eq_true rfl) ⟨(Nat.zero_le _), (Nat.zero_le _)⟩ dX5_inRow_17 rfl (fun r _ H locs hw hP hD hS => ?_)
      have hw : r = plR c fr tt sa tk x z (0 : Int32) k := hw
      subst hw
      refine lv_goto (tgt := 24) hx hb dX5_inRow_20 (by decide) ?_
      refine lv_istore (lv' := [(4, .int (plR c fr tt sa tk x z (0 : Int32) k)), (0, .ref (q 0)), (1, .int x), (2, .int z), (3, .int k)]) hx hb dX5_inRow_24 hl (by decide) rfl (fun ls hl => ?_)
      refine lv_aload_n hx hb dX5_inRow_26 rfl (lv_at hl 1 rfl) ?_
      refine lv_iload hx hb dX5_inRow_27 (lv_at hl 0 rfl) ?_
      refine lv_iconst (v := (-1)) hx hb dX5_inRow_29 (by decide) ?_
      refine lv_icmp_ne (tgt := 37) hx hb dX5_inRow_30 (by decide) (fun c_30 => ?_) (fun c_30 => ?_)
      ·
        refine lv_iconst (v := (0 : Int32)) hx hb dX5_inRow_37 (by decide) ?_
        refine q_put (D := D) (ci := 5) (v := .int (nI 0)) (ty := .int) (C := RX5) (T := TX5) (N := 20) hx hb hts (by decide +kernel) tyX5 tyX5_ok nmX5 hown hK hP hD hS 0 0 rfl rfl rfl 0 (by decide) (hts (.fieldLink RX5 1 "OffsetRowsModel" "thrown" "I") (by decide +kernel)) (fun _ h9 => h9) rfl (by decide +kernel) rfl rfl (Nat.le_of_ble_eq_true rfl) dX5_inRow_38 (wM_s_th (g9 := 0)) (Fs' := [wM cI cZ cL q 0 N c fr tt sa tk tn tr op sl nd oi il tl go gt fa mn nx]) rfl (fun H locs hP hD hS => ?_)
        refine lv_iload hx hb dX5_inRow_41 (lv_at hl 0 rfl) ?_
        refine lv_iconst (v := (-1)) hx hb dX5_inRow_43 (by decide) ?_
        refine lv_icmp_ne (tgt := 51) hx hb dX5_inRow_44 (by decide) (fun c_44 => ?_) (fun c_44 => ?_)
        ·
          refine lv_iload hx hb dX5_inRow_51 (lv_at hl 0 rfl) ?_
          exact q_iret (()) hx hb hr hlocks hK hP hD hS (by simp [irR, irT, irA, n_5, c_9, c_30, c_44]) (by simp [irR, irT, irA, n_5, c_9, c_30, c_44]) dX5_inRow_53
        ·
          exact absurd c_44 c_30
      ·
        refine lv_iconst (v := (1 : Int32)) hx hb dX5_inRow_33 (by decide) ?_
        refine lv_goto (tgt := 38) hx hb dX5_inRow_34 (by decide) ?_
        refine q_put (D := D) (ci := 5) (v := .int (nI 1)) (ty := .int) (C := RX5) (T := TX5) (N := 20) hx hb hts (by decide +kernel) tyX5 tyX5_ok nmX5 hown hK hP hD hS 0 0 rfl rfl rfl 0 (by decide) (hts (.fieldLink RX5 1 "OffsetRowsModel" "thrown" "I") (by decide +kernel)) (fun _ h9 => h9) rfl (by decide +kernel) rfl rfl (Nat.le_of_ble_eq_true rfl) dX5_inRow_38 (wM_s_th (g9 := 1)) (Fs' := [wM cI cZ cL q 1 N c fr tt sa tk tn tr op sl nd oi il tl go gt fa mn nx]) rfl (fun H locs hP hD hS => ?_)
        refine lv_iload hx hb dX5_inRow_41 (lv_at hl 0 rfl) ?_
        refine lv_iconst (v := (-1)) hx hb dX5_inRow_43 (by decide) ?_
        refine lv_icmp_ne (tgt := 51) hx hb dX5_inRow_44 (by decide) (fun c_44 => ?_) (fun c_44 => ?_)
        ·
          exact absurd c_30 c_44
        ·
          refine lv_iconst (v := (0 : Int32)) hx hb dX5_inRow_47 (by decide) ?_
          refine lv_goto (tgt := 53) hx hb dX5_inRow_48 (by decide) ?_
          exact q_iret (()) hx hb hr hlocks hK hP hD hS (by simp [irR, irT, irA, n_5, c_9, c_30, c_44]) (by simp [irR, irT, irA, n_5, c_9, c_30, c_44]) dX5_inRow_53

set_option maxHeartbeats 8000000 in
set_option maxRecDepth 100000 in
theorem k5_out (l : Launch) (D : va_G) (cI cZ cL : ClassId) (q : Nat → Nat) (th : Nat) (N : Nat) (c : Nat) (fr : Nat → Int32) (tt : Nat → Int32) (sa : Nat → Int32) (tk : Nat → Int32) (tn : Nat) (tr : Nat → Int32) (op : Nat → Int32) (sl : Nat → Int32) (nd : Nat → Int32) (oi : Nat → Int32) (il : Nat → Int32) (tl : Nat → Int32) (go : Nat → Int32) (gt : Nat → Int32) (fa : Nat → Int32) (mn : Nat → Int64) (nx : Nat → Int64) (x : Int32) (k : Int32) (hc : c ≤ 160) : McI l D (tY cI cZ cL) yX5_out wsX5_out 4 97 [.ref (q 0), .int x, .int k] ([wM cI cZ cL q th N c fr tt sa tk tn tr op sl nd oi il tl go gt fa mn nx]) (fun r (_ : Unit) => r = irR N c fr tt sa tk x 0 k) (fun (_ : Unit) => [wM cI cZ cL q (irT N c fr tt sa tk x 0 k) N c fr tt sa tk tn tr op sl nd oi il tl go gt fa mn nx]) := by
  refine q_ofW (Qc := fun A => (va_Qi (fun r (_ : Unit) => r = irR N c fr tt sa tk x 0 k) (fun u t => mAt D (tY cI cZ cL) A ((fun (_ : Unit) => [wM cI cZ cL q (irT N c fr tt sa tk x 0 k) N c fr tt sa tk tn tr op sl nd oi il tl go gt fa mn nx]) u) t) A)) (cc := cX5_out) (maxL := 3) (ret := (some .int)) (by decide) rfl (Nat.le_of_ble_eq_true rfl) ?_
  intro pz ez sz mz bz tz cz hx hb hml hr hlocks hts hown hK hP A hD hA ls hl
  have hS : va_S A sz.heap sz.heap [] := va_S.rf
  have hl : lv_has ls 3 [(0, .ref (q 0)), (1, .int x), (2, .int k)] := hl
  refine lv_aload_n hx hb dX5_out_0 rfl (lv_at hl 0 rfl) ?_
  refine lv_iconst (v := (0 : Int32)) hx hb dX5_out_1 (by decide) ?_
  refine q_put (D := D) (ci := 5) (v := .int (nI 0)) (ty := .int) (C := RX5) (T := TX5) (N := 20) hx hb hts (by decide +kernel) tyX5 tyX5_ok nmX5 hown hK hP hD hS 0 0 rfl rfl rfl 0 (by decide) (hts (.fieldLink RX5 1 "OffsetRowsModel" "thrown" "I") (by decide +kernel)) (fun _ h9 => h9) rfl (by decide +kernel) rfl rfl (Nat.le_of_ble_eq_true rfl) dX5_out_2 (wM_s_th (g9 := 0)) (Fs' := [wM cI cZ cL q 0 N c fr tt sa tk tn tr op sl nd oi il tl go gt fa mn nx]) rfl (fun H locs hP hD hS => ?_)
  refine lv_aload_n hx hb dX5_out_5 rfl (lv_at hl 0 rfl) ?_
  refine lv_iload_n hx hb dX5_out_6 rfl (lv_at hl 1 rfl) ?_
  refine lv_iconst (v := (0 : Int32)) hx hb dX5_out_7 (by decide) ?_
  refine lv_iload_n hx hb dX5_out_8 rfl (lv_at hl 2 rfl) ?_
  refine q_callVi (index := 106) (n := 3) (As := [.int x, .int (0 : Int32), .int k]) (rest := []) (js := [0]) (ci := 5) ⟨hx, hb, hml, hown, hts⟩ hK hP hD hS hA (k5_inRow l D cI cZ cL q 0 N c fr tt sa tk tn tr op sl nd oi il tl go gt fa mn nx x (0 : Int32) k (by omega)) rfl (by decide) (fun _ => by simp only [List.map_cons, List.map_nil, wM_fst]) (fun (_ : Unit) => [wM cI cZ cL q (irT N c fr tt sa tk x (0 : Int32) k) N c fr tt sa tk tn tr op sl nd oi il tl go gt fa mn nx]) (fun _ => rfl) gX5_out_X5_inRow rfl (by decide +kernel) rfl ⟨by decide, by decide⟩ rfl rfl rfl rfl hl.1 (Nat.le_of_ble_eq_true rfl) ⟨(Nat.zero_le _), (Nat.zero_le _)⟩ dX5_out_9 rfl (fun r _ H locs hw hP hD hS => ?_)
  have hw : r = irR N c fr tt sa tk x (0 : Int32) k := hw
  subst hw
  exact q_iret (()) hx hb hr hlocks hK hP hD hS (rfl) (rfl) dX5_out_12

set_option maxHeartbeats 8000000 in
set_option maxRecDepth 100000 in
theorem k5_in (l : Launch) (D : va_G) (cI cZ cL : ClassId) (q : Nat → Nat) (th : Nat) (N : Nat) (c : Nat) (fr : Nat → Int32) (tt : Nat → Int32) (sa : Nat → Int32) (tk : Nat → Int32) (tn : Nat) (tr : Nat → Int32) (op : Nat → Int32) (sl : Nat → Int32) (nd : Nat → Int32) (oi : Nat → Int32) (il : Nat → Int32) (tl : Nat → Int32) (go : Nat → Int32) (gt : Nat → Int32) (fa : Nat → Int32) (mn : Nat → Int64) (nx : Nat → Int64) (x : Int32) (k : Int32) (hc : c ≤ 160) : McI l D (tY cI cZ cL) yX5_in wsX5_in 4 97 [.ref (q 0), .int x, .int k] ([wM cI cZ cL q th N c fr tt sa tk tn tr op sl nd oi il tl go gt fa mn nx]) (fun r (_ : Unit) => r = irR N c fr tt sa tk x 1 k) (fun (_ : Unit) => [wM cI cZ cL q (irT N c fr tt sa tk x 1 k) N c fr tt sa tk tn tr op sl nd oi il tl go gt fa mn nx]) := by
  refine q_ofW (Qc := fun A => (va_Qi (fun r (_ : Unit) => r = irR N c fr tt sa tk x 1 k) (fun u t => mAt D (tY cI cZ cL) A ((fun (_ : Unit) => [wM cI cZ cL q (irT N c fr tt sa tk x 1 k) N c fr tt sa tk tn tr op sl nd oi il tl go gt fa mn nx]) u) t) A)) (cc := cX5_in) (maxL := 3) (ret := (some .int)) (by decide) rfl (Nat.le_of_ble_eq_true rfl) ?_
  intro pz ez sz mz bz tz cz hx hb hml hr hlocks hts hown hK hP A hD hA ls hl
  have hS : va_S A sz.heap sz.heap [] := va_S.rf
  have hl : lv_has ls 3 [(0, .ref (q 0)), (1, .int x), (2, .int k)] := hl
  refine lv_aload_n hx hb dX5_in_0 rfl (lv_at hl 0 rfl) ?_
  refine lv_iconst (v := (0 : Int32)) hx hb dX5_in_1 (by decide) ?_
  refine q_put (D := D) (ci := 5) (v := .int (nI 0)) (ty := .int) (C := RX5) (T := TX5) (N := 20) hx hb hts (by decide +kernel) tyX5 tyX5_ok nmX5 hown hK hP hD hS 0 0 rfl rfl rfl 0 (by decide) (hts (.fieldLink RX5 1 "OffsetRowsModel" "thrown" "I") (by decide +kernel)) (fun _ h9 => h9) rfl (by decide +kernel) rfl rfl (Nat.le_of_ble_eq_true rfl) dX5_in_2 (wM_s_th (g9 := 0)) (Fs' := [wM cI cZ cL q 0 N c fr tt sa tk tn tr op sl nd oi il tl go gt fa mn nx]) rfl (fun H locs hP hD hS => ?_)
  refine lv_aload_n hx hb dX5_in_5 rfl (lv_at hl 0 rfl) ?_
  refine lv_iload_n hx hb dX5_in_6 rfl (lv_at hl 1 rfl) ?_
  refine lv_iconst (v := (1 : Int32)) hx hb dX5_in_7 (by decide) ?_
  refine lv_iload_n hx hb dX5_in_8 rfl (lv_at hl 2 rfl) ?_
  refine q_callVi (index := 106) (n := 3) (As := [.int x, .int (1 : Int32), .int k]) (rest := []) (js := [0]) (ci := 5) ⟨hx, hb, hml, hown, hts⟩ hK hP hD hS hA (k5_inRow l D cI cZ cL q 0 N c fr tt sa tk tn tr op sl nd oi il tl go gt fa mn nx x (1 : Int32) k (by omega)) rfl (by decide) (fun _ => by simp only [List.map_cons, List.map_nil, wM_fst]) (fun (_ : Unit) => [wM cI cZ cL q (irT N c fr tt sa tk x (1 : Int32) k) N c fr tt sa tk tn tr op sl nd oi il tl go gt fa mn nx]) (fun _ => rfl) gX5_in_X5_inRow rfl (by decide +kernel) rfl ⟨by decide, by decide⟩ rfl rfl rfl rfl hl.1 (Nat.le_of_ble_eq_true rfl) ⟨(Nat.zero_le _), (Nat.zero_le _)⟩ dX5_in_9 rfl (fun r _ H locs hw hP hD hS => ?_)
  have hw : r = irR N c fr tt sa tk x (1 : Int32) k := hw
  subst hw
  exact q_iret (()) hx hb hr hlocks hK hP hD hS (rfl) (rfl) dX5_in_12

set_option maxHeartbeats 8000000 in
set_option maxRecDepth 100000 in
theorem k5_offset (l : Launch) (D : va_G) (cI cZ cL : ClassId) (q : Nat → Nat) (th : Nat) (N : Nat) (c : Nat) (fr : Nat → Int32) (tt : Nat → Int32) (sa : Nat → Int32) (tk : Nat → Int32) (tn : Nat) (tr : Nat → Int32) (op : Nat → Int32) (sl : Nat → Int32) (nd : Nat → Int32) (oi : Nat → Int32) (il : Nat → Int32) (tl : Nat → Int32) (go : Nat → Int32) (gt : Nat → Int32) (fa : Nat → Int32) (mn : Nat → Int64) (nx : Nat → Int64) (x : Int32) (z : Int32) (hc : c ≤ 160) : McI l D (tY cI cZ cL) yX5_offset wsX5_offset 1 22 [.ref (q 0), .int x, .int z] ([wM cI cZ cL q th N c fr tt sa tk tn tr op sl nd oi il tl go gt fa mn nx]) (fun r (_ : Unit) => r = ofsR N c fr tt sa x z) (fun (_ : Unit) => [wM cI cZ cL q 0 N c fr tt sa tk tn tr op sl nd oi il tl go gt fa mn nx]) := by
  refine q_ofW (Qc := fun A => (va_Qi (fun r (_ : Unit) => r = ofsR N c fr tt sa x z) (fun u t => mAt D (tY cI cZ cL) A ((fun (_ : Unit) => [wM cI cZ cL q 0 N c fr tt sa tk tn tr op sl nd oi il tl go gt fa mn nx]) u) t) A)) (cc := cX5_offset) (maxL := 5) (ret := (some .int)) (by decide) rfl (Nat.le_of_ble_eq_true rfl) ?_
  intro pz ez sz mz bz tz cz hx hb hml hr hlocks hts hown hK hP A hD hA ls hl
  have hS : va_S A sz.heap sz.heap [] := va_S.rf
  have hl : lv_has ls 5 [(0, .ref (q 0)), (1, .int x), (2, .int z)] := hl
  refine lv_aload_n hx hb dX5_offset_0 rfl (lv_at hl 0 rfl) ?_
  refine lv_iconst (v := (0 : Int32)) hx hb dX5_offset_1 (by decide) ?_
  refine q_put (D := D) (ci := 5) (v := .int (nI 0)) (ty := .int) (C := RX5) (T := TX5) (N := 20) hx hb hts (by decide +kernel) tyX5 tyX5_ok nmX5 hown hK hP hD hS 0 0 rfl rfl rfl 0 (by decide) (hts (.fieldLink RX5 1 "OffsetRowsModel" "thrown" "I") (by decide +kernel)) (fun _ h9 => h9) rfl (by decide +kernel) rfl rfl (Nat.le_of_ble_eq_true rfl) dX5_offset_2 (wM_s_th (g9 := 0)) (Fs' := [wM cI cZ cL q 0 N c fr tt sa tk tn tr op sl nd oi il tl go gt fa mn nx]) rfl (fun H locs hP hD hS => ?_)
  refine lv_iload_n hx hb dX5_offset_5 rfl (lv_at hl 1 rfl) ?_
  refine lv_if_lt (tgt := 17) hx hb dX5_offset_6 (by decide) (fun c_6 => ?_) (fun c_6 => ?_)
  ·
    refine lv_bipush (v := (-2)) hx hb dX5_offset_17 (by decide) ?_
    exact q_iret (()) hx hb hr hlocks hK hP hD hS (by simp [ofsR, c_6]) (rfl) dX5_offset_19
  ·
    refine lv_iload_n hx hb dX5_offset_9 rfl (lv_at hl 1 rfl) ?_
    refine lv_aload_n hx hb dX5_offset_10 rfl (lv_at hl 0 rfl) ?_
    refine q_get (D := D) (ci := 5) (v := .int (nI N)) (C := RX5) (T := TX5) (N := 20) hx hb hts (by decide +kernel) hown hK hP 0 0 rfl rfl rfl 1 (by decide) (hts (.fieldLink RX5 64 "OffsetRowsModel" "nodes" "I") (by decide +kernel)) (fun _ h9 => h9) rfl dX5_offset_11 ?_
    refine lv_icmp_le (tgt := 20) hx hb dX5_offset_14 (by decide) (fun c_14 => ?_) (fun c_14 => ?_)
    ·
      refine lv_iconst (v := (0 : Int32)) hx hb dX5_offset_20 (by decide) ?_
      refine lv_istore_n (lv' := [(3, .int (0 : Int32)), (0, .ref (q 0)), (1, .int x), (2, .int z)]) hx hb dX5_offset_21 rfl hl (by decide) rfl (fun ls hl => ?_)
      refine lv_iconst (v := (0 : Int32)) hx hb dX5_offset_22 (by decide) ?_
      refine lv_istore (lv' := [(4, .int (0 : Int32)), (3, .int (0 : Int32)), (0, .ref (q 0)), (1, .int x), (2, .int z)]) hx hb dX5_offset_23 hl (by decide) rfl (fun ls hl => ?_)
      have loop_25 : ∀ (k_25 i : Nat), i ≤ c → c < i + k_25 → ∀ (H : Heap) (locs : List Loc), va_P D vwCl (List.flatten [wM cI cZ cL q 0 N c fr tt sa tk tn tr op sl nd oi il tl go gt fa mn nx]) H → va_D A (List.flatten [wM cI cZ cL q 0 N c fr tt sa tk tn tr op sl nd oi il tl go gt fa mn nx]) → va_S A sz.heap H locs → ∀ (ls : Array Slot), lv_has ls 5 [(4, .int (nI i)), (3, .int (nI (cN i (ofsB fr tt sa z x)))), (0, .ref (q 0)), (1, .int x), (2, .int z)] → W pz l ez (rM 1 22) sz mz [.ref (q 0), .int x, .int z].toArray bz tz cz H locs 0 0 (MQ bz (va_Qi (fun r (_ : Unit) => r = ofsR N c fr tt sa x z) (fun u t => mAt D (tY cI cZ cL) A ((fun (_ : Unit) => [wM cI cZ cL q 0 N c fr tt sa tk tn tr op sl nd oi il tl go gt fa mn nx]) u) t) A) [.ref (q 0), .int x, .int z].toArray sz 0 0 A) (F0 mz 25 ls [])  := by
        intro k_25
        induction k_25 with
        | zero => intro i hi_25 hk_25; exact absurd hk_25 (by omega)
        | succ k_25 ih_25 =>
          intro i hi_25 hk_25 H locs hP hD hS ls hl
          refine lv_iload hx hb dX5_offset_25 (lv_at hl 0 rfl) ?_
          refine lv_aload_n hx hb dX5_offset_27 rfl (lv_at hl 2 rfl) ?_
          refine q_get (D := D) (ci := 5) (v := .int (nI c)) (C := RX5) (T := TX5) (N := 20) hx hb hts (by decide +kernel) hown hK hP 0 0 rfl rfl rfl 2 (by decide) (hts (.fieldLink RX5 67 "OffsetRowsModel" "arcs" "I") (by decide +kernel)) (fun _ h9 => h9) rfl dX5_offset_28 ?_
          refine lv_icmp_ge (tgt := 70) hx hb dX5_offset_31 (by decide) (fun c_31 => ?_) (fun c_31 => ?_)
          ·
            have n_31 : c ≤ i := (nI_leI (a := c) (b := i) (by omega) (by omega)).mp c_31
            refine lv_iload_n hx hb dX5_offset_70 rfl (lv_at hl 1 rfl) ?_
            exact q_iret (()) hx hb hr hlocks hK hP hD hS (by rw [show i = c by omega]; simp [ofsR, c_6, c_14, c_31, n_31]) (rfl) dX5_offset_71
          ·
            have n_31 : ¬ c ≤ i := fun h9 => c_31 ((nI_leI (a := c) (b := i) (by omega) (by omega)).mpr h9)
            refine lv_iload_n hx hb dX5_offset_34 rfl (lv_at hl 1 rfl) ?_
            refine lv_aload_n hx hb dX5_offset_35 rfl (lv_at hl 2 rfl) ?_
            refine q_get (D := D) (ci := 5) (v := .ref (q 3)) (C := RX5) (T := TX5) (N := 20) hx hb hts (by decide +kernel) hown hK hP 0 0 rfl rfl rfl 5 (by decide) (hts (.fieldLink RX5 20 "OffsetRowsModel" "state" "[I") (by decide +kernel)) (fun _ h9 => h9) rfl dX5_offset_36 ?_
            refine lv_iload hx hb dX5_offset_39 (lv_at hl 0 rfl) ?_
            refine q_iald hx hb hK hP 0 3 0 rfl (f := sa) rfl rfl (k := i) (nI_clamp (n := i) (by omega)) (vp_in_nI (show i < 160 from by omega) (by omega)) dX5_offset_41 ?_
            refine lv_iconst (v := (1 : Int32)) hx hb dX5_offset_42 (by decide) ?_
            refine lv_icmp_ne (tgt := 61) hx hb dX5_offset_43 (by decide) (fun c_43 => ?_) (fun c_43 => ?_)
            ·
              refine lv_iconst (v := (0 : Int32)) hx hb dX5_offset_61 (by decide) ?_
              refine q_iadd (z := nI (cN i (ofsB fr tt sa z x) + 0)) hx hb dX5_offset_62 (nI_add (cN i (ofsB fr tt sa z x)) 0) ?_
              refine lv_istore_n (lv' := [(3, .int (nI (cN i (ofsB fr tt sa z x) + 0))), (4, .int (nI i)), (0, .ref (q 0)), (1, .int x), (2, .int z)]) hx hb dX5_offset_63 rfl hl (by decide) rfl (fun ls hl => ?_)
              refine lv_iinc (v := nI (i + 1)) (lv' := [(4, .int (nI (i + 1))), (3, .int (nI (cN i (ofsB fr tt sa z x) + 0))), (0, .ref (q 0)), (1, .int x), (2, .int z)]) hx hb dX5_offset_64 hl (k := 1) rfl (nI_add i 1) (by decide) rfl (fun ls hl => ?_)
              refine lv_goto (tgt := 25) hx hb dX5_offset_67 (by decide) ?_
              have hl : lv_has ls 5 [(4, .int (nI (i + 1))), (3, .int (nI (cN i (ofsB fr tt sa z x) + 0))), (0, .ref (q 0)), (1, .int x), (2, .int z)] := lv_sub hl [0, 1, 2, 3, 4] rfl
              have hl : lv_has ls 5 [(4, .int (nI (i + 1))), (3, .int (nI (cN (i + 1) (ofsB fr tt sa z x)))), (0, .ref (q 0)), (1, .int x), (2, .int z)] := by
                rw [← show nI (cN i (ofsB fr tt sa z x) + 0) = nI (cN (i + 1) (ofsB fr tt sa z x)) from by first | rfl | simp [cN, ofsB, c_6, c_14, c_31, n_31, c_43]]
                exact hl
              have hP : va_P D vwCl (List.flatten [wM cI cZ cL q 0 N c fr tt sa tk tn tr op sl nd oi il tl go gt fa mn nx]) _ := hP
              have hD : va_D A (List.flatten [wM cI cZ cL q 0 N c fr tt sa tk tn tr op sl nd oi il tl go gt fa mn nx]) := hD
              exact ih_25 (i + 1) (by omega) (by omega) _ _ hP hD hS _ hl
            ·
              refine lv_aload_n hx hb dX5_offset_46 rfl (lv_at hl 2 rfl) ?_
              refine lv_iload hx hb dX5_offset_47 (lv_at hl 0 rfl) ?_
              refine lv_iload_n hx hb dX5_offset_49 rfl (lv_at hl 4 rfl) ?_
              refine q_callVi (index := 91) (n := 2) (As := [.int (nI i), .int z]) (rest := [.int (nI (cN i (ofsB fr tt sa z x)))]) (js := [0]) (ci := 5) ⟨hx, hb, hml, hown, hts⟩ hK hP hD hS hA (k5_own l D cI cZ cL q 0 N c fr tt sa tk tn tr op sl nd oi il tl go gt fa mn nx i z (by omega) (by omega)) rfl (by decide) (fun _ => by simp only [List.map_cons, List.map_nil, wM_fst]) (fun (_ : Unit) => [wM cI cZ cL q 0 N c fr tt sa tk tn tr op sl nd oi il tl go gt fa mn nx]) (fun _ => rfl) gX5_offset_X5_own rfl (by decide +kernel) rfl ⟨by decide, by decide⟩ rfl rfl rfl rfl hl.1 (Nat.le_of_ble_eq_true rfl) ⟨(Nat.zero_le _), (Nat.zero_le _)⟩ dX5_offset_50 rfl (fun r _ H locs hw hP hD hS => ?_)
              have hw : r = ownI fr tt z i := hw
              subst hw
              refine lv_iload_n hx hb dX5_offset_53 rfl (lv_at hl 3 rfl) ?_
              refine lv_icmp_ge (tgt := 61) hx hb dX5_offset_54 (by decide) (fun c_54 => ?_) (fun c_54 => ?_)
              ·
                refine lv_iconst (v := (0 : Int32)) hx hb dX5_offset_61 (by decide) ?_
                refine q_iadd (z := nI (cN i (ofsB fr tt sa z x) + 0)) hx hb dX5_offset_62 (nI_add (cN i (ofsB fr tt sa z x)) 0) ?_
                refine lv_istore_n (lv' := [(3, .int (nI (cN i (ofsB fr tt sa z x) + 0))), (4, .int (nI i)), (0, .ref (q 0)), (1, .int x), (2, .int z)]) hx hb dX5_offset_63 rfl hl (by decide) rfl (fun ls hl => ?_)
                refine lv_iinc (v := nI (i + 1)) (lv' := [(4, .int (nI (i + 1))), (3, .int (nI (cN i (ofsB fr tt sa z x) + 0))), (0, .ref (q 0)), (1, .int x), (2, .int z)]) hx hb dX5_offset_64 hl (k := 1) rfl (nI_add i 1) (by decide) rfl (fun ls hl => ?_)
                refine lv_goto (tgt := 25) hx hb dX5_offset_67 (by decide) ?_
                have hl : lv_has ls 5 [(4, .int (nI (i + 1))), (3, .int (nI (cN i (ofsB fr tt sa z x) + 0))), (0, .ref (q 0)), (1, .int x), (2, .int z)] := lv_sub hl [0, 1, 2, 3, 4] rfl
                have hl : lv_has ls 5 [(4, .int (nI (i + 1))), (3, .int (nI (cN (i + 1) (ofsB fr tt sa z x)))), (0, .ref (q 0)), (1, .int x), (2, .int z)] := by
                  rw [← show nI (cN i (ofsB fr tt sa z x) + 0) = nI (cN (i + 1) (ofsB fr tt sa z x)) from by first | rfl | simp [cN, ofsB, c_6, c_14, c_31, n_31, c_43, c_54]]
                  exact hl
                have hP : va_P D vwCl (List.flatten [wM cI cZ cL q 0 N c fr tt sa tk tn tr op sl nd oi il tl go gt fa mn nx]) _ := hP
                have hD : va_D A (List.flatten [wM cI cZ cL q 0 N c fr tt sa tk tn tr op sl nd oi il tl go gt fa mn nx]) := hD
                exact ih_25 (i + 1) (by omega) (by omega) _ _ hP hD hS _ hl
              ·
                refine lv_iconst (v := (1 : Int32)) hx hb dX5_offset_57 (by decide) ?_
                refine lv_goto (tgt := 62) hx hb dX5_offset_58 (by decide) ?_
                refine q_iadd (z := nI (cN i (ofsB fr tt sa z x) + 1)) hx hb dX5_offset_62 (nI_add (cN i (ofsB fr tt sa z x)) 1) ?_
                refine lv_istore_n (lv' := [(3, .int (nI (cN i (ofsB fr tt sa z x) + 1))), (4, .int (nI i)), (0, .ref (q 0)), (1, .int x), (2, .int z)]) hx hb dX5_offset_63 rfl hl (by decide) rfl (fun ls hl => ?_)
                refine lv_iinc (v := nI (i + 1)) (lv' := [(4, .int (nI (i + 1))), (3, .int (nI (cN i (ofsB fr tt sa z x) + 1))), (0, .ref (q 0)), (1, .int x), (2, .int z)]) hx hb dX5_offset_64 hl (k := 1) rfl (nI_add i 1) (by decide) rfl (fun ls hl => ?_)
                refine lv_goto (tgt := 25) hx hb dX5_offset_67 (by decide) ?_
                have hl : lv_has ls 5 [(4, .int (nI (i + 1))), (3, .int (nI (cN i (ofsB fr tt sa z x) + 1))), (0, .ref (q 0)), (1, .int x), (2, .int z)] := lv_sub hl [0, 1, 2, 3, 4] rfl
                have hl : lv_has ls 5 [(4, .int (nI (i + 1))), (3, .int (nI (cN (i + 1) (ofsB fr tt sa z x)))), (0, .ref (q 0)), (1, .int x), (2, .int z)] := by
                  rw [← show nI (cN i (ofsB fr tt sa z x) + 1) = nI (cN (i + 1) (ofsB fr tt sa z x)) from by first | rfl | simp [cN, ofsB, c_6, c_14, c_31, n_31, c_43, c_54]]
                  exact hl
                have hP : va_P D vwCl (List.flatten [wM cI cZ cL q 0 N c fr tt sa tk tn tr op sl nd oi il tl go gt fa mn nx]) _ := hP
                have hD : va_D A (List.flatten [wM cI cZ cL q 0 N c fr tt sa tk tn tr op sl nd oi il tl go gt fa mn nx]) := hD
                exact ih_25 (i + 1) (by omega) (by omega) _ _ hP hD hS _ hl
      have hl : lv_has ls 5 [(4, .int (0 : Int32)), (3, .int (0 : Int32)), (0, .ref (q 0)), (1, .int x), (2, .int z)] := lv_sub hl [0, 1, 2, 3, 4] rfl
      have hl : lv_has ls 5 [(4, .int (nI 0)), (3, .int (nI (cN 0 (ofsB fr tt sa z x)))), (0, .ref (q 0)), (1, .int x), (2, .int z)] := by
        rw [← show (0 : Int32) = nI (cN 0 (ofsB fr tt sa z x)) from by first | rfl | simp [cN, ofsB, c_6, c_14]]
        exact hl
      have hP : va_P D vwCl (List.flatten [wM cI cZ cL q 0 N c fr tt sa tk tn tr op sl nd oi il tl go gt fa mn nx]) _ := hP
      have hD : va_D A (List.flatten [wM cI cZ cL q 0 N c fr tt sa tk tn tr op sl nd oi il tl go gt fa mn nx]) := hD
      exact loop_25 (c + 1) 0 (by omega) (by omega) _ _ hP hD hS _ hl
    ·
      refine lv_bipush (v := (-2)) hx hb dX5_offset_17 (by decide) ?_
      exact q_iret (()) hx hb hr hlocks hK hP hD hS (by simp [ofsR, c_6, c_14]) (rfl) dX5_offset_19

set_option maxHeartbeats 8000000 in
set_option maxRecDepth 100000 in
theorem k5_told (l : Launch) (D : va_G) (cI cZ cL : ClassId) (q : Nat → Nat) (th : Nat) (N : Nat) (c : Nat) (fr : Nat → Int32) (tt : Nat → Int32) (sa : Nat → Int32) (tk : Nat → Int32) (tn : Nat) (tr : Nat → Int32) (op : Nat → Int32) (sl : Nat → Int32) (nd : Nat → Int32) (oi : Nat → Int32) (il : Nat → Int32) (tl : Nat → Int32) (go : Nat → Int32) (gt : Nat → Int32) (fa : Nat → Int32) (mn : Nat → Int64) (nx : Nat → Int64) (x : Int32) (y : Int32) (hc : c ≤ 160) : McI l D (tY cI cZ cL) yX5_told wsX5_told 1 21 [.ref (q 0), .int x, .int y] ([wM cI cZ cL q th N c fr tt sa tk tn tr op sl nd oi il tl go gt fa mn nx]) (fun r (_ : Unit) => r = toR c fr tt sa tk x y) (fun (_ : Unit) => [wM cI cZ cL q 0 N c fr tt sa tk tn tr op sl nd oi il tl go gt fa mn nx]) := by
  refine q_ofW (Qc := fun A => (va_Qi (fun r (_ : Unit) => r = toR c fr tt sa tk x y) (fun u t => mAt D (tY cI cZ cL) A ((fun (_ : Unit) => [wM cI cZ cL q 0 N c fr tt sa tk tn tr op sl nd oi il tl go gt fa mn nx]) u) t) A)) (cc := cX5_told) (maxL := 3) (ret := (some .int)) (by decide) rfl (Nat.le_of_ble_eq_true rfl) ?_
  intro pz ez sz mz bz tz cz hx hb hml hr hlocks hts hown hK hP A hD hA ls hl
  have hS : va_S A sz.heap sz.heap [] := va_S.rf
  have hl : lv_has ls 3 [(0, .ref (q 0)), (1, .int x), (2, .int y)] := hl
  refine lv_aload_n hx hb dX5_told_0 rfl (lv_at hl 0 rfl) ?_
  refine lv_iconst (v := (0 : Int32)) hx hb dX5_told_1 (by decide) ?_
  refine q_put (D := D) (ci := 5) (v := .int (nI 0)) (ty := .int) (C := RX5) (T := TX5) (N := 20) hx hb hts (by decide +kernel) tyX5 tyX5_ok nmX5 hown hK hP hD hS 0 0 rfl rfl rfl 0 (by decide) (hts (.fieldLink RX5 1 "OffsetRowsModel" "thrown" "I") (by decide +kernel)) (fun _ h9 => h9) rfl (by decide +kernel) rfl rfl (Nat.le_of_ble_eq_true rfl) dX5_told_2 (wM_s_th (g9 := 0)) (Fs' := [wM cI cZ cL q 0 N c fr tt sa tk tn tr op sl nd oi il tl go gt fa mn nx]) rfl (fun H locs hP hD hS => ?_)
  refine lv_aload_n hx hb dX5_told_5 rfl (lv_at hl 0 rfl) ?_
  refine lv_iload_n hx hb dX5_told_6 rfl (lv_at hl 1 rfl) ?_
  refine q_callVi (index := 74) (n := 1) (As := [.int x]) (rest := []) (js := [0]) (ci := 5) ⟨hx, hb, hml, hown, hts⟩ hK hP hD hS hA (k5_isArc l D cI cZ cL q 0 N c fr tt sa tk tn tr op sl nd oi il tl go gt fa mn nx x) rfl (by decide) (fun _ => by simp only [List.map_cons, List.map_nil, wM_fst]) (fun (_ : Unit) => [wM cI cZ cL q 0 N c fr tt sa tk tn tr op sl nd oi il tl go gt fa mn nx]) (fun _ => rfl) gX5_told_X5_isArc rfl (by decide +kernel) rfl ⟨by decide, by decide⟩ rfl rfl rfl rfl hl.1 (Nat.le_of_ble_eq_true rfl) ⟨(Nat.zero_le _), (Nat.zero_le _)⟩ dX5_told_7 rfl (fun r _ H locs hw hP hD hS => ?_)
  have hw : r = bI (hasB c x) := hw
  subst hw
  refine lv_if_ne (tgt := 16) hx hb dX5_told_10 (by decide) (fun c_10 => ?_) (fun c_10 => ?_)
  ·
    have n_10 : (hasB c x) = true := bI_n.mp c_10
    refine lv_iload_n hx hb dX5_told_16 rfl (lv_at hl 2 rfl) ?_
    rcases sw5 y with h_sw | h_sw | h_sw | h_sw | h_sw | h_sw
    ·
      subst h_sw
      refine lv_tableIn (off := 35) (tgt := 52) hx hb dX5_told_17 (by decide) (by decide) rfl (by decide) ?_
      refine lv_aload_n hx hb dX5_told_52 rfl (lv_at hl 0 rfl) ?_
      refine q_get (D := D) (ci := 5) (v := .ref (q 1)) (C := RX5) (T := TX5) (N := 20) hx hb hts (by decide +kernel) hown hK hP 0 0 rfl rfl rfl 3 (by decide) (hts (.fieldLink RX5 13 "OffsetRowsModel" "from" "[I") (by decide +kernel)) (fun _ h9 => h9) rfl dX5_told_53 ?_
      refine lv_iload_n hx hb dX5_told_56 rfl (lv_at hl 1 rfl) ?_
      refine q_iald hx hb hK hP 0 1 0 rfl (f := fr) rfl rfl (k := x.toNatClampNeg) rfl (hasB_in n_10 hc (by decide)) dX5_told_57 ?_
      exact q_iret (()) hx hb hr hlocks hK hP hD hS (by simp [toR, n_10]) (rfl) dX5_told_58
    ·
      subst h_sw
      refine lv_tableIn (off := 42) (tgt := 59) hx hb dX5_told_17 (by decide) (by decide) rfl (by decide) ?_
      refine lv_aload_n hx hb dX5_told_59 rfl (lv_at hl 0 rfl) ?_
      refine q_get (D := D) (ci := 5) (v := .ref (q 2)) (C := RX5) (T := TX5) (N := 20) hx hb hts (by decide +kernel) hown hK hP 0 0 rfl rfl rfl 4 (by decide) (hts (.fieldLink RX5 17 "OffsetRowsModel" "to" "[I") (by decide +kernel)) (fun _ h9 => h9) rfl dX5_told_60 ?_
      refine lv_iload_n hx hb dX5_told_63 rfl (lv_at hl 1 rfl) ?_
      refine q_iald hx hb hK hP 0 2 0 rfl (f := tt) rfl rfl (k := x.toNatClampNeg) rfl (hasB_in n_10 hc (by decide)) dX5_told_64 ?_
      exact q_iret (()) hx hb hr hlocks hK hP hD hS (by simp [toR, n_10]) (rfl) dX5_told_65
    ·
      subst h_sw
      refine lv_tableIn (off := 49) (tgt := 66) hx hb dX5_told_17 (by decide) (by decide) rfl (by decide) ?_
      refine lv_aload_n hx hb dX5_told_66 rfl (lv_at hl 0 rfl) ?_
      refine q_get (D := D) (ci := 5) (v := .ref (q 3)) (C := RX5) (T := TX5) (N := 20) hx hb hts (by decide +kernel) hown hK hP 0 0 rfl rfl rfl 5 (by decide) (hts (.fieldLink RX5 20 "OffsetRowsModel" "state" "[I") (by decide +kernel)) (fun _ h9 => h9) rfl dX5_told_67 ?_
      refine lv_iload_n hx hb dX5_told_70 rfl (lv_at hl 1 rfl) ?_
      refine q_iald hx hb hK hP 0 3 0 rfl (f := sa) rfl rfl (k := x.toNatClampNeg) rfl (hasB_in n_10 hc (by decide)) dX5_told_71 ?_
      refine lv_iconst (v := (1 : Int32)) hx hb dX5_told_72 (by decide) ?_
      refine lv_icmp_ne (tgt := 80) hx hb dX5_told_73 (by decide) (fun c_73 => ?_) (fun c_73 => ?_)
      ·
        refine lv_iconst (v := (0 : Int32)) hx hb dX5_told_80 (by decide) ?_
        exact q_iret (()) hx hb hr hlocks hK hP hD hS (by simp [toR, n_10, c_73]) (rfl) dX5_told_81
      ·
        refine lv_iconst (v := (1 : Int32)) hx hb dX5_told_76 (by decide) ?_
        refine lv_goto (tgt := 81) hx hb dX5_told_77 (by decide) ?_
        exact q_iret (()) hx hb hr hlocks hK hP hD hS (by simp [toR, n_10, c_73]) (rfl) dX5_told_81
    ·
      subst h_sw
      refine lv_tableIn (off := 65) (tgt := 82) hx hb dX5_told_17 (by decide) (by decide) rfl (by decide) ?_
      refine lv_aload_n hx hb dX5_told_82 rfl (lv_at hl 0 rfl) ?_
      refine q_get (D := D) (ci := 5) (v := .ref (q 4)) (C := RX5) (T := TX5) (N := 20) hx hb hts (by decide +kernel) hown hK hP 0 0 rfl rfl rfl 6 (by decide) (hts (.fieldLink RX5 23 "OffsetRowsModel" "isTaken" "[Z") (by decide +kernel)) (fun _ h9 => h9) rfl dX5_told_83 ?_
      refine lv_iload_n hx hb dX5_told_86 rfl (lv_at hl 1 rfl) ?_
      refine q_zald hx hb hK hP 0 4 1 rfl (f := tk) rfl rfl (k := x.toNatClampNeg) rfl (hasB_in n_10 hc (by decide)) dX5_told_87 ?_
      refine lv_if_eq (tgt := 95) hx hb dX5_told_88 (by decide) (fun c_88 => ?_) (fun c_88 => ?_)
      ·
        refine lv_iconst (v := (0 : Int32)) hx hb dX5_told_95 (by decide) ?_
        exact q_iret (()) hx hb hr hlocks hK hP hD hS (by simp [toR, n_10, c_88]) (rfl) dX5_told_96
      ·
        refine lv_iconst (v := (1 : Int32)) hx hb dX5_told_91 (by decide) ?_
        refine lv_goto (tgt := 96) hx hb dX5_told_92 (by decide) ?_
        exact q_iret (()) hx hb hr hlocks hK hP hD hS (by simp [toR, n_10, c_88]) (rfl) dX5_told_96
    ·
      subst h_sw
      refine lv_tableIn (off := 80) (tgt := 97) hx hb dX5_told_17 (by decide) (by decide) rfl (by decide) ?_
      refine lv_aload_n hx hb dX5_told_97 rfl (lv_at hl 0 rfl) ?_
      refine q_get (D := D) (ci := 5) (v := .ref (q 3)) (C := RX5) (T := TX5) (N := 20) hx hb hts (by decide +kernel) hown hK hP 0 0 rfl rfl rfl 5 (by decide) (hts (.fieldLink RX5 20 "OffsetRowsModel" "state" "[I") (by decide +kernel)) (fun _ h9 => h9) rfl dX5_told_98 ?_
      refine lv_iload_n hx hb dX5_told_101 rfl (lv_at hl 1 rfl) ?_
      refine q_iald hx hb hK hP 0 3 0 rfl (f := sa) rfl rfl (k := x.toNatClampNeg) rfl (hasB_in n_10 hc (by decide)) dX5_told_102 ?_
      refine lv_iconst (v := (2 : Int32)) hx hb dX5_told_103 (by decide) ?_
      refine lv_icmp_ne (tgt := 111) hx hb dX5_told_104 (by decide) (fun c_104 => ?_) (fun c_104 => ?_)
      ·
        refine lv_iconst (v := (0 : Int32)) hx hb dX5_told_111 (by decide) ?_
        exact q_iret (()) hx hb hr hlocks hK hP hD hS (by simp [toR, n_10, c_104]) (rfl) dX5_told_112
      ·
        refine lv_iconst (v := (1 : Int32)) hx hb dX5_told_107 (by decide) ?_
        refine lv_goto (tgt := 112) hx hb dX5_told_108 (by decide) ?_
        exact q_iret (()) hx hb hr hlocks hK hP hD hS (by simp [toR, n_10, c_104]) (rfl) dX5_told_112
    ·
      have h_0 : ¬ y = 0 := by intro h9; subst h9; revert h_sw; decide
      have h_1 : ¬ y = 1 := by intro h9; subst h9; revert h_sw; decide
      have h_2 : ¬ y = 2 := by intro h9; subst h9; revert h_sw; decide
      have h_3 : ¬ y = 3 := by intro h9; subst h9; revert h_sw; decide
      have h_4 : ¬ y = 4 := by intro h9; subst h9; revert h_sw; decide
      refine lv_tableOut (tgt := 113) hx hb dX5_told_17 h_sw (by decide) ?_
      refine lv_bipush (v := (-3)) hx hb dX5_told_113 (by decide) ?_
      exact q_iret (()) hx hb hr hlocks hK hP hD hS (by simp [toR, n_10, h_0, h_1, h_2, h_3, h_4]) (rfl) dX5_told_115
  ·
    have n_10 : (hasB c x) = false := bI_0.mp c_10
    refine lv_bipush (v := (-2)) hx hb dX5_told_13 (by decide) ?_
    exact q_iret (()) hx hb hr hlocks hK hP hD hS (by simp [toR, n_10]) (rfl) dX5_told_15

set_option maxHeartbeats 8000000 in
set_option maxRecDepth 100000 in
theorem k5_degree (l : Launch) (D : va_G) (cI cZ cL : ClassId) (q : Nat → Nat) (th : Nat) (N : Nat) (c : Nat) (fr : Nat → Int32) (tt : Nat → Int32) (sa : Nat → Int32) (tk : Nat → Int32) (tn : Nat) (tr : Nat → Int32) (op : Nat → Int32) (sl : Nat → Int32) (nd : Nat → Int32) (oi : Nat → Int32) (il : Nat → Int32) (tl : Nat → Int32) (go : Nat → Int32) (gt : Nat → Int32) (fa : Nat → Int32) (mn : Nat → Int64) (nx : Nat → Int64) (x : Int32) (z : Int32) (hc : c ≤ 160) : McI l D (tY cI cZ cL) yX5_degree wsX5_degree 2 46 [.ref (q 0), .int x, .int z] ([wM cI cZ cL q th N c fr tt sa tk tn tr op sl nd oi il tl go gt fa mn nx]) (fun r (_ : Unit) => r = dgR N c fr tt sa tk x z) (fun (_ : Unit) => [wM cI cZ cL q 0 N c fr tt sa tk tn tr op sl nd oi il tl go gt fa mn nx]) := by
  refine q_ofW (Qc := fun A => (va_Qi (fun r (_ : Unit) => r = dgR N c fr tt sa tk x z) (fun u t => mAt D (tY cI cZ cL) A ((fun (_ : Unit) => [wM cI cZ cL q 0 N c fr tt sa tk tn tr op sl nd oi il tl go gt fa mn nx]) u) t) A)) (cc := cX5_degree) (maxL := 5) (ret := (some .int)) (by decide) rfl (Nat.le_of_ble_eq_true rfl) ?_
  intro pz ez sz mz bz tz cz hx hb hml hr hlocks hts hown hK hP A hD hA ls hl
  have hS : va_S A sz.heap sz.heap [] := va_S.rf
  have hl : lv_has ls 5 [(0, .ref (q 0)), (1, .int x), (2, .int z)] := hl
  refine lv_aload_n hx hb dX5_degree_0 rfl (lv_at hl 0 rfl) ?_
  refine lv_iconst (v := (0 : Int32)) hx hb dX5_degree_1 (by decide) ?_
  refine q_put (D := D) (ci := 5) (v := .int (nI 0)) (ty := .int) (C := RX5) (T := TX5) (N := 20) hx hb hts (by decide +kernel) tyX5 tyX5_ok nmX5 hown hK hP hD hS 0 0 rfl rfl rfl 0 (by decide) (hts (.fieldLink RX5 1 "OffsetRowsModel" "thrown" "I") (by decide +kernel)) (fun _ h9 => h9) rfl (by decide +kernel) rfl rfl (Nat.le_of_ble_eq_true rfl) dX5_degree_2 (wM_s_th (g9 := 0)) (Fs' := [wM cI cZ cL q 0 N c fr tt sa tk tn tr op sl nd oi il tl go gt fa mn nx]) rfl (fun H locs hP hD hS => ?_)
  refine lv_aload_n hx hb dX5_degree_5 rfl (lv_at hl 0 rfl) ?_
  refine lv_iload_n hx hb dX5_degree_6 rfl (lv_at hl 1 rfl) ?_
  refine q_callVi (index := 70) (n := 1) (As := [.int x]) (rest := []) (js := [0]) (ci := 5) ⟨hx, hb, hml, hown, hts⟩ hK hP hD hS hA (k5_isNode l D cI cZ cL q 0 N c fr tt sa tk tn tr op sl nd oi il tl go gt fa mn nx x) rfl (by decide) (fun _ => by simp only [List.map_cons, List.map_nil, wM_fst]) (fun (_ : Unit) => [wM cI cZ cL q 0 N c fr tt sa tk tn tr op sl nd oi il tl go gt fa mn nx]) (fun _ => rfl) gX5_degree_X5_isNode rfl (by decide +kernel) rfl ⟨by decide, by decide⟩ rfl rfl rfl rfl hl.1 (Nat.le_of_ble_eq_true rfl) ⟨(Nat.zero_le _), (Nat.zero_le _)⟩ dX5_degree_7 rfl (fun r _ H locs hw hP hD hS => ?_)
  have hw : r = bI (hasB N x) := hw
  subst hw
  refine lv_if_ne (tgt := 16) hx hb dX5_degree_10 (by decide) (fun c_10 => ?_) (fun c_10 => ?_)
  ·
    have n_10 : (hasB N x) = true := bI_n.mp c_10
    refine lv_iconst (v := (0 : Int32)) hx hb dX5_degree_16 (by decide) ?_
    refine lv_istore_n (lv' := [(3, .int (0 : Int32)), (0, .ref (q 0)), (1, .int x), (2, .int z)]) hx hb dX5_degree_17 rfl hl (by decide) rfl (fun ls hl => ?_)
    refine lv_iconst (v := (0 : Int32)) hx hb dX5_degree_18 (by decide) ?_
    refine lv_istore (lv' := [(4, .int (0 : Int32)), (3, .int (0 : Int32)), (0, .ref (q 0)), (1, .int x), (2, .int z)]) hx hb dX5_degree_19 hl (by decide) rfl (fun ls hl => ?_)
    have loop_21 : ∀ (k_21 i : Nat), i ≤ c → c < i + k_21 → ∀ (H : Heap) (locs : List Loc), va_P D vwCl (List.flatten [wM cI cZ cL q 0 N c fr tt sa tk tn tr op sl nd oi il tl go gt fa mn nx]) H → va_D A (List.flatten [wM cI cZ cL q 0 N c fr tt sa tk tn tr op sl nd oi il tl go gt fa mn nx]) → va_S A sz.heap H locs → ∀ (ls : Array Slot), lv_has ls 5 [(4, .int (nI i)), (3, .int (nI (cN i (ofB fr tt sa tk x z 1)))), (0, .ref (q 0)), (1, .int x), (2, .int z)] → W pz l ez (rM 2 46) sz mz [.ref (q 0), .int x, .int z].toArray bz tz cz H locs 0 0 (MQ bz (va_Qi (fun r (_ : Unit) => r = dgR N c fr tt sa tk x z) (fun u t => mAt D (tY cI cZ cL) A ((fun (_ : Unit) => [wM cI cZ cL q 0 N c fr tt sa tk tn tr op sl nd oi il tl go gt fa mn nx]) u) t) A) [.ref (q 0), .int x, .int z].toArray sz 0 0 A) (F0 mz 21 ls [])  := by
      intro k_21
      induction k_21 with
      | zero => intro i hi_21 hk_21; exact absurd hk_21 (by omega)
      | succ k_21 ih_21 =>
        intro i hi_21 hk_21 H locs hP hD hS ls hl
        refine lv_iload hx hb dX5_degree_21 (lv_at hl 0 rfl) ?_
        refine lv_aload_n hx hb dX5_degree_23 rfl (lv_at hl 2 rfl) ?_
        refine q_get (D := D) (ci := 5) (v := .int (nI c)) (C := RX5) (T := TX5) (N := 20) hx hb hts (by decide +kernel) hown hK hP 0 0 rfl rfl rfl 2 (by decide) (hts (.fieldLink RX5 67 "OffsetRowsModel" "arcs" "I") (by decide +kernel)) (fun _ h9 => h9) rfl dX5_degree_24 ?_
        refine lv_icmp_ge (tgt := 56) hx hb dX5_degree_27 (by decide) (fun c_27 => ?_) (fun c_27 => ?_)
        ·
          have n_27 : c ≤ i := (nI_leI (a := c) (b := i) (by omega) (by omega)).mp c_27
          refine lv_iload_n hx hb dX5_degree_56 rfl (lv_at hl 1 rfl) ?_
          exact q_iret (()) hx hb hr hlocks hK hP hD hS (by rw [show i = c by omega]; simp [dgR, n_10, c_27, n_27]) (rfl) dX5_degree_57
        ·
          have n_27 : ¬ c ≤ i := fun h9 => c_27 ((nI_leI (a := c) (b := i) (by omega) (by omega)).mpr h9)
          refine lv_iload_n hx hb dX5_degree_30 rfl (lv_at hl 1 rfl) ?_
          refine lv_aload_n hx hb dX5_degree_31 rfl (lv_at hl 2 rfl) ?_
          refine lv_iload hx hb dX5_degree_32 (lv_at hl 0 rfl) ?_
          refine lv_iload_n hx hb dX5_degree_34 rfl (lv_at hl 3 rfl) ?_
          refine lv_iload_n hx hb dX5_degree_35 rfl (lv_at hl 4 rfl) ?_
          refine lv_iconst (v := (1 : Int32)) hx hb dX5_degree_36 (by decide) ?_
          refine q_callVi (index := 94) (n := 4) (As := [.int (nI i), .int x, .int z, .int (1 : Int32)]) (rest := [.int (nI (cN i (ofB fr tt sa tk x z 1)))]) (js := [0]) (ci := 5) ⟨hx, hb, hml, hown, hts⟩ hK hP hD hS hA (k5_isOf l D cI cZ cL q 0 N c fr tt sa tk tn tr op sl nd oi il tl go gt fa mn nx i x z (1 : Int32) (by omega) (by omega)) rfl (by decide) (fun _ => by simp only [List.map_cons, List.map_nil, wM_fst]) (fun (_ : Unit) => [wM cI cZ cL q 0 N c fr tt sa tk tn tr op sl nd oi il tl go gt fa mn nx]) (fun _ => rfl) gX5_degree_X5_isOf rfl (by decide +kernel) rfl ⟨by decide, by decide⟩ rfl rfl rfl rfl hl.1 (Nat.le_of_ble_eq_true rfl) ⟨(Nat.zero_le _), (Nat.zero_le _)⟩ dX5_degree_37 rfl (fun r _ H locs hw hP hD hS => ?_)
          have hw : r = bI (ofB fr tt sa tk x z (1 : Int32) i) := hw
          subst hw
          refine lv_if_eq (tgt := 47) hx hb dX5_degree_40 (by decide) (fun c_40 => ?_) (fun c_40 => ?_)
          ·
            have n_40 : (ofB fr tt sa tk x z (1 : Int32) i) = false := bI_0.mp c_40
            refine lv_iconst (v := (0 : Int32)) hx hb dX5_degree_47 (by decide) ?_
            refine q_iadd (z := nI (cN i (ofB fr tt sa tk x z 1) + 0)) hx hb dX5_degree_48 (nI_add (cN i (ofB fr tt sa tk x z 1)) 0) ?_
            refine lv_istore_n (lv' := [(3, .int (nI (cN i (ofB fr tt sa tk x z 1) + 0))), (4, .int (nI i)), (0, .ref (q 0)), (1, .int x), (2, .int z)]) hx hb dX5_degree_49 rfl hl (by decide) rfl (fun ls hl => ?_)
            refine lv_iinc (v := nI (i + 1)) (lv' := [(4, .int (nI (i + 1))), (3, .int (nI (cN i (ofB fr tt sa tk x z 1) + 0))), (0, .ref (q 0)), (1, .int x), (2, .int z)]) hx hb dX5_degree_50 hl (k := 1) rfl (nI_add i 1) (by decide) rfl (fun ls hl => ?_)
            refine lv_goto (tgt := 21) hx hb dX5_degree_53 (by decide) ?_
            have hl : lv_has ls 5 [(4, .int (nI (i + 1))), (3, .int (nI (cN i (ofB fr tt sa tk x z 1) + 0))), (0, .ref (q 0)), (1, .int x), (2, .int z)] := lv_sub hl [0, 1, 2, 3, 4] rfl
            have hl : lv_has ls 5 [(4, .int (nI (i + 1))), (3, .int (nI (cN (i + 1) (ofB fr tt sa tk x z 1)))), (0, .ref (q 0)), (1, .int x), (2, .int z)] := by
              rw [← show nI (cN i (ofB fr tt sa tk x z 1) + 0) = nI (cN (i + 1) (ofB fr tt sa tk x z 1)) from by first | rfl | simp [cN, n_10, c_27, n_27, n_40]]
              exact hl
            have hP : va_P D vwCl (List.flatten [wM cI cZ cL q 0 N c fr tt sa tk tn tr op sl nd oi il tl go gt fa mn nx]) _ := hP
            have hD : va_D A (List.flatten [wM cI cZ cL q 0 N c fr tt sa tk tn tr op sl nd oi il tl go gt fa mn nx]) := hD
            exact ih_21 (i + 1) (by omega) (by omega) _ _ hP hD hS _ hl
          ·
            have n_40 : (ofB fr tt sa tk x z (1 : Int32) i) = true := bI_n.mp c_40
            refine lv_iconst (v := (1 : Int32)) hx hb dX5_degree_43 (by decide) ?_
            refine lv_goto (tgt := 48) hx hb dX5_degree_44 (by decide) ?_
            refine q_iadd (z := nI (cN i (ofB fr tt sa tk x z 1) + 1)) hx hb dX5_degree_48 (nI_add (cN i (ofB fr tt sa tk x z 1)) 1) ?_
            refine lv_istore_n (lv' := [(3, .int (nI (cN i (ofB fr tt sa tk x z 1) + 1))), (4, .int (nI i)), (0, .ref (q 0)), (1, .int x), (2, .int z)]) hx hb dX5_degree_49 rfl hl (by decide) rfl (fun ls hl => ?_)
            refine lv_iinc (v := nI (i + 1)) (lv' := [(4, .int (nI (i + 1))), (3, .int (nI (cN i (ofB fr tt sa tk x z 1) + 1))), (0, .ref (q 0)), (1, .int x), (2, .int z)]) hx hb dX5_degree_50 hl (k := 1) rfl (nI_add i 1) (by decide) rfl (fun ls hl => ?_)
            refine lv_goto (tgt := 21) hx hb dX5_degree_53 (by decide) ?_
            have hl : lv_has ls 5 [(4, .int (nI (i + 1))), (3, .int (nI (cN i (ofB fr tt sa tk x z 1) + 1))), (0, .ref (q 0)), (1, .int x), (2, .int z)] := lv_sub hl [0, 1, 2, 3, 4] rfl
            have hl : lv_has ls 5 [(4, .int (nI (i + 1))), (3, .int (nI (cN (i + 1) (ofB fr tt sa tk x z 1)))), (0, .ref (q 0)), (1, .int x), (2, .int z)] := by
              rw [← show nI (cN i (ofB fr tt sa tk x z 1) + 1) = nI (cN (i + 1) (ofB fr tt sa tk x z 1)) from by first | rfl | simp [cN, n_10, c_27, n_27, n_40]]
              exact hl
            have hP : va_P D vwCl (List.flatten [wM cI cZ cL q 0 N c fr tt sa tk tn tr op sl nd oi il tl go gt fa mn nx]) _ := hP
            have hD : va_D A (List.flatten [wM cI cZ cL q 0 N c fr tt sa tk tn tr op sl nd oi il tl go gt fa mn nx]) := hD
            exact ih_21 (i + 1) (by omega) (by omega) _ _ hP hD hS _ hl
    have hl : lv_has ls 5 [(4, .int (0 : Int32)), (3, .int (0 : Int32)), (0, .ref (q 0)), (1, .int x), (2, .int z)] := lv_sub hl [0, 1, 2, 3, 4] rfl
    have hl : lv_has ls 5 [(4, .int (nI 0)), (3, .int (nI (cN 0 (ofB fr tt sa tk x z 1)))), (0, .ref (q 0)), (1, .int x), (2, .int z)] := by
      rw [← show (0 : Int32) = nI (cN 0 (ofB fr tt sa tk x z 1)) from by first | rfl | simp [cN, n_10]]
      exact hl
    have hP : va_P D vwCl (List.flatten [wM cI cZ cL q 0 N c fr tt sa tk tn tr op sl nd oi il tl go gt fa mn nx]) _ := hP
    have hD : va_D A (List.flatten [wM cI cZ cL q 0 N c fr tt sa tk tn tr op sl nd oi il tl go gt fa mn nx]) := hD
    exact loop_21 (c + 1) 0 (by omega) (by omega) _ _ hP hD hS _ hl
  ·
    have n_10 : (hasB N x) = false := bI_0.mp c_10
    refine lv_bipush (v := (-2)) hx hb dX5_degree_13 (by decide) ?_
    exact q_iret (()) hx hb hr hlocks hK hP hD hS (by simp [dgR, n_10]) (rfl) dX5_degree_15

set_option maxHeartbeats 8000000 in
set_option maxRecDepth 100000 in
theorem k5_live (l : Launch) (D : va_G) (cI cZ cL : ClassId) (q : Nat → Nat) (th : Nat) (N : Nat) (c : Nat) (fr : Nat → Int32) (tt : Nat → Int32) (sa : Nat → Int32) (tk : Nat → Int32) (tn : Nat) (tr : Nat → Int32) (op : Nat → Int32) (sl : Nat → Int32) (nd : Nat → Int32) (oi : Nat → Int32) (il : Nat → Int32) (tl : Nat → Int32) (go : Nat → Int32) (gt : Nat → Int32) (fa : Nat → Int32) (mn : Nat → Int64) (nx : Nat → Int64) (x : Int32) (z : Int32) (k : Int32) (hc : c ≤ 160) : McI l D (tY cI cZ cL) yX5_live wsX5_live 3 73 [.ref (q 0), .int x, .int z, .int k] ([wM cI cZ cL q th N c fr tt sa tk tn tr op sl nd oi il tl go gt fa mn nx]) (fun r (_ : Unit) => r = lvR N c fr tt sa tk x z k) (fun (_ : Unit) => [wM cI cZ cL q 0 N c fr tt sa tk tn tr op sl nd oi il tl go gt fa mn nx]) := by
  refine q_ofW (Qc := fun A => (va_Qi (fun r (_ : Unit) => r = lvR N c fr tt sa tk x z k) (fun u t => mAt D (tY cI cZ cL) A ((fun (_ : Unit) => [wM cI cZ cL q 0 N c fr tt sa tk tn tr op sl nd oi il tl go gt fa mn nx]) u) t) A)) (cc := cX5_live) (maxL := 4) (ret := (some .int)) (by decide) rfl (Nat.le_of_ble_eq_true rfl) ?_
  intro pz ez sz mz bz tz cz hx hb hml hr hlocks hts hown hK hP A hD hA ls hl
  have hS : va_S A sz.heap sz.heap [] := va_S.rf
  have hl : lv_has ls 4 [(0, .ref (q 0)), (1, .int x), (2, .int z), (3, .int k)] := hl
  refine lv_aload_n hx hb dX5_live_0 rfl (lv_at hl 0 rfl) ?_
  refine lv_iconst (v := (0 : Int32)) hx hb dX5_live_1 (by decide) ?_
  refine q_put (D := D) (ci := 5) (v := .int (nI 0)) (ty := .int) (C := RX5) (T := TX5) (N := 20) hx hb hts (by decide +kernel) tyX5 tyX5_ok nmX5 hown hK hP hD hS 0 0 rfl rfl rfl 0 (by decide) (hts (.fieldLink RX5 1 "OffsetRowsModel" "thrown" "I") (by decide +kernel)) (fun _ h9 => h9) rfl (by decide +kernel) rfl rfl (Nat.le_of_ble_eq_true rfl) dX5_live_2 (wM_s_th (g9 := 0)) (Fs' := [wM cI cZ cL q 0 N c fr tt sa tk tn tr op sl nd oi il tl go gt fa mn nx]) rfl (fun H locs hP hD hS => ?_)
  refine lv_aload_n hx hb dX5_live_5 rfl (lv_at hl 0 rfl) ?_
  refine lv_iload_n hx hb dX5_live_6 rfl (lv_at hl 1 rfl) ?_
  refine q_callVi (index := 70) (n := 1) (As := [.int x]) (rest := []) (js := [0]) (ci := 5) ⟨hx, hb, hml, hown, hts⟩ hK hP hD hS hA (k5_isNode l D cI cZ cL q 0 N c fr tt sa tk tn tr op sl nd oi il tl go gt fa mn nx x) rfl (by decide) (fun _ => by simp only [List.map_cons, List.map_nil, wM_fst]) (fun (_ : Unit) => [wM cI cZ cL q 0 N c fr tt sa tk tn tr op sl nd oi il tl go gt fa mn nx]) (fun _ => rfl) gX5_live_X5_isNode rfl (by decide +kernel) rfl ⟨by decide, by decide⟩ rfl rfl rfl rfl hl.1 (Nat.le_of_ble_eq_true rfl) ⟨(Nat.zero_le _), (Nat.zero_le _)⟩ dX5_live_7 rfl (fun r _ H locs hw hP hD hS => ?_)
  have hw : r = bI (hasB N x) := hw
  subst hw
  refine lv_if_ne (tgt := 16) hx hb dX5_live_10 (by decide) (fun c_10 => ?_) (fun c_10 => ?_)
  ·
    have n_10 : (hasB N x) = true := bI_n.mp c_10
    refine lv_iload_n hx hb dX5_live_16 rfl (lv_at hl 3 rfl) ?_
    refine lv_if_ge (tgt := 25) hx hb dX5_live_17 (by decide) (fun c_17 => ?_) (fun c_17 => ?_)
    ·
      have h_k : ¬ k < 0 := fun h9 => absurd c_17 (k2_nle h9)
      refine lv_aload_n hx hb dX5_live_25 rfl (lv_at hl 0 rfl) ?_
      refine lv_iload_n hx hb dX5_live_26 rfl (lv_at hl 1 rfl) ?_
      refine lv_iload_n hx hb dX5_live_27 rfl (lv_at hl 2 rfl) ?_
      refine lv_iconst (v := (1 : Int32)) hx hb dX5_live_28 (by decide) ?_
      refine lv_iload_n hx hb dX5_live_29 rfl (lv_at hl 3 rfl) ?_
      refine q_callVi (index := 102) (n := 4) (As := [.int x, .int z, .int (1 : Int32), .int k]) (rest := []) (js := [0]) (ci := 5) ⟨hx, hb, hml, hown, hts⟩ hK hP hD hS hA (k5_place l D cI cZ cL q 0 N c fr tt sa tk tn tr op sl nd oi il tl go gt fa mn nx x z (1 : Int32) k (by omega)) rfl (by decide) (fun _ => by simp only [List.map_cons, List.map_nil, wM_fst]) (fun (_ : Unit) => [wM cI cZ cL q 0 N c fr tt sa tk tn tr op sl nd oi il tl go gt fa mn nx]) (fun _ => rfl) gX5_live_X5_place rfl (by decide +kernel) rfl ⟨by decide, by decide⟩ rfl rfl rfl rfl hl.1 (Nat.le_of_ble_eq_true rfl) ⟨(Nat.zero_le _), (Nat.zero_le _)⟩ dX5_live_30 rfl (fun r _ H locs hw hP hD hS => ?_)
      have hw : r = plR c fr tt sa tk x z (1 : Int32) k := hw
      subst hw
      exact q_iret (()) hx hb hr hlocks hK hP hD hS (by simp [lvR, n_10, c_17, h_k]) (rfl) dX5_live_33
    ·
      have h_k : k < 0 := k2_lt c_17
      refine lv_bipush (v := (-3)) hx hb dX5_live_20 (by decide) ?_
      refine lv_goto (tgt := 33) hx hb dX5_live_22 (by decide) ?_
      exact q_iret (()) hx hb hr hlocks hK hP hD hS (by simp [lvR, n_10, c_17, h_k]) (rfl) dX5_live_33
  ·
    have n_10 : (hasB N x) = false := bI_0.mp c_10
    refine lv_bipush (v := (-2)) hx hb dX5_live_13 (by decide) ?_
    exact q_iret (()) hx hb hr hlocks hK hP hD hS (by simp [lvR, n_10]) (rfl) dX5_live_15

set_option maxHeartbeats 8000000 in
set_option maxRecDepth 100000 in
theorem k5_lead (l : Launch) (D : va_G) (cI cZ cL : ClassId) (q : Nat → Nat) (th : Nat) (N : Nat) (c : Nat) (fr : Nat → Int32) (tt : Nat → Int32) (sa : Nat → Int32) (tk : Nat → Int32) (tn : Nat) (tr : Nat → Int32) (op : Nat → Int32) (sl : Nat → Int32) (nd : Nat → Int32) (oi : Nat → Int32) (il : Nat → Int32) (tl : Nat → Int32) (go : Nat → Int32) (gt : Nat → Int32) (fa : Nat → Int32) (mn : Nat → Int64) (nx : Nat → Int64) (x : Int32) (y : Int32) (hc : c ≤ 160) : McI l D (tY cI cZ cL) yX5_lead wsX5_lead 2 46 [.ref (q 0), .int x, .int y] ([wM cI cZ cL q th N c fr tt sa tk tn tr op sl nd oi il tl go gt fa mn nx]) (fun r (_ : Unit) => r = nI (cN c (ldB fr tt sa tk x y))) (fun (_ : Unit) => [wM cI cZ cL q th N c fr tt sa tk tn tr op sl nd oi il tl go gt fa mn nx]) := by
  refine q_ofW (Qc := fun A => (va_Qi (fun r (_ : Unit) => r = nI (cN c (ldB fr tt sa tk x y))) (fun u t => mAt D (tY cI cZ cL) A ((fun (_ : Unit) => [wM cI cZ cL q th N c fr tt sa tk tn tr op sl nd oi il tl go gt fa mn nx]) u) t) A)) (cc := cX5_lead) (maxL := 5) (ret := (some .int)) (by decide) rfl (Nat.le_of_ble_eq_true rfl) ?_
  intro pz ez sz mz bz tz cz hx hb hml hr hlocks hts hown hK hP A hD hA ls hl
  have hS : va_S A sz.heap sz.heap [] := va_S.rf
  have hl : lv_has ls 5 [(0, .ref (q 0)), (1, .int x), (2, .int y)] := hl
  refine lv_iconst (v := (0 : Int32)) hx hb dX5_lead_0 (by decide) ?_
  refine lv_istore_n (lv' := [(3, .int (0 : Int32)), (0, .ref (q 0)), (1, .int x), (2, .int y)]) hx hb dX5_lead_1 rfl hl (by decide) rfl (fun ls hl => ?_)
  refine lv_iconst (v := (0 : Int32)) hx hb dX5_lead_2 (by decide) ?_
  refine lv_istore (lv' := [(4, .int (0 : Int32)), (3, .int (0 : Int32)), (0, .ref (q 0)), (1, .int x), (2, .int y)]) hx hb dX5_lead_3 hl (by decide) rfl (fun ls hl => ?_)
  have loop_5 : ∀ (k_5 i : Nat), i ≤ c → c < i + k_5 → ∀ (H : Heap) (locs : List Loc), va_P D vwCl (List.flatten [wM cI cZ cL q th N c fr tt sa tk tn tr op sl nd oi il tl go gt fa mn nx]) H → va_D A (List.flatten [wM cI cZ cL q th N c fr tt sa tk tn tr op sl nd oi il tl go gt fa mn nx]) → va_S A sz.heap H locs → ∀ (ls : Array Slot), lv_has ls 5 [(4, .int (nI i)), (3, .int (nI (cN i (ldB fr tt sa tk x y)))), (0, .ref (q 0)), (1, .int x), (2, .int y)] → W pz l ez (rM 2 46) sz mz [.ref (q 0), .int x, .int y].toArray bz tz cz H locs 0 0 (MQ bz (va_Qi (fun r (_ : Unit) => r = nI (cN c (ldB fr tt sa tk x y))) (fun u t => mAt D (tY cI cZ cL) A ((fun (_ : Unit) => [wM cI cZ cL q th N c fr tt sa tk tn tr op sl nd oi il tl go gt fa mn nx]) u) t) A) [.ref (q 0), .int x, .int y].toArray sz 0 0 A) (F0 mz 5 ls [])  := by
    intro k_5
    induction k_5 with
    | zero => intro i hi_5 hk_5; exact absurd hk_5 (by omega)
    | succ k_5 ih_5 =>
      intro i hi_5 hk_5 H locs hP hD hS ls hl
      refine lv_iload hx hb dX5_lead_5 (lv_at hl 0 rfl) ?_
      refine lv_aload_n hx hb dX5_lead_7 rfl (lv_at hl 2 rfl) ?_
      refine q_get (D := D) (ci := 5) (v := .int (nI c)) (C := RX5) (T := TX5) (N := 20) hx hb hts (by decide +kernel) hown hK hP 0 0 rfl rfl rfl 2 (by decide) (hts (.fieldLink RX5 67 "OffsetRowsModel" "arcs" "I") (by decide +kernel)) (fun _ h9 => h9) rfl dX5_lead_8 ?_
      refine lv_icmp_ge (tgt := 51) hx hb dX5_lead_11 (by decide) (fun c_11 => ?_) (fun c_11 => ?_)
      ·
        have n_11 : c ≤ i := (nI_leI (a := c) (b := i) (by omega) (by omega)).mp c_11
        refine lv_iload_n hx hb dX5_lead_51 rfl (lv_at hl 1 rfl) ?_
        exact q_iret (()) hx hb hr hlocks hK hP hD hS (by rw [show i = c by omega]) (rfl) dX5_lead_52
      ·
        have n_11 : ¬ c ≤ i := fun h9 => c_11 ((nI_leI (a := c) (b := i) (by omega) (by omega)).mpr h9)
        refine lv_iload_n hx hb dX5_lead_14 rfl (lv_at hl 1 rfl) ?_
        refine lv_aload_n hx hb dX5_lead_15 rfl (lv_at hl 2 rfl) ?_
        refine lv_iload hx hb dX5_lead_16 (lv_at hl 0 rfl) ?_
        refine lv_iload_n hx hb dX5_lead_18 rfl (lv_at hl 3 rfl) ?_
        refine lv_iconst (v := (0 : Int32)) hx hb dX5_lead_19 (by decide) ?_
        refine lv_iconst (v := (1 : Int32)) hx hb dX5_lead_20 (by decide) ?_
        refine q_callVi (index := 94) (n := 4) (As := [.int (nI i), .int x, .int (0 : Int32), .int (1 : Int32)]) (rest := [.int (nI (cN i (ldB fr tt sa tk x y)))]) (js := [0]) (ci := 5) ⟨hx, hb, hml, hown, hts⟩ hK hP hD hS hA (k5_isOf l D cI cZ cL q th N c fr tt sa tk tn tr op sl nd oi il tl go gt fa mn nx i x (0 : Int32) (1 : Int32) (by omega) (by omega)) rfl (by decide) (fun _ => by simp only [List.map_cons, List.map_nil, wM_fst]) (fun (_ : Unit) => [wM cI cZ cL q th N c fr tt sa tk tn tr op sl nd oi il tl go gt fa mn nx]) (fun _ => rfl) gX5_lead_X5_isOf rfl (by decide +kernel) rfl ⟨by decide, by decide⟩ rfl rfl rfl rfl hl.1 (Nat.le_of_ble_eq_true rfl) ⟨(Nat.zero_le _), (Nat.zero_le _)⟩ dX5_lead_21 rfl (fun r _ H locs hw hP hD hS => ?_)
        have hw : r = bI (ofB fr tt sa tk x (0 : Int32) (1 : Int32) i) := hw
        subst hw
        refine lv_if_eq (tgt := 42) hx hb dX5_lead_24 (by decide) (fun c_24 => ?_) (fun c_24 => ?_)
        ·
          have n_24 : (ofB fr tt sa tk x (0 : Int32) (1 : Int32) i) = false := bI_0.mp c_24
          refine lv_iconst (v := (0 : Int32)) hx hb dX5_lead_42 (by decide) ?_
          refine q_iadd (z := nI (cN i (ldB fr tt sa tk x y) + 0)) hx hb dX5_lead_43 (nI_add (cN i (ldB fr tt sa tk x y)) 0) ?_
          refine lv_istore_n (lv' := [(3, .int (nI (cN i (ldB fr tt sa tk x y) + 0))), (4, .int (nI i)), (0, .ref (q 0)), (1, .int x), (2, .int y)]) hx hb dX5_lead_44 rfl hl (by decide) rfl (fun ls hl => ?_)
          refine lv_iinc (v := nI (i + 1)) (lv' := [(4, .int (nI (i + 1))), (3, .int (nI (cN i (ldB fr tt sa tk x y) + 0))), (0, .ref (q 0)), (1, .int x), (2, .int y)]) hx hb dX5_lead_45 hl (k := 1) rfl (nI_add i 1) (by decide) rfl (fun ls hl => ?_)
          refine lv_goto (tgt := 5) hx hb dX5_lead_48 (by decide) ?_
          have hl : lv_has ls 5 [(4, .int (nI (i + 1))), (3, .int (nI (cN i (ldB fr tt sa tk x y) + 0))), (0, .ref (q 0)), (1, .int x), (2, .int y)] := lv_sub hl [0, 1, 2, 3, 4] rfl
          have hl : lv_has ls 5 [(4, .int (nI (i + 1))), (3, .int (nI (cN (i + 1) (ldB fr tt sa tk x y)))), (0, .ref (q 0)), (1, .int x), (2, .int y)] := by
            rw [← show nI (cN i (ldB fr tt sa tk x y) + 0) = nI (cN (i + 1) (ldB fr tt sa tk x y)) from by first | rfl | simp [cN, ldB, c_11, n_11, n_24]]
            exact hl
          have hP : va_P D vwCl (List.flatten [wM cI cZ cL q th N c fr tt sa tk tn tr op sl nd oi il tl go gt fa mn nx]) _ := hP
          have hD : va_D A (List.flatten [wM cI cZ cL q th N c fr tt sa tk tn tr op sl nd oi il tl go gt fa mn nx]) := hD
          exact ih_5 (i + 1) (by omega) (by omega) _ _ hP hD hS _ hl
        ·
          have n_24 : (ofB fr tt sa tk x (0 : Int32) (1 : Int32) i) = true := bI_n.mp c_24
          refine lv_aload_n hx hb dX5_lead_27 rfl (lv_at hl 2 rfl) ?_
          refine q_get (D := D) (ci := 5) (v := .ref (q 2)) (C := RX5) (T := TX5) (N := 20) hx hb hts (by decide +kernel) hown hK hP 0 0 rfl rfl rfl 4 (by decide) (hts (.fieldLink RX5 17 "OffsetRowsModel" "to" "[I") (by decide +kernel)) (fun _ h9 => h9) rfl dX5_lead_28 ?_
          refine lv_iload hx hb dX5_lead_31 (lv_at hl 0 rfl) ?_
          refine q_iald hx hb hK hP 0 2 0 rfl (f := tt) rfl rfl (k := i) (nI_clamp (n := i) (by omega)) (vp_in_nI (show i < 160 from by omega) (by omega)) dX5_lead_33 ?_
          refine lv_iload_n hx hb dX5_lead_34 rfl (lv_at hl 4 rfl) ?_
          refine lv_icmp_ne (tgt := 42) hx hb dX5_lead_35 (by decide) (fun c_35 => ?_) (fun c_35 => ?_)
          ·
            refine lv_iconst (v := (0 : Int32)) hx hb dX5_lead_42 (by decide) ?_
            refine q_iadd (z := nI (cN i (ldB fr tt sa tk x y) + 0)) hx hb dX5_lead_43 (nI_add (cN i (ldB fr tt sa tk x y)) 0) ?_
            refine lv_istore_n (lv' := [(3, .int (nI (cN i (ldB fr tt sa tk x y) + 0))), (4, .int (nI i)), (0, .ref (q 0)), (1, .int x), (2, .int y)]) hx hb dX5_lead_44 rfl hl (by decide) rfl (fun ls hl => ?_)
            refine lv_iinc (v := nI (i + 1)) (lv' := [(4, .int (nI (i + 1))), (3, .int (nI (cN i (ldB fr tt sa tk x y) + 0))), (0, .ref (q 0)), (1, .int x), (2, .int y)]) hx hb dX5_lead_45 hl (k := 1) rfl (nI_add i 1) (by decide) rfl (fun ls hl => ?_)
            refine lv_goto (tgt := 5) hx hb dX5_lead_48 (by decide) ?_
            have hl : lv_has ls 5 [(4, .int (nI (i + 1))), (3, .int (nI (cN i (ldB fr tt sa tk x y) + 0))), (0, .ref (q 0)), (1, .int x), (2, .int y)] := lv_sub hl [0, 1, 2, 3, 4] rfl
            have hl : lv_has ls 5 [(4, .int (nI (i + 1))), (3, .int (nI (cN (i + 1) (ldB fr tt sa tk x y)))), (0, .ref (q 0)), (1, .int x), (2, .int y)] := by
              rw [← show nI (cN i (ldB fr tt sa tk x y) + 0) = nI (cN (i + 1) (ldB fr tt sa tk x y)) from by first | rfl | simp [cN, ldB, c_11, n_11, n_24, c_35]]
              exact hl
            have hP : va_P D vwCl (List.flatten [wM cI cZ cL q th N c fr tt sa tk tn tr op sl nd oi il tl go gt fa mn nx]) _ := hP
            have hD : va_D A (List.flatten [wM cI cZ cL q th N c fr tt sa tk tn tr op sl nd oi il tl go gt fa mn nx]) := hD
            exact ih_5 (i + 1) (by omega) (by omega) _ _ hP hD hS _ hl
          ·
            refine lv_iconst (v := (1 : Int32)) hx hb dX5_lead_38 (by decide) ?_
            refine lv_goto (tgt := 43) hx hb dX5_lead_39 (by decide) ?_
            refine q_iadd (z := nI (cN i (ldB fr tt sa tk x y) + 1)) hx hb dX5_lead_43 (nI_add (cN i (ldB fr tt sa tk x y)) 1) ?_
            refine lv_istore_n (lv' := [(3, .int (nI (cN i (ldB fr tt sa tk x y) + 1))), (4, .int (nI i)), (0, .ref (q 0)), (1, .int x), (2, .int y)]) hx hb dX5_lead_44 rfl hl (by decide) rfl (fun ls hl => ?_)
            refine lv_iinc (v := nI (i + 1)) (lv' := [(4, .int (nI (i + 1))), (3, .int (nI (cN i (ldB fr tt sa tk x y) + 1))), (0, .ref (q 0)), (1, .int x), (2, .int y)]) hx hb dX5_lead_45 hl (k := 1) rfl (nI_add i 1) (by decide) rfl (fun ls hl => ?_)
            refine lv_goto (tgt := 5) hx hb dX5_lead_48 (by decide) ?_
            have hl : lv_has ls 5 [(4, .int (nI (i + 1))), (3, .int (nI (cN i (ldB fr tt sa tk x y) + 1))), (0, .ref (q 0)), (1, .int x), (2, .int y)] := lv_sub hl [0, 1, 2, 3, 4] rfl
            have hl : lv_has ls 5 [(4, .int (nI (i + 1))), (3, .int (nI (cN (i + 1) (ldB fr tt sa tk x y)))), (0, .ref (q 0)), (1, .int x), (2, .int y)] := by
              rw [← show nI (cN i (ldB fr tt sa tk x y) + 1) = nI (cN (i + 1) (ldB fr tt sa tk x y)) from by first | rfl | simp [cN, ldB, c_11, n_11, n_24, c_35]]
              exact hl
            have hP : va_P D vwCl (List.flatten [wM cI cZ cL q th N c fr tt sa tk tn tr op sl nd oi il tl go gt fa mn nx]) _ := hP
            have hD : va_D A (List.flatten [wM cI cZ cL q th N c fr tt sa tk tn tr op sl nd oi il tl go gt fa mn nx]) := hD
            exact ih_5 (i + 1) (by omega) (by omega) _ _ hP hD hS _ hl
  have hl : lv_has ls 5 [(4, .int (0 : Int32)), (3, .int (0 : Int32)), (0, .ref (q 0)), (1, .int x), (2, .int y)] := lv_sub hl [0, 1, 2, 3, 4] rfl
  have hl : lv_has ls 5 [(4, .int (nI 0)), (3, .int (nI (cN 0 (ldB fr tt sa tk x y)))), (0, .ref (q 0)), (1, .int x), (2, .int y)] := by
    rw [← show (0 : Int32) = nI (cN 0 (ldB fr tt sa tk x y)) from by first | rfl | simp [cN, ldB]]
    exact hl
  have hP : va_P D vwCl (List.flatten [wM cI cZ cL q th N c fr tt sa tk tn tr op sl nd oi il tl go gt fa mn nx]) _ := hP
  have hD : va_D A (List.flatten [wM cI cZ cL q th N c fr tt sa tk tn tr op sl nd oi il tl go gt fa mn nx]) := hD
  exact loop_5 (c + 1) 0 (by omega) (by omega) _ _ hP hD hS _ hl

set_option maxHeartbeats 8000000 in
set_option maxRecDepth 100000 in
theorem k5_between (l : Launch) (D : va_G) (cI cZ cL : ClassId) (q : Nat → Nat) (th : Nat) (N : Nat) (c : Nat) (fr : Nat → Int32) (tt : Nat → Int32) (sa : Nat → Int32) (tk : Nat → Int32) (tn : Nat) (tr : Nat → Int32) (op : Nat → Int32) (sl : Nat → Int32) (nd : Nat → Int32) (oi : Nat → Int32) (il : Nat → Int32) (tl : Nat → Int32) (go : Nat → Int32) (gt : Nat → Int32) (fa : Nat → Int32) (mn : Nat → Int64) (nx : Nat → Int64) (x : Int32) (y : Int32) (hc : c ≤ 160) : McI l D (tY cI cZ cL) yX5_between wsX5_between 3 70 [.ref (q 0), .int x, .int y] ([wM cI cZ cL q th N c fr tt sa tk tn tr op sl nd oi il tl go gt fa mn nx]) (fun r (_ : Unit) => r = btR N c fr tt sa tk x y) (fun (_ : Unit) => [wM cI cZ cL q 0 N c fr tt sa tk tn tr op sl nd oi il tl go gt fa mn nx]) := by
  refine q_ofW (Qc := fun A => (va_Qi (fun r (_ : Unit) => r = btR N c fr tt sa tk x y) (fun u t => mAt D (tY cI cZ cL) A ((fun (_ : Unit) => [wM cI cZ cL q 0 N c fr tt sa tk tn tr op sl nd oi il tl go gt fa mn nx]) u) t) A)) (cc := cX5_between) (maxL := 3) (ret := (some .int)) (by decide) rfl (Nat.le_of_ble_eq_true rfl) ?_
  intro pz ez sz mz bz tz cz hx hb hml hr hlocks hts hown hK hP A hD hA ls hl
  have hS : va_S A sz.heap sz.heap [] := va_S.rf
  have hl : lv_has ls 3 [(0, .ref (q 0)), (1, .int x), (2, .int y)] := hl
  refine lv_aload_n hx hb dX5_between_0 rfl (lv_at hl 0 rfl) ?_
  refine lv_iconst (v := (0 : Int32)) hx hb dX5_between_1 (by decide) ?_
  refine q_put (D := D) (ci := 5) (v := .int (nI 0)) (ty := .int) (C := RX5) (T := TX5) (N := 20) hx hb hts (by decide +kernel) tyX5 tyX5_ok nmX5 hown hK hP hD hS 0 0 rfl rfl rfl 0 (by decide) (hts (.fieldLink RX5 1 "OffsetRowsModel" "thrown" "I") (by decide +kernel)) (fun _ h9 => h9) rfl (by decide +kernel) rfl rfl (Nat.le_of_ble_eq_true rfl) dX5_between_2 (wM_s_th (g9 := 0)) (Fs' := [wM cI cZ cL q 0 N c fr tt sa tk tn tr op sl nd oi il tl go gt fa mn nx]) rfl (fun H locs hP hD hS => ?_)
  refine lv_aload_n hx hb dX5_between_5 rfl (lv_at hl 0 rfl) ?_
  refine lv_iload_n hx hb dX5_between_6 rfl (lv_at hl 1 rfl) ?_
  refine q_callVi (index := 70) (n := 1) (As := [.int x]) (rest := []) (js := [0]) (ci := 5) ⟨hx, hb, hml, hown, hts⟩ hK hP hD hS hA (k5_isNode l D cI cZ cL q 0 N c fr tt sa tk tn tr op sl nd oi il tl go gt fa mn nx x) rfl (by decide) (fun _ => by simp only [List.map_cons, List.map_nil, wM_fst]) (fun (_ : Unit) => [wM cI cZ cL q 0 N c fr tt sa tk tn tr op sl nd oi il tl go gt fa mn nx]) (fun _ => rfl) gX5_between_X5_isNode rfl (by decide +kernel) rfl ⟨by decide, by decide⟩ rfl rfl rfl rfl hl.1 (Nat.le_of_ble_eq_true rfl) ⟨(Nat.zero_le _), (Nat.zero_le _)⟩ dX5_between_7 rfl (fun r _ H locs hw hP hD hS => ?_)
  have hw : r = bI (hasB N x) := hw
  subst hw
  refine lv_if_eq (tgt := 30) hx hb dX5_between_10 (by decide) (fun c_10 => ?_) (fun c_10 => ?_)
  ·
    have n_10 : (hasB N x) = false := bI_0.mp c_10
    refine lv_bipush (v := (-2)) hx hb dX5_between_30 (by decide) ?_
    exact q_iret (()) hx hb hr hlocks hK hP hD hS (by simp [btR, arB, n_10]) (rfl) dX5_between_32
  ·
    have n_10 : (hasB N x) = true := bI_n.mp c_10
    refine lv_aload_n hx hb dX5_between_13 rfl (lv_at hl 0 rfl) ?_
    refine lv_iload_n hx hb dX5_between_14 rfl (lv_at hl 2 rfl) ?_
    refine q_callVi (index := 70) (n := 1) (As := [.int y]) (rest := []) (js := [0]) (ci := 5) ⟨hx, hb, hml, hown, hts⟩ hK hP hD hS hA (k5_isNode l D cI cZ cL q 0 N c fr tt sa tk tn tr op sl nd oi il tl go gt fa mn nx y) rfl (by decide) (fun _ => by simp only [List.map_cons, List.map_nil, wM_fst]) (fun (_ : Unit) => [wM cI cZ cL q 0 N c fr tt sa tk tn tr op sl nd oi il tl go gt fa mn nx]) (fun _ => rfl) gX5_between_X5_isNode rfl (by decide +kernel) rfl ⟨by decide, by decide⟩ rfl rfl rfl rfl hl.1 (Nat.le_of_ble_eq_true rfl) ⟨(Nat.zero_le _), (Nat.zero_le _)⟩ dX5_between_15 rfl (fun r _ H locs hw hP hD hS => ?_)
    have hw : r = bI (hasB N y) := hw
    subst hw
    refine lv_if_eq (tgt := 30) hx hb dX5_between_18 (by decide) (fun c_18 => ?_) (fun c_18 => ?_)
    ·
      have n_18 : (hasB N y) = false := bI_0.mp c_18
      refine lv_bipush (v := (-2)) hx hb dX5_between_30 (by decide) ?_
      exact q_iret (()) hx hb hr hlocks hK hP hD hS (by simp [btR, arB, n_10, n_18]) (rfl) dX5_between_32
    ·
      have n_18 : (hasB N y) = true := bI_n.mp c_18
      refine lv_aload_n hx hb dX5_between_21 rfl (lv_at hl 0 rfl) ?_
      refine lv_iload_n hx hb dX5_between_22 rfl (lv_at hl 1 rfl) ?_
      refine lv_iload_n hx hb dX5_between_23 rfl (lv_at hl 2 rfl) ?_
      refine q_callVi (index := 110) (n := 2) (As := [.int x, .int y]) (rest := []) (js := [0]) (ci := 5) ⟨hx, hb, hml, hown, hts⟩ hK hP hD hS hA (k5_lead l D cI cZ cL q 0 N c fr tt sa tk tn tr op sl nd oi il tl go gt fa mn nx x y (by omega)) rfl (by decide) (fun _ => by simp only [List.map_cons, List.map_nil, wM_fst]) (fun (_ : Unit) => [wM cI cZ cL q 0 N c fr tt sa tk tn tr op sl nd oi il tl go gt fa mn nx]) (fun _ => rfl) gX5_between_X5_lead rfl (by decide +kernel) rfl ⟨by decide, by decide⟩ rfl rfl rfl rfl hl.1 (Nat.le_of_ble_eq_true rfl) ⟨(Nat.zero_le _), (Nat.zero_le _)⟩ dX5_between_24 rfl (fun r _ H locs hw hP hD hS => ?_)
      have hw : r = nI (cN c (ldB fr tt sa tk x y)) := hw
      subst hw
      refine lv_goto (tgt := 32) hx hb dX5_between_27 (by decide) ?_
      exact q_iret (()) hx hb hr hlocks hK hP hD hS (by simp [btR, arB, n_10, n_18]) (rfl) dX5_between_32

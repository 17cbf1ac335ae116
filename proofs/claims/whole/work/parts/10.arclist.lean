set_option maxHeartbeats 8000000 in
set_option maxRecDepth 100000 in
theorem k0_has (l : Launch) (D : va_G) (cI cZ cL : ClassId) (a : Nat → Nat) (c : Nat) (fr : Nat → Int32) (tt : Nat → Int32) (sa : Nat → Int32) (tk : Nat → Int32) (x : Int32) (hc : c ≤ 160) : McI l D (tY cI cZ cL) yX0_has wsX0_has 0 0 [.ref (a 0), .int x] ([wA cI cZ a c fr tt sa tk]) (fun r (_ : Unit) => r = bI (hasB c x)) (fun (_ : Unit) => [wA cI cZ a c fr tt sa tk]) := by
  refine q_ofW (Qc := fun A => (va_Qi (fun r (_ : Unit) => r = bI (hasB c x)) (fun u t => mAt D (tY cI cZ cL) A ((fun (_ : Unit) => [wA cI cZ a c fr tt sa tk]) u) t) A)) (cc := cX0_has) (maxL := 2) (ret := (some .boolean)) (by decide) rfl (Nat.le_of_ble_eq_true rfl) ?_
  intro pz ez sz mz bz tz cz hx hb hml hr hlocks hts hown hK hP A hD hA ls hl
  have hS : va_S A sz.heap sz.heap [] := va_S.rf
  have hl : lv_has ls 2 [(0, .ref (a 0)), (1, .int x)] := hl
  refine lv_iload_n hx hb dX0_has_0 rfl (lv_at hl 1 rfl) ?_
  refine lv_if_lt (tgt := 16) hx hb dX0_has_1 (by decide) (fun c_1 => ?_) (fun c_1 => ?_)
  ·
    refine lv_iconst (v := (0 : Int32)) hx hb dX0_has_16 (by decide) ?_
    exact q_zret (()) hx hb hr rfl hlocks hK hP hD hS (by simp [hasB, bI, c_1]) (rfl) dX0_has_17
  ·
    refine lv_iload_n hx hb dX0_has_4 rfl (lv_at hl 1 rfl) ?_
    refine lv_aload_n hx hb dX0_has_5 rfl (lv_at hl 0 rfl) ?_
    refine q_get (D := D) (ci := 0) (v := .int (nI c)) (C := RX0) (T := TX0) (N := 5) hx hb hts (by decide +kernel) hown hK hP 0 0 rfl rfl rfl 4 (by decide) (hts (.fieldLink RX0 25 "OffsetRows$ArcList" "count" "I") (by decide +kernel)) (fun _ h9 => h9) rfl dX0_has_6 ?_
    refine lv_icmp_ge (tgt := 16) hx hb dX0_has_9 (by decide) (fun c_9 => ?_) (fun c_9 => ?_)
    ·
      refine lv_iconst (v := (0 : Int32)) hx hb dX0_has_16 (by decide) ?_
      exact q_zret (()) hx hb hr rfl hlocks hK hP hD hS (by simp [hasB, bI, c_1, c_9]) (rfl) dX0_has_17
    ·
      refine lv_iconst (v := (1 : Int32)) hx hb dX0_has_12 (by decide) ?_
      refine lv_goto (tgt := 17) hx hb dX0_has_13 (by decide) ?_
      exact q_zret (()) hx hb hr rfl hlocks hK hP hD hS (by simp [hasB, bI, c_1, c_9]) (rfl) dX0_has_17

set_option maxHeartbeats 8000000 in
set_option maxRecDepth 100000 in
theorem k0_isLive (l : Launch) (D : va_G) (cI cZ cL : ClassId) (a : Nat → Nat) (c : Nat) (fr : Nat → Int32) (tt : Nat → Int32) (sa : Nat → Int32) (tk : Nat → Int32) (x : Int32) (hc : c ≤ 160) : McI l D (tY cI cZ cL) yX0_isLive wsX0_isLive 1 21 [.ref (a 0), .int x] ([wA cI cZ a c fr tt sa tk]) (fun r (_ : Unit) => r = bI (isLv c sa tk x)) (fun (_ : Unit) => [wA cI cZ a c fr tt sa tk]) := by
  refine q_ofW (Qc := fun A => (va_Qi (fun r (_ : Unit) => r = bI (isLv c sa tk x)) (fun u t => mAt D (tY cI cZ cL) A ((fun (_ : Unit) => [wA cI cZ a c fr tt sa tk]) u) t) A)) (cc := cX0_isLive) (maxL := 2) (ret := (some .boolean)) (by decide) rfl (Nat.le_of_ble_eq_true rfl) ?_
  intro pz ez sz mz bz tz cz hx hb hml hr hlocks hts hown hK hP A hD hA ls hl
  have hS : va_S A sz.heap sz.heap [] := va_S.rf
  have hl : lv_has ls 2 [(0, .ref (a 0)), (1, .int x)] := hl
  refine lv_aload_n hx hb dX0_isLive_0 rfl (lv_at hl 0 rfl) ?_
  refine lv_iload_n hx hb dX0_isLive_1 rfl (lv_at hl 1 rfl) ?_
  refine q_callVi (index := 29) (n := 1) (As := [.int x]) (rest := []) (js := [0]) (ci := 0) ⟨hx, hb, hml, hown, hts⟩ hK hP hD hS hA (k0_has l D cI cZ cL a c fr tt sa tk x (by omega)) rfl (by decide) (fun _ => by simp only [List.map_cons, List.map_nil, wA_fst]) (fun (_ : Unit) => [wA cI cZ a c fr tt sa tk]) (fun _ => rfl) gX0_isLive_X0_has rfl (by decide +kernel) rfl ⟨by decide, by decide⟩ rfl rfl rfl rfl hl.1 (by decide) ⟨(Nat.zero_le _), (Nat.zero_le _)⟩ dX0_isLive_2 rfl (fun r _ H locs hw hP hD hS => ?_)
  have hw : r = bI (hasB c x) := hw
  subst hw
  refine lv_if_eq (tgt := 31) hx hb dX0_isLive_5 (by decide) (fun c_5 => ?_) (fun c_5 => ?_)
  ·
    have n_5 : (hasB c x) = false := bI_0.mp c_5
    refine lv_iconst (v := (0 : Int32)) hx hb dX0_isLive_31 (by decide) ?_
    exact q_zret (()) hx hb hr rfl hlocks hK hP hD hS (by simp [isLv, bI, n_5]) (rfl) dX0_isLive_32
  ·
    have n_5 : (hasB c x) = true := bI_n.mp c_5
    refine lv_aload_n hx hb dX0_isLive_8 rfl (lv_at hl 0 rfl) ?_
    refine q_get (D := D) (ci := 0) (v := .ref (a 3)) (C := RX0) (T := TX0) (N := 5) hx hb hts (by decide +kernel) hown hK hP 0 0 rfl rfl rfl 2 (by decide) (hts (.fieldLink RX0 18 "OffsetRows$ArcList" "state" "[I") (by decide +kernel)) (fun _ h9 => h9) rfl dX0_isLive_9 ?_
    refine lv_iload_n hx hb dX0_isLive_12 rfl (lv_at hl 1 rfl) ?_
    refine q_iald hx hb hK hP 0 3 0 rfl (f := sa) rfl rfl (k := x.toNatClampNeg) rfl (hasB_in n_5 hc (by decide)) dX0_isLive_13 ?_
    refine lv_iconst (v := (2 : Int32)) hx hb dX0_isLive_14 (by decide) ?_
    refine lv_icmp_eq (tgt := 31) hx hb dX0_isLive_15 (by decide) (fun c_15 => ?_) (fun c_15 => ?_)
    ·
      refine lv_iconst (v := (0 : Int32)) hx hb dX0_isLive_31 (by decide) ?_
      exact q_zret (()) hx hb hr rfl hlocks hK hP hD hS (by simp [isLv, bI, n_5, c_15]) (rfl) dX0_isLive_32
    ·
      refine lv_aload_n hx hb dX0_isLive_18 rfl (lv_at hl 0 rfl) ?_
      refine q_get (D := D) (ci := 0) (v := .ref (a 4)) (C := RX0) (T := TX0) (N := 5) hx hb hts (by decide +kernel) hown hK hP 0 0 rfl rfl rfl 3 (by decide) (hts (.fieldLink RX0 21 "OffsetRows$ArcList" "taken" "[Z") (by decide +kernel)) (fun _ h9 => h9) rfl dX0_isLive_19 ?_
      refine lv_iload_n hx hb dX0_isLive_22 rfl (lv_at hl 1 rfl) ?_
      refine q_zald hx hb hK hP 0 4 1 rfl (f := tk) rfl rfl (k := x.toNatClampNeg) rfl (hasB_in n_5 hc (by decide)) dX0_isLive_23 ?_
      refine lv_if_ne (tgt := 31) hx hb dX0_isLive_24 (by decide) (fun c_24 => ?_) (fun c_24 => ?_)
      ·
        refine lv_iconst (v := (0 : Int32)) hx hb dX0_isLive_31 (by decide) ?_
        exact q_zret (()) hx hb hr rfl hlocks hK hP hD hS (by simp [isLv, bI, n_5, c_15, c_24]) (rfl) dX0_isLive_32
      ·
        refine lv_iconst (v := (1 : Int32)) hx hb dX0_isLive_27 (by decide) ?_
        refine lv_goto (tgt := 32) hx hb dX0_isLive_28 (by decide) ?_
        exact q_zret (()) hx hb hr rfl hlocks hK hP hD hS (by simp [isLv, bI, n_5, c_15, c_24]) (rfl) dX0_isLive_32

set_option maxHeartbeats 8000000 in
set_option maxRecDepth 100000 in
theorem k0_isWaiting (l : Launch) (D : va_G) (cI cZ cL : ClassId) (a : Nat → Nat) (c : Nat) (fr : Nat → Int32) (tt : Nat → Int32) (sa : Nat → Int32) (tk : Nat → Int32) (x : Int32) (hc : c ≤ 160) : McI l D (tY cI cZ cL) yX0_isWaiting wsX0_isWaiting 1 21 [.ref (a 0), .int x] ([wA cI cZ a c fr tt sa tk]) (fun r (_ : Unit) => r = bI (isWt c sa x)) (fun (_ : Unit) => [wA cI cZ a c fr tt sa tk]) := by
  refine q_ofW (Qc := fun A => (va_Qi (fun r (_ : Unit) => r = bI (isWt c sa x)) (fun u t => mAt D (tY cI cZ cL) A ((fun (_ : Unit) => [wA cI cZ a c fr tt sa tk]) u) t) A)) (cc := cX0_isWaiting) (maxL := 2) (ret := (some .boolean)) (by decide) rfl (Nat.le_of_ble_eq_true rfl) ?_
  intro pz ez sz mz bz tz cz hx hb hml hr hlocks hts hown hK hP A hD hA ls hl
  have hS : va_S A sz.heap sz.heap [] := va_S.rf
  have hl : lv_has ls 2 [(0, .ref (a 0)), (1, .int x)] := hl
  refine lv_aload_n hx hb dX0_isWaiting_0 rfl (lv_at hl 0 rfl) ?_
  refine lv_iload_n hx hb dX0_isWaiting_1 rfl (lv_at hl 1 rfl) ?_
  refine q_callVi (index := 29) (n := 1) (As := [.int x]) (rest := []) (js := [0]) (ci := 0) ⟨hx, hb, hml, hown, hts⟩ hK hP hD hS hA (k0_has l D cI cZ cL a c fr tt sa tk x (by omega)) rfl (by decide) (fun _ => by simp only [List.map_cons, List.map_nil, wA_fst]) (fun (_ : Unit) => [wA cI cZ a c fr tt sa tk]) (fun _ => rfl) gX0_isWaiting_X0_has rfl (by decide +kernel) rfl ⟨by decide, by decide⟩ rfl rfl rfl rfl hl.1 (by decide) ⟨(Nat.zero_le _), (Nat.zero_le _)⟩ dX0_isWaiting_2 rfl (fun r _ H locs hw hP hD hS => ?_)
  have hw : r = bI (hasB c x) := hw
  subst hw
  refine lv_if_eq (tgt := 21) hx hb dX0_isWaiting_5 (by decide) (fun c_5 => ?_) (fun c_5 => ?_)
  ·
    have n_5 : (hasB c x) = false := bI_0.mp c_5
    refine lv_iconst (v := (0 : Int32)) hx hb dX0_isWaiting_21 (by decide) ?_
    exact q_zret (()) hx hb hr rfl hlocks hK hP hD hS (by simp [isWt, bI, n_5]) (rfl) dX0_isWaiting_22
  ·
    have n_5 : (hasB c x) = true := bI_n.mp c_5
    refine lv_aload_n hx hb dX0_isWaiting_8 rfl (lv_at hl 0 rfl) ?_
    refine q_get (D := D) (ci := 0) (v := .ref (a 3)) (C := RX0) (T := TX0) (N := 5) hx hb hts (by decide +kernel) hown hK hP 0 0 rfl rfl rfl 2 (by decide) (hts (.fieldLink RX0 18 "OffsetRows$ArcList" "state" "[I") (by decide +kernel)) (fun _ h9 => h9) rfl dX0_isWaiting_9 ?_
    refine lv_iload_n hx hb dX0_isWaiting_12 rfl (lv_at hl 1 rfl) ?_
    refine q_iald hx hb hK hP 0 3 0 rfl (f := sa) rfl rfl (k := x.toNatClampNeg) rfl (hasB_in n_5 hc (by decide)) dX0_isWaiting_13 ?_
    refine lv_if_ne (tgt := 21) hx hb dX0_isWaiting_14 (by decide) (fun c_14 => ?_) (fun c_14 => ?_)
    ·
      refine lv_iconst (v := (0 : Int32)) hx hb dX0_isWaiting_21 (by decide) ?_
      exact q_zret (()) hx hb hr rfl hlocks hK hP hD hS (by simp [isWt, bI, n_5, c_14]) (rfl) dX0_isWaiting_22
    ·
      refine lv_iconst (v := (1 : Int32)) hx hb dX0_isWaiting_17 (by decide) ?_
      refine lv_goto (tgt := 22) hx hb dX0_isWaiting_18 (by decide) ?_
      exact q_zret (()) hx hb hr rfl hlocks hK hP hD hS (by simp [isWt, bI, n_5, c_14]) (rfl) dX0_isWaiting_22

set_option maxHeartbeats 8000000 in
set_option maxRecDepth 100000 in
theorem k0_append (l : Launch) (D : va_G) (cI cZ cL : ClassId) (a : Nat → Nat) (c : Nat) (fr : Nat → Int32) (tt : Nat → Int32) (sa : Nat → Int32) (tk : Nat → Int32) (x : Int32) (y : Int32) (z : Int32) (hc : c ≤ 160) : McI l D (tY cI cZ cL) yX0_append wsX0_append 0 0 [.ref (a 0), .int x, .int y, .int z] ([wA cI cZ a c fr tt sa tk]) (fun r (_ : Unit) => r = apR c) (fun (_ : Unit) => [wA cI cZ a (apC c) (apF c fr x) (apF c tt y) (apF c sa z) (apF c tk 0)]) := by
  refine q_ofW (Qc := fun A => (va_Qi (fun r (_ : Unit) => r = apR c) (fun u t => mAt D (tY cI cZ cL) A ((fun (_ : Unit) => [wA cI cZ a (apC c) (apF c fr x) (apF c tt y) (apF c sa z) (apF c tk 0)]) u) t) A)) (cc := cX0_append) (maxL := 5) (ret := (some .int)) (by decide) rfl (Nat.le_of_ble_eq_true rfl) ?_
  intro pz ez sz mz bz tz cz hx hb hml hr hlocks hts hown hK hP A hD hA ls hl
  have hS : va_S A sz.heap sz.heap [] := va_S.rf
  have hl : lv_has ls 5 [(0, .ref (a 0)), (1, .int x), (2, .int y), (3, .int z)] := hl
  refine lv_aload_n hx hb dX0_append_0 rfl (lv_at hl 0 rfl) ?_
  refine q_get (D := D) (ci := 0) (v := .int (nI c)) (C := RX0) (T := TX0) (N := 5) hx hb hts (by decide +kernel) hown hK hP 0 0 rfl rfl rfl 4 (by decide) (hts (.fieldLink RX0 25 "OffsetRows$ArcList" "count" "I") (by decide +kernel)) (fun _ h9 => h9) rfl dX0_append_1 ?_
  refine lv_sipush (v := (160 : Int32)) hx hb dX0_append_4 (by decide) ?_
  refine lv_icmp_lt (tgt := 13) hx hb dX0_append_7 (by decide) (fun c_7 => ?_) (fun c_7 => ?_)
  ·
    have n_7 : c < 160 := (nI_ltI (a := c) (b := 160) (by omega) (by omega)).mp c_7
    refine lv_aload_n hx hb dX0_append_13 rfl (lv_at hl 0 rfl) ?_
    refine q_get (D := D) (ci := 0) (v := .int (nI c)) (C := RX0) (T := TX0) (N := 5) hx hb hts (by decide +kernel) hown hK hP 0 0 rfl rfl rfl 4 (by decide) (hts (.fieldLink RX0 25 "OffsetRows$ArcList" "count" "I") (by decide +kernel)) (fun _ h9 => h9) rfl dX0_append_14 ?_
    refine lv_istore (lv' := [(4, .int (nI c)), (0, .ref (a 0)), (1, .int x), (2, .int y), (3, .int z)]) hx hb dX0_append_17 hl (by decide) rfl (fun ls hl => ?_)
    refine lv_aload_n hx hb dX0_append_19 rfl (lv_at hl 1 rfl) ?_
    refine q_get (D := D) (ci := 0) (v := .ref (a 1)) (C := RX0) (T := TX0) (N := 5) hx hb hts (by decide +kernel) hown hK hP 0 0 rfl rfl rfl 0 (by decide) (hts (.fieldLink RX0 9 "OffsetRows$ArcList" "from" "[I") (by decide +kernel)) (fun _ h9 => h9) rfl dX0_append_20 ?_
    refine lv_iload hx hb dX0_append_23 (lv_at hl 0 rfl) ?_
    refine lv_iload_n hx hb dX0_append_25 rfl (lv_at hl 2 rfl) ?_
    refine q_iast hx hb hK hP hD hS 0 1 0 rfl (f := fr) rfl rfl (k := c) (nI_clamp (n := c) (by omega)) (vp_in_nI (show c < 160 from by omega) (by omega)) dX0_append_26 wA_s_fr (Fs' := [wA cI cZ a c (upd fr c x) tt sa tk]) rfl (fun H locs hP hD hS => ?_)
    refine lv_aload_n hx hb dX0_append_27 rfl (lv_at hl 1 rfl) ?_
    refine q_get (D := D) (ci := 0) (v := .ref (a 2)) (C := RX0) (T := TX0) (N := 5) hx hb hts (by decide +kernel) hown hK hP 0 0 rfl rfl rfl 1 (by decide) (hts (.fieldLink RX0 15 "OffsetRows$ArcList" "to" "[I") (by decide +kernel)) (fun _ h9 => h9) rfl dX0_append_28 ?_
    refine lv_iload hx hb dX0_append_31 (lv_at hl 0 rfl) ?_
    refine lv_iload_n hx hb dX0_append_33 rfl (lv_at hl 3 rfl) ?_
    refine q_iast hx hb hK hP hD hS 0 2 0 rfl (f := tt) rfl rfl (k := c) (nI_clamp (n := c) (by omega)) (vp_in_nI (show c < 160 from by omega) (by omega)) dX0_append_34 wA_s_tt (Fs' := [wA cI cZ a c (upd fr c x) (upd tt c y) sa tk]) rfl (fun H locs hP hD hS => ?_)
    refine lv_aload_n hx hb dX0_append_35 rfl (lv_at hl 1 rfl) ?_
    refine q_get (D := D) (ci := 0) (v := .ref (a 3)) (C := RX0) (T := TX0) (N := 5) hx hb hts (by decide +kernel) hown hK hP 0 0 rfl rfl rfl 2 (by decide) (hts (.fieldLink RX0 18 "OffsetRows$ArcList" "state" "[I") (by decide +kernel)) (fun _ h9 => h9) rfl dX0_append_36 ?_
    refine lv_iload hx hb dX0_append_39 (lv_at hl 0 rfl) ?_
    refine lv_iload_n hx hb dX0_append_41 rfl (lv_at hl 4 rfl) ?_
    refine q_iast hx hb hK hP hD hS 0 3 0 rfl (f := sa) rfl rfl (k := c) (nI_clamp (n := c) (by omega)) (vp_in_nI (show c < 160 from by omega) (by omega)) dX0_append_42 wA_s_sa (Fs' := [wA cI cZ a c (upd fr c x) (upd tt c y) (upd sa c z) tk]) rfl (fun H locs hP hD hS => ?_)
    refine lv_aload_n hx hb dX0_append_43 rfl (lv_at hl 1 rfl) ?_
    refine q_get (D := D) (ci := 0) (v := .ref (a 4)) (C := RX0) (T := TX0) (N := 5) hx hb hts (by decide +kernel) hown hK hP 0 0 rfl rfl rfl 3 (by decide) (hts (.fieldLink RX0 21 "OffsetRows$ArcList" "taken" "[Z") (by decide +kernel)) (fun _ h9 => h9) rfl dX0_append_44 ?_
    refine lv_iload hx hb dX0_append_47 (lv_at hl 0 rfl) ?_
    refine lv_iconst (v := (0 : Int32)) hx hb dX0_append_49 (by decide) ?_
    refine q_zast hx hb hK hP hD hS 0 4 1 rfl (f := tk) rfl rfl (k := c) (nI_clamp (n := c) (by omega)) (vp_in_nI (show c < 160 from by omega) (by omega)) rfl dX0_append_50 wA_s_tk (Fs' := [wA cI cZ a c (upd fr c x) (upd tt c y) (upd sa c z) (upd tk c (0 : Int32))]) rfl (fun H locs hP hD hS => ?_)
    refine lv_aload_n hx hb dX0_append_51 rfl (lv_at hl 1 rfl) ?_
    refine lv_dup hx hb dX0_append_52 rfl ?_
    refine q_get (D := D) (ci := 0) (v := .int (nI c)) (C := RX0) (T := TX0) (N := 5) hx hb hts (by decide +kernel) hown hK hP 0 0 rfl rfl rfl 4 (by decide) (hts (.fieldLink RX0 25 "OffsetRows$ArcList" "count" "I") (by decide +kernel)) (fun _ h9 => h9) rfl dX0_append_53 ?_
    refine lv_iconst (v := (1 : Int32)) hx hb dX0_append_56 (by decide) ?_
    refine q_iadd (z := nI (c + 1)) hx hb dX0_append_57 (nI_add c 1) ?_
    refine q_put (D := D) (ci := 0) (v := .int (nI (c + 1))) (ty := .int) (C := RX0) (T := TX0) (N := 5) hx hb hts (by decide +kernel) tyX0 tyX0_ok nmX0 hown hK hP hD hS 0 0 rfl rfl rfl 4 (by decide) (hts (.fieldLink RX0 25 "OffsetRows$ArcList" "count" "I") (by decide +kernel)) (fun _ h9 => h9) rfl (by decide +kernel) rfl rfl (Nat.le_of_ble_eq_true rfl) dX0_append_58 (wA_s_c (g9 := c + 1)) (Fs' := [wA cI cZ a (c + 1) (upd fr c x) (upd tt c y) (upd sa c z) (upd tk c (0 : Int32))]) rfl (fun H locs hP hD hS => ?_)
    refine lv_iload hx hb dX0_append_61 (lv_at hl 0 rfl) ?_
    exact q_iret (()) hx hb hr hlocks hK hP hD hS (by simp [apR, apC, apF, c_7, n_7]) (by simp [apR, apC, apF, c_7, n_7]) dX0_append_63
  ·
    have n_7 : ¬ c < 160 := fun h9 => c_7 ((nI_ltI (a := c) (b := 160) (by omega) (by omega)).mpr h9)
    refine lv_bipush (v := (-6)) hx hb dX0_append_10 (by decide) ?_
    exact q_iret (()) hx hb hr hlocks hK hP hD hS (by simp [apR, apC, apF, c_7, n_7]) (by simp [apR, apC, apF, c_7, n_7]) dX0_append_12

set_option maxHeartbeats 8000000 in
set_option maxRecDepth 100000 in
theorem k0_settle (l : Launch) (D : va_G) (cI cZ cL : ClassId) (a : Nat → Nat) (c : Nat) (fr : Nat → Int32) (tt : Nat → Int32) (sa : Nat → Int32) (tk : Nat → Int32) (hc : c ≤ 160) : McI l D (tY cI cZ cL) yX0_settle wsX0_settle 0 0 [.ref (a 0)] ([wA cI cZ a c fr tt sa tk]) (fun r (_ : Unit) => r = nI (cN c (fun a => !(decide (sa a = sv tk a))))) (fun (_ : Unit) => [wA cI cZ a c fr tt (stS tk sa c) tk]) := by
  refine q_ofW (Qc := fun A => (va_Qi (fun r (_ : Unit) => r = nI (cN c (fun a => !(decide (sa a = sv tk a))))) (fun u t => mAt D (tY cI cZ cL) A ((fun (_ : Unit) => [wA cI cZ a c fr tt (stS tk sa c) tk]) u) t) A)) (cc := cX0_settle) (maxL := 4) (ret := (some .int)) (by decide) rfl (Nat.le_of_ble_eq_true rfl) ?_
  intro pz ez sz mz bz tz cz hx hb hml hr hlocks hts hown hK hP A hD hA ls hl
  have hS : va_S A sz.heap sz.heap [] := va_S.rf
  have hl : lv_has ls 4 [(0, .ref (a 0))] := hl
  refine lv_iconst (v := (0 : Int32)) hx hb dX0_settle_0 (by decide) ?_
  refine lv_istore_n (lv' := [(1, .int (0 : Int32)), (0, .ref (a 0))]) hx hb dX0_settle_1 rfl hl (by decide) rfl (fun ls hl => ?_)
  refine lv_iconst (v := (0 : Int32)) hx hb dX0_settle_2 (by decide) ?_
  refine lv_istore_n (lv' := [(2, .int (0 : Int32)), (1, .int (0 : Int32)), (0, .ref (a 0))]) hx hb dX0_settle_3 rfl hl (by decide) rfl (fun ls hl => ?_)
  have loop_4 : ∀ (k_4 i : Nat), i ≤ c → c < i + k_4 → ∀ (H : Heap) (locs : List Loc), va_P D vwCl (List.flatten [wA cI cZ a c fr tt (stS tk sa i) tk]) H → va_D A (List.flatten [wA cI cZ a c fr tt (stS tk sa i) tk]) → va_S A sz.heap H locs → ∀ (ls : Array Slot), lv_has ls 4 [(2, .int (nI i)), (1, .int (nI (cN i (fun a => !(decide (sa a = sv tk a)))))), (0, .ref (a 0))] → W pz l ez (rM 0 0) sz mz [.ref (a 0)].toArray bz tz cz H locs 0 0 (MQ bz (va_Qi (fun r (_ : Unit) => r = nI (cN c (fun a => !(decide (sa a = sv tk a))))) (fun u t => mAt D (tY cI cZ cL) A ((fun (_ : Unit) => [wA cI cZ a c fr tt (stS tk sa c) tk]) u) t) A) [.ref (a 0)].toArray sz 0 0 A) (F0 mz 4 ls [])  := by
    intro k_4
    induction k_4 with
    | zero => intro i hi_4 hk_4; exact absurd hk_4 (by omega)
    | succ k_4 ih_4 =>
      intro i hi_4 hk_4 H locs hP hD hS ls hl
      refine lv_iload_n hx hb dX0_settle_4 rfl (lv_at hl 0 rfl) ?_
      refine lv_aload_n hx hb dX0_settle_5 rfl (lv_at hl 2 rfl) ?_
      refine q_get (D := D) (ci := 0) (v := .int (nI c)) (C := RX0) (T := TX0) (N := 5) hx hb hts (by decide +kernel) hown hK hP 0 0 rfl rfl rfl 4 (by decide) (hts (.fieldLink RX0 25 "OffsetRows$ArcList" "count" "I") (by decide +kernel)) (fun _ h9 => h9) rfl dX0_settle_6 ?_
      refine lv_icmp_ge (tgt := 53) hx hb dX0_settle_9 (by decide) (fun c_9 => ?_) (fun c_9 => ?_)
      ·
        have n_9 : c ≤ i := (nI_leI (a := c) (b := i) (by omega) (by omega)).mp c_9
        refine lv_iload_n hx hb dX0_settle_53 rfl (lv_at hl 1 rfl) ?_
        exact q_iret (()) hx hb hr hlocks hK hP hD hS (by rw [show i = c by omega]) (by rw [show i = c by omega]) dX0_settle_54
      ·
        have n_9 : ¬ c ≤ i := fun h9 => c_9 ((nI_leI (a := c) (b := i) (by omega) (by omega)).mpr h9)
        refine lv_aload_n hx hb dX0_settle_12 rfl (lv_at hl 2 rfl) ?_
        refine q_get (D := D) (ci := 0) (v := .ref (a 4)) (C := RX0) (T := TX0) (N := 5) hx hb hts (by decide +kernel) hown hK hP 0 0 rfl rfl rfl 3 (by decide) (hts (.fieldLink RX0 21 "OffsetRows$ArcList" "taken" "[Z") (by decide +kernel)) (fun _ h9 => h9) rfl dX0_settle_13 ?_
        refine lv_iload_n hx hb dX0_settle_16 rfl (lv_at hl 0 rfl) ?_
        refine q_zald hx hb hK hP 0 4 1 rfl (f := tk) rfl rfl (k := i) (nI_clamp (n := i) (by omega)) (vp_in_nI (show i < 160 from by omega) (by omega)) dX0_settle_17 ?_
        refine lv_if_eq (tgt := 25) hx hb dX0_settle_18 (by decide) (fun c_18 => ?_) (fun c_18 => ?_)
        ·
          refine lv_iconst (v := (1 : Int32)) hx hb dX0_settle_25 (by decide) ?_
          refine lv_istore_n (lv' := [(3, .int (1 : Int32)), (2, .int (nI i)), (1, .int (nI (cN i (fun a => !(decide (sa a = sv tk a)))))), (0, .ref (a 0))]) hx hb dX0_settle_26 rfl hl (by decide) rfl (fun ls hl => ?_)
          refine lv_aload_n hx hb dX0_settle_27 rfl (lv_at hl 3 rfl) ?_
          refine q_get (D := D) (ci := 0) (v := .ref (a 3)) (C := RX0) (T := TX0) (N := 5) hx hb hts (by decide +kernel) hown hK hP 0 0 rfl rfl rfl 2 (by decide) (hts (.fieldLink RX0 18 "OffsetRows$ArcList" "state" "[I") (by decide +kernel)) (fun _ h9 => h9) rfl dX0_settle_28 ?_
          refine lv_iload_n hx hb dX0_settle_31 rfl (lv_at hl 1 rfl) ?_
          refine q_iald hx hb hK hP 0 3 0 rfl (f := stS tk sa i) rfl rfl (k := i) (nI_clamp (n := i) (by omega)) (vp_in_nI (show i < 160 from by omega) (by omega)) dX0_settle_32 ?_
          refine q_top (z := sa i) (stS_i) ?_
          refine lv_iload_n hx hb dX0_settle_33 rfl (lv_at hl 0 rfl) ?_
          refine lv_icmp_eq (tgt := 47) hx hb dX0_settle_34 (by decide) (fun c_34 => ?_) (fun c_34 => ?_)
          ·
            refine lv_iinc (v := nI (i + 1)) (lv' := [(2, .int (nI (i + 1))), (3, .int (1 : Int32)), (1, .int (nI (cN i (fun a => !(decide (sa a = sv tk a)))))), (0, .ref (a 0))]) hx hb dX0_settle_47 hl (k := 1) rfl (nI_add i 1) (by decide) rfl (fun ls hl => ?_)
            refine lv_goto (tgt := 4) hx hb dX0_settle_50 (by decide) ?_
            have hl : lv_has ls 4 [(2, .int (nI (i + 1))), (1, .int (nI (cN i (fun a => !(decide (sa a = sv tk a)))))), (0, .ref (a 0))] := lv_sub hl [0, 2, 3] rfl
            have hl : lv_has ls 4 [(2, .int (nI (i + 1))), (1, .int (nI (cN (i + 1) (fun a => !(decide (sa a = sv tk a)))))), (0, .ref (a 0))] := by
              rw [← show nI (cN i (fun a => !(decide (sa a = sv tk a)))) = nI (cN (i + 1) (fun a => !(decide (sa a = sv tk a)))) from by first | rfl | simp [sv, cN, c_9, n_9, c_18, c_34]]
              exact hl
            have hq0 : stS tk sa i = stS tk sa (i + 1) := stS_k (by simp [sv, c_9, n_9, c_18, c_34])
            have hP : va_P D vwCl (List.flatten [wA cI cZ a c fr tt (stS tk sa (i + 1)) tk]) _ := wCast hP (by rw [← hq0])
            have hD : va_D A (List.flatten [wA cI cZ a c fr tt (stS tk sa (i + 1)) tk]) := dCast hD (by rw [← hq0])
            exact ih_4 (i + 1) (by omega) (by omega) _ _ hP hD hS _ hl
          ·
            refine lv_aload_n hx hb dX0_settle_37 rfl (lv_at hl 3 rfl) ?_
            refine q_get (D := D) (ci := 0) (v := .ref (a 3)) (C := RX0) (T := TX0) (N := 5) hx hb hts (by decide +kernel) hown hK hP 0 0 rfl rfl rfl 2 (by decide) (hts (.fieldLink RX0 18 "OffsetRows$ArcList" "state" "[I") (by decide +kernel)) (fun _ h9 => h9) rfl dX0_settle_38 ?_
            refine lv_iload_n hx hb dX0_settle_41 rfl (lv_at hl 1 rfl) ?_
            refine lv_iload_n hx hb dX0_settle_42 rfl (lv_at hl 0 rfl) ?_
            refine q_iast hx hb hK hP hD hS 0 3 0 rfl (f := stS tk sa i) rfl rfl (k := i) (nI_clamp (n := i) (by omega)) (vp_in_nI (show i < 160 from by omega) (by omega)) dX0_settle_43 wA_s_sa (Fs' := [wA cI cZ a c fr tt (upd (stS tk sa i) i (1 : Int32)) tk]) rfl (fun H locs hP hD hS => ?_)
            have hP : va_P D vwCl (List.flatten [wA cI cZ a c fr tt (stS tk sa (i + 1)) tk]) _ := wCast hP (by rw [show upd (stS tk sa i) i (1 : Int32) = stS tk sa (i + 1) from stS_w (by simp [sv, c_9, n_9, c_18, c_34])])
            have hD : va_D A (List.flatten [wA cI cZ a c fr tt (stS tk sa (i + 1)) tk]) := dCast hD (by rw [show upd (stS tk sa i) i (1 : Int32) = stS tk sa (i + 1) from stS_w (by simp [sv, c_9, n_9, c_18, c_34])])
            refine lv_iinc (v := nI (cN i (fun a => !(decide (sa a = sv tk a))) + 1)) (lv' := [(1, .int (nI (cN i (fun a => !(decide (sa a = sv tk a))) + 1))), (3, .int (1 : Int32)), (2, .int (nI i)), (0, .ref (a 0))]) hx hb dX0_settle_44 hl (k := 2) rfl (nI_add (cN i (fun a => !(decide (sa a = sv tk a)))) 1) (by decide) rfl (fun ls hl => ?_)
            refine lv_iinc (v := nI (i + 1)) (lv' := [(2, .int (nI (i + 1))), (1, .int (nI (cN i (fun a => !(decide (sa a = sv tk a))) + 1))), (3, .int (1 : Int32)), (0, .ref (a 0))]) hx hb dX0_settle_47 hl (k := 2) rfl (nI_add i 1) (by decide) rfl (fun ls hl => ?_)
            refine lv_goto (tgt := 4) hx hb dX0_settle_50 (by decide) ?_
            have hl : lv_has ls 4 [(2, .int (nI (i + 1))), (1, .int (nI (cN i (fun a => !(decide (sa a = sv tk a))) + 1))), (0, .ref (a 0))] := lv_sub hl [0, 1, 3] rfl
            have hl : lv_has ls 4 [(2, .int (nI (i + 1))), (1, .int (nI (cN (i + 1) (fun a => !(decide (sa a = sv tk a)))))), (0, .ref (a 0))] := by
              rw [← show nI (cN i (fun a => !(decide (sa a = sv tk a))) + 1) = nI (cN (i + 1) (fun a => !(decide (sa a = sv tk a)))) from by first | rfl | simp [sv, cN, c_9, n_9, c_18, c_34]]
              exact hl
            have hP : va_P D vwCl (List.flatten [wA cI cZ a c fr tt (stS tk sa (i + 1)) tk]) _ := hP
            have hD : va_D A (List.flatten [wA cI cZ a c fr tt (stS tk sa (i + 1)) tk]) := hD
            exact ih_4 (i + 1) (by omega) (by omega) _ _ hP hD hS _ hl
        ·
          refine lv_iconst (v := (2 : Int32)) hx hb dX0_settle_21 (by decide) ?_
          refine lv_goto (tgt := 26) hx hb dX0_settle_22 (by decide) ?_
          refine lv_istore_n (lv' := [(3, .int (2 : Int32)), (2, .int (nI i)), (1, .int (nI (cN i (fun a => !(decide (sa a = sv tk a)))))), (0, .ref (a 0))]) hx hb dX0_settle_26 rfl hl (by decide) rfl (fun ls hl => ?_)
          refine lv_aload_n hx hb dX0_settle_27 rfl (lv_at hl 3 rfl) ?_
          refine q_get (D := D) (ci := 0) (v := .ref (a 3)) (C := RX0) (T := TX0) (N := 5) hx hb hts (by decide +kernel) hown hK hP 0 0 rfl rfl rfl 2 (by decide) (hts (.fieldLink RX0 18 "OffsetRows$ArcList" "state" "[I") (by decide +kernel)) (fun _ h9 => h9) rfl dX0_settle_28 ?_
          refine lv_iload_n hx hb dX0_settle_31 rfl (lv_at hl 1 rfl) ?_
          refine q_iald hx hb hK hP 0 3 0 rfl (f := stS tk sa i) rfl rfl (k := i) (nI_clamp (n := i) (by omega)) (vp_in_nI (show i < 160 from by omega) (by omega)) dX0_settle_32 ?_
          refine q_top (z := sa i) (stS_i) ?_
          refine lv_iload_n hx hb dX0_settle_33 rfl (lv_at hl 0 rfl) ?_
          refine lv_icmp_eq (tgt := 47) hx hb dX0_settle_34 (by decide) (fun c_34 => ?_) (fun c_34 => ?_)
          ·
            refine lv_iinc (v := nI (i + 1)) (lv' := [(2, .int (nI (i + 1))), (3, .int (2 : Int32)), (1, .int (nI (cN i (fun a => !(decide (sa a = sv tk a)))))), (0, .ref (a 0))]) hx hb dX0_settle_47 hl (k := 1) rfl (nI_add i 1) (by decide) rfl (fun ls hl => ?_)
            refine lv_goto (tgt := 4) hx hb dX0_settle_50 (by decide) ?_
            have hl : lv_has ls 4 [(2, .int (nI (i + 1))), (1, .int (nI (cN i (fun a => !(decide (sa a = sv tk a)))))), (0, .ref (a 0))] := lv_sub hl [0, 2, 3] rfl
            have hl : lv_has ls 4 [(2, .int (nI (i + 1))), (1, .int (nI (cN (i + 1) (fun a => !(decide (sa a = sv tk a)))))), (0, .ref (a 0))] := by
              rw [← show nI (cN i (fun a => !(decide (sa a = sv tk a)))) = nI (cN (i + 1) (fun a => !(decide (sa a = sv tk a)))) from by first | rfl | simp [sv, cN, c_9, n_9, c_18, c_34]]
              exact hl
            have hq0 : stS tk sa i = stS tk sa (i + 1) := stS_k (by simp [sv, c_9, n_9, c_18, c_34])
            have hP : va_P D vwCl (List.flatten [wA cI cZ a c fr tt (stS tk sa (i + 1)) tk]) _ := wCast hP (by rw [← hq0])
            have hD : va_D A (List.flatten [wA cI cZ a c fr tt (stS tk sa (i + 1)) tk]) := dCast hD (by rw [← hq0])
            exact ih_4 (i + 1) (by omega) (by omega) _ _ hP hD hS _ hl
          ·
            refine lv_aload_n hx hb dX0_settle_37 rfl (lv_at hl 3 rfl) ?_
            refine q_get (D := D) (ci := 0) (v := .ref (a 3)) (C := RX0) (T := TX0) (N := 5) hx hb hts (by decide +kernel) hown hK hP 0 0 rfl rfl rfl 2 (by decide) (hts (.fieldLink RX0 18 "OffsetRows$ArcList" "state" "[I") (by decide +kernel)) (fun _ h9 => h9) rfl dX0_settle_38 ?_
            refine lv_iload_n hx hb dX0_settle_41 rfl (lv_at hl 1 rfl) ?_
            refine lv_iload_n hx hb dX0_settle_42 rfl (lv_at hl 0 rfl) ?_
            refine q_iast hx hb hK hP hD hS 0 3 0 rfl (f := stS tk sa i) rfl rfl (k := i) (nI_clamp (n := i) (by omega)) (vp_in_nI (show i < 160 from by omega) (by omega)) dX0_settle_43 wA_s_sa (Fs' := [wA cI cZ a c fr tt (upd (stS tk sa i) i (2 : Int32)) tk]) rfl (fun H locs hP hD hS => ?_)
            have hP : va_P D vwCl (List.flatten [wA cI cZ a c fr tt (stS tk sa (i + 1)) tk]) _ := wCast hP (by rw [show upd (stS tk sa i) i (2 : Int32) = stS tk sa (i + 1) from stS_w (by simp [sv, c_9, n_9, c_18, c_34])])
            have hD : va_D A (List.flatten [wA cI cZ a c fr tt (stS tk sa (i + 1)) tk]) := dCast hD (by rw [show upd (stS tk sa i) i (2 : Int32) = stS tk sa (i + 1) from stS_w (by simp [sv, c_9, n_9, c_18, c_34])])
            refine lv_iinc (v := nI (cN i (fun a => !(decide (sa a = sv tk a))) + 1)) (lv' := [(1, .int (nI (cN i (fun a => !(decide (sa a = sv tk a))) + 1))), (3, .int (2 : Int32)), (2, .int (nI i)), (0, .ref (a 0))]) hx hb dX0_settle_44 hl (k := 2) rfl (nI_add (cN i (fun a => !(decide (sa a = sv tk a)))) 1) (by decide) rfl (fun ls hl => ?_)
            refine lv_iinc (v := nI (i + 1)) (lv' := [(2, .int (nI (i + 1))), (1, .int (nI (cN i (fun a => !(decide (sa a = sv tk a))) + 1))), (3, .int (2 : Int32)), (0, .ref (a 0))]) hx hb dX0_settle_47 hl (k := 2) rfl (nI_add i 1) (by decide) rfl (fun ls hl => ?_)
            refine lv_goto (tgt := 4) hx hb dX0_settle_50 (by decide) ?_
            have hl : lv_has ls 4 [(2, .int (nI (i + 1))), (1, .int (nI (cN i (fun a => !(decide (sa a = sv tk a))) + 1))), (0, .ref (a 0))] := lv_sub hl [0, 1, 3] rfl
            have hl : lv_has ls 4 [(2, .int (nI (i + 1))), (1, .int (nI (cN (i + 1) (fun a => !(decide (sa a = sv tk a)))))), (0, .ref (a 0))] := by
              rw [← show nI (cN i (fun a => !(decide (sa a = sv tk a))) + 1) = nI (cN (i + 1) (fun a => !(decide (sa a = sv tk a)))) from by first | rfl | simp [sv, cN, c_9, n_9, c_18, c_34]]
              exact hl
            have hP : va_P D vwCl (List.flatten [wA cI cZ a c fr tt (stS tk sa (i + 1)) tk]) _ := hP
            have hD : va_D A (List.flatten [wA cI cZ a c fr tt (stS tk sa (i + 1)) tk]) := hD
            exact ih_4 (i + 1) (by omega) (by omega) _ _ hP hD hS _ hl
  have hl : lv_has ls 4 [(2, .int (0 : Int32)), (1, .int (0 : Int32)), (0, .ref (a 0))] := lv_sub hl [0, 1, 2] rfl
  have hl : lv_has ls 4 [(2, .int (nI 0)), (1, .int (nI (cN 0 (fun a => !(decide (sa a = sv tk a)))))), (0, .ref (a 0))] := by
    rw [← show (0 : Int32) = nI (cN 0 (fun a => !(decide (sa a = sv tk a)))) from by first | rfl | simp [sv, cN]]
    exact hl
  have hq0 : sa = stS tk sa 0 := stS_0.symm
  have hP : va_P D vwCl (List.flatten [wA cI cZ a c fr tt (stS tk sa 0) tk]) _ := wCast hP (by rw [← hq0])
  have hD : va_D A (List.flatten [wA cI cZ a c fr tt (stS tk sa 0) tk]) := dCast hD (by rw [← hq0])
  exact loop_4 (c + 1) 0 (by omega) (by omega) _ _ hP hD hS _ hl

set_option maxHeartbeats 8000000 in
set_option maxRecDepth 100000 in
theorem k0_countInState (l : Launch) (D : va_G) (cI cZ cL : ClassId) (a : Nat → Nat) (c : Nat) (fr : Nat → Int32) (tt : Nat → Int32) (sa : Nat → Int32) (tk : Nat → Int32) (x : Int32) (hc : c ≤ 160) : McI l D (tY cI cZ cL) yX0_countInState wsX0_countInState 0 0 [.ref (a 0), .int x] ([wA cI cZ a c fr tt sa tk]) (fun r (_ : Unit) => r = nI (cN c (fun a => decide (sa a = x)))) (fun (_ : Unit) => [wA cI cZ a c fr tt sa tk]) := by
  refine q_ofW (Qc := fun A => (va_Qi (fun r (_ : Unit) => r = nI (cN c (fun a => decide (sa a = x)))) (fun u t => mAt D (tY cI cZ cL) A ((fun (_ : Unit) => [wA cI cZ a c fr tt sa tk]) u) t) A)) (cc := cX0_countInState) (maxL := 4) (ret := (some .int)) (by decide) rfl (Nat.le_of_ble_eq_true rfl) ?_
  intro pz ez sz mz bz tz cz hx hb hml hr hlocks hts hown hK hP A hD hA ls hl
  have hS : va_S A sz.heap sz.heap [] := va_S.rf
  have hl : lv_has ls 4 [(0, .ref (a 0)), (1, .int x)] := hl
  refine lv_iconst (v := (0 : Int32)) hx hb dX0_countInState_0 (by decide) ?_
  refine lv_istore_n (lv' := [(2, .int (0 : Int32)), (0, .ref (a 0)), (1, .int x)]) hx hb dX0_countInState_1 rfl hl (by decide) rfl (fun ls hl => ?_)
  refine lv_iconst (v := (0 : Int32)) hx hb dX0_countInState_2 (by decide) ?_
  refine lv_istore_n (lv' := [(3, .int (0 : Int32)), (2, .int (0 : Int32)), (0, .ref (a 0)), (1, .int x)]) hx hb dX0_countInState_3 rfl hl (by decide) rfl (fun ls hl => ?_)
  have loop_4 : ∀ (k_4 i : Nat), i ≤ c → c < i + k_4 → ∀ (H : Heap) (locs : List Loc), va_P D vwCl (List.flatten [wA cI cZ a c fr tt sa tk]) H → va_D A (List.flatten [wA cI cZ a c fr tt sa tk]) → va_S A sz.heap H locs → ∀ (ls : Array Slot), lv_has ls 4 [(3, .int (nI i)), (2, .int (nI (cN i (fun a => decide (sa a = x))))), (0, .ref (a 0)), (1, .int x)] → W pz l ez (rM 0 0) sz mz [.ref (a 0), .int x].toArray bz tz cz H locs 0 0 (MQ bz (va_Qi (fun r (_ : Unit) => r = nI (cN c (fun a => decide (sa a = x)))) (fun u t => mAt D (tY cI cZ cL) A ((fun (_ : Unit) => [wA cI cZ a c fr tt sa tk]) u) t) A) [.ref (a 0), .int x].toArray sz 0 0 A) (F0 mz 4 ls [])  := by
    intro k_4
    induction k_4 with
    | zero => intro i hi_4 hk_4; exact absurd hk_4 (by omega)
    | succ k_4 ih_4 =>
      intro i hi_4 hk_4 H locs hP hD hS ls hl
      refine lv_iload_n hx hb dX0_countInState_4 rfl (lv_at hl 0 rfl) ?_
      refine lv_aload_n hx hb dX0_countInState_5 rfl (lv_at hl 2 rfl) ?_
      refine q_get (D := D) (ci := 0) (v := .int (nI c)) (C := RX0) (T := TX0) (N := 5) hx hb hts (by decide +kernel) hown hK hP 0 0 rfl rfl rfl 4 (by decide) (hts (.fieldLink RX0 25 "OffsetRows$ArcList" "count" "I") (by decide +kernel)) (fun _ h9 => h9) rfl dX0_countInState_6 ?_
      refine lv_icmp_ge (tgt := 31) hx hb dX0_countInState_9 (by decide) (fun c_9 => ?_) (fun c_9 => ?_)
      ·
        have n_9 : c ≤ i := (nI_leI (a := c) (b := i) (by omega) (by omega)).mp c_9
        refine lv_iload_n hx hb dX0_countInState_31 rfl (lv_at hl 1 rfl) ?_
        exact q_iret (()) hx hb hr hlocks hK hP hD hS (by rw [show i = c by omega]) (rfl) dX0_countInState_32
      ·
        have n_9 : ¬ c ≤ i := fun h9 => c_9 ((nI_leI (a := c) (b := i) (by omega) (by omega)).mpr h9)
        refine lv_aload_n hx hb dX0_countInState_12 rfl (lv_at hl 2 rfl) ?_
        refine q_get (D := D) (ci := 0) (v := .ref (a 3)) (C := RX0) (T := TX0) (N := 5) hx hb hts (by decide +kernel) hown hK hP 0 0 rfl rfl rfl 2 (by decide) (hts (.fieldLink RX0 18 "OffsetRows$ArcList" "state" "[I") (by decide +kernel)) (fun _ h9 => h9) rfl dX0_countInState_13 ?_
        refine lv_iload_n hx hb dX0_countInState_16 rfl (lv_at hl 0 rfl) ?_
        refine q_iald hx hb hK hP 0 3 0 rfl (f := sa) rfl rfl (k := i) (nI_clamp (n := i) (by omega)) (vp_in_nI (show i < 160 from by omega) (by omega)) dX0_countInState_17 ?_
        refine lv_iload_n hx hb dX0_countInState_18 rfl (lv_at hl 3 rfl) ?_
        refine lv_icmp_ne (tgt := 25) hx hb dX0_countInState_19 (by decide) (fun c_19 => ?_) (fun c_19 => ?_)
        ·
          refine lv_iinc (v := nI (i + 1)) (lv' := [(3, .int (nI (i + 1))), (2, .int (nI (cN i (fun a => decide (sa a = x))))), (0, .ref (a 0)), (1, .int x)]) hx hb dX0_countInState_25 hl (k := 0) rfl (nI_add i 1) (by decide) rfl (fun ls hl => ?_)
          refine lv_goto (tgt := 4) hx hb dX0_countInState_28 (by decide) ?_
          have hl : lv_has ls 4 [(3, .int (nI (i + 1))), (2, .int (nI (cN i (fun a => decide (sa a = x))))), (0, .ref (a 0)), (1, .int x)] := lv_sub hl [0, 1, 2, 3] rfl
          have hl : lv_has ls 4 [(3, .int (nI (i + 1))), (2, .int (nI (cN (i + 1) (fun a => decide (sa a = x))))), (0, .ref (a 0)), (1, .int x)] := by
            rw [← show nI (cN i (fun a => decide (sa a = x))) = nI (cN (i + 1) (fun a => decide (sa a = x))) from by first | rfl | simp [cN, c_9, n_9, c_19]]
            exact hl
          have hP : va_P D vwCl (List.flatten [wA cI cZ a c fr tt sa tk]) _ := hP
          have hD : va_D A (List.flatten [wA cI cZ a c fr tt sa tk]) := hD
          exact ih_4 (i + 1) (by omega) (by omega) _ _ hP hD hS _ hl
        ·
          refine lv_iinc (v := nI (cN i (fun a => decide (sa a = x)) + 1)) (lv' := [(2, .int (nI (cN i (fun a => decide (sa a = x)) + 1))), (3, .int (nI i)), (0, .ref (a 0)), (1, .int x)]) hx hb dX0_countInState_22 hl (k := 1) rfl (nI_add (cN i (fun a => decide (sa a = x))) 1) (by decide) rfl (fun ls hl => ?_)
          refine lv_iinc (v := nI (i + 1)) (lv' := [(3, .int (nI (i + 1))), (2, .int (nI (cN i (fun a => decide (sa a = x)) + 1))), (0, .ref (a 0)), (1, .int x)]) hx hb dX0_countInState_25 hl (k := 1) rfl (nI_add i 1) (by decide) rfl (fun ls hl => ?_)
          refine lv_goto (tgt := 4) hx hb dX0_countInState_28 (by decide) ?_
          have hl : lv_has ls 4 [(3, .int (nI (i + 1))), (2, .int (nI (cN i (fun a => decide (sa a = x)) + 1))), (0, .ref (a 0)), (1, .int x)] := lv_sub hl [0, 1, 2, 3] rfl
          have hl : lv_has ls 4 [(3, .int (nI (i + 1))), (2, .int (nI (cN (i + 1) (fun a => decide (sa a = x))))), (0, .ref (a 0)), (1, .int x)] := by
            rw [← show nI (cN i (fun a => decide (sa a = x)) + 1) = nI (cN (i + 1) (fun a => decide (sa a = x))) from by first | rfl | simp [cN, c_9, n_9, c_19]]
            exact hl
          have hP : va_P D vwCl (List.flatten [wA cI cZ a c fr tt sa tk]) _ := hP
          have hD : va_D A (List.flatten [wA cI cZ a c fr tt sa tk]) := hD
          exact ih_4 (i + 1) (by omega) (by omega) _ _ hP hD hS _ hl
  have hl : lv_has ls 4 [(3, .int (0 : Int32)), (2, .int (0 : Int32)), (0, .ref (a 0)), (1, .int x)] := lv_sub hl [0, 1, 2, 3] rfl
  have hl : lv_has ls 4 [(3, .int (nI 0)), (2, .int (nI (cN 0 (fun a => decide (sa a = x))))), (0, .ref (a 0)), (1, .int x)] := by
    rw [← show (0 : Int32) = nI (cN 0 (fun a => decide (sa a = x))) from by first | rfl | simp [cN]]
    exact hl
  have hP : va_P D vwCl (List.flatten [wA cI cZ a c fr tt sa tk]) _ := hP
  have hD : va_D A (List.flatten [wA cI cZ a c fr tt sa tk]) := hD
  exact loop_4 (c + 1) 0 (by omega) (by omega) _ _ hP hD hS _ hl

set_option maxHeartbeats 8000000 in
set_option maxRecDepth 100000 in
theorem k0_countLive (l : Launch) (D : va_G) (cI cZ cL : ClassId) (a : Nat → Nat) (c : Nat) (fr : Nat → Int32) (tt : Nat → Int32) (sa : Nat → Int32) (tk : Nat → Int32) (hc : c ≤ 160) : McI l D (tY cI cZ cL) yX0_countLive wsX0_countLive 2 42 [.ref (a 0)] ([wA cI cZ a c fr tt sa tk]) (fun r (_ : Unit) => r = nI (cN c (fun a => lvB sa tk a))) (fun (_ : Unit) => [wA cI cZ a c fr tt sa tk]) := by
  refine q_ofW (Qc := fun A => (va_Qi (fun r (_ : Unit) => r = nI (cN c (fun a => lvB sa tk a))) (fun u t => mAt D (tY cI cZ cL) A ((fun (_ : Unit) => [wA cI cZ a c fr tt sa tk]) u) t) A)) (cc := cX0_countLive) (maxL := 3) (ret := (some .int)) (by decide) rfl (Nat.le_of_ble_eq_true rfl) ?_
  intro pz ez sz mz bz tz cz hx hb hml hr hlocks hts hown hK hP A hD hA ls hl
  have hS : va_S A sz.heap sz.heap [] := va_S.rf
  have hl : lv_has ls 3 [(0, .ref (a 0))] := hl
  refine lv_iconst (v := (0 : Int32)) hx hb dX0_countLive_0 (by decide) ?_
  refine lv_istore_n (lv' := [(1, .int (0 : Int32)), (0, .ref (a 0))]) hx hb dX0_countLive_1 rfl hl (by decide) rfl (fun ls hl => ?_)
  refine lv_iconst (v := (0 : Int32)) hx hb dX0_countLive_2 (by decide) ?_
  refine lv_istore_n (lv' := [(2, .int (0 : Int32)), (1, .int (0 : Int32)), (0, .ref (a 0))]) hx hb dX0_countLive_3 rfl hl (by decide) rfl (fun ls hl => ?_)
  have loop_4 : ∀ (k_4 i : Nat), i ≤ c → c < i + k_4 → ∀ (H : Heap) (locs : List Loc), va_P D vwCl (List.flatten [wA cI cZ a c fr tt sa tk]) H → va_D A (List.flatten [wA cI cZ a c fr tt sa tk]) → va_S A sz.heap H locs → ∀ (ls : Array Slot), lv_has ls 3 [(2, .int (nI i)), (1, .int (nI (cN i (fun a => lvB sa tk a)))), (0, .ref (a 0))] → W pz l ez (rM 2 42) sz mz [.ref (a 0)].toArray bz tz cz H locs 0 0 (MQ bz (va_Qi (fun r (_ : Unit) => r = nI (cN c (fun a => lvB sa tk a))) (fun u t => mAt D (tY cI cZ cL) A ((fun (_ : Unit) => [wA cI cZ a c fr tt sa tk]) u) t) A) [.ref (a 0)].toArray sz 0 0 A) (F0 mz 4 ls [])  := by
    intro k_4
    induction k_4 with
    | zero => intro i hi_4 hk_4; exact absurd hk_4 (by omega)
    | succ k_4 ih_4 =>
      intro i hi_4 hk_4 H locs hP hD hS ls hl
      refine lv_iload_n hx hb dX0_countLive_4 rfl (lv_at hl 0 rfl) ?_
      refine lv_aload_n hx hb dX0_countLive_5 rfl (lv_at hl 2 rfl) ?_
      refine q_get (D := D) (ci := 0) (v := .int (nI c)) (C := RX0) (T := TX0) (N := 5) hx hb hts (by decide +kernel) hown hK hP 0 0 rfl rfl rfl 4 (by decide) (hts (.fieldLink RX0 25 "OffsetRows$ArcList" "count" "I") (by decide +kernel)) (fun _ h9 => h9) rfl dX0_countLive_6 ?_
      refine lv_icmp_ge (tgt := 29) hx hb dX0_countLive_9 (by decide) (fun c_9 => ?_) (fun c_9 => ?_)
      ·
        have n_9 : c ≤ i := (nI_leI (a := c) (b := i) (by omega) (by omega)).mp c_9
        refine lv_iload_n hx hb dX0_countLive_29 rfl (lv_at hl 1 rfl) ?_
        exact q_iret (()) hx hb hr hlocks hK hP hD hS (by rw [show i = c by omega]) (rfl) dX0_countLive_30
      ·
        have n_9 : ¬ c ≤ i := fun h9 => c_9 ((nI_leI (a := c) (b := i) (by omega) (by omega)).mpr h9)
        refine lv_aload_n hx hb dX0_countLive_12 rfl (lv_at hl 2 rfl) ?_
        refine lv_iload_n hx hb dX0_countLive_13 rfl (lv_at hl 0 rfl) ?_
        refine q_callVi (index := 37) (n := 1) (As := [.int (nI i)]) (rest := []) (js := [0]) (ci := 0) ⟨hx, hb, hml, hown, hts⟩ hK hP hD hS hA (k0_isLive l D cI cZ cL a c fr tt sa tk (nI i) (by omega)) rfl (by decide) (fun _ => by simp only [List.map_cons, List.map_nil, wA_fst]) (fun (_ : Unit) => [wA cI cZ a c fr tt sa tk]) (fun _ => rfl) gX0_countLive_X0_isLive rfl (by decide +kernel) rfl ⟨by decide, by decide⟩ rfl rfl rfl rfl hl.1 (by decide) ⟨(Nat.zero_le _), (Nat.zero_le _)⟩ dX0_countLive_14 rfl (fun r _ H locs hw hP hD hS => ?_)
        have hw : r = bI (isLv c sa tk (nI i)) := hw
        subst hw
        refine q_top (z := bI (lvB sa tk i)) (by rw [isLv_nI (by omega) (by omega)]) ?_
        refine lv_if_eq (tgt := 23) hx hb dX0_countLive_17 (by decide) (fun c_17 => ?_) (fun c_17 => ?_)
        ·
          have n_17 : (lvB sa tk i) = false := bI_0.mp c_17
          refine lv_iinc (v := nI (i + 1)) (lv' := [(2, .int (nI (i + 1))), (1, .int (nI (cN i (fun a => lvB sa tk a)))), (0, .ref (a 0))]) hx hb dX0_countLive_23 hl (k := 0) rfl (nI_add i 1) (by decide) rfl (fun ls hl => ?_)
          refine lv_goto (tgt := 4) hx hb dX0_countLive_26 (by decide) ?_
          have hl : lv_has ls 3 [(2, .int (nI (i + 1))), (1, .int (nI (cN i (fun a => lvB sa tk a)))), (0, .ref (a 0))] := lv_sub hl [0, 1, 2] rfl
          have hl : lv_has ls 3 [(2, .int (nI (i + 1))), (1, .int (nI (cN (i + 1) (fun a => lvB sa tk a)))), (0, .ref (a 0))] := by
            rw [← show nI (cN i (fun a => lvB sa tk a)) = nI (cN (i + 1) (fun a => lvB sa tk a)) from by first | rfl | simp [cN, c_9, n_9, n_17]]
            exact hl
          have hP : va_P D vwCl (List.flatten [wA cI cZ a c fr tt sa tk]) _ := hP
          have hD : va_D A (List.flatten [wA cI cZ a c fr tt sa tk]) := hD
          exact ih_4 (i + 1) (by omega) (by omega) _ _ hP hD hS _ hl
        ·
          have n_17 : (lvB sa tk i) = true := bI_n.mp c_17
          refine lv_iinc (v := nI (cN i (fun a => lvB sa tk a) + 1)) (lv' := [(1, .int (nI (cN i (fun a => lvB sa tk a) + 1))), (2, .int (nI i)), (0, .ref (a 0))]) hx hb dX0_countLive_20 hl (k := 1) rfl (nI_add (cN i (fun a => lvB sa tk a)) 1) (by decide) rfl (fun ls hl => ?_)
          refine lv_iinc (v := nI (i + 1)) (lv' := [(2, .int (nI (i + 1))), (1, .int (nI (cN i (fun a => lvB sa tk a) + 1))), (0, .ref (a 0))]) hx hb dX0_countLive_23 hl (k := 1) rfl (nI_add i 1) (by decide) rfl (fun ls hl => ?_)
          refine lv_goto (tgt := 4) hx hb dX0_countLive_26 (by decide) ?_
          have hl : lv_has ls 3 [(2, .int (nI (i + 1))), (1, .int (nI (cN i (fun a => lvB sa tk a) + 1))), (0, .ref (a 0))] := lv_sub hl [0, 1, 2] rfl
          have hl : lv_has ls 3 [(2, .int (nI (i + 1))), (1, .int (nI (cN (i + 1) (fun a => lvB sa tk a)))), (0, .ref (a 0))] := by
            rw [← show nI (cN i (fun a => lvB sa tk a) + 1) = nI (cN (i + 1) (fun a => lvB sa tk a)) from by first | rfl | simp [cN, c_9, n_9, n_17]]
            exact hl
          have hP : va_P D vwCl (List.flatten [wA cI cZ a c fr tt sa tk]) _ := hP
          have hD : va_D A (List.flatten [wA cI cZ a c fr tt sa tk]) := hD
          exact ih_4 (i + 1) (by omega) (by omega) _ _ hP hD hS _ hl
  have hl : lv_has ls 3 [(2, .int (0 : Int32)), (1, .int (0 : Int32)), (0, .ref (a 0))] := lv_sub hl [0, 1, 2] rfl
  have hl : lv_has ls 3 [(2, .int (nI 0)), (1, .int (nI (cN 0 (fun a => lvB sa tk a)))), (0, .ref (a 0))] := by
    rw [← show (0 : Int32) = nI (cN 0 (fun a => lvB sa tk a)) from by first | rfl | simp [cN]]
    exact hl
  have hP : va_P D vwCl (List.flatten [wA cI cZ a c fr tt sa tk]) _ := hP
  have hD : va_D A (List.flatten [wA cI cZ a c fr tt sa tk]) := hD
  exact loop_4 (c + 1) 0 (by omega) (by omega) _ _ hP hD hS _ hl

set_option maxHeartbeats 8000000 in
set_option maxRecDepth 100000 in
theorem k0_countLiveBetween (l : Launch) (D : va_G) (cI cZ cL : ClassId) (a : Nat → Nat) (c : Nat) (fr : Nat → Int32) (tt : Nat → Int32) (sa : Nat → Int32) (tk : Nat → Int32) (x : Int32) (y : Int32) (hc : c ≤ 160) : McI l D (tY cI cZ cL) yX0_countLiveBetween wsX0_countLiveBetween 2 42 [.ref (a 0), .int x, .int y] ([wA cI cZ a c fr tt sa tk]) (fun r (_ : Unit) => r = nI (cN c (fun a => lvB sa tk a && (decide (fr a = x) && decide (tt a = y))))) (fun (_ : Unit) => [wA cI cZ a c fr tt sa tk]) := by
  refine q_ofW (Qc := fun A => (va_Qi (fun r (_ : Unit) => r = nI (cN c (fun a => lvB sa tk a && (decide (fr a = x) && decide (tt a = y))))) (fun u t => mAt D (tY cI cZ cL) A ((fun (_ : Unit) => [wA cI cZ a c fr tt sa tk]) u) t) A)) (cc := cX0_countLiveBetween) (maxL := 5) (ret := (some .int)) (by decide) rfl (Nat.le_of_ble_eq_true rfl) ?_
  intro pz ez sz mz bz tz cz hx hb hml hr hlocks hts hown hK hP A hD hA ls hl
  have hS : va_S A sz.heap sz.heap [] := va_S.rf
  have hl : lv_has ls 5 [(0, .ref (a 0)), (1, .int x), (2, .int y)] := hl
  refine lv_iconst (v := (0 : Int32)) hx hb dX0_countLiveBetween_0 (by decide) ?_
  refine lv_istore_n (lv' := [(3, .int (0 : Int32)), (0, .ref (a 0)), (1, .int x), (2, .int y)]) hx hb dX0_countLiveBetween_1 rfl hl (by decide) rfl (fun ls hl => ?_)
  refine lv_iconst (v := (0 : Int32)) hx hb dX0_countLiveBetween_2 (by decide) ?_
  refine lv_istore (lv' := [(4, .int (0 : Int32)), (3, .int (0 : Int32)), (0, .ref (a 0)), (1, .int x), (2, .int y)]) hx hb dX0_countLiveBetween_3 hl (by decide) rfl (fun ls hl => ?_)
  have loop_5 : ∀ (k_5 i : Nat), i ≤ c → c < i + k_5 → ∀ (H : Heap) (locs : List Loc), va_P D vwCl (List.flatten [wA cI cZ a c fr tt sa tk]) H → va_D A (List.flatten [wA cI cZ a c fr tt sa tk]) → va_S A sz.heap H locs → ∀ (ls : Array Slot), lv_has ls 5 [(4, .int (nI i)), (3, .int (nI (cN i (fun a => lvB sa tk a && (decide (fr a = x) && decide (tt a = y)))))), (0, .ref (a 0)), (1, .int x), (2, .int y)] → W pz l ez (rM 2 42) sz mz [.ref (a 0), .int x, .int y].toArray bz tz cz H locs 0 0 (MQ bz (va_Qi (fun r (_ : Unit) => r = nI (cN c (fun a => lvB sa tk a && (decide (fr a = x) && decide (tt a = y))))) (fun u t => mAt D (tY cI cZ cL) A ((fun (_ : Unit) => [wA cI cZ a c fr tt sa tk]) u) t) A) [.ref (a 0), .int x, .int y].toArray sz 0 0 A) (F0 mz 5 ls [])  := by
    intro k_5
    induction k_5 with
    | zero => intro i hi_5 hk_5; exact absurd hk_5 (by omega)
    | succ k_5 ih_5 =>
      intro i hi_5 hk_5 H locs hP hD hS ls hl
      refine lv_iload hx hb dX0_countLiveBetween_5 (lv_at hl 0 rfl) ?_
      refine lv_aload_n hx hb dX0_countLiveBetween_7 rfl (lv_at hl 2 rfl) ?_
      refine q_get (D := D) (ci := 0) (v := .int (nI c)) (C := RX0) (T := TX0) (N := 5) hx hb hts (by decide +kernel) hown hK hP 0 0 rfl rfl rfl 4 (by decide) (hts (.fieldLink RX0 25 "OffsetRows$ArcList" "count" "I") (by decide +kernel)) (fun _ h9 => h9) rfl dX0_countLiveBetween_8 ?_
      refine lv_icmp_ge (tgt := 54) hx hb dX0_countLiveBetween_11 (by decide) (fun c_11 => ?_) (fun c_11 => ?_)
      ·
        have n_11 : c ≤ i := (nI_leI (a := c) (b := i) (by omega) (by omega)).mp c_11
        refine lv_iload_n hx hb dX0_countLiveBetween_54 rfl (lv_at hl 1 rfl) ?_
        exact q_iret (()) hx hb hr hlocks hK hP hD hS (by rw [show i = c by omega]) (rfl) dX0_countLiveBetween_55
      ·
        have n_11 : ¬ c ≤ i := fun h9 => c_11 ((nI_leI (a := c) (b := i) (by omega) (by omega)).mpr h9)
        refine lv_aload_n hx hb dX0_countLiveBetween_14 rfl (lv_at hl 2 rfl) ?_
        refine lv_iload hx hb dX0_countLiveBetween_15 (lv_at hl 0 rfl) ?_
        refine q_callVi (index := 37) (n := 1) (As := [.int (nI i)]) (rest := []) (js := [0]) (ci := 0) ⟨hx, hb, hml, hown, hts⟩ hK hP hD hS hA (k0_isLive l D cI cZ cL a c fr tt sa tk (nI i) (by omega)) rfl (by decide) (fun _ => by simp only [List.map_cons, List.map_nil, wA_fst]) (fun (_ : Unit) => [wA cI cZ a c fr tt sa tk]) (fun _ => rfl) gX0_countLiveBetween_X0_isLive rfl (by decide +kernel) rfl ⟨by decide, by decide⟩ rfl rfl rfl rfl hl.1 (by decide) ⟨(Nat.zero_le _), (Nat.zero_le _)⟩ dX0_countLiveBetween_17 rfl (fun r _ H locs hw hP hD hS => ?_)
        have hw : r = bI (isLv c sa tk (nI i)) := hw
        subst hw
        refine q_top (z := bI (lvB sa tk i)) (by rw [isLv_nI (by omega) (by omega)]) ?_
        refine lv_if_eq (tgt := 48) hx hb dX0_countLiveBetween_20 (by decide) (fun c_20 => ?_) (fun c_20 => ?_)
        ·
          have n_20 : (lvB sa tk i) = false := bI_0.mp c_20
          refine lv_iinc (v := nI (i + 1)) (lv' := [(4, .int (nI (i + 1))), (3, .int (nI (cN i (fun a => lvB sa tk a && (decide (fr a = x) && decide (tt a = y)))))), (0, .ref (a 0)), (1, .int x), (2, .int y)]) hx hb dX0_countLiveBetween_48 hl (k := 0) rfl (nI_add i 1) (by decide) rfl (fun ls hl => ?_)
          refine lv_goto (tgt := 5) hx hb dX0_countLiveBetween_51 (by decide) ?_
          have hl : lv_has ls 5 [(4, .int (nI (i + 1))), (3, .int (nI (cN i (fun a => lvB sa tk a && (decide (fr a = x) && decide (tt a = y)))))), (0, .ref (a 0)), (1, .int x), (2, .int y)] := lv_sub hl [0, 1, 2, 3, 4] rfl
          have hl : lv_has ls 5 [(4, .int (nI (i + 1))), (3, .int (nI (cN (i + 1) (fun a => lvB sa tk a && (decide (fr a = x) && decide (tt a = y)))))), (0, .ref (a 0)), (1, .int x), (2, .int y)] := by
            rw [← show nI (cN i (fun a => lvB sa tk a && (decide (fr a = x) && decide (tt a = y)))) = nI (cN (i + 1) (fun a => lvB sa tk a && (decide (fr a = x) && decide (tt a = y)))) from by first | rfl | simp [cN, c_11, n_11, n_20]]
            exact hl
          have hP : va_P D vwCl (List.flatten [wA cI cZ a c fr tt sa tk]) _ := hP
          have hD : va_D A (List.flatten [wA cI cZ a c fr tt sa tk]) := hD
          exact ih_5 (i + 1) (by omega) (by omega) _ _ hP hD hS _ hl
        ·
          have n_20 : (lvB sa tk i) = true := bI_n.mp c_20
          refine lv_aload_n hx hb dX0_countLiveBetween_23 rfl (lv_at hl 2 rfl) ?_
          refine q_get (D := D) (ci := 0) (v := .ref (a 1)) (C := RX0) (T := TX0) (N := 5) hx hb hts (by decide +kernel) hown hK hP 0 0 rfl rfl rfl 0 (by decide) (hts (.fieldLink RX0 9 "OffsetRows$ArcList" "from" "[I") (by decide +kernel)) (fun _ h9 => h9) rfl dX0_countLiveBetween_24 ?_
          refine lv_iload hx hb dX0_countLiveBetween_27 (lv_at hl 0 rfl) ?_
          refine q_iald hx hb hK hP 0 1 0 rfl (f := fr) rfl rfl (k := i) (nI_clamp (n := i) (by omega)) (vp_in_nI (show i < 160 from by omega) (by omega)) dX0_countLiveBetween_29 ?_
          refine lv_iload_n hx hb dX0_countLiveBetween_30 rfl (lv_at hl 3 rfl) ?_
          refine lv_icmp_ne (tgt := 48) hx hb dX0_countLiveBetween_31 (by decide) (fun c_31 => ?_) (fun c_31 => ?_)
          ·
            refine lv_iinc (v := nI (i + 1)) (lv' := [(4, .int (nI (i + 1))), (3, .int (nI (cN i (fun a => lvB sa tk a && (decide (fr a = x) && decide (tt a = y)))))), (0, .ref (a 0)), (1, .int x), (2, .int y)]) hx hb dX0_countLiveBetween_48 hl (k := 0) rfl (nI_add i 1) (by decide) rfl (fun ls hl => ?_)
            refine lv_goto (tgt := 5) hx hb dX0_countLiveBetween_51 (by decide) ?_
            have hl : lv_has ls 5 [(4, .int (nI (i + 1))), (3, .int (nI (cN i (fun a => lvB sa tk a && (decide (fr a = x) && decide (tt a = y)))))), (0, .ref (a 0)), (1, .int x), (2, .int y)] := lv_sub hl [0, 1, 2, 3, 4] rfl
            have hl : lv_has ls 5 [(4, .int (nI (i + 1))), (3, .int (nI (cN (i + 1) (fun a => lvB sa tk a && (decide (fr a = x) && decide (tt a = y)))))), (0, .ref (a 0)), (1, .int x), (2, .int y)] := by
              rw [← show nI (cN i (fun a => lvB sa tk a && (decide (fr a = x) && decide (tt a = y)))) = nI (cN (i + 1) (fun a => lvB sa tk a && (decide (fr a = x) && decide (tt a = y)))) from by first | rfl | simp [cN, c_11, n_11, n_20, c_31]]
              exact hl
            have hP : va_P D vwCl (List.flatten [wA cI cZ a c fr tt sa tk]) _ := hP
            have hD : va_D A (List.flatten [wA cI cZ a c fr tt sa tk]) := hD
            exact ih_5 (i + 1) (by omega) (by omega) _ _ hP hD hS _ hl
          ·
            refine lv_aload_n hx hb dX0_countLiveBetween_34 rfl (lv_at hl 2 rfl) ?_
            refine q_get (D := D) (ci := 0) (v := .ref (a 2)) (C := RX0) (T := TX0) (N := 5) hx hb hts (by decide +kernel) hown hK hP 0 0 rfl rfl rfl 1 (by decide) (hts (.fieldLink RX0 15 "OffsetRows$ArcList" "to" "[I") (by decide +kernel)) (fun _ h9 => h9) rfl dX0_countLiveBetween_35 ?_
            refine lv_iload hx hb dX0_countLiveBetween_38 (lv_at hl 0 rfl) ?_
            refine q_iald hx hb hK hP 0 2 0 rfl (f := tt) rfl rfl (k := i) (nI_clamp (n := i) (by omega)) (vp_in_nI (show i < 160 from by omega) (by omega)) dX0_countLiveBetween_40 ?_
            refine lv_iload_n hx hb dX0_countLiveBetween_41 rfl (lv_at hl 4 rfl) ?_
            refine lv_icmp_ne (tgt := 48) hx hb dX0_countLiveBetween_42 (by decide) (fun c_42 => ?_) (fun c_42 => ?_)
            ·
              refine lv_iinc (v := nI (i + 1)) (lv' := [(4, .int (nI (i + 1))), (3, .int (nI (cN i (fun a => lvB sa tk a && (decide (fr a = x) && decide (tt a = y)))))), (0, .ref (a 0)), (1, .int x), (2, .int y)]) hx hb dX0_countLiveBetween_48 hl (k := 0) rfl (nI_add i 1) (by decide) rfl (fun ls hl => ?_)
              refine lv_goto (tgt := 5) hx hb dX0_countLiveBetween_51 (by decide) ?_
              have hl : lv_has ls 5 [(4, .int (nI (i + 1))), (3, .int (nI (cN i (fun a => lvB sa tk a && (decide (fr a = x) && decide (tt a = y)))))), (0, .ref (a 0)), (1, .int x), (2, .int y)] := lv_sub hl [0, 1, 2, 3, 4] rfl
              have hl : lv_has ls 5 [(4, .int (nI (i + 1))), (3, .int (nI (cN (i + 1) (fun a => lvB sa tk a && (decide (fr a = x) && decide (tt a = y)))))), (0, .ref (a 0)), (1, .int x), (2, .int y)] := by
                rw [← show nI (cN i (fun a => lvB sa tk a && (decide (fr a = x) && decide (tt a = y)))) = nI (cN (i + 1) (fun a => lvB sa tk a && (decide (fr a = x) && decide (tt a = y)))) from by first | rfl | simp [cN, c_11, n_11, n_20, c_31, c_42]]
                exact hl
              have hP : va_P D vwCl (List.flatten [wA cI cZ a c fr tt sa tk]) _ := hP
              have hD : va_D A (List.flatten [wA cI cZ a c fr tt sa tk]) := hD
              exact ih_5 (i + 1) (by omega) (by omega) _ _ hP hD hS _ hl
            ·
              refine lv_iinc (v := nI (cN i (fun a => lvB sa tk a && (decide (fr a = x) && decide (tt a = y))) + 1)) (lv' := [(3, .int (nI (cN i (fun a => lvB sa tk a && (decide (fr a = x) && decide (tt a = y))) + 1))), (4, .int (nI i)), (0, .ref (a 0)), (1, .int x), (2, .int y)]) hx hb dX0_countLiveBetween_45 hl (k := 1) rfl (nI_add (cN i (fun a => lvB sa tk a && (decide (fr a = x) && decide (tt a = y)))) 1) (by decide) rfl (fun ls hl => ?_)
              refine lv_iinc (v := nI (i + 1)) (lv' := [(4, .int (nI (i + 1))), (3, .int (nI (cN i (fun a => lvB sa tk a && (decide (fr a = x) && decide (tt a = y))) + 1))), (0, .ref (a 0)), (1, .int x), (2, .int y)]) hx hb dX0_countLiveBetween_48 hl (k := 1) rfl (nI_add i 1) (by decide) rfl (fun ls hl => ?_)
              refine lv_goto (tgt := 5) hx hb dX0_countLiveBetween_51 (by decide) ?_
              have hl : lv_has ls 5 [(4, .int (nI (i + 1))), (3, .int (nI (cN i (fun a => lvB sa tk a && (decide (fr a = x) && decide (tt a = y))) + 1))), (0, .ref (a 0)), (1, .int x), (2, .int y)] := lv_sub hl [0, 1, 2, 3, 4] rfl
              have hl : lv_has ls 5 [(4, .int (nI (i + 1))), (3, .int (nI (cN (i + 1) (fun a => lvB sa tk a && (decide (fr a = x) && decide (tt a = y)))))), (0, .ref (a 0)), (1, .int x), (2, .int y)] := by
                rw [← show nI (cN i (fun a => lvB sa tk a && (decide (fr a = x) && decide (tt a = y))) + 1) = nI (cN (i + 1) (fun a => lvB sa tk a && (decide (fr a = x) && decide (tt a = y)))) from by first | rfl | simp [cN, c_11, n_11, n_20, c_31, c_42]]
                exact hl
              have hP : va_P D vwCl (List.flatten [wA cI cZ a c fr tt sa tk]) _ := hP
              have hD : va_D A (List.flatten [wA cI cZ a c fr tt sa tk]) := hD
              exact ih_5 (i + 1) (by omega) (by omega) _ _ hP hD hS _ hl
  have hl : lv_has ls 5 [(4, .int (0 : Int32)), (3, .int (0 : Int32)), (0, .ref (a 0)), (1, .int x), (2, .int y)] := lv_sub hl [0, 1, 2, 3, 4] rfl
  have hl : lv_has ls 5 [(4, .int (nI 0)), (3, .int (nI (cN 0 (fun a => lvB sa tk a && (decide (fr a = x) && decide (tt a = y)))))), (0, .ref (a 0)), (1, .int x), (2, .int y)] := by
    rw [← show (0 : Int32) = nI (cN 0 (fun a => lvB sa tk a && (decide (fr a = x) && decide (tt a = y)))) from by first | rfl | simp [cN]]
    exact hl
  have hP : va_P D vwCl (List.flatten [wA cI cZ a c fr tt sa tk]) _ := hP
  have hD : va_D A (List.flatten [wA cI cZ a c fr tt sa tk]) := hD
  exact loop_5 (c + 1) 0 (by omega) (by omega) _ _ hP hD hS _ hl

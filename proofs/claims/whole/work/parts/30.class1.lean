set_option maxHeartbeats 8000000 in
set_option maxRecDepth 100000 in
theorem k0_renumber (l : Launch) (D : va_G) (cI cZ cL : ClassId) (a : Nat → Nat) (c : Nat) (fr : Nat → Int32) (tt : Nat → Int32) (sa : Nat → Int32) (tk : Nat → Int32) (t1 : Nat) (tr : Nat → Int32) (hc : c ≤ 160) : McV l D (tY cI cZ cL) yX0_renumber wsX0_renumber 1 24 [.ref (a 0), .ref t1] ([wA cI cZ a c fr tt sa tk, wT cI t1 160 tr]) (fun (_ : Unit) => True) (fun (_ : Unit) => [wA cI cZ a (cN c (nlB sa)) (pkG (nlB sa) fr fr c) (pkG (nlB sa) tt tt c) (pkG (nlB sa) sa sa c) (pkG (nlB sa) (fun _ => 0) tk c), wT cI t1 160 (pfx (trV (nlB sa)) tr c)]) := by
  refine q_ofW (Qc := fun A => (va_Qv (fun (_ : Unit) => True) (fun u t => mAt D (tY cI cZ cL) A ((fun (_ : Unit) => [wA cI cZ a (cN c (nlB sa)) (pkG (nlB sa) fr fr c) (pkG (nlB sa) tt tt c) (pkG (nlB sa) sa sa c) (pkG (nlB sa) (fun _ => 0) tk c), wT cI t1 160 (pfx (trV (nlB sa)) tr c)]) u) t) A)) (cc := cX0_renumber) (maxL := 5) (ret := none) (by decide) rfl (Nat.le_of_ble_eq_true rfl) ?_
  intro pz ez sz mz bz tz cz hx hb hml hr hlocks hts hown hK hP A hD hA ls hl
  have hS : va_S A sz.heap sz.heap [] := va_S.rf
  have hl : lv_has ls 5 [(0, .ref (a 0)), (1, .ref t1)] := hl
  refine lv_aload_n hx hb dX0_renumber_0 rfl (lv_at hl 0 rfl) ?_
  refine q_get (D := D) (ci := 0) (v := .int (nI c)) (C := RX0) (T := TX0) (N := 5) hx hb hts (by decide +kernel) hown hK hP 0 0 rfl rfl rfl 4 (by decide) (hts (.fieldLink RX0 25 "OffsetRows$ArcList" "count" "I") (by decide +kernel)) (fun _ h9 => h9) rfl dX0_renumber_1 ?_
  refine lv_istore_n (lv' := [(2, .int (nI c)), (0, .ref (a 0)), (1, .ref t1)]) hx hb dX0_renumber_4 rfl hl (by decide) rfl (fun ls hl => ?_)
  refine lv_aload_n hx hb dX0_renumber_5 rfl (lv_at hl 1 rfl) ?_
  refine lv_iconst (v := (0 : Int32)) hx hb dX0_renumber_6 (by decide) ?_
  refine q_put (D := D) (ci := 0) (v := .int (nI 0)) (ty := .int) (C := RX0) (T := TX0) (N := 5) hx hb hts (by decide +kernel) tyX0 tyX0_ok nmX0 hown hK hP hD hS 0 0 rfl rfl rfl 4 (by decide) (hts (.fieldLink RX0 25 "OffsetRows$ArcList" "count" "I") (by decide +kernel)) (fun _ h9 => h9) rfl (by decide +kernel) rfl rfl (Nat.le_of_ble_eq_true rfl) dX0_renumber_7 (wA_s_c (g9 := 0)) (Fs' := [wA cI cZ a 0 fr tt sa tk, wT cI t1 160 tr]) rfl (fun H locs hP hD hS => ?_)
  refine lv_iconst (v := (0 : Int32)) hx hb dX0_renumber_10 (by decide) ?_
  refine lv_istore_n (lv' := [(3, .int (0 : Int32)), (2, .int (nI c)), (0, .ref (a 0)), (1, .ref t1)]) hx hb dX0_renumber_11 rfl hl (by decide) rfl (fun ls hl => ?_)
  have loop_12 : ∀ (k_12 i : Nat), i ≤ c → c < i + k_12 → ∀ (H : Heap) (locs : List Loc), va_P D vwCl (List.flatten [wA cI cZ a (cN i (nlB sa)) (pkG (nlB sa) fr fr i) (pkG (nlB sa) tt tt i) (pkG (nlB sa) sa sa i) (pkG (nlB sa) (fun _ => 0) tk i), wT cI t1 160 (pfx (trV (nlB sa)) tr i)]) H → va_D A (List.flatten [wA cI cZ a (cN i (nlB sa)) (pkG (nlB sa) fr fr i) (pkG (nlB sa) tt tt i) (pkG (nlB sa) sa sa i) (pkG (nlB sa) (fun _ => 0) tk i), wT cI t1 160 (pfx (trV (nlB sa)) tr i)]) → va_S A sz.heap H locs → ∀ (ls : Array Slot), lv_has ls 5 [(3, .int (nI i)), (2, .int (nI c)), (0, .ref (a 0)), (1, .ref t1)] → W pz l ez (rM 1 24) sz mz [.ref (a 0), .ref t1].toArray bz tz cz H locs 0 0 (MQ bz (va_Qv (fun (_ : Unit) => True) (fun u t => mAt D (tY cI cZ cL) A ((fun (_ : Unit) => [wA cI cZ a (cN c (nlB sa)) (pkG (nlB sa) fr fr c) (pkG (nlB sa) tt tt c) (pkG (nlB sa) sa sa c) (pkG (nlB sa) (fun _ => 0) tk c), wT cI t1 160 (pfx (trV (nlB sa)) tr c)]) u) t) A) [.ref (a 0), .ref t1].toArray sz 0 0 A) (F0 mz 12 ls [])  := by
    intro k_12
    induction k_12 with
    | zero => intro i hi_12 hk_12; exact absurd hk_12 (by omega)
    | succ k_12 ih_12 =>
      intro i hi_12 hk_12 H locs hP hD hS ls hl
      refine lv_iload_n hx hb dX0_renumber_12 rfl (lv_at hl 0 rfl) ?_
      refine lv_iload_n hx hb dX0_renumber_13 rfl (lv_at hl 1 rfl) ?_
      refine lv_icmp_ge (tgt := 74) hx hb dX0_renumber_14 (by decide) (fun c_14 => ?_) (fun c_14 => ?_)
      ·
        have n_14 : c ≤ i := (nI_leI (a := c) (b := i) (by omega) (by omega)).mp c_14
        exact q_vret (()) hx hb hr hlocks hK hP hD hS (trivial) (by rw [show i = c by omega]) dX0_renumber_74
      ·
        have n_14 : ¬ c ≤ i := fun h9 => c_14 ((nI_leI (a := c) (b := i) (by omega) (by omega)).mpr h9)
        have hcn := cN_le i (nlB sa)
        refine lv_aload_n hx hb dX0_renumber_17 rfl (lv_at hl 2 rfl) ?_
        refine q_get (D := D) (ci := 0) (v := .ref (a 3)) (C := RX0) (T := TX0) (N := 5) hx hb hts (by decide +kernel) hown hK hP 0 0 rfl rfl rfl 2 (by decide) (hts (.fieldLink RX0 18 "OffsetRows$ArcList" "state" "[I") (by decide +kernel)) (fun _ h9 => h9) rfl dX0_renumber_18 ?_
        refine lv_iload_n hx hb dX0_renumber_21 rfl (lv_at hl 0 rfl) ?_
        refine q_iald hx hb hK hP 0 3 0 rfl (f := pkG (nlB sa) sa sa i) rfl rfl (k := i) (nI_clamp (n := i) (by omega)) (vp_in_nI (show i < 160 from by omega) (by omega)) dX0_renumber_22 ?_
        refine q_top (z := sa i) (pkG_ge (Nat.le_refl i)) ?_
        refine lv_iconst (v := (2 : Int32)) hx hb dX0_renumber_23 (by decide) ?_
        refine lv_icmp_eq (tgt := 31) hx hb dX0_renumber_24 (by decide) (fun c_24 => ?_) (fun c_24 => ?_)
        ·
          refine lv_iconst (v := (0 : Int32)) hx hb dX0_renumber_31 (by decide) ?_
          refine lv_istore (lv' := [(4, .int (0 : Int32)), (3, .int (nI i)), (2, .int (nI c)), (0, .ref (a 0)), (1, .ref t1)]) hx hb dX0_renumber_32 hl (by decide) rfl (fun ls hl => ?_)
          refine lv_aload_n hx hb dX0_renumber_34 rfl (lv_at hl 4 rfl) ?_
          refine lv_iload_n hx hb dX0_renumber_35 rfl (lv_at hl 1 rfl) ?_
          refine lv_iload hx hb dX0_renumber_36 (lv_at hl 0 rfl) ?_
          refine lv_if_eq (tgt := 66) hx hb dX0_renumber_38 (by decide) (fun c_38 => ?_) (fun c_38 => ?_)
          ·
            refine lv_iconst (v := (-1)) hx hb dX0_renumber_66 (by decide) ?_
            refine q_iast hx hb hK hP hD hS 1 0 0 rfl (f := pfx (trV (nlB sa)) tr i) rfl rfl (k := i) (nI_clamp (n := i) (by omega)) (vp_in_nI (show i < 160 from by omega) (by omega)) dX0_renumber_67 wT_s_tr (Fs' := [wA cI cZ a (cN i (nlB sa)) (pkG (nlB sa) fr fr i) (pkG (nlB sa) tt tt i) (pkG (nlB sa) sa sa i) (pkG (nlB sa) (fun _ => 0) tk i), wT cI t1 160 (upd (pfx (trV (nlB sa)) tr i) i (-1 : Int32))]) rfl (fun H locs hP hD hS => ?_)
            have hP : va_P D vwCl (List.flatten [wA cI cZ a (cN i (nlB sa)) (pkG (nlB sa) fr fr i) (pkG (nlB sa) tt tt i) (pkG (nlB sa) sa sa i) (pkG (nlB sa) (fun _ => 0) tk i), wT cI t1 160 (pfx (trV (nlB sa)) tr (i + 1))]) _ := wCast hP (by rw [show upd (pfx (trV (nlB sa)) tr i) i (-1 : Int32) = pfx (trV (nlB sa)) tr (i + 1) from pfx_w (by simp [trV, nlB, c_14, n_14, c_24, c_38])])
            have hD : va_D A (List.flatten [wA cI cZ a (cN i (nlB sa)) (pkG (nlB sa) fr fr i) (pkG (nlB sa) tt tt i) (pkG (nlB sa) sa sa i) (pkG (nlB sa) (fun _ => 0) tk i), wT cI t1 160 (pfx (trV (nlB sa)) tr (i + 1))]) := dCast hD (by rw [show upd (pfx (trV (nlB sa)) tr i) i (-1 : Int32) = pfx (trV (nlB sa)) tr (i + 1) from pfx_w (by simp [trV, nlB, c_14, n_14, c_24, c_38])])
            refine lv_iinc (v := nI (i + 1)) (lv' := [(3, .int (nI (i + 1))), (4, .int (0 : Int32)), (2, .int (nI c)), (0, .ref (a 0)), (1, .ref t1)]) hx hb dX0_renumber_68 hl (k := 1) rfl (nI_add i 1) (by decide) rfl (fun ls hl => ?_)
            refine lv_goto (tgt := 12) hx hb dX0_renumber_71 (by decide) ?_
            have hl : lv_has ls 5 [(3, .int (nI (i + 1))), (2, .int (nI c)), (0, .ref (a 0)), (1, .ref t1)] := lv_sub hl [0, 2, 3, 4] rfl
            have hq0 : cN i (nlB sa) = cN (i + 1) (nlB sa) := cN_n (by simp [nlB, c_14, n_14, c_24, c_38])
            have hq1 : pkG (nlB sa) fr fr i = pkG (nlB sa) fr fr (i + 1) := pkG_n (by simp [nlB, c_14, n_14, c_24, c_38])
            have hq2 : pkG (nlB sa) tt tt i = pkG (nlB sa) tt tt (i + 1) := pkG_n (by simp [nlB, c_14, n_14, c_24, c_38])
            have hq3 : pkG (nlB sa) sa sa i = pkG (nlB sa) sa sa (i + 1) := pkG_n (by simp [nlB, c_14, n_14, c_24, c_38])
            have hq4 : pkG (nlB sa) (fun _ => 0) tk i = pkG (nlB sa) (fun _ => 0) tk (i + 1) := pkG_n (by simp [nlB, c_14, n_14, c_24, c_38])
            have hP : va_P D vwCl (List.flatten [wA cI cZ a (cN (i + 1) (nlB sa)) (pkG (nlB sa) fr fr (i + 1)) (pkG (nlB sa) tt tt (i + 1)) (pkG (nlB sa) sa sa (i + 1)) (pkG (nlB sa) (fun _ => 0) tk (i + 1)), wT cI t1 160 (pfx (trV (nlB sa)) tr (i + 1))]) _ := wCast hP (by rw [← hq4, ← hq1, ← hq2, ← hq3, ← hq0])
            have hD : va_D A (List.flatten [wA cI cZ a (cN (i + 1) (nlB sa)) (pkG (nlB sa) fr fr (i + 1)) (pkG (nlB sa) tt tt (i + 1)) (pkG (nlB sa) sa sa (i + 1)) (pkG (nlB sa) (fun _ => 0) tk (i + 1)), wT cI t1 160 (pfx (trV (nlB sa)) tr (i + 1))]) := dCast hD (by rw [← hq4, ← hq1, ← hq2, ← hq3, ← hq0])
            exact ih_12 (i + 1) (by omega) (by omega) _ _ hP hD hS _ hl
          ·
            exact absurd (by decide) c_38
        ·
          have hPi : nlB sa i = true := by simp [nlB, c_24]
          refine lv_iconst (v := (1 : Int32)) hx hb dX0_renumber_27 (by decide) ?_
          refine lv_goto (tgt := 32) hx hb dX0_renumber_28 (by decide) ?_
          refine lv_istore (lv' := [(4, .int (1 : Int32)), (3, .int (nI i)), (2, .int (nI c)), (0, .ref (a 0)), (1, .ref t1)]) hx hb dX0_renumber_32 hl (by decide) rfl (fun ls hl => ?_)
          refine lv_aload_n hx hb dX0_renumber_34 rfl (lv_at hl 4 rfl) ?_
          refine lv_iload_n hx hb dX0_renumber_35 rfl (lv_at hl 1 rfl) ?_
          refine lv_iload hx hb dX0_renumber_36 (lv_at hl 0 rfl) ?_
          refine lv_if_eq (tgt := 66) hx hb dX0_renumber_38 (by decide) (fun c_38 => ?_) (fun c_38 => ?_)
          ·
            exact absurd c_38 (by decide)
          ·
            refine lv_aload_n hx hb dX0_renumber_41 rfl (lv_at hl 3 rfl) ?_
            refine lv_aload_n hx hb dX0_renumber_42 rfl (lv_at hl 3 rfl) ?_
            refine q_get (D := D) (ci := 0) (v := .ref (a 1)) (C := RX0) (T := TX0) (N := 5) hx hb hts (by decide +kernel) hown hK hP 0 0 rfl rfl rfl 0 (by decide) (hts (.fieldLink RX0 9 "OffsetRows$ArcList" "from" "[I") (by decide +kernel)) (fun _ h9 => h9) rfl dX0_renumber_43 ?_
            refine lv_iload_n hx hb dX0_renumber_46 rfl (lv_at hl 1 rfl) ?_
            refine q_iald hx hb hK hP 0 1 0 rfl (f := pkG (nlB sa) fr fr i) rfl rfl (k := i) (nI_clamp (n := i) (by omega)) (vp_in_nI (show i < 160 from by omega) (by omega)) dX0_renumber_47 ?_
            refine q_top (z := fr i) (pkG_ge (Nat.le_refl i)) ?_
            refine lv_aload_n hx hb dX0_renumber_48 rfl (lv_at hl 3 rfl) ?_
            refine q_get (D := D) (ci := 0) (v := .ref (a 2)) (C := RX0) (T := TX0) (N := 5) hx hb hts (by decide +kernel) hown hK hP 0 0 rfl rfl rfl 1 (by decide) (hts (.fieldLink RX0 15 "OffsetRows$ArcList" "to" "[I") (by decide +kernel)) (fun _ h9 => h9) rfl dX0_renumber_49 ?_
            refine lv_iload_n hx hb dX0_renumber_52 rfl (lv_at hl 1 rfl) ?_
            refine q_iald hx hb hK hP 0 2 0 rfl (f := pkG (nlB sa) tt tt i) rfl rfl (k := i) (nI_clamp (n := i) (by omega)) (vp_in_nI (show i < 160 from by omega) (by omega)) dX0_renumber_53 ?_
            refine q_top (z := tt i) (pkG_ge (Nat.le_refl i)) ?_
            refine lv_aload_n hx hb dX0_renumber_54 rfl (lv_at hl 3 rfl) ?_
            refine q_get (D := D) (ci := 0) (v := .ref (a 3)) (C := RX0) (T := TX0) (N := 5) hx hb hts (by decide +kernel) hown hK hP 0 0 rfl rfl rfl 2 (by decide) (hts (.fieldLink RX0 18 "OffsetRows$ArcList" "state" "[I") (by decide +kernel)) (fun _ h9 => h9) rfl dX0_renumber_55 ?_
            refine lv_iload_n hx hb dX0_renumber_58 rfl (lv_at hl 1 rfl) ?_
            refine q_iald hx hb hK hP 0 3 0 rfl (f := pkG (nlB sa) sa sa i) rfl rfl (k := i) (nI_clamp (n := i) (by omega)) (vp_in_nI (show i < 160 from by omega) (by omega)) dX0_renumber_59 ?_
            refine q_top (z := sa i) (pkG_ge (Nat.le_refl i)) ?_
            refine q_callVi (index := 33) (n := 3) (As := [.int (fr i), .int (tt i), .int (sa i)]) (rest := [.int (nI i), .ref t1]) (js := [0]) (ci := 0) ⟨hx, hb, hml, hown, hts⟩ hK hP hD hS hA (k0_append l D cI cZ cL a (cN i (nlB sa)) (pkG (nlB sa) fr fr i) (pkG (nlB sa) tt tt i) (pkG (nlB sa) sa sa i) (pkG (nlB sa) (fun _ => 0) tk i) (fr i) (tt i) (sa i) (by omega)) rfl (by decide) (fun _ => by simp only [List.map_cons, List.map_nil, wA_fst]) (fun (_ : Unit) => [wA cI cZ a (apC (cN i (nlB sa))) (apF (cN i (nlB sa)) (pkG (nlB sa) fr fr i) (fr i)) (apF (cN i (nlB sa)) (pkG (nlB sa) tt tt i) (tt i)) (apF (cN i (nlB sa)) (pkG (nlB sa) sa sa i) (sa i)) (apF (cN i (nlB sa)) (pkG (nlB sa) (fun _ => 0) tk i) 0), wT cI t1 160 (pfx (trV (nlB sa)) tr i)]) (fun _ => rfl) gX0_renumber_X0_append rfl (by decide +kernel) rfl ⟨by decide, by decide⟩ rfl rfl rfl rfl hl.1 (Nat.le_of_ble_eq_true rfl) ⟨(Nat.zero_le _), (Nat.zero_le _)⟩ dX0_renumber_60 rfl (fun r _ H locs hw hP hD hS => ?_)
            have hw : r = apR (cN i (nlB sa)) := hw
            subst hw
            refine q_top (z := nI (cN i (nlB sa))) (by simp [apR, show cN i (nlB sa) < 160 by omega]) ?_
            have hP : va_P D vwCl (List.flatten [wA cI cZ a (cN (i + 1) (nlB sa)) (pkG (nlB sa) fr fr (i + 1)) (pkG (nlB sa) tt tt (i + 1)) (pkG (nlB sa) sa sa (i + 1)) (pkG (nlB sa) (fun _ => 0) tk (i + 1)), wT cI t1 160 (pfx (trV (nlB sa)) tr i)]) _ := wCast hP (by rw [apC_y hPi (by omega), apF_y (v := fr) hPi (by omega) rfl, apF_y (v := tt) hPi (by omega) rfl, apF_y (v := sa) hPi (by omega) rfl, apF_y (v := fun _ => 0) hPi (by omega) rfl])
            have hD : va_D A (List.flatten [wA cI cZ a (cN (i + 1) (nlB sa)) (pkG (nlB sa) fr fr (i + 1)) (pkG (nlB sa) tt tt (i + 1)) (pkG (nlB sa) sa sa (i + 1)) (pkG (nlB sa) (fun _ => 0) tk (i + 1)), wT cI t1 160 (pfx (trV (nlB sa)) tr i)]) := dCast hD (by rw [apC_y hPi (by omega), apF_y (v := fr) hPi (by omega) rfl, apF_y (v := tt) hPi (by omega) rfl, apF_y (v := sa) hPi (by omega) rfl, apF_y (v := fun _ => 0) hPi (by omega) rfl])
            refine lv_goto (tgt := 67) hx hb dX0_renumber_63 (by decide) ?_
            refine q_iast hx hb hK hP hD hS 1 0 0 rfl (f := pfx (trV (nlB sa)) tr i) rfl rfl (k := i) (nI_clamp (n := i) (by omega)) (vp_in_nI (show i < 160 from by omega) (by omega)) dX0_renumber_67 wT_s_tr (Fs' := [wA cI cZ a (cN (i + 1) (nlB sa)) (pkG (nlB sa) fr fr (i + 1)) (pkG (nlB sa) tt tt (i + 1)) (pkG (nlB sa) sa sa (i + 1)) (pkG (nlB sa) (fun _ => 0) tk (i + 1)), wT cI t1 160 (upd (pfx (trV (nlB sa)) tr i) i (nI (cN i (nlB sa))))]) rfl (fun H locs hP hD hS => ?_)
            have hP : va_P D vwCl (List.flatten [wA cI cZ a (cN (i + 1) (nlB sa)) (pkG (nlB sa) fr fr (i + 1)) (pkG (nlB sa) tt tt (i + 1)) (pkG (nlB sa) sa sa (i + 1)) (pkG (nlB sa) (fun _ => 0) tk (i + 1)), wT cI t1 160 (pfx (trV (nlB sa)) tr (i + 1))]) _ := wCast hP (by rw [show upd (pfx (trV (nlB sa)) tr i) i (nI (cN i (nlB sa))) = pfx (trV (nlB sa)) tr (i + 1) from pfx_w (by simp [trV, nlB, c_14, n_14, c_24, hPi, c_38])])
            have hD : va_D A (List.flatten [wA cI cZ a (cN (i + 1) (nlB sa)) (pkG (nlB sa) fr fr (i + 1)) (pkG (nlB sa) tt tt (i + 1)) (pkG (nlB sa) sa sa (i + 1)) (pkG (nlB sa) (fun _ => 0) tk (i + 1)), wT cI t1 160 (pfx (trV (nlB sa)) tr (i + 1))]) := dCast hD (by rw [show upd (pfx (trV (nlB sa)) tr i) i (nI (cN i (nlB sa))) = pfx (trV (nlB sa)) tr (i + 1) from pfx_w (by simp [trV, nlB, c_14, n_14, c_24, hPi, c_38])])
            refine lv_iinc (v := nI (i + 1)) (lv' := [(3, .int (nI (i + 1))), (4, .int (1 : Int32)), (2, .int (nI c)), (0, .ref (a 0)), (1, .ref t1)]) hx hb dX0_renumber_68 hl (k := 1) rfl (nI_add i 1) (by decide) rfl (fun ls hl => ?_)
            refine lv_goto (tgt := 12) hx hb dX0_renumber_71 (by decide) ?_
            have hl : lv_has ls 5 [(3, .int (nI (i + 1))), (2, .int (nI c)), (0, .ref (a 0)), (1, .ref t1)] := lv_sub hl [0, 2, 3, 4] rfl
            have hP : va_P D vwCl (List.flatten [wA cI cZ a (cN (i + 1) (nlB sa)) (pkG (nlB sa) fr fr (i + 1)) (pkG (nlB sa) tt tt (i + 1)) (pkG (nlB sa) sa sa (i + 1)) (pkG (nlB sa) (fun _ => 0) tk (i + 1)), wT cI t1 160 (pfx (trV (nlB sa)) tr (i + 1))]) _ := hP
            have hD : va_D A (List.flatten [wA cI cZ a (cN (i + 1) (nlB sa)) (pkG (nlB sa) fr fr (i + 1)) (pkG (nlB sa) tt tt (i + 1)) (pkG (nlB sa) sa sa (i + 1)) (pkG (nlB sa) (fun _ => 0) tk (i + 1)), wT cI t1 160 (pfx (trV (nlB sa)) tr (i + 1))]) := hD
            exact ih_12 (i + 1) (by omega) (by omega) _ _ hP hD hS _ hl
  have hl : lv_has ls 5 [(3, .int (nI 0)), (2, .int (nI c)), (0, .ref (a 0)), (1, .ref t1)] := lv_sub hl [0, 1, 2, 3] rfl
  have hq0 : 0 = cN 0 (nlB sa) := rfl
  have hq1 : fr = pkG (nlB sa) fr fr 0 := rfl
  have hq2 : tt = pkG (nlB sa) tt tt 0 := rfl
  have hq3 : sa = pkG (nlB sa) sa sa 0 := rfl
  have hq4 : tk = pkG (nlB sa) (fun _ => 0) tk 0 := rfl
  have hq5 : tr = pfx (trV (nlB sa)) tr 0 := pfx_0.symm
  have hP : va_P D vwCl (List.flatten [wA cI cZ a (cN 0 (nlB sa)) (pkG (nlB sa) fr fr 0) (pkG (nlB sa) tt tt 0) (pkG (nlB sa) sa sa 0) (pkG (nlB sa) (fun _ => 0) tk 0), wT cI t1 160 (pfx (trV (nlB sa)) tr 0)]) _ := wCast hP (by rw [← hq4, ← hq5, ← hq1, ← hq2, ← hq3, ← hq0])
  have hD : va_D A (List.flatten [wA cI cZ a (cN 0 (nlB sa)) (pkG (nlB sa) fr fr 0) (pkG (nlB sa) tt tt 0) (pkG (nlB sa) sa sa 0) (pkG (nlB sa) (fun _ => 0) tk 0), wT cI t1 160 (pfx (trV (nlB sa)) tr 0)]) := dCast hD (by rw [← hq4, ← hq5, ← hq1, ← hq2, ← hq3, ← hq0])
  exact loop_12 (c + 1) 0 (by omega) (by omega) _ _ hP hD hS _ hl

set_option maxHeartbeats 8000000 in
set_option maxRecDepth 100000 in
theorem k2_has (l : Launch) (D : va_G) (cI cZ cL : ClassId) (i : Nat → Nat) (op : Nat → Int32) (sl : Nat → Int32) (oi : Nat → Int32) (nd : Nat → Int32) (lp : Nat → Int32) (tl : Nat → Int32) (x : Int32) : McI l D (tY cI cZ cL) yX2_has wsX2_has 0 0 [.ref (i 0), .int x] ([wI cI cZ i op sl oi nd lp tl]) (fun r (_ : Unit) => r = bI (itB op x)) (fun (_ : Unit) => [wI cI cZ i op sl oi nd lp tl]) := by
  refine q_ofW (Qc := fun A => (va_Qi (fun r (_ : Unit) => r = bI (itB op x)) (fun u t => mAt D (tY cI cZ cL) A ((fun (_ : Unit) => [wI cI cZ i op sl oi nd lp tl]) u) t) A)) (cc := cX2_has) (maxL := 2) (ret := (some .boolean)) (by decide) rfl (Nat.le_of_ble_eq_true rfl) ?_
  intro pz ez sz mz bz tz cz hx hb hml hr hlocks hts hown hK hP A hD hA ls hl
  have hS : va_S A sz.heap sz.heap [] := va_S.rf
  have hl : lv_has ls 2 [(0, .ref (i 0)), (1, .int x)] := hl
  refine lv_iload_n hx hb dX2_has_0 rfl (lv_at hl 1 rfl) ?_
  refine lv_if_lt (tgt := 23) hx hb dX2_has_1 (by decide) (fun c_1 => ?_) (fun c_1 => ?_)
  ·
    refine lv_iconst (v := (0 : Int32)) hx hb dX2_has_23 (by decide) ?_
    exact q_zret (()) hx hb hr rfl hlocks hK hP hD hS (by simp [itB, hasB, bI, nI_8, c_1]) (rfl) dX2_has_24
  ·
    refine lv_iload_n hx hb dX2_has_4 rfl (lv_at hl 1 rfl) ?_
    refine lv_bipush (v := (8 : Int32)) hx hb dX2_has_5 (by decide) ?_
    refine lv_icmp_ge (tgt := 23) hx hb dX2_has_7 (by decide) (fun c_7 => ?_) (fun c_7 => ?_)
    ·
      refine lv_iconst (v := (0 : Int32)) hx hb dX2_has_23 (by decide) ?_
      exact q_zret (()) hx hb hr rfl hlocks hK hP hD hS (by simp [itB, hasB, bI, nI_8, c_1, c_7]) (rfl) dX2_has_24
    ·
      refine lv_aload_n hx hb dX2_has_10 rfl (lv_at hl 0 rfl) ?_
      refine q_get (D := D) (ci := 2) (v := .ref (i 1)) (C := RX2) (T := TX2) (N := 6) hx hb hts (by decide +kernel) hown hK hP 0 0 rfl rfl rfl 0 (by decide) (hts (.fieldLink RX2 9 "OffsetRows$Iterators" "isOpen" "[Z") (by decide +kernel)) (fun _ h9 => h9) rfl dX2_has_11 ?_
      refine lv_iload_n hx hb dX2_has_14 rfl (lv_at hl 1 rfl) ?_
      refine q_zald hx hb hK hP 0 1 1 rfl (f := op) rfl rfl (k := x.toNatClampNeg) rfl (hasB_in (c := 8) (by simp [hasB, nI_8, c_1, c_7]) (Nat.le_refl 8) (by decide)) dX2_has_15 ?_
      refine lv_if_eq (tgt := 23) hx hb dX2_has_16 (by decide) (fun c_16 => ?_) (fun c_16 => ?_)
      ·
        refine lv_iconst (v := (0 : Int32)) hx hb dX2_has_23 (by decide) ?_
        exact q_zret (()) hx hb hr rfl hlocks hK hP hD hS (by simp [itB, hasB, bI, nI_8, c_1, c_7, c_16]) (rfl) dX2_has_24
      ·
        refine lv_iconst (v := (1 : Int32)) hx hb dX2_has_19 (by decide) ?_
        refine lv_goto (tgt := 24) hx hb dX2_has_20 (by decide) ?_
        exact q_zret (()) hx hb hr rfl hlocks hK hP hD hS (by simp [itB, hasB, bI, nI_8, c_1, c_7, c_16]) (rfl) dX2_has_24

set_option maxHeartbeats 8000000 in
set_option maxRecDepth 100000 in
theorem k2_leastFree (l : Launch) (D : va_G) (cI cZ cL : ClassId) (i : Nat → Nat) (op : Nat → Int32) (sl : Nat → Int32) (oi : Nat → Int32) (nd : Nat → Int32) (lp : Nat → Int32) (tl : Nat → Int32) : McI l D (tY cI cZ cL) yX2_leastFree wsX2_leastFree 0 0 [.ref (i 0)] ([wI cI cZ i op sl oi nd lp tl]) (fun r (_ : Unit) => r = opA op) (fun (_ : Unit) => [wI cI cZ i op sl oi nd lp tl]) := by
  refine q_ofW (Qc := fun A => (va_Qi (fun r (_ : Unit) => r = opA op) (fun u t => mAt D (tY cI cZ cL) A ((fun (_ : Unit) => [wI cI cZ i op sl oi nd lp tl]) u) t) A)) (cc := cX2_leastFree) (maxL := 2) (ret := (some .int)) (by decide) rfl (Nat.le_of_ble_eq_true rfl) ?_
  intro pz ez sz mz bz tz cz hx hb hml hr hlocks hts hown hK hP A hD hA ls hl
  have hS : va_S A sz.heap sz.heap [] := va_S.rf
  have hl : lv_has ls 2 [(0, .ref (i 0))] := hl
  refine lv_iconst (v := (0 : Int32)) hx hb dX2_leastFree_0 (by decide) ?_
  refine lv_istore_n (lv' := [(1, .int (0 : Int32)), (0, .ref (i 0))]) hx hb dX2_leastFree_1 rfl hl (by decide) rfl (fun ls hl => ?_)
  have loop_2 : ∀ (k_2 j : Nat), j ≤ 8 → 8 < j + k_2 → (opA op = fsv (opB op) nI (8 - j) j) → ∀ (H : Heap) (locs : List Loc), va_P D vwCl (List.flatten [wI cI cZ i op sl oi nd lp tl]) H → va_D A (List.flatten [wI cI cZ i op sl oi nd lp tl]) → va_S A sz.heap H locs → ∀ (ls : Array Slot), lv_has ls 2 [(1, .int (nI j)), (0, .ref (i 0))] → W pz l ez (rM 0 0) sz mz [.ref (i 0)].toArray bz tz cz H locs 0 0 (MQ bz (va_Qi (fun r (_ : Unit) => r = opA op) (fun u t => mAt D (tY cI cZ cL) A ((fun (_ : Unit) => [wI cI cZ i op sl oi nd lp tl]) u) t) A) [.ref (i 0)].toArray sz 0 0 A) (F0 mz 2 ls [])  := by
    intro k_2
    induction k_2 with
    | zero => intro j hi_2 hk_2; exact absurd hk_2 (by omega)
    | succ k_2 ih_2 =>
      intro j hi_2 hk_2 hinv H locs hP hD hS ls hl
      refine lv_iload_n hx hb dX2_leastFree_2 rfl (lv_at hl 0 rfl) ?_
      refine lv_bipush (v := (8 : Int32)) hx hb dX2_leastFree_3 (by decide) ?_
      refine lv_icmp_ge (tgt := 25) hx hb dX2_leastFree_5 (by decide) (fun c_5 => ?_) (fun c_5 => ?_)
      ·
        have n_5 : 8 ≤ j := (nI_leI (a := 8) (b := j) (by omega) (by omega)).mp c_5
        refine lv_iconst (v := (-1)) hx hb dX2_leastFree_25 (by decide) ?_
        exact q_iret (()) hx hb hr hlocks hK hP hD hS (by rw [hinv, fsv_end (by omega)]) (rfl) dX2_leastFree_26
      ·
        have n_5 : ¬ 8 ≤ j := fun h9 => c_5 ((nI_leI (a := 8) (b := j) (by omega) (by omega)).mpr h9)
        refine lv_aload_n hx hb dX2_leastFree_8 rfl (lv_at hl 1 rfl) ?_
        refine q_get (D := D) (ci := 2) (v := .ref (i 1)) (C := RX2) (T := TX2) (N := 6) hx hb hts (by decide +kernel) hown hK hP 0 0 rfl rfl rfl 0 (by decide) (hts (.fieldLink RX2 9 "OffsetRows$Iterators" "isOpen" "[Z") (by decide +kernel)) (fun _ h9 => h9) rfl dX2_leastFree_9 ?_
        refine lv_iload_n hx hb dX2_leastFree_12 rfl (lv_at hl 0 rfl) ?_
        refine q_zald hx hb hK hP 0 1 1 rfl (f := op) rfl rfl (k := j) (nI_clamp (n := j) (by omega)) (vp_in_nI (show j < 8 from by omega) (by omega)) dX2_leastFree_13 ?_
        refine lv_if_ne (tgt := 19) hx hb dX2_leastFree_14 (by decide) (fun c_14 => ?_) (fun c_14 => ?_)
        ·
          refine lv_iinc (v := nI (j + 1)) (lv' := [(1, .int (nI (j + 1))), (0, .ref (i 0))]) hx hb dX2_leastFree_19 hl (k := 0) rfl (nI_add j 1) (by decide) rfl (fun ls hl => ?_)
          refine lv_goto (tgt := 2) hx hb dX2_leastFree_22 (by decide) ?_
          have hl : lv_has ls 2 [(1, .int (nI (j + 1))), (0, .ref (i 0))] := lv_sub hl [0, 1] rfl
          have hP : va_P D vwCl (List.flatten [wI cI cZ i op sl oi nd lp tl]) _ := hP
          have hD : va_D A (List.flatten [wI cI cZ i op sl oi nd lp tl]) := hD
          exact ih_2 (j + 1) (by omega) (by omega) (hinv.trans (fsv_no (by omega) (by simp [opB, c_14]))) _ _ hP hD hS _ hl
        ·
          refine lv_iload_n hx hb dX2_leastFree_17 rfl (lv_at hl 0 rfl) ?_
          exact q_iret (()) hx hb hr hlocks hK hP hD hS (by rw [hinv, fsv_yes (by omega) (by simp [opB, c_14])]) (rfl) dX2_leastFree_18
  have hl : lv_has ls 2 [(1, .int (nI 0)), (0, .ref (i 0))] := lv_sub hl [0, 1] rfl
  have hP : va_P D vwCl (List.flatten [wI cI cZ i op sl oi nd lp tl]) _ := hP
  have hD : va_D A (List.flatten [wI cI cZ i op sl oi nd lp tl]) := hD
  exact loop_2 (8 + 1) 0 (by omega) (by omega) rfl _ _ hP hD hS _ hl

set_option maxHeartbeats 8000000 in
set_option maxRecDepth 100000 in
theorem k2_start (l : Launch) (D : va_G) (cI cZ cL : ClassId) (i : Nat → Nat) (op : Nat → Int32) (sl : Nat → Int32) (oi : Nat → Int32) (nd : Nat → Int32) (lp : Nat → Int32) (tl : Nat → Int32) (x : Int32) (y : Int32) (z : Int32) (h8 : vp_in x 8) (hz : vp_nar .boolean z = z) : McV l D (tY cI cZ cL) yX2_start wsX2_start 0 0 [.ref (i 0), .int x, .int y, .int z] ([wI cI cZ i op sl oi nd lp tl]) (fun (_ : Unit) => True) (fun (_ : Unit) => [wI cI cZ i (upd op x.toNatClampNeg 1) (upd sl x.toNatClampNeg 0) (upd oi x.toNatClampNeg z) (upd nd x.toNatClampNeg y) (upd lp x.toNatClampNeg (-1)) (upd tl x.toNatClampNeg 0)]) := by
  refine q_ofW (Qc := fun A => (va_Qv (fun (_ : Unit) => True) (fun u t => mAt D (tY cI cZ cL) A ((fun (_ : Unit) => [wI cI cZ i (upd op x.toNatClampNeg 1) (upd sl x.toNatClampNeg 0) (upd oi x.toNatClampNeg z) (upd nd x.toNatClampNeg y) (upd lp x.toNatClampNeg (-1)) (upd tl x.toNatClampNeg 0)]) u) t) A)) (cc := cX2_start) (maxL := 4) (ret := none) (by decide) rfl (Nat.le_of_ble_eq_true rfl) ?_
  intro pz ez sz mz bz tz cz hx hb hml hr hlocks hts hown hK hP A hD hA ls hl
  have hS : va_S A sz.heap sz.heap [] := va_S.rf
  have hl : lv_has ls 4 [(0, .ref (i 0)), (1, .int x), (2, .int y), (3, .int z)] := hl
  refine lv_aload_n hx hb dX2_start_0 rfl (lv_at hl 0 rfl) ?_
  refine q_get (D := D) (ci := 2) (v := .ref (i 1)) (C := RX2) (T := TX2) (N := 6) hx hb hts (by decide +kernel) hown hK hP 0 0 rfl rfl rfl 0 (by decide) (hts (.fieldLink RX2 9 "OffsetRows$Iterators" "isOpen" "[Z") (by decide +kernel)) (fun _ h9 => h9) rfl dX2_start_1 ?_
  refine lv_iload_n hx hb dX2_start_4 rfl (lv_at hl 1 rfl) ?_
  refine lv_iconst (v := (1 : Int32)) hx hb dX2_start_5 (by decide) ?_
  refine q_zast hx hb hK hP hD hS 0 1 1 rfl (f := op) rfl rfl (k := x.toNatClampNeg) rfl (h8) rfl dX2_start_6 wI_s_op (Fs' := [wI cI cZ i (upd op x.toNatClampNeg (1 : Int32)) sl oi nd lp tl]) rfl (fun H locs hP hD hS => ?_)
  refine lv_aload_n hx hb dX2_start_7 rfl (lv_at hl 0 rfl) ?_
  refine q_get (D := D) (ci := 2) (v := .ref (i 2)) (C := RX2) (T := TX2) (N := 6) hx hb hts (by decide +kernel) hown hK hP 0 0 rfl rfl rfl 1 (by decide) (hts (.fieldLink RX2 15 "OffsetRows$Iterators" "isStale" "[Z") (by decide +kernel)) (fun _ h9 => h9) rfl dX2_start_8 ?_
  refine lv_iload_n hx hb dX2_start_11 rfl (lv_at hl 1 rfl) ?_
  refine lv_iconst (v := (0 : Int32)) hx hb dX2_start_12 (by decide) ?_
  refine q_zast hx hb hK hP hD hS 0 2 1 rfl (f := sl) rfl rfl (k := x.toNatClampNeg) rfl (h8) rfl dX2_start_13 wI_s_sl (Fs' := [wI cI cZ i (upd op x.toNatClampNeg (1 : Int32)) (upd sl x.toNatClampNeg (0 : Int32)) oi nd lp tl]) rfl (fun H locs hP hD hS => ?_)
  refine lv_aload_n hx hb dX2_start_14 rfl (lv_at hl 0 rfl) ?_
  refine q_get (D := D) (ci := 2) (v := .ref (i 3)) (C := RX2) (T := TX2) (N := 6) hx hb hts (by decide +kernel) hown hK hP 0 0 rfl rfl rfl 2 (by decide) (hts (.fieldLink RX2 18 "OffsetRows$Iterators" "ofIn" "[Z") (by decide +kernel)) (fun _ h9 => h9) rfl dX2_start_15 ?_
  refine lv_iload_n hx hb dX2_start_18 rfl (lv_at hl 1 rfl) ?_
  refine lv_iload_n hx hb dX2_start_19 rfl (lv_at hl 3 rfl) ?_
  refine q_zast hx hb hK hP hD hS 0 3 1 rfl (f := oi) rfl rfl (k := x.toNatClampNeg) rfl (h8) hz dX2_start_20 wI_s_oi (Fs' := [wI cI cZ i (upd op x.toNatClampNeg (1 : Int32)) (upd sl x.toNatClampNeg (0 : Int32)) (upd oi x.toNatClampNeg z) nd lp tl]) rfl (fun H locs hP hD hS => ?_)
  refine lv_aload_n hx hb dX2_start_21 rfl (lv_at hl 0 rfl) ?_
  refine q_get (D := D) (ci := 2) (v := .ref (i 4)) (C := RX2) (T := TX2) (N := 6) hx hb hts (by decide +kernel) hown hK hP 0 0 rfl rfl rfl 3 (by decide) (hts (.fieldLink RX2 21 "OffsetRows$Iterators" "node" "[I") (by decide +kernel)) (fun _ h9 => h9) rfl dX2_start_22 ?_
  refine lv_iload_n hx hb dX2_start_25 rfl (lv_at hl 1 rfl) ?_
  refine lv_iload_n hx hb dX2_start_26 rfl (lv_at hl 2 rfl) ?_
  refine q_iast hx hb hK hP hD hS 0 4 0 rfl (f := nd) rfl rfl (k := x.toNatClampNeg) rfl (h8) dX2_start_27 wI_s_nd (Fs' := [wI cI cZ i (upd op x.toNatClampNeg (1 : Int32)) (upd sl x.toNatClampNeg (0 : Int32)) (upd oi x.toNatClampNeg z) (upd nd x.toNatClampNeg y) lp tl]) rfl (fun H locs hP hD hS => ?_)
  refine lv_aload_n hx hb dX2_start_28 rfl (lv_at hl 0 rfl) ?_
  refine q_get (D := D) (ci := 2) (v := .ref (i 5)) (C := RX2) (T := TX2) (N := 6) hx hb hts (by decide +kernel) hown hK hP 0 0 rfl rfl rfl 4 (by decide) (hts (.fieldLink RX2 25 "OffsetRows$Iterators" "lastPlace" "[I") (by decide +kernel)) (fun _ h9 => h9) rfl dX2_start_29 ?_
  refine lv_iload_n hx hb dX2_start_32 rfl (lv_at hl 1 rfl) ?_
  refine lv_iconst (v := (-1)) hx hb dX2_start_33 (by decide) ?_
  refine q_iast hx hb hK hP hD hS 0 5 0 rfl (f := lp) rfl rfl (k := x.toNatClampNeg) rfl (h8) dX2_start_34 wI_s_lp (Fs' := [wI cI cZ i (upd op x.toNatClampNeg (1 : Int32)) (upd sl x.toNatClampNeg (0 : Int32)) (upd oi x.toNatClampNeg z) (upd nd x.toNatClampNeg y) (upd lp x.toNatClampNeg (-1 : Int32)) tl]) rfl (fun H locs hP hD hS => ?_)
  refine lv_aload_n hx hb dX2_start_35 rfl (lv_at hl 0 rfl) ?_
  refine q_get (D := D) (ci := 2) (v := .ref (i 6)) (C := RX2) (T := TX2) (N := 6) hx hb hts (by decide +kernel) hown hK hP 0 0 rfl rfl rfl 5 (by decide) (hts (.fieldLink RX2 28 "OffsetRows$Iterators" "arcsTold" "[I") (by decide +kernel)) (fun _ h9 => h9) rfl dX2_start_36 ?_
  refine lv_iload_n hx hb dX2_start_39 rfl (lv_at hl 1 rfl) ?_
  refine lv_iconst (v := (0 : Int32)) hx hb dX2_start_40 (by decide) ?_
  refine q_iast hx hb hK hP hD hS 0 6 0 rfl (f := tl) rfl rfl (k := x.toNatClampNeg) rfl (h8) dX2_start_41 wI_s_tl (Fs' := [wI cI cZ i (upd op x.toNatClampNeg (1 : Int32)) (upd sl x.toNatClampNeg (0 : Int32)) (upd oi x.toNatClampNeg z) (upd nd x.toNatClampNeg y) (upd lp x.toNatClampNeg (-1 : Int32)) (upd tl x.toNatClampNeg (0 : Int32))]) rfl (fun H locs hP hD hS => ?_)
  exact q_vret (()) hx hb hr hlocks hK hP hD hS (trivial) (rfl) dX2_start_42

set_option maxHeartbeats 8000000 in
set_option maxRecDepth 100000 in
theorem k2_moveTo (l : Launch) (D : va_G) (cI cZ cL : ClassId) (i : Nat → Nat) (op : Nat → Int32) (sl : Nat → Int32) (oi : Nat → Int32) (nd : Nat → Int32) (lp : Nat → Int32) (tl : Nat → Int32) (x : Int32) (y : Int32) (h8 : vp_in x 8) : McV l D (tY cI cZ cL) yX2_moveTo wsX2_moveTo 0 0 [.ref (i 0), .int x, .int y] ([wI cI cZ i op sl oi nd lp tl]) (fun (_ : Unit) => True) (fun (_ : Unit) => [wI cI cZ i op sl oi nd (upd lp x.toNatClampNeg y) (upd tl x.toNatClampNeg (tl x.toNatClampNeg + 1))]) := by
  refine q_ofW (Qc := fun A => (va_Qv (fun (_ : Unit) => True) (fun u t => mAt D (tY cI cZ cL) A ((fun (_ : Unit) => [wI cI cZ i op sl oi nd (upd lp x.toNatClampNeg y) (upd tl x.toNatClampNeg (tl x.toNatClampNeg + 1))]) u) t) A)) (cc := cX2_moveTo) (maxL := 3) (ret := none) (by decide) rfl (Nat.le_of_ble_eq_true rfl) ?_
  intro pz ez sz mz bz tz cz hx hb hml hr hlocks hts hown hK hP A hD hA ls hl
  have hS : va_S A sz.heap sz.heap [] := va_S.rf
  have hl : lv_has ls 3 [(0, .ref (i 0)), (1, .int x), (2, .int y)] := hl
  refine lv_aload_n hx hb dX2_moveTo_0 rfl (lv_at hl 0 rfl) ?_
  refine q_get (D := D) (ci := 2) (v := .ref (i 5)) (C := RX2) (T := TX2) (N := 6) hx hb hts (by decide +kernel) hown hK hP 0 0 rfl rfl rfl 4 (by decide) (hts (.fieldLink RX2 25 "OffsetRows$Iterators" "lastPlace" "[I") (by decide +kernel)) (fun _ h9 => h9) rfl dX2_moveTo_1 ?_
  refine lv_iload_n hx hb dX2_moveTo_4 rfl (lv_at hl 1 rfl) ?_
  refine lv_iload_n hx hb dX2_moveTo_5 rfl (lv_at hl 2 rfl) ?_
  refine q_iast hx hb hK hP hD hS 0 5 0 rfl (f := lp) rfl rfl (k := x.toNatClampNeg) rfl (h8) dX2_moveTo_6 wI_s_lp (Fs' := [wI cI cZ i op sl oi nd (upd lp x.toNatClampNeg y) tl]) rfl (fun H locs hP hD hS => ?_)
  refine lv_aload_n hx hb dX2_moveTo_7 rfl (lv_at hl 0 rfl) ?_
  refine q_get (D := D) (ci := 2) (v := .ref (i 6)) (C := RX2) (T := TX2) (N := 6) hx hb hts (by decide +kernel) hown hK hP 0 0 rfl rfl rfl 5 (by decide) (hts (.fieldLink RX2 28 "OffsetRows$Iterators" "arcsTold" "[I") (by decide +kernel)) (fun _ h9 => h9) rfl dX2_moveTo_8 ?_
  refine lv_iload_n hx hb dX2_moveTo_11 rfl (lv_at hl 1 rfl) ?_
  refine lv_dup2_11 hx hb dX2_moveTo_12 rfl rfl ?_
  refine q_iald hx hb hK hP 0 6 0 rfl (f := tl) rfl rfl (k := x.toNatClampNeg) rfl (h8) dX2_moveTo_13 ?_
  refine lv_iconst (v := (1 : Int32)) hx hb dX2_moveTo_14 (by decide) ?_
  refine q_iadd (z := (tl x.toNatClampNeg) + (1 : Int32)) hx hb dX2_moveTo_15 (rfl) ?_
  refine q_iast hx hb hK hP hD hS 0 6 0 rfl (f := tl) rfl rfl (k := x.toNatClampNeg) rfl (h8) dX2_moveTo_16 wI_s_tl (Fs' := [wI cI cZ i op sl oi nd (upd lp x.toNatClampNeg y) (upd tl x.toNatClampNeg ((tl x.toNatClampNeg) + (1 : Int32)))]) rfl (fun H locs hP hD hS => ?_)
  exact q_vret (()) hx hb hr hlocks hK hP hD hS (trivial) (rfl) dX2_moveTo_17

set_option maxHeartbeats 8000000 in
set_option maxRecDepth 100000 in
theorem k2_makeStale (l : Launch) (D : va_G) (cI cZ cL : ClassId) (i : Nat → Nat) (op : Nat → Int32) (sl : Nat → Int32) (oi : Nat → Int32) (nd : Nat → Int32) (lp : Nat → Int32) (tl : Nat → Int32) : McV l D (tY cI cZ cL) yX2_makeStale wsX2_makeStale 0 0 [.ref (i 0)] ([wI cI cZ i op sl oi nd lp tl]) (fun (_ : Unit) => True) (fun (_ : Unit) => [wI cI cZ i op (stl sl) oi nd lp tl]) := by
  refine q_ofW (Qc := fun A => (va_Qv (fun (_ : Unit) => True) (fun u t => mAt D (tY cI cZ cL) A ((fun (_ : Unit) => [wI cI cZ i op (stl sl) oi nd lp tl]) u) t) A)) (cc := cX2_makeStale) (maxL := 2) (ret := none) (by decide) rfl (Nat.le_of_ble_eq_true rfl) ?_
  intro pz ez sz mz bz tz cz hx hb hml hr hlocks hts hown hK hP A hD hA ls hl
  have hS : va_S A sz.heap sz.heap [] := va_S.rf
  have hl : lv_has ls 2 [(0, .ref (i 0))] := hl
  refine lv_iconst (v := (0 : Int32)) hx hb dX2_makeStale_0 (by decide) ?_
  refine lv_istore_n (lv' := [(1, .int (0 : Int32)), (0, .ref (i 0))]) hx hb dX2_makeStale_1 rfl hl (by decide) rfl (fun ls hl => ?_)
  have loop_2 : ∀ (k_2 j : Nat), j ≤ 8 → 8 < j + k_2 → ∀ (H : Heap) (locs : List Loc), va_P D vwCl (List.flatten [wI cI cZ i op (pfx (fun _ => 1) sl j) oi nd lp tl]) H → va_D A (List.flatten [wI cI cZ i op (pfx (fun _ => 1) sl j) oi nd lp tl]) → va_S A sz.heap H locs → ∀ (ls : Array Slot), lv_has ls 2 [(1, .int (nI j)), (0, .ref (i 0))] → W pz l ez (rM 0 0) sz mz [.ref (i 0)].toArray bz tz cz H locs 0 0 (MQ bz (va_Qv (fun (_ : Unit) => True) (fun u t => mAt D (tY cI cZ cL) A ((fun (_ : Unit) => [wI cI cZ i op (stl sl) oi nd lp tl]) u) t) A) [.ref (i 0)].toArray sz 0 0 A) (F0 mz 2 ls [])  := by
    intro k_2
    induction k_2 with
    | zero => intro j hi_2 hk_2; exact absurd hk_2 (by omega)
    | succ k_2 ih_2 =>
      intro j hi_2 hk_2 H locs hP hD hS ls hl
      refine lv_iload_n hx hb dX2_makeStale_2 rfl (lv_at hl 0 rfl) ?_
      refine lv_bipush (v := (8 : Int32)) hx hb dX2_makeStale_3 (by decide) ?_
      refine lv_icmp_ge (tgt := 21) hx hb dX2_makeStale_5 (by decide) (fun c_5 => ?_) (fun c_5 => ?_)
      ·
        have n_5 : 8 ≤ j := (nI_leI (a := 8) (b := j) (by omega) (by omega)).mp c_5
        exact q_vret (()) hx hb hr hlocks hK hP hD hS (trivial) (by rw [show j = 8 by omega]; rfl) dX2_makeStale_21
      ·
        have n_5 : ¬ 8 ≤ j := fun h9 => c_5 ((nI_leI (a := 8) (b := j) (by omega) (by omega)).mpr h9)
        refine lv_aload_n hx hb dX2_makeStale_8 rfl (lv_at hl 1 rfl) ?_
        refine q_get (D := D) (ci := 2) (v := .ref (i 2)) (C := RX2) (T := TX2) (N := 6) hx hb hts (by decide +kernel) hown hK hP 0 0 rfl rfl rfl 1 (by decide) (hts (.fieldLink RX2 15 "OffsetRows$Iterators" "isStale" "[Z") (by decide +kernel)) (fun _ h9 => h9) rfl dX2_makeStale_9 ?_
        refine lv_iload_n hx hb dX2_makeStale_12 rfl (lv_at hl 0 rfl) ?_
        refine lv_iconst (v := (1 : Int32)) hx hb dX2_makeStale_13 (by decide) ?_
        refine q_zast hx hb hK hP hD hS 0 2 1 rfl (f := pfx (fun _ => 1) sl j) rfl rfl (k := j) (nI_clamp (n := j) (by omega)) (vp_in_nI (show j < 8 from by omega) (by omega)) rfl dX2_makeStale_14 wI_s_sl (Fs' := [wI cI cZ i op (upd (pfx (fun _ => 1) sl j) j (1 : Int32)) oi nd lp tl]) rfl (fun H locs hP hD hS => ?_)
        have hP : va_P D vwCl (List.flatten [wI cI cZ i op (pfx (fun _ => 1) sl (j + 1)) oi nd lp tl]) _ := wCast hP (by rw [show upd (pfx (fun _ => 1) sl j) j (1 : Int32) = pfx (fun _ => 1) sl (j + 1) from pfx_w rfl])
        have hD : va_D A (List.flatten [wI cI cZ i op (pfx (fun _ => 1) sl (j + 1)) oi nd lp tl]) := dCast hD (by rw [show upd (pfx (fun _ => 1) sl j) j (1 : Int32) = pfx (fun _ => 1) sl (j + 1) from pfx_w rfl])
        refine lv_iinc (v := nI (j + 1)) (lv' := [(1, .int (nI (j + 1))), (0, .ref (i 0))]) hx hb dX2_makeStale_15 hl (k := 0) rfl (nI_add j 1) (by decide) rfl (fun ls hl => ?_)
        refine lv_goto (tgt := 2) hx hb dX2_makeStale_18 (by decide) ?_
        have hl : lv_has ls 2 [(1, .int (nI (j + 1))), (0, .ref (i 0))] := lv_sub hl [0, 1] rfl
        have hP : va_P D vwCl (List.flatten [wI cI cZ i op (pfx (fun _ => 1) sl (j + 1)) oi nd lp tl]) _ := hP
        have hD : va_D A (List.flatten [wI cI cZ i op (pfx (fun _ => 1) sl (j + 1)) oi nd lp tl]) := hD
        exact ih_2 (j + 1) (by omega) (by omega) _ _ hP hD hS _ hl
  have hl : lv_has ls 2 [(1, .int (nI 0)), (0, .ref (i 0))] := lv_sub hl [0, 1] rfl
  have hq0 : sl = pfx (fun _ => 1) sl 0 := pfx_0.symm
  have hP : va_P D vwCl (List.flatten [wI cI cZ i op (pfx (fun _ => 1) sl 0) oi nd lp tl]) _ := wCast hP (by rw [← hq0])
  have hD : va_D A (List.flatten [wI cI cZ i op (pfx (fun _ => 1) sl 0) oi nd lp tl]) := dCast hD (by rw [← hq0])
  exact loop_2 (8 + 1) 0 (by omega) (by omega) _ _ hP hD hS _ hl

set_option maxHeartbeats 8000000 in
set_option maxRecDepth 100000 in
theorem k2_countOpen (l : Launch) (D : va_G) (cI cZ cL : ClassId) (i : Nat → Nat) (op : Nat → Int32) (sl : Nat → Int32) (oi : Nat → Int32) (nd : Nat → Int32) (lp : Nat → Int32) (tl : Nat → Int32) : McI l D (tY cI cZ cL) yX2_countOpen wsX2_countOpen 0 0 [.ref (i 0)] ([wI cI cZ i op sl oi nd lp tl]) (fun r (_ : Unit) => r = nI (cN 8 (opC op))) (fun (_ : Unit) => [wI cI cZ i op sl oi nd lp tl]) := by
  refine q_ofW (Qc := fun A => (va_Qi (fun r (_ : Unit) => r = nI (cN 8 (opC op))) (fun u t => mAt D (tY cI cZ cL) A ((fun (_ : Unit) => [wI cI cZ i op sl oi nd lp tl]) u) t) A)) (cc := cX2_countOpen) (maxL := 3) (ret := (some .int)) (by decide) rfl (Nat.le_of_ble_eq_true rfl) ?_
  intro pz ez sz mz bz tz cz hx hb hml hr hlocks hts hown hK hP A hD hA ls hl
  have hS : va_S A sz.heap sz.heap [] := va_S.rf
  have hl : lv_has ls 3 [(0, .ref (i 0))] := hl
  refine lv_iconst (v := (0 : Int32)) hx hb dX2_countOpen_0 (by decide) ?_
  refine lv_istore_n (lv' := [(1, .int (0 : Int32)), (0, .ref (i 0))]) hx hb dX2_countOpen_1 rfl hl (by decide) rfl (fun ls hl => ?_)
  refine lv_iconst (v := (0 : Int32)) hx hb dX2_countOpen_2 (by decide) ?_
  refine lv_istore_n (lv' := [(2, .int (0 : Int32)), (1, .int (0 : Int32)), (0, .ref (i 0))]) hx hb dX2_countOpen_3 rfl hl (by decide) rfl (fun ls hl => ?_)
  have loop_4 : ∀ (k_4 j : Nat), j ≤ 8 → 8 < j + k_4 → ∀ (H : Heap) (locs : List Loc), va_P D vwCl (List.flatten [wI cI cZ i op sl oi nd lp tl]) H → va_D A (List.flatten [wI cI cZ i op sl oi nd lp tl]) → va_S A sz.heap H locs → ∀ (ls : Array Slot), lv_has ls 3 [(2, .int (nI j)), (1, .int (nI (cN j (opC op)))), (0, .ref (i 0))] → W pz l ez (rM 0 0) sz mz [.ref (i 0)].toArray bz tz cz H locs 0 0 (MQ bz (va_Qi (fun r (_ : Unit) => r = nI (cN 8 (opC op))) (fun u t => mAt D (tY cI cZ cL) A ((fun (_ : Unit) => [wI cI cZ i op sl oi nd lp tl]) u) t) A) [.ref (i 0)].toArray sz 0 0 A) (F0 mz 4 ls [])  := by
    intro k_4
    induction k_4 with
    | zero => intro j hi_4 hk_4; exact absurd hk_4 (by omega)
    | succ k_4 ih_4 =>
      intro j hi_4 hk_4 H locs hP hD hS ls hl
      refine lv_iload_n hx hb dX2_countOpen_4 rfl (lv_at hl 0 rfl) ?_
      refine lv_bipush (v := (8 : Int32)) hx hb dX2_countOpen_5 (by decide) ?_
      refine lv_icmp_ge (tgt := 28) hx hb dX2_countOpen_7 (by decide) (fun c_7 => ?_) (fun c_7 => ?_)
      ·
        have n_7 : 8 ≤ j := (nI_leI (a := 8) (b := j) (by omega) (by omega)).mp c_7
        refine lv_iload_n hx hb dX2_countOpen_28 rfl (lv_at hl 1 rfl) ?_
        exact q_iret (()) hx hb hr hlocks hK hP hD hS (by rw [show j = 8 by omega]) (rfl) dX2_countOpen_29
      ·
        have n_7 : ¬ 8 ≤ j := fun h9 => c_7 ((nI_leI (a := 8) (b := j) (by omega) (by omega)).mpr h9)
        refine lv_aload_n hx hb dX2_countOpen_10 rfl (lv_at hl 2 rfl) ?_
        refine q_get (D := D) (ci := 2) (v := .ref (i 1)) (C := RX2) (T := TX2) (N := 6) hx hb hts (by decide +kernel) hown hK hP 0 0 rfl rfl rfl 0 (by decide) (hts (.fieldLink RX2 9 "OffsetRows$Iterators" "isOpen" "[Z") (by decide +kernel)) (fun _ h9 => h9) rfl dX2_countOpen_11 ?_
        refine lv_iload_n hx hb dX2_countOpen_14 rfl (lv_at hl 0 rfl) ?_
        refine q_zald hx hb hK hP 0 1 1 rfl (f := op) rfl rfl (k := j) (nI_clamp (n := j) (by omega)) (vp_in_nI (show j < 8 from by omega) (by omega)) dX2_countOpen_15 ?_
        refine lv_if_eq (tgt := 22) hx hb dX2_countOpen_16 (by decide) (fun c_16 => ?_) (fun c_16 => ?_)
        ·
          refine lv_iinc (v := nI (j + 1)) (lv' := [(2, .int (nI (j + 1))), (1, .int (nI (cN j (opC op)))), (0, .ref (i 0))]) hx hb dX2_countOpen_22 hl (k := 0) rfl (nI_add j 1) (by decide) rfl (fun ls hl => ?_)
          refine lv_goto (tgt := 4) hx hb dX2_countOpen_25 (by decide) ?_
          have hl : lv_has ls 3 [(2, .int (nI (j + 1))), (1, .int (nI (cN j (opC op)))), (0, .ref (i 0))] := lv_sub hl [0, 1, 2] rfl
          have hl : lv_has ls 3 [(2, .int (nI (j + 1))), (1, .int (nI (cN (j + 1) (opC op)))), (0, .ref (i 0))] := by
            rw [← show nI (cN j (opC op)) = nI (cN (j + 1) (opC op)) from by first | rfl | simp [cN, opC, c_7, n_7, c_16]]
            exact hl
          have hP : va_P D vwCl (List.flatten [wI cI cZ i op sl oi nd lp tl]) _ := hP
          have hD : va_D A (List.flatten [wI cI cZ i op sl oi nd lp tl]) := hD
          exact ih_4 (j + 1) (by omega) (by omega) _ _ hP hD hS _ hl
        ·
          refine lv_iinc (v := nI (cN j (opC op) + 1)) (lv' := [(1, .int (nI (cN j (opC op) + 1))), (2, .int (nI j)), (0, .ref (i 0))]) hx hb dX2_countOpen_19 hl (k := 1) rfl (nI_add (cN j (opC op)) 1) (by decide) rfl (fun ls hl => ?_)
          refine lv_iinc (v := nI (j + 1)) (lv' := [(2, .int (nI (j + 1))), (1, .int (nI (cN j (opC op) + 1))), (0, .ref (i 0))]) hx hb dX2_countOpen_22 hl (k := 1) rfl (nI_add j 1) (by decide) rfl (fun ls hl => ?_)
          refine lv_goto (tgt := 4) hx hb dX2_countOpen_25 (by decide) ?_
          have hl : lv_has ls 3 [(2, .int (nI (j + 1))), (1, .int (nI (cN j (opC op) + 1))), (0, .ref (i 0))] := lv_sub hl [0, 1, 2] rfl
          have hl : lv_has ls 3 [(2, .int (nI (j + 1))), (1, .int (nI (cN (j + 1) (opC op)))), (0, .ref (i 0))] := by
            rw [← show nI (cN j (opC op) + 1) = nI (cN (j + 1) (opC op)) from by first | rfl | simp [cN, opC, c_7, n_7, c_16]]
            exact hl
          have hP : va_P D vwCl (List.flatten [wI cI cZ i op sl oi nd lp tl]) _ := hP
          have hD : va_D A (List.flatten [wI cI cZ i op sl oi nd lp tl]) := hD
          exact ih_4 (j + 1) (by omega) (by omega) _ _ hP hD hS _ hl
  have hl : lv_has ls 3 [(2, .int (nI 0)), (1, .int (nI (cN 0 (opC op)))), (0, .ref (i 0))] := lv_sub hl [0, 1, 2] rfl
  have hP : va_P D vwCl (List.flatten [wI cI cZ i op sl oi nd lp tl]) _ := hP
  have hD : va_D A (List.flatten [wI cI cZ i op sl oi nd lp tl]) := hD
  exact loop_4 (8 + 1) 0 (by omega) (by omega) _ _ hP hD hS _ hl

set_option maxHeartbeats 8000000 in
set_option maxRecDepth 100000 in
theorem k1_isOffsetRight (l : Launch) (D : va_G) (cI cZ cL : ClassId) (g : Nat → Nat) (go : Nat → Int32) (gt : Nat → Int32) (i : Nat) (N : Nat) (m : Nat) (hi : i ≤ N) (hN : N ≤ 24) (hm : m ≤ 160) : McI l D (tY cI cZ cL) yX1_isOffsetRight wsX1_isOffsetRight 0 0 [.ref (g 0), .int (nI i), .int (nI N), .int (nI m)] ([wG cI g go gt]) (fun r (_ : Unit) => r = bI (jrB N m go i)) (fun (_ : Unit) => [wG cI g go gt]) := by
  refine q_ofW (Qc := fun A => (va_Qi (fun r (_ : Unit) => r = bI (jrB N m go i)) (fun u t => mAt D (tY cI cZ cL) A ((fun (_ : Unit) => [wG cI g go gt]) u) t) A)) (cc := cX1_isOffsetRight) (maxL := 7) (ret := (some .boolean)) (by decide) rfl (Nat.le_of_ble_eq_true rfl) ?_
  intro pz ez sz mz bz tz cz hx hb hml hr hlocks hts hown hK hP A hD hA ls hl
  have hS : va_S A sz.heap sz.heap [] := va_S.rf
  have hl : lv_has ls 7 [(0, .ref (g 0)), (1, .int (nI i)), (2, .int (nI N)), (3, .int (nI m))] := hl
  refine lv_iload_n hx hb dX1_isOffsetRight_0 rfl (lv_at hl 1 rfl) ?_
  refine lv_if_ne (tgt := 8) hx hb dX1_isOffsetRight_1 (by decide) (fun c_1 => ?_) (fun c_1 => ?_)
  ·
    have n_1 : ¬ i = 0 := fun h9 => c_1 ((nI_eq (a := i) (b := 0) (by omega) (by omega)).mpr h9)
    refine lv_aload_n hx hb dX1_isOffsetRight_8 rfl (lv_at hl 0 rfl) ?_
    refine q_get (D := D) (ci := 1) (v := .ref (g 1)) (C := RX1) (T := TX1) (N := 2) hx hb hts (by decide +kernel) hown hK hP 0 0 rfl rfl rfl 0 (by decide) (hts (.fieldLink RX1 9 "OffsetRows$Given" "offsets" "[I") (by decide +kernel)) (fun _ h9 => h9) rfl dX1_isOffsetRight_9 ?_
    refine lv_iload_n hx hb dX1_isOffsetRight_12 rfl (lv_at hl 1 rfl) ?_
    refine lv_iconst (v := (1 : Int32)) hx hb dX1_isOffsetRight_13 (by decide) ?_
    refine q_isub (z := nI (i - 1)) hx hb dX1_isOffsetRight_14 (pk_sub (a := i) (b := 1) (by omega)) ?_
    refine q_iald hx hb hK hP 0 1 0 rfl (f := go) rfl rfl (k := i - 1) (nI_clamp (n := i - 1) (by omega)) (vp_in_nI (show i - 1 < 25 from by omega) (by omega)) dX1_isOffsetRight_15 ?_
    refine lv_istore (lv' := [(4, .int (go (i - 1))), (0, .ref (g 0)), (1, .int (nI i)), (2, .int (nI N)), (3, .int (nI m))]) hx hb dX1_isOffsetRight_16 hl (by decide) rfl (fun ls hl => ?_)
    refine lv_iload_n hx hb dX1_isOffsetRight_18 rfl (lv_at hl 2 rfl) ?_
    refine lv_if_ne (tgt := 26) hx hb dX1_isOffsetRight_19 (by decide) (fun c_19 => ?_) (fun c_19 => ?_)
    ·
      have n_19 : ¬ i = 0 := fun h9 => c_19 ((nI_eq (a := i) (b := 0) (by omega) (by omega)).mpr h9)
      refine lv_iload_n hx hb dX1_isOffsetRight_26 rfl (lv_at hl 4 rfl) ?_
      refine lv_istore (lv' := [(5, .int (nI m)), (4, .int (go (i - 1))), (0, .ref (g 0)), (1, .int (nI i)), (2, .int (nI N)), (3, .int (nI m))]) hx hb dX1_isOffsetRight_27 hl (by decide) rfl (fun ls hl => ?_)
      refine lv_aload_n hx hb dX1_isOffsetRight_29 rfl (lv_at hl 2 rfl) ?_
      refine q_get (D := D) (ci := 1) (v := .ref (g 1)) (C := RX1) (T := TX1) (N := 2) hx hb hts (by decide +kernel) hown hK hP 0 0 rfl rfl rfl 0 (by decide) (hts (.fieldLink RX1 9 "OffsetRows$Given" "offsets" "[I") (by decide +kernel)) (fun _ h9 => h9) rfl dX1_isOffsetRight_30 ?_
      refine lv_iload_n hx hb dX1_isOffsetRight_33 rfl (lv_at hl 3 rfl) ?_
      refine q_iald hx hb hK hP 0 1 0 rfl (f := go) rfl rfl (k := i) (nI_clamp (n := i) (by omega)) (vp_in_nI (show i < 25 from by omega) (by omega)) dX1_isOffsetRight_34 ?_
      refine lv_iload hx hb dX1_isOffsetRight_35 (lv_at hl 1 rfl) ?_
      refine lv_icmp_lt (tgt := 55) hx hb dX1_isOffsetRight_37 (by decide) (fun c_37 => ?_) (fun c_37 => ?_)
      ·
        refine lv_iconst (v := (0 : Int32)) hx hb dX1_isOffsetRight_55 (by decide) ?_
        refine lv_istore (lv' := [(6, .int (0 : Int32)), (5, .int (nI m)), (4, .int (go (i - 1))), (0, .ref (g 0)), (1, .int (nI i)), (2, .int (nI N)), (3, .int (nI m))]) hx hb dX1_isOffsetRight_56 hl (by decide) rfl (fun ls hl => ?_)
        refine lv_iload hx hb dX1_isOffsetRight_58 (lv_at hl 0 rfl) ?_
        refine lv_if_eq (tgt := 82) hx hb dX1_isOffsetRight_60 (by decide) (fun c_60 => ?_) (fun c_60 => ?_)
        ·
          refine lv_iconst (v := (0 : Int32)) hx hb dX1_isOffsetRight_82 (by decide) ?_
          exact q_zret (()) hx hb hr rfl hlocks hK hP hD hS ((bI_f (jr_f (fun h => h.1.elim (fun h => n_1 h.1) (fun h => absurd h.2 (k2_nle c_37))))).symm) (rfl) dX1_isOffsetRight_83
        ·
          exact absurd (by decide) c_60
      ·
        refine lv_aload_n hx hb dX1_isOffsetRight_40 rfl (lv_at hl 2 rfl) ?_
        refine q_get (D := D) (ci := 1) (v := .ref (g 1)) (C := RX1) (T := TX1) (N := 2) hx hb hts (by decide +kernel) hown hK hP 0 0 rfl rfl rfl 0 (by decide) (hts (.fieldLink RX1 9 "OffsetRows$Given" "offsets" "[I") (by decide +kernel)) (fun _ h9 => h9) rfl dX1_isOffsetRight_41 ?_
        refine lv_iload_n hx hb dX1_isOffsetRight_44 rfl (lv_at hl 3 rfl) ?_
        refine q_iald hx hb hK hP 0 1 0 rfl (f := go) rfl rfl (k := i) (nI_clamp (n := i) (by omega)) (vp_in_nI (show i < 25 from by omega) (by omega)) dX1_isOffsetRight_45 ?_
        refine lv_iload hx hb dX1_isOffsetRight_46 (lv_at hl 0 rfl) ?_
        refine lv_icmp_gt (tgt := 55) hx hb dX1_isOffsetRight_48 (by decide) (fun c_48 => ?_) (fun c_48 => ?_)
        ·
          refine lv_iconst (v := (0 : Int32)) hx hb dX1_isOffsetRight_55 (by decide) ?_
          refine lv_istore (lv' := [(6, .int (0 : Int32)), (5, .int (nI m)), (4, .int (go (i - 1))), (0, .ref (g 0)), (1, .int (nI i)), (2, .int (nI N)), (3, .int (nI m))]) hx hb dX1_isOffsetRight_56 hl (by decide) rfl (fun ls hl => ?_)
          refine lv_iload hx hb dX1_isOffsetRight_58 (lv_at hl 0 rfl) ?_
          refine lv_if_eq (tgt := 82) hx hb dX1_isOffsetRight_60 (by decide) (fun c_60 => ?_) (fun c_60 => ?_)
          ·
            refine lv_iconst (v := (0 : Int32)) hx hb dX1_isOffsetRight_82 (by decide) ?_
            exact q_zret (()) hx hb hr rfl hlocks hK hP hD hS ((bI_f (jr_f (fun h => absurd h.2.1 (k2_nle c_48)))).symm) (rfl) dX1_isOffsetRight_83
          ·
            exact absurd (by decide) c_60
        ·
          refine lv_iconst (v := (1 : Int32)) hx hb dX1_isOffsetRight_51 (by decide) ?_
          refine lv_goto (tgt := 56) hx hb dX1_isOffsetRight_52 (by decide) ?_
          refine lv_istore (lv' := [(6, .int (1 : Int32)), (5, .int (nI m)), (4, .int (go (i - 1))), (0, .ref (g 0)), (1, .int (nI i)), (2, .int (nI N)), (3, .int (nI m))]) hx hb dX1_isOffsetRight_56 hl (by decide) rfl (fun ls hl => ?_)
          refine lv_iload hx hb dX1_isOffsetRight_58 (lv_at hl 0 rfl) ?_
          refine lv_if_eq (tgt := 82) hx hb dX1_isOffsetRight_60 (by decide) (fun c_60 => ?_) (fun c_60 => ?_)
          ·
            exact absurd c_60 (by decide)
          ·
            refine lv_iload_n hx hb dX1_isOffsetRight_63 rfl (lv_at hl 4 rfl) ?_
            refine lv_iload_n hx hb dX1_isOffsetRight_64 rfl (lv_at hl 5 rfl) ?_
            refine lv_icmp_lt (tgt := 78) hx hb dX1_isOffsetRight_65 (by decide) (fun c_65 => ?_) (fun c_65 => ?_)
            ·
              have n_65 : i < N := (nI_ltI (a := i) (b := N) (by omega) (by omega)).mp c_65
              refine lv_iconst (v := (1 : Int32)) hx hb dX1_isOffsetRight_78 (by decide) ?_
              refine lv_goto (tgt := 83) hx hb dX1_isOffsetRight_79 (by decide) ?_
              exact q_zret (()) hx hb hr rfl hlocks hK hP hD hS ((bI_t (jr_t ⟨Or.inr ⟨n_1, k2_le c_37⟩, k2_le c_48, Or.inl n_65⟩)).symm) (rfl) dX1_isOffsetRight_83
            ·
              have n_65 : ¬ i < N := fun h9 => c_65 ((nI_ltI (a := i) (b := N) (by omega) (by omega)).mpr h9)
              refine lv_aload_n hx hb dX1_isOffsetRight_68 rfl (lv_at hl 3 rfl) ?_
              refine q_get (D := D) (ci := 1) (v := .ref (g 1)) (C := RX1) (T := TX1) (N := 2) hx hb hts (by decide +kernel) hown hK hP 0 0 rfl rfl rfl 0 (by decide) (hts (.fieldLink RX1 9 "OffsetRows$Given" "offsets" "[I") (by decide +kernel)) (fun _ h9 => h9) rfl dX1_isOffsetRight_69 ?_
              refine lv_iload_n hx hb dX1_isOffsetRight_72 rfl (lv_at hl 4 rfl) ?_
              refine q_iald hx hb hK hP 0 1 0 rfl (f := go) rfl rfl (k := i) (nI_clamp (n := i) (by omega)) (vp_in_nI (show i < 25 from by omega) (by omega)) dX1_isOffsetRight_73 ?_
              refine lv_iload_n hx hb dX1_isOffsetRight_74 rfl (lv_at hl 6 rfl) ?_
              refine lv_icmp_ne (tgt := 82) hx hb dX1_isOffsetRight_75 (by decide) (fun c_75 => ?_) (fun c_75 => ?_)
              ·
                refine lv_iconst (v := (0 : Int32)) hx hb dX1_isOffsetRight_82 (by decide) ?_
                exact q_zret (()) hx hb hr rfl hlocks hK hP hD hS ((bI_f (jr_f (fun h => h.2.2.elim (fun h => n_65 h) (fun h => c_75 h)))).symm) (rfl) dX1_isOffsetRight_83
              ·
                refine lv_iconst (v := (1 : Int32)) hx hb dX1_isOffsetRight_78 (by decide) ?_
                refine lv_goto (tgt := 83) hx hb dX1_isOffsetRight_79 (by decide) ?_
                exact q_zret (()) hx hb hr rfl hlocks hK hP hD hS ((bI_t (jr_t ⟨Or.inr ⟨n_1, k2_le c_37⟩, k2_le c_48, Or.inr c_75⟩)).symm) (rfl) dX1_isOffsetRight_83
    ·
      have n_19 : i = 0 := (nI_eq (a := i) (b := 0) (by omega) (by omega)).mp c_19
      exact absurd n_19 n_1
  ·
    have n_1 : i = 0 := (nI_eq (a := i) (b := 0) (by omega) (by omega)).mp c_1
    refine lv_iconst (v := (0 : Int32)) hx hb dX1_isOffsetRight_4 (by decide) ?_
    refine lv_goto (tgt := 16) hx hb dX1_isOffsetRight_5 (by decide) ?_
    refine lv_istore (lv' := [(4, .int (0 : Int32)), (0, .ref (g 0)), (1, .int (nI i)), (2, .int (nI N)), (3, .int (nI m))]) hx hb dX1_isOffsetRight_16 hl (by decide) rfl (fun ls hl => ?_)
    refine lv_iload_n hx hb dX1_isOffsetRight_18 rfl (lv_at hl 2 rfl) ?_
    refine lv_if_ne (tgt := 26) hx hb dX1_isOffsetRight_19 (by decide) (fun c_19 => ?_) (fun c_19 => ?_)
    ·
      have n_19 : ¬ i = 0 := fun h9 => c_19 ((nI_eq (a := i) (b := 0) (by omega) (by omega)).mpr h9)
      exact absurd n_1 n_19
    ·
      have n_19 : i = 0 := (nI_eq (a := i) (b := 0) (by omega) (by omega)).mp c_19
      refine lv_iconst (v := (0 : Int32)) hx hb dX1_isOffsetRight_22 (by decide) ?_
      refine lv_goto (tgt := 27) hx hb dX1_isOffsetRight_23 (by decide) ?_
      refine lv_istore (lv' := [(5, .int (0 : Int32)), (4, .int (0 : Int32)), (0, .ref (g 0)), (1, .int (nI i)), (2, .int (nI N)), (3, .int (nI m))]) hx hb dX1_isOffsetRight_27 hl (by decide) rfl (fun ls hl => ?_)
      refine lv_aload_n hx hb dX1_isOffsetRight_29 rfl (lv_at hl 2 rfl) ?_
      refine q_get (D := D) (ci := 1) (v := .ref (g 1)) (C := RX1) (T := TX1) (N := 2) hx hb hts (by decide +kernel) hown hK hP 0 0 rfl rfl rfl 0 (by decide) (hts (.fieldLink RX1 9 "OffsetRows$Given" "offsets" "[I") (by decide +kernel)) (fun _ h9 => h9) rfl dX1_isOffsetRight_30 ?_
      refine lv_iload_n hx hb dX1_isOffsetRight_33 rfl (lv_at hl 3 rfl) ?_
      refine q_iald hx hb hK hP 0 1 0 rfl (f := go) rfl rfl (k := i) (nI_clamp (n := i) (by omega)) (vp_in_nI (show i < 25 from by omega) (by omega)) dX1_isOffsetRight_34 ?_
      refine lv_iload hx hb dX1_isOffsetRight_35 (lv_at hl 1 rfl) ?_
      refine lv_icmp_lt (tgt := 55) hx hb dX1_isOffsetRight_37 (by decide) (fun c_37 => ?_) (fun c_37 => ?_)
      ·
        refine lv_iconst (v := (0 : Int32)) hx hb dX1_isOffsetRight_55 (by decide) ?_
        refine lv_istore (lv' := [(6, .int (0 : Int32)), (5, .int (0 : Int32)), (4, .int (0 : Int32)), (0, .ref (g 0)), (1, .int (nI i)), (2, .int (nI N)), (3, .int (nI m))]) hx hb dX1_isOffsetRight_56 hl (by decide) rfl (fun ls hl => ?_)
        refine lv_iload hx hb dX1_isOffsetRight_58 (lv_at hl 0 rfl) ?_
        refine lv_if_eq (tgt := 82) hx hb dX1_isOffsetRight_60 (by decide) (fun c_60 => ?_) (fun c_60 => ?_)
        ·
          refine lv_iconst (v := (0 : Int32)) hx hb dX1_isOffsetRight_82 (by decide) ?_
          exact q_zret (()) hx hb hr rfl hlocks hK hP hD hS ((bI_f (jr_f (fun h => h.1.elim (fun h => absurd c_37 (by rw [h.2]; decide)) (fun h => h.1 n_1)))).symm) (rfl) dX1_isOffsetRight_83
        ·
          exact absurd (by decide) c_60
      ·
        refine lv_aload_n hx hb dX1_isOffsetRight_40 rfl (lv_at hl 2 rfl) ?_
        refine q_get (D := D) (ci := 1) (v := .ref (g 1)) (C := RX1) (T := TX1) (N := 2) hx hb hts (by decide +kernel) hown hK hP 0 0 rfl rfl rfl 0 (by decide) (hts (.fieldLink RX1 9 "OffsetRows$Given" "offsets" "[I") (by decide +kernel)) (fun _ h9 => h9) rfl dX1_isOffsetRight_41 ?_
        refine lv_iload_n hx hb dX1_isOffsetRight_44 rfl (lv_at hl 3 rfl) ?_
        refine q_iald hx hb hK hP 0 1 0 rfl (f := go) rfl rfl (k := i) (nI_clamp (n := i) (by omega)) (vp_in_nI (show i < 25 from by omega) (by omega)) dX1_isOffsetRight_45 ?_
        refine lv_iload hx hb dX1_isOffsetRight_46 (lv_at hl 0 rfl) ?_
        refine lv_icmp_gt (tgt := 55) hx hb dX1_isOffsetRight_48 (by decide) (fun c_48 => ?_) (fun c_48 => ?_)
        ·
          refine lv_iconst (v := (0 : Int32)) hx hb dX1_isOffsetRight_55 (by decide) ?_
          refine lv_istore (lv' := [(6, .int (0 : Int32)), (5, .int (0 : Int32)), (4, .int (0 : Int32)), (0, .ref (g 0)), (1, .int (nI i)), (2, .int (nI N)), (3, .int (nI m))]) hx hb dX1_isOffsetRight_56 hl (by decide) rfl (fun ls hl => ?_)
          refine lv_iload hx hb dX1_isOffsetRight_58 (lv_at hl 0 rfl) ?_
          refine lv_if_eq (tgt := 82) hx hb dX1_isOffsetRight_60 (by decide) (fun c_60 => ?_) (fun c_60 => ?_)
          ·
            refine lv_iconst (v := (0 : Int32)) hx hb dX1_isOffsetRight_82 (by decide) ?_
            exact q_zret (()) hx hb hr rfl hlocks hK hP hD hS ((bI_f (jr_f (fun h => h.1.elim (fun h => absurd c_48 (by rw [h.2]; decide)) (fun h => h.1 n_1)))).symm) (rfl) dX1_isOffsetRight_83
          ·
            exact absurd (by decide) c_60
        ·
          refine lv_iconst (v := (1 : Int32)) hx hb dX1_isOffsetRight_51 (by decide) ?_
          refine lv_goto (tgt := 56) hx hb dX1_isOffsetRight_52 (by decide) ?_
          refine lv_istore (lv' := [(6, .int (1 : Int32)), (5, .int (0 : Int32)), (4, .int (0 : Int32)), (0, .ref (g 0)), (1, .int (nI i)), (2, .int (nI N)), (3, .int (nI m))]) hx hb dX1_isOffsetRight_56 hl (by decide) rfl (fun ls hl => ?_)
          refine lv_iload hx hb dX1_isOffsetRight_58 (lv_at hl 0 rfl) ?_
          refine lv_if_eq (tgt := 82) hx hb dX1_isOffsetRight_60 (by decide) (fun c_60 => ?_) (fun c_60 => ?_)
          ·
            exact absurd c_60 (by decide)
          ·
            refine lv_iload_n hx hb dX1_isOffsetRight_63 rfl (lv_at hl 4 rfl) ?_
            refine lv_iload_n hx hb dX1_isOffsetRight_64 rfl (lv_at hl 5 rfl) ?_
            refine lv_icmp_lt (tgt := 78) hx hb dX1_isOffsetRight_65 (by decide) (fun c_65 => ?_) (fun c_65 => ?_)
            ·
              have n_65 : i < N := (nI_ltI (a := i) (b := N) (by omega) (by omega)).mp c_65
              refine lv_iconst (v := (1 : Int32)) hx hb dX1_isOffsetRight_78 (by decide) ?_
              refine lv_goto (tgt := 83) hx hb dX1_isOffsetRight_79 (by decide) ?_
              exact q_zret (()) hx hb hr rfl hlocks hK hP hD hS ((bI_t (jr_t ⟨Or.inl ⟨n_1, z_eq c_37 c_48⟩, (by rw [z_eq c_37 c_48]; exact nI_pos' (by omega)), Or.inl n_65⟩)).symm) (rfl) dX1_isOffsetRight_83
            ·
              have n_65 : ¬ i < N := fun h9 => c_65 ((nI_ltI (a := i) (b := N) (by omega) (by omega)).mpr h9)
              refine lv_aload_n hx hb dX1_isOffsetRight_68 rfl (lv_at hl 3 rfl) ?_
              refine q_get (D := D) (ci := 1) (v := .ref (g 1)) (C := RX1) (T := TX1) (N := 2) hx hb hts (by decide +kernel) hown hK hP 0 0 rfl rfl rfl 0 (by decide) (hts (.fieldLink RX1 9 "OffsetRows$Given" "offsets" "[I") (by decide +kernel)) (fun _ h9 => h9) rfl dX1_isOffsetRight_69 ?_
              refine lv_iload_n hx hb dX1_isOffsetRight_72 rfl (lv_at hl 4 rfl) ?_
              refine q_iald hx hb hK hP 0 1 0 rfl (f := go) rfl rfl (k := i) (nI_clamp (n := i) (by omega)) (vp_in_nI (show i < 25 from by omega) (by omega)) dX1_isOffsetRight_73 ?_
              refine lv_iload_n hx hb dX1_isOffsetRight_74 rfl (lv_at hl 6 rfl) ?_
              refine lv_icmp_ne (tgt := 82) hx hb dX1_isOffsetRight_75 (by decide) (fun c_75 => ?_) (fun c_75 => ?_)
              ·
                refine lv_iconst (v := (0 : Int32)) hx hb dX1_isOffsetRight_82 (by decide) ?_
                exact q_zret (()) hx hb hr rfl hlocks hK hP hD hS ((bI_f (jr_f (fun h => h.2.2.elim (fun h => n_65 h) (fun h => c_75 h)))).symm) (rfl) dX1_isOffsetRight_83
              ·
                refine lv_iconst (v := (1 : Int32)) hx hb dX1_isOffsetRight_78 (by decide) ?_
                refine lv_goto (tgt := 83) hx hb dX1_isOffsetRight_79 (by decide) ?_
                exact q_zret (()) hx hb hr rfl hlocks hK hP hD hS ((bI_t (jr_t ⟨Or.inl ⟨n_1, z_eq c_37 c_48⟩, (by rw [z_eq c_37 c_48]; exact nI_pos' (by omega)), Or.inr c_75⟩)).symm) (rfl) dX1_isOffsetRight_83

set_option maxHeartbeats 8000000 in
set_option maxRecDepth 100000 in
theorem k1_firstFault (l : Launch) (D : va_G) (cI cZ cL : ClassId) (g : Nat → Nat) (go : Nat → Int32) (gt : Nat → Int32) (N : Nat) (m : Nat) (hN : N ≤ 24) (hm : m ≤ 160) : McI l D (tY cI cZ cL) yX1_firstFault wsX1_firstFault 1 26 [.ref (g 0), .int (nI N), .int (nI m)] ([wG cI g go gt]) (fun r (_ : Unit) => r = jdR N m go gt) (fun (_ : Unit) => [wG cI g go gt]) := by
  refine q_ofW (Qc := fun A => (va_Qi (fun r (_ : Unit) => r = jdR N m go gt) (fun u t => mAt D (tY cI cZ cL) A ((fun (_ : Unit) => [wG cI g go gt]) u) t) A)) (cc := cX1_firstFault) (maxL := 4) (ret := (some .int)) (by decide) rfl (Nat.le_of_ble_eq_true rfl) ?_
  intro pz ez sz mz bz tz cz hx hb hml hr hlocks hts hown hK hP A hD hA ls hl
  have hS : va_S A sz.heap sz.heap [] := va_S.rf
  have hl : lv_has ls 4 [(0, .ref (g 0)), (1, .int (nI N)), (2, .int (nI m))] := hl
  refine lv_iconst (v := (0 : Int32)) hx hb dX1_firstFault_0 (by decide) ?_
  refine lv_istore_n (lv' := [(3, .int (0 : Int32)), (0, .ref (g 0)), (1, .int (nI N)), (2, .int (nI m))]) hx hb dX1_firstFault_1 rfl hl (by decide) rfl (fun ls hl => ?_)
  have loop_2 : ∀ (k_2 i : Nat), i ≤ N + 1 → N + 1 < i + k_2 → (j1A N m go = fsv (jgB N m go) j1V (N + 1 - i) i) → ∀ (H : Heap) (locs : List Loc), va_P D vwCl (List.flatten [wG cI g go gt]) H → va_D A (List.flatten [wG cI g go gt]) → va_S A sz.heap H locs → ∀ (ls : Array Slot), lv_has ls 4 [(3, .int (nI i)), (0, .ref (g 0)), (1, .int (nI N)), (2, .int (nI m))] → W pz l ez (rM 1 26) sz mz [.ref (g 0), .int (nI N), .int (nI m)].toArray bz tz cz H locs 0 0 (MQ bz (va_Qi (fun r (_ : Unit) => r = jdR N m go gt) (fun u t => mAt D (tY cI cZ cL) A ((fun (_ : Unit) => [wG cI g go gt]) u) t) A) [.ref (g 0), .int (nI N), .int (nI m)].toArray sz 0 0 A) (F0 mz 2 ls [])  := by
    intro k_2
    induction k_2 with
    | zero => intro i hi_2 hk_2; exact absurd hk_2 (by omega)
    | succ k_2 ih_2 =>
      intro i hi_2 hk_2 hinv H locs hP hD hS ls hl
      refine lv_iload_n hx hb dX1_firstFault_2 rfl (lv_at hl 0 rfl) ?_
      refine lv_iload_n hx hb dX1_firstFault_3 rfl (lv_at hl 2 rfl) ?_
      refine lv_icmp_gt (tgt := 27) hx hb dX1_firstFault_4 (by decide) (fun c_4 => ?_) (fun c_4 => ?_)
      ·
        have n_4 : N < i := (nI_ltI (a := N) (b := i) (by omega) (by omega)).mp c_4
        have hj1 : j1A N m go = -1 := by rw [hinv, fsv_end (by omega)]
        refine lv_iconst (v := (0 : Int32)) hx hb dX1_firstFault_27 (by decide) ?_
        refine lv_istore_n (lv' := [(3, .int (0 : Int32)), (0, .ref (g 0)), (1, .int (nI N)), (2, .int (nI m))]) hx hb dX1_firstFault_28 rfl hl (by decide) rfl (fun ls hl => ?_)
        have loop_29 : ∀ (k_29 t : Nat), t ≤ m → m < t + k_29 → (j2A N m gt = fsv (jtB N gt) j2V (m - t) t) → ∀ (H : Heap) (locs : List Loc), va_P D vwCl (List.flatten [wG cI g go gt]) H → va_D A (List.flatten [wG cI g go gt]) → va_S A sz.heap H locs → ∀ (ls : Array Slot), lv_has ls 4 [(3, .int (nI t)), (0, .ref (g 0)), (1, .int (nI N)), (2, .int (nI m))] → W pz l ez (rM 1 26) sz mz [.ref (g 0), .int (nI N), .int (nI m)].toArray bz tz cz H locs 0 0 (MQ bz (va_Qi (fun r (_ : Unit) => r = jdR N m go gt) (fun u t => mAt D (tY cI cZ cL) A ((fun (_ : Unit) => [wG cI g go gt]) u) t) A) [.ref (g 0), .int (nI N), .int (nI m)].toArray sz 0 0 A) (F0 mz 29 ls [])  := by
          intro k_29
          induction k_29 with
          | zero => intro t hi_29 hk_29; exact absurd hk_29 (by omega)
          | succ k_29 ih_29 =>
            intro t hi_29 hk_29 hin2 H locs hP hD hS ls hl
            refine lv_iload_n hx hb dX1_firstFault_29 rfl (lv_at hl 0 rfl) ?_
            refine lv_iload_n hx hb dX1_firstFault_30 rfl (lv_at hl 3 rfl) ?_
            refine lv_icmp_ge (tgt := 64) hx hb dX1_firstFault_31 (by decide) (fun c_31 => ?_) (fun c_31 => ?_)
            ·
              have n_31 : m ≤ t := (nI_leI (a := m) (b := t) (by omega) (by omega)).mp c_31
              refine lv_iconst (v := (0 : Int32)) hx hb dX1_firstFault_64 (by decide) ?_
              exact q_iret (()) hx hb hr hlocks hK hP hD hS (by rw [jdR, if_pos hj1, hin2, fsv_end (by omega), if_pos rfl]) (rfl) dX1_firstFault_65
            ·
              have n_31 : ¬ m ≤ t := fun h9 => c_31 ((nI_leI (a := m) (b := t) (by omega) (by omega)).mpr h9)
              refine lv_aload_n hx hb dX1_firstFault_34 rfl (lv_at hl 1 rfl) ?_
              refine q_get (D := D) (ci := 1) (v := .ref (g 2)) (C := RX1) (T := TX1) (N := 2) hx hb hts (by decide +kernel) hown hK hP 0 0 rfl rfl rfl 1 (by decide) (hts (.fieldLink RX1 15 "OffsetRows$Given" "targets" "[I") (by decide +kernel)) (fun _ h9 => h9) rfl dX1_firstFault_35 ?_
              refine lv_iload_n hx hb dX1_firstFault_38 rfl (lv_at hl 0 rfl) ?_
              refine q_iald hx hb hK hP 0 2 0 rfl (f := gt) rfl rfl (k := t) (nI_clamp (n := t) (by omega)) (vp_in_nI (show t < 160 from by omega) (by omega)) dX1_firstFault_39 ?_
              refine lv_if_lt (tgt := 53) hx hb dX1_firstFault_40 (by decide) (fun c_40 => ?_) (fun c_40 => ?_)
              ·
                refine lv_bipush (v := (100 : Int32)) hx hb dX1_firstFault_53 (by decide) ?_
                refine lv_iload_n hx hb dX1_firstFault_55 rfl (lv_at hl 0 rfl) ?_
                refine q_iadd (z := nI (100 + t)) hx hb dX1_firstFault_56 (nI_add 100 t) ?_
                exact q_iret (()) hx hb hr hlocks hK hP hD hS (by rw [jdR, if_pos hj1, hin2, fsv_yes (by omega) (by simp [jtB, hasB, c_40]), if_neg (show ¬ j2V t = -1 from nI_ne_m1 (by omega))]; rfl) (rfl) dX1_firstFault_57
              ·
                refine lv_aload_n hx hb dX1_firstFault_43 rfl (lv_at hl 1 rfl) ?_
                refine q_get (D := D) (ci := 1) (v := .ref (g 2)) (C := RX1) (T := TX1) (N := 2) hx hb hts (by decide +kernel) hown hK hP 0 0 rfl rfl rfl 1 (by decide) (hts (.fieldLink RX1 15 "OffsetRows$Given" "targets" "[I") (by decide +kernel)) (fun _ h9 => h9) rfl dX1_firstFault_44 ?_
                refine lv_iload_n hx hb dX1_firstFault_47 rfl (lv_at hl 0 rfl) ?_
                refine q_iald hx hb hK hP 0 2 0 rfl (f := gt) rfl rfl (k := t) (nI_clamp (n := t) (by omega)) (vp_in_nI (show t < 160 from by omega) (by omega)) dX1_firstFault_48 ?_
                refine lv_iload_n hx hb dX1_firstFault_49 rfl (lv_at hl 2 rfl) ?_
                refine lv_icmp_lt (tgt := 58) hx hb dX1_firstFault_50 (by decide) (fun c_50 => ?_) (fun c_50 => ?_)
                ·
                  refine lv_iinc (v := nI (t + 1)) (lv' := [(3, .int (nI (t + 1))), (0, .ref (g 0)), (1, .int (nI N)), (2, .int (nI m))]) hx hb dX1_firstFault_58 hl (k := 0) rfl (nI_add t 1) (by decide) rfl (fun ls hl => ?_)
                  refine lv_goto (tgt := 29) hx hb dX1_firstFault_61 (by decide) ?_
                  have hl : lv_has ls 4 [(3, .int (nI (t + 1))), (0, .ref (g 0)), (1, .int (nI N)), (2, .int (nI m))] := lv_sub hl [0, 1, 2, 3] rfl
                  have hP : va_P D vwCl (List.flatten [wG cI g go gt]) _ := hP
                  have hD : va_D A (List.flatten [wG cI g go gt]) := hD
                  exact ih_29 (t + 1) (by omega) (by omega) (hin2.trans (fsv_no (by omega) (by simp [jtB, hasB, c_40, k2_nle c_50]))) _ _ hP hD hS _ hl
                ·
                  refine lv_bipush (v := (100 : Int32)) hx hb dX1_firstFault_53 (by decide) ?_
                  refine lv_iload_n hx hb dX1_firstFault_55 rfl (lv_at hl 0 rfl) ?_
                  refine q_iadd (z := nI (100 + t)) hx hb dX1_firstFault_56 (nI_add 100 t) ?_
                  exact q_iret (()) hx hb hr hlocks hK hP hD hS (by rw [jdR, if_pos hj1, hin2, fsv_yes (by omega) (by simp [jtB, hasB, k2_le c_50]), if_neg (show ¬ j2V t = -1 from nI_ne_m1 (by omega))]; rfl) (rfl) dX1_firstFault_57
        have hl : lv_has ls 4 [(3, .int (nI 0)), (0, .ref (g 0)), (1, .int (nI N)), (2, .int (nI m))] := lv_sub hl [0, 1, 2, 3] rfl
        have hP : va_P D vwCl (List.flatten [wG cI g go gt]) _ := hP
        have hD : va_D A (List.flatten [wG cI g go gt]) := hD
        exact loop_29 (m + 1) 0 (by omega) (by omega) rfl _ _ hP hD hS _ hl
      ·
        have n_4 : ¬ N < i := fun h9 => c_4 ((nI_ltI (a := N) (b := i) (by omega) (by omega)).mpr h9)
        refine lv_aload_n hx hb dX1_firstFault_7 rfl (lv_at hl 1 rfl) ?_
        refine lv_iload_n hx hb dX1_firstFault_8 rfl (lv_at hl 0 rfl) ?_
        refine lv_iload_n hx hb dX1_firstFault_9 rfl (lv_at hl 2 rfl) ?_
        refine lv_iload_n hx hb dX1_firstFault_10 rfl (lv_at hl 3 rfl) ?_
        refine q_callVi (index := 18) (n := 3) (As := [.int (nI i), .int (nI N), .int (nI m)]) (rest := []) (js := [0]) (ci := 1) ⟨hx, hb, hml, hown, hts⟩ hK hP hD hS hA (k1_isOffsetRight l D cI cZ cL g go gt i N m (by omega) (by omega) (by omega)) rfl (by decide) (fun _ => by simp only [List.map_cons, List.map_nil, wG_fst]) (fun (_ : Unit) => [wG cI g go gt]) (fun _ => rfl) gX1_firstFault_X1_isOffsetRight rfl (by decide +kernel) rfl ⟨by decide, by decide⟩ rfl rfl rfl rfl hl.1 (Nat.le_of_ble_eq_true rfl) ⟨(Nat.zero_le _), (Nat.zero_le _)⟩ dX1_firstFault_11 rfl (fun r _ H locs hw hP hD hS => ?_)
        have hw : r = bI (jrB N m go i) := hw
        subst hw
        refine lv_if_ne (tgt := 21) hx hb dX1_firstFault_14 (by decide) (fun c_14 => ?_) (fun c_14 => ?_)
        ·
          have n_14 : (jrB N m go i) = true := bI_n.mp c_14
          refine lv_iinc (v := nI (i + 1)) (lv' := [(3, .int (nI (i + 1))), (0, .ref (g 0)), (1, .int (nI N)), (2, .int (nI m))]) hx hb dX1_firstFault_21 hl (k := 0) rfl (nI_add i 1) (by decide) rfl (fun ls hl => ?_)
          refine lv_goto (tgt := 2) hx hb dX1_firstFault_24 (by decide) ?_
          have hl : lv_has ls 4 [(3, .int (nI (i + 1))), (0, .ref (g 0)), (1, .int (nI N)), (2, .int (nI m))] := lv_sub hl [0, 1, 2, 3] rfl
          have hP : va_P D vwCl (List.flatten [wG cI g go gt]) _ := hP
          have hD : va_D A (List.flatten [wG cI g go gt]) := hD
          exact ih_2 (i + 1) (by omega) (by omega) (hinv.trans (fsv_no (by omega) (by simpa [jrB] using n_14))) _ _ hP hD hS _ hl
        ·
          have n_14 : (jrB N m go i) = false := bI_0.mp c_14
          refine lv_iconst (v := (1 : Int32)) hx hb dX1_firstFault_17 (by decide) ?_
          refine lv_iload_n hx hb dX1_firstFault_18 rfl (lv_at hl 0 rfl) ?_
          refine q_iadd (z := nI (1 + i)) hx hb dX1_firstFault_19 (nI_add 1 i) ?_
          exact q_iret (()) hx hb hr hlocks hK hP hD hS (by rw [jdR, hinv, fsv_yes (by omega) (by simpa [jrB] using n_14), if_neg (show ¬ j1V i = -1 from nI_ne_m1 (by omega))]; rfl) (rfl) dX1_firstFault_20
  have hl : lv_has ls 4 [(3, .int (nI 0)), (0, .ref (g 0)), (1, .int (nI N)), (2, .int (nI m))] := lv_sub hl [0, 1, 2, 3] rfl
  have hP : va_P D vwCl (List.flatten [wG cI g go gt]) _ := hP
  have hD : va_D A (List.flatten [wG cI g go gt]) := hD
  exact loop_2 ((N + 1) + 1) 0 (by omega) (by omega) rfl _ _ hP hD hS _ hl

set_option maxHeartbeats 8000000 in
set_option maxRecDepth 100000 in
theorem k1_fill (l : Launch) (D : va_G) (cI cZ cL : ClassId) (g : Nat → Nat) (go : Nat → Int32) (gt : Nat → Int32) (a : Nat → Nat) (c : Nat) (fr : Nat → Int32) (tt : Nat → Int32) (sa : Nat → Int32) (tk : Nat → Int32) (N : Nat) (m : Nat) (gN : Nat → Nat) (hN : N ≤ 24) (hm : m ≤ 160) (hg : ∀ i, i ≤ N → go i = nI (gN i) ∧ gN i ≤ m) (hg0 : gN 0 = 0) (hmo : ∀ i, i < N → gN i ≤ gN (i + 1)) (hgN : gN N = m) : McV l D (tY cI cZ cL) yX1_fill wsX1_fill 1 24 [.ref (g 0), .ref (a 0), .int (nI N)] ([wG cI g go gt, wA cI cZ a c fr tt sa tk]) (fun (_ : Unit) => True) (fun (_ : Unit) => [wG cI g go gt, wA cI cZ a m (pfx (loV N go) fr (m)) (pfx gt tt (m)) (pfx (fun _ => 1) sa (m)) (pfx (fun _ => 0) tk (m))]) := by
  refine q_ofW (Qc := fun A => (va_Qv (fun (_ : Unit) => True) (fun u t => mAt D (tY cI cZ cL) A ((fun (_ : Unit) => [wG cI g go gt, wA cI cZ a m (pfx (loV N go) fr (m)) (pfx gt tt (m)) (pfx (fun _ => 1) sa (m)) (pfx (fun _ => 0) tk (m))]) u) t) A)) (cc := cX1_fill) (maxL := 5) (ret := none) (by decide) rfl (Nat.le_of_ble_eq_true rfl) ?_
  intro pz ez sz mz bz tz cz hx hb hml hr hlocks hts hown hK hP A hD hA ls hl
  have hS : va_S A sz.heap sz.heap [] := va_S.rf
  have hl : lv_has ls 5 [(0, .ref (g 0)), (1, .ref (a 0)), (2, .int (nI N))] := hl
  refine lv_aload_n hx hb dX1_fill_0 rfl (lv_at hl 1 rfl) ?_
  refine lv_iconst (v := (0 : Int32)) hx hb dX1_fill_1 (by decide) ?_
  refine q_put (D := D) (ci := 0) (v := .int (nI 0)) (ty := .int) (C := RX0) (T := TX0) (N := 5) hx hb hts (by decide +kernel) tyX0 tyX0_ok nmX0 hown hK hP hD hS 1 0 rfl rfl rfl 4 (by decide) (hts (.fieldLink RX1 22 "OffsetRows$ArcList" "count" "I") (by decide +kernel)) (fun _ h9 => h9) rfl (by decide +kernel) rfl rfl (Nat.le_of_ble_eq_true rfl) dX1_fill_2 (wA_s_c (g9 := 0)) (Fs' := [wG cI g go gt, wA cI cZ a 0 fr tt sa tk]) rfl (fun H locs hP hD hS => ?_)
  refine lv_iconst (v := (0 : Int32)) hx hb dX1_fill_5 (by decide) ?_
  refine lv_istore_n (lv' := [(3, .int (0 : Int32)), (0, .ref (g 0)), (1, .ref (a 0)), (2, .int (nI N))]) hx hb dX1_fill_6 rfl hl (by decide) rfl (fun ls hl => ?_)
  have loop_7 : ∀ (k_7 v : Nat), v ≤ N → N < v + k_7 → ∀ (H : Heap) (locs : List Loc), va_P D vwCl (List.flatten [wG cI g go gt, wA cI cZ a (gN v) (pfx (loV N go) fr (gN v)) (pfx gt tt (gN v)) (pfx (fun _ => 1) sa (gN v)) (pfx (fun _ => 0) tk (gN v))]) H → va_D A (List.flatten [wG cI g go gt, wA cI cZ a (gN v) (pfx (loV N go) fr (gN v)) (pfx gt tt (gN v)) (pfx (fun _ => 1) sa (gN v)) (pfx (fun _ => 0) tk (gN v))]) → va_S A sz.heap H locs → ∀ (ls : Array Slot), lv_has ls 5 [(3, .int (nI v)), (0, .ref (g 0)), (1, .ref (a 0)), (2, .int (nI N))] → W pz l ez (rM 1 24) sz mz [.ref (g 0), .ref (a 0), .int (nI N)].toArray bz tz cz H locs 0 0 (MQ bz (va_Qv (fun (_ : Unit) => True) (fun u t => mAt D (tY cI cZ cL) A ((fun (_ : Unit) => [wG cI g go gt, wA cI cZ a m (pfx (loV N go) fr (m)) (pfx gt tt (m)) (pfx (fun _ => 1) sa (m)) (pfx (fun _ => 0) tk (m))]) u) t) A) [.ref (g 0), .ref (a 0), .int (nI N)].toArray sz 0 0 A) (F0 mz 7 ls [])  := by
    intro k_7
    induction k_7 with
    | zero => intro v hi_7 hk_7; exact absurd hk_7 (by omega)
    | succ k_7 ih_7 =>
      intro v hi_7 hk_7 H locs hP hD hS ls hl
      refine lv_iload_n hx hb dX1_fill_7 rfl (lv_at hl 0 rfl) ?_
      refine lv_iload_n hx hb dX1_fill_8 rfl (lv_at hl 3 rfl) ?_
      refine lv_icmp_ge (tgt := 59) hx hb dX1_fill_9 (by decide) (fun c_9 => ?_) (fun c_9 => ?_)
      ·
        have n_9 : N ≤ v := (nI_leI (a := N) (b := v) (by omega) (by omega)).mp c_9
        exact q_vret (()) hx hb hr hlocks hK hP hD hS (trivial) (by rw [show v = N by omega, hgN]) dX1_fill_59
      ·
        have n_9 : ¬ N ≤ v := fun h9 => c_9 ((nI_leI (a := N) (b := v) (by omega) (by omega)).mpr h9)
        have hmv := hmo v (by omega)
        have hgv := (hg v (by omega)).2
        have hgw := (hg (v + 1) (by omega)).2
        refine lv_aload_n hx hb dX1_fill_12 rfl (lv_at hl 1 rfl) ?_
        refine q_get (D := D) (ci := 1) (v := .ref (g 1)) (C := RX1) (T := TX1) (N := 2) hx hb hts (by decide +kernel) hown hK hP 0 0 rfl rfl rfl 0 (by decide) (hts (.fieldLink RX1 9 "OffsetRows$Given" "offsets" "[I") (by decide +kernel)) (fun _ h9 => h9) rfl dX1_fill_13 ?_
        refine lv_iload_n hx hb dX1_fill_16 rfl (lv_at hl 0 rfl) ?_
        refine q_iald hx hb hK hP 0 1 0 rfl (f := go) rfl rfl (k := v) (nI_clamp (n := v) (by omega)) (vp_in_nI (show v < 25 from by omega) (by omega)) dX1_fill_17 ?_
        refine q_top (z := nI (gN v)) ((hg v (by omega)).1) ?_
        refine lv_istore (lv' := [(4, .int (nI (gN v))), (3, .int (nI v)), (0, .ref (g 0)), (1, .ref (a 0)), (2, .int (nI N))]) hx hb dX1_fill_18 hl (by decide) rfl (fun ls hl => ?_)
        have loop_20 : ∀ (k_20 t : Nat), t ≤ gN (v + 1) → gN (v + 1) < t + k_20 → (gN v ≤ t) → ∀ (H : Heap) (locs : List Loc), va_P D vwCl (List.flatten [wG cI g go gt, wA cI cZ a t (pfx (loV N go) fr (t)) (pfx gt tt (t)) (pfx (fun _ => 1) sa (t)) (pfx (fun _ => 0) tk (t))]) H → va_D A (List.flatten [wG cI g go gt, wA cI cZ a t (pfx (loV N go) fr (t)) (pfx gt tt (t)) (pfx (fun _ => 1) sa (t)) (pfx (fun _ => 0) tk (t))]) → va_S A sz.heap H locs → ∀ (ls : Array Slot), lv_has ls 5 [(4, .int (nI t)), (3, .int (nI v)), (0, .ref (g 0)), (1, .ref (a 0)), (2, .int (nI N))] → W pz l ez (rM 1 24) sz mz [.ref (g 0), .ref (a 0), .int (nI N)].toArray bz tz cz H locs 0 0 (MQ bz (va_Qv (fun (_ : Unit) => True) (fun u t => mAt D (tY cI cZ cL) A ((fun (_ : Unit) => [wG cI g go gt, wA cI cZ a m (pfx (loV N go) fr (m)) (pfx gt tt (m)) (pfx (fun _ => 1) sa (m)) (pfx (fun _ => 0) tk (m))]) u) t) A) [.ref (g 0), .ref (a 0), .int (nI N)].toArray sz 0 0 A) (F0 mz 20 ls [])  := by
          intro k_20
          induction k_20 with
          | zero => intro t hi_20 hk_20; exact absurd hk_20 (by omega)
          | succ k_20 ih_20 =>
            intro t hi_20 hk_20 hlo H locs hP hD hS ls hl
            refine lv_iload hx hb dX1_fill_20 (lv_at hl 0 rfl) ?_
            refine lv_aload_n hx hb dX1_fill_22 rfl (lv_at hl 2 rfl) ?_
            refine q_get (D := D) (ci := 1) (v := .ref (g 1)) (C := RX1) (T := TX1) (N := 2) hx hb hts (by decide +kernel) hown hK hP 0 0 rfl rfl rfl 0 (by decide) (hts (.fieldLink RX1 9 "OffsetRows$Given" "offsets" "[I") (by decide +kernel)) (fun _ h9 => h9) rfl dX1_fill_23 ?_
            refine lv_iload_n hx hb dX1_fill_26 rfl (lv_at hl 1 rfl) ?_
            refine lv_iconst (v := (1 : Int32)) hx hb dX1_fill_27 (by decide) ?_
            refine q_iadd (z := nI (v + 1)) hx hb dX1_fill_28 (nI_add v 1) ?_
            refine q_iald hx hb hK hP 0 1 0 rfl (f := go) rfl rfl (k := v + 1) (nI_clamp (n := v + 1) (by omega)) (vp_in_nI (show v + 1 < 25 from by omega) (by omega)) dX1_fill_29 ?_
            refine q_top (z := nI (gN (v + 1))) ((hg (v + 1) (by omega)).1) ?_
            refine lv_icmp_ge (tgt := 53) hx hb dX1_fill_30 (by decide) (fun c_30 => ?_) (fun c_30 => ?_)
            ·
              have n_30 : (gN (v + 1)) ≤ t := (nI_leI (a := gN (v + 1)) (b := t) (by omega) (by omega)).mp c_30
              refine lv_iinc (v := nI (v + 1)) (lv' := [(3, .int (nI (v + 1))), (4, .int (nI t)), (0, .ref (g 0)), (1, .ref (a 0)), (2, .int (nI N))]) hx hb dX1_fill_53 hl (k := 1) rfl (nI_add v 1) (by decide) rfl (fun ls hl => ?_)
              refine lv_goto (tgt := 7) hx hb dX1_fill_56 (by decide) ?_
              have hl : lv_has ls 5 [(3, .int (nI (v + 1))), (0, .ref (g 0)), (1, .ref (a 0)), (2, .int (nI N))] := lv_sub hl [0, 2, 3, 4] rfl
              have hq0 : t = gN (v + 1) := by omega
              have hq1 : pfx (loV N go) fr (t) = pfx (loV N go) fr (gN (v + 1)) := by rw [show t = gN (v + 1) by omega]
              have hq2 : pfx gt tt (t) = pfx gt tt (gN (v + 1)) := by rw [show t = gN (v + 1) by omega]
              have hq3 : pfx (fun _ => 1) sa (t) = pfx (fun _ => 1) sa (gN (v + 1)) := by rw [show t = gN (v + 1) by omega]
              have hq4 : pfx (fun _ => 0) tk (t) = pfx (fun _ => 0) tk (gN (v + 1)) := by rw [show t = gN (v + 1) by omega]
              have hP : va_P D vwCl (List.flatten [wG cI g go gt, wA cI cZ a (gN (v + 1)) (pfx (loV N go) fr (gN (v + 1))) (pfx gt tt (gN (v + 1))) (pfx (fun _ => 1) sa (gN (v + 1))) (pfx (fun _ => 0) tk (gN (v + 1)))]) _ := wCast hP (by rw [← hq3, ← hq4, ← hq1, ← hq2, ← hq0])
              have hD : va_D A (List.flatten [wG cI g go gt, wA cI cZ a (gN (v + 1)) (pfx (loV N go) fr (gN (v + 1))) (pfx gt tt (gN (v + 1))) (pfx (fun _ => 1) sa (gN (v + 1))) (pfx (fun _ => 0) tk (gN (v + 1)))]) := dCast hD (by rw [← hq3, ← hq4, ← hq1, ← hq2, ← hq0])
              exact ih_7 (v + 1) (by omega) (by omega) _ _ hP hD hS _ hl
            ·
              have n_30 : ¬ (gN (v + 1)) ≤ t := fun h9 => c_30 ((nI_leI (a := gN (v + 1)) (b := t) (by omega) (by omega)).mpr h9)
              refine lv_aload_n hx hb dX1_fill_33 rfl (lv_at hl 3 rfl) ?_
              refine lv_iload_n hx hb dX1_fill_34 rfl (lv_at hl 1 rfl) ?_
              refine lv_aload_n hx hb dX1_fill_35 rfl (lv_at hl 2 rfl) ?_
              refine q_get (D := D) (ci := 1) (v := .ref (g 2)) (C := RX1) (T := TX1) (N := 2) hx hb hts (by decide +kernel) hown hK hP 0 0 rfl rfl rfl 1 (by decide) (hts (.fieldLink RX1 15 "OffsetRows$Given" "targets" "[I") (by decide +kernel)) (fun _ h9 => h9) rfl dX1_fill_36 ?_
              refine lv_iload hx hb dX1_fill_39 (lv_at hl 0 rfl) ?_
              refine q_iald hx hb hK hP 0 2 0 rfl (f := gt) rfl rfl (k := t) (nI_clamp (n := t) (by omega)) (vp_in_nI (show t < 160 from by omega) (by omega)) dX1_fill_41 ?_
              refine lv_iconst (v := (1 : Int32)) hx hb dX1_fill_42 (by decide) ?_
              refine q_callVi (index := 28) (n := 3) (As := [.int (nI v), .int (gt t), .int (1 : Int32)]) (rest := []) (js := [1]) (ci := 0) ⟨hx, hb, hml, hown, hts⟩ hK hP hD hS hA (k0_append l D cI cZ cL a t (pfx (loV N go) fr (t)) (pfx gt tt (t)) (pfx (fun _ => 1) sa (t)) (pfx (fun _ => 0) tk (t)) (nI v) (gt t) (1 : Int32) (by omega)) rfl (by decide) (fun _ => by simp only [List.map_cons, List.map_nil, wA_fst]) (fun (_ : Unit) => [wG cI g go gt, wA cI cZ a (apC t) (apF t (pfx (loV N go) fr (t)) (nI v)) (apF t (pfx gt tt (t)) (gt t)) (apF t (pfx (fun _ => 1) sa (t)) (1 : Int32)) (apF t (pfx (fun _ => 0) tk (t)) 0)]) (fun _ => rfl) gX1_fill_X0_append rfl (by decide +kernel) rfl ⟨by decide, by decide⟩ rfl rfl rfl rfl hl.1 (Nat.le_of_ble_eq_true rfl) ⟨(Nat.zero_le _), (Nat.zero_le _)⟩ dX1_fill_43 rfl (fun r _ H locs hw hP hD hS => ?_)
              have hw : r = apR t := hw
              subst hw
              have hP : va_P D vwCl (List.flatten [wG cI g go gt, wA cI cZ a (t + 1) (pfx (loV N go) fr (t + 1)) (pfx gt tt (t + 1)) (pfx (fun _ => 1) sa (t + 1)) (pfx (fun _ => 0) tk (t + 1))]) _ := wCast hP (by rw [apC_t (by omega), apF_t (v := loV N go) (by omega) (loV_at hN hm hg hmo (by omega) hlo (by omega)), apF_t (v := gt) (by omega) rfl, apF_t (v := fun _ => 1) (by omega) rfl, apF_t (v := fun _ => 0) (by omega) rfl])
              have hD : va_D A (List.flatten [wG cI g go gt, wA cI cZ a (t + 1) (pfx (loV N go) fr (t + 1)) (pfx gt tt (t + 1)) (pfx (fun _ => 1) sa (t + 1)) (pfx (fun _ => 0) tk (t + 1))]) := dCast hD (by rw [apC_t (by omega), apF_t (v := loV N go) (by omega) (loV_at hN hm hg hmo (by omega) hlo (by omega)), apF_t (v := gt) (by omega) rfl, apF_t (v := fun _ => 1) (by omega) rfl, apF_t (v := fun _ => 0) (by omega) rfl])
              refine lv_pop hx hb dX1_fill_46 rfl ?_
              refine lv_iinc (v := nI (t + 1)) (lv' := [(4, .int (nI (t + 1))), (3, .int (nI v)), (0, .ref (g 0)), (1, .ref (a 0)), (2, .int (nI N))]) hx hb dX1_fill_47 hl (k := 0) rfl (nI_add t 1) (by decide) rfl (fun ls hl => ?_)
              refine lv_goto (tgt := 20) hx hb dX1_fill_50 (by decide) ?_
              have hl : lv_has ls 5 [(4, .int (nI (t + 1))), (3, .int (nI v)), (0, .ref (g 0)), (1, .ref (a 0)), (2, .int (nI N))] := lv_sub hl [0, 1, 2, 3, 4] rfl
              have hq0 : t + 1 = (t + 1) := by first | rfl | simp [c_9, n_9, hlo, c_30, n_30]
              have hq1 : pfx (loV N go) fr (t + 1) = pfx (loV N go) fr ((t + 1)) := by first | rfl | simp [c_9, n_9, hlo, c_30, n_30]
              have hq2 : pfx gt tt (t + 1) = pfx gt tt ((t + 1)) := by first | rfl | simp [c_9, n_9, hlo, c_30, n_30]
              have hq3 : pfx (fun _ => 1) sa (t + 1) = pfx (fun _ => 1) sa ((t + 1)) := by first | rfl | simp [c_9, n_9, hlo, c_30, n_30]
              have hq4 : pfx (fun _ => 0) tk (t + 1) = pfx (fun _ => 0) tk ((t + 1)) := by first | rfl | simp [c_9, n_9, hlo, c_30, n_30]
              have hP : va_P D vwCl (List.flatten [wG cI g go gt, wA cI cZ a (t + 1) (pfx (loV N go) fr ((t + 1))) (pfx gt tt ((t + 1))) (pfx (fun _ => 1) sa ((t + 1))) (pfx (fun _ => 0) tk ((t + 1)))]) _ := wCast hP (by rw [← hq3, ← hq4, ← hq1, ← hq2, ← hq0])
              have hD : va_D A (List.flatten [wG cI g go gt, wA cI cZ a (t + 1) (pfx (loV N go) fr ((t + 1))) (pfx gt tt ((t + 1))) (pfx (fun _ => 1) sa ((t + 1))) (pfx (fun _ => 0) tk ((t + 1)))]) := dCast hD (by rw [← hq3, ← hq4, ← hq1, ← hq2, ← hq0])
              exact ih_20 (t + 1) (by omega) (by omega) (by omega) _ _ hP hD hS _ hl
        have hl : lv_has ls 5 [(4, .int (nI (gN v))), (3, .int (nI v)), (0, .ref (g 0)), (1, .ref (a 0)), (2, .int (nI N))] := lv_sub hl [0, 1, 2, 3, 4] rfl
        have hq0 : gN v = (gN v) := by first | rfl | simp [c_9, n_9]
        have hq1 : pfx (loV N go) fr (gN v) = pfx (loV N go) fr ((gN v)) := by first | rfl | simp [c_9, n_9]
        have hq2 : pfx gt tt (gN v) = pfx gt tt ((gN v)) := by first | rfl | simp [c_9, n_9]
        have hq3 : pfx (fun _ => 1) sa (gN v) = pfx (fun _ => 1) sa ((gN v)) := by first | rfl | simp [c_9, n_9]
        have hq4 : pfx (fun _ => 0) tk (gN v) = pfx (fun _ => 0) tk ((gN v)) := by first | rfl | simp [c_9, n_9]
        have hP : va_P D vwCl (List.flatten [wG cI g go gt, wA cI cZ a (gN v) (pfx (loV N go) fr ((gN v))) (pfx gt tt ((gN v))) (pfx (fun _ => 1) sa ((gN v))) (pfx (fun _ => 0) tk ((gN v)))]) _ := wCast hP (by rw [← hq3, ← hq4, ← hq1, ← hq2, ← hq0])
        have hD : va_D A (List.flatten [wG cI g go gt, wA cI cZ a (gN v) (pfx (loV N go) fr ((gN v))) (pfx gt tt ((gN v))) (pfx (fun _ => 1) sa ((gN v))) (pfx (fun _ => 0) tk ((gN v)))]) := dCast hD (by rw [← hq3, ← hq4, ← hq1, ← hq2, ← hq0])
        exact loop_20 ((gN (v + 1)) + 1) (gN v) (by omega) (by omega) (by omega) _ _ hP hD hS _ hl
  have hl : lv_has ls 5 [(3, .int (nI 0)), (0, .ref (g 0)), (1, .ref (a 0)), (2, .int (nI N))] := lv_sub hl [0, 1, 2, 3] rfl
  have hq0 : 0 = gN 0 := hg0.symm
  have hq1 : fr = pfx (loV N go) fr (gN 0) := by rw [hg0, pfx_0]
  have hq2 : tt = pfx gt tt (gN 0) := by rw [hg0, pfx_0]
  have hq3 : sa = pfx (fun _ => 1) sa (gN 0) := by rw [hg0, pfx_0]
  have hq4 : tk = pfx (fun _ => 0) tk (gN 0) := by rw [hg0, pfx_0]
  have hP : va_P D vwCl (List.flatten [wG cI g go gt, wA cI cZ a (gN 0) (pfx (loV N go) fr (gN 0)) (pfx gt tt (gN 0)) (pfx (fun _ => 1) sa (gN 0)) (pfx (fun _ => 0) tk (gN 0))]) _ := wCast hP (by rw [← hq3, ← hq4, ← hq1, ← hq2, ← hq0])
  have hD : va_D A (List.flatten [wG cI g go gt, wA cI cZ a (gN 0) (pfx (loV N go) fr (gN 0)) (pfx gt tt (gN 0)) (pfx (fun _ => 1) sa (gN 0)) (pfx (fun _ => 0) tk (gN 0))]) := dCast hD (by rw [← hq3, ← hq4, ← hq1, ← hq2, ← hq0])
  exact loop_7 (N + 1) 0 (by omega) (by omega) _ _ hP hD hS _ hl

set_option maxHeartbeats 8000000 in
set_option maxRecDepth 100000 in
theorem kJ_filli (l : Launch) (D : va_G) (cI cZ cL : ClassId) (t1 : Nat) (n9 : Nat) (f9 : Nat → Int32) (x : Int32) (hn9 : n9 ≤ 1000) : McV l D (tY cI cZ cL) yJ7_fill_53178 wsJ7_fill_53178 0 0 [.ref t1, .int x] ([wT cI t1 n9 f9]) (fun (_ : Unit) => True) (fun (_ : Unit) => [wT cI t1 n9 (pfx (fun _ => x) f9 n9)]) := by
  refine q_ofW (Qc := fun A => (va_Qv (fun (_ : Unit) => True) (fun u t => mAt D (tY cI cZ cL) A ((fun (_ : Unit) => [wT cI t1 n9 (pfx (fun _ => x) f9 n9)]) u) t) A)) (cc := cJ7_fill_53178) (maxL := 4) (ret := none) (by decide) rfl (Nat.le_of_ble_eq_true rfl) ?_
  intro pz ez sz mz bz tz cz hx hb hml hr hlocks hts hown hK hP A hD hA ls hl
  have hS : va_S A sz.heap sz.heap [] := va_S.rf
  have hl : lv_has ls 4 [(0, .ref t1), (1, .int x)] := hl
  refine lv_iconst (v := (0 : Int32)) hx hb dJ7_fill_53178_0 (by decide) ?_
  refine lv_istore_n (lv' := [(2, .int (0 : Int32)), (0, .ref t1), (1, .int x)]) hx hb dJ7_fill_53178_1 rfl hl (by decide) rfl (fun ls hl => ?_)
  refine lv_aload_n hx hb dJ7_fill_53178_2 rfl (lv_at hl 1 rfl) ?_
  refine va_alen hx hb hK (fP hP (j := 0) rfl) 0 0 rfl rfl (v := nI n9) rfl dJ7_fill_53178_3 ?_
  refine lv_istore_n (lv' := [(3, .int (nI n9)), (2, .int (0 : Int32)), (0, .ref t1), (1, .int x)]) hx hb dJ7_fill_53178_4 rfl hl (by decide) rfl (fun ls hl => ?_)
  have loop_5 : ∀ (k_5 j : Nat), j ≤ n9 → n9 < j + k_5 → ∀ (H : Heap) (locs : List Loc), va_P D vwCl (List.flatten [wT cI t1 n9 (pfx (fun _ => x) f9 j)]) H → va_D A (List.flatten [wT cI t1 n9 (pfx (fun _ => x) f9 j)]) → va_S A sz.heap H locs → ∀ (ls : Array Slot), lv_has ls 4 [(3, .int (nI n9)), (2, .int (nI j)), (0, .ref t1), (1, .int x)] → W pz l ez (rM 0 0) sz mz [.ref t1, .int x].toArray bz tz cz H locs 0 0 (MQ bz (va_Qv (fun (_ : Unit) => True) (fun u t => mAt D (tY cI cZ cL) A ((fun (_ : Unit) => [wT cI t1 n9 (pfx (fun _ => x) f9 n9)]) u) t) A) [.ref t1, .int x].toArray sz 0 0 A) (F0 mz 5 ls [])  := by
    intro k_5
    induction k_5 with
    | zero => intro j hi_5 hk_5; exact absurd hk_5 (by omega)
    | succ k_5 ih_5 =>
      intro j hi_5 hk_5 H locs hP hD hS ls hl
      refine lv_iload_n hx hb dJ7_fill_53178_5 rfl (lv_at hl 1 rfl) ?_
      refine lv_iload_n hx hb dJ7_fill_53178_6 rfl (lv_at hl 0 rfl) ?_
      refine lv_icmp_ge (tgt := 20) hx hb dJ7_fill_53178_7 (by decide) (fun c_7 => ?_) (fun c_7 => ?_)
      ·
        have n_7 : n9 ≤ j := (nI_leI (a := n9) (b := j) (by omega) (by omega)).mp c_7
        exact q_vret (()) hx hb hr hlocks hK hP hD hS (trivial) (by rw [show j = n9 by omega]) dJ7_fill_53178_20
      ·
        have n_7 : ¬ n9 ≤ j := fun h9 => c_7 ((nI_leI (a := n9) (b := j) (by omega) (by omega)).mpr h9)
        refine lv_aload_n hx hb dJ7_fill_53178_10 rfl (lv_at hl 2 rfl) ?_
        refine lv_iload_n hx hb dJ7_fill_53178_11 rfl (lv_at hl 1 rfl) ?_
        refine lv_iload_n hx hb dJ7_fill_53178_12 rfl (lv_at hl 3 rfl) ?_
        refine q_iast hx hb hK hP hD hS 0 0 0 rfl (f := pfx (fun _ => x) f9 j) rfl rfl (k := j) (nI_clamp (n := j) (by omega)) (vp_in_nI (show j < n9 from by omega) (by omega)) dJ7_fill_53178_13 wT_s_tr (Fs' := [wT cI t1 n9 (upd (pfx (fun _ => x) f9 j) j x)]) rfl (fun H locs hP hD hS => ?_)
        have hP : va_P D vwCl (List.flatten [wT cI t1 n9 (pfx (fun _ => x) f9 (j + 1))]) _ := wCast hP (by rw [show upd (pfx (fun _ => x) f9 j) j x = pfx (fun _ => x) f9 (j + 1) from pfx_w rfl])
        have hD : va_D A (List.flatten [wT cI t1 n9 (pfx (fun _ => x) f9 (j + 1))]) := dCast hD (by rw [show upd (pfx (fun _ => x) f9 j) j x = pfx (fun _ => x) f9 (j + 1) from pfx_w rfl])
        refine lv_iinc (v := nI (j + 1)) (lv' := [(2, .int (nI (j + 1))), (3, .int (nI n9)), (0, .ref t1), (1, .int x)]) hx hb dJ7_fill_53178_14 hl (k := 1) rfl (nI_add j 1) (by decide) rfl (fun ls hl => ?_)
        refine lv_goto (tgt := 5) hx hb dJ7_fill_53178_17 (by decide) ?_
        have hl : lv_has ls 4 [(3, .int (nI n9)), (2, .int (nI (j + 1))), (0, .ref t1), (1, .int x)] := lv_sub hl [1, 0, 2, 3] rfl
        have hP : va_P D vwCl (List.flatten [wT cI t1 n9 (pfx (fun _ => x) f9 (j + 1))]) _ := hP
        have hD : va_D A (List.flatten [wT cI t1 n9 (pfx (fun _ => x) f9 (j + 1))]) := hD
        exact ih_5 (j + 1) (by omega) (by omega) _ _ hP hD hS _ hl
  have hl : lv_has ls 4 [(3, .int (nI n9)), (2, .int (nI 0)), (0, .ref t1), (1, .int x)] := lv_sub hl [0, 1, 2, 3] rfl
  have hq0 : f9 = pfx (fun _ => x) f9 0 := pfx_0.symm
  have hP : va_P D vwCl (List.flatten [wT cI t1 n9 (pfx (fun _ => x) f9 0)]) _ := wCast hP (by rw [← hq0])
  have hD : va_D A (List.flatten [wT cI t1 n9 (pfx (fun _ => x) f9 0)]) := dCast hD (by rw [← hq0])
  exact loop_5 (n9 + 1) 0 (by omega) (by omega) _ _ hP hD hS _ hl

set_option maxHeartbeats 8000000 in
set_option maxRecDepth 100000 in
theorem kJ_fill_l (l : Launch) (D : va_G) (cI cZ cL : ClassId) (t1 : Nat) (n9 : Nat) (f9 : Nat → Int64) (x : Int64) (hn9 : n9 ≤ 1000) : McV l D (tY cI cZ cL) yJ7_fill_d0a16 wsJ7_fill_d0a16 0 0 [.ref t1, .long x] ([wU cL t1 n9 f9]) (fun (_ : Unit) => True) (fun (_ : Unit) => [wU cL t1 n9 (pfx (fun _ => x) f9 n9)]) := by
  refine q_ofW (Qc := fun A => (va_Qv (fun (_ : Unit) => True) (fun u t => mAt D (tY cI cZ cL) A ((fun (_ : Unit) => [wU cL t1 n9 (pfx (fun _ => x) f9 n9)]) u) t) A)) (cc := cJ7_fill_d0a16) (maxL := 5) (ret := none) (by decide) rfl (Nat.le_of_ble_eq_true rfl) ?_
  intro pz ez sz mz bz tz cz hx hb hml hr hlocks hts hown hK hP A hD hA ls hl
  have hS : va_S A sz.heap sz.heap [] := va_S.rf
  have hl : lv_has ls 5 [(0, .ref t1), (1, .long x)] := hl
  refine lv_iconst (v := (0 : Int32)) hx hb dJ7_fill_d0a16_0 (by decide) ?_
  refine lv_istore_n (lv' := [(3, .int (0 : Int32)), (0, .ref t1), (1, .long x)]) hx hb dJ7_fill_d0a16_1 rfl hl (by decide) rfl (fun ls hl => ?_)
  refine lv_aload_n hx hb dJ7_fill_d0a16_2 rfl (lv_at hl 1 rfl) ?_
  refine va_alen hx hb hK (fP hP (j := 0) rfl) 0 2 rfl rfl (v := nI n9) rfl dJ7_fill_d0a16_3 ?_
  refine lv_istore (lv' := [(4, .int (nI n9)), (3, .int (0 : Int32)), (0, .ref t1), (1, .long x)]) hx hb dJ7_fill_d0a16_4 hl (by decide) rfl (fun ls hl => ?_)
  have loop_6 : ∀ (k_6 j : Nat), j ≤ n9 → n9 < j + k_6 → ∀ (H : Heap) (locs : List Loc), va_P D vwCl (List.flatten [wU cL t1 n9 (pfx (fun _ => x) f9 j)]) H → va_D A (List.flatten [wU cL t1 n9 (pfx (fun _ => x) f9 j)]) → va_S A sz.heap H locs → ∀ (ls : Array Slot), lv_has ls 5 [(4, .int (nI n9)), (3, .int (nI j)), (0, .ref t1), (1, .long x)] → W pz l ez (rM 0 0) sz mz [.ref t1, .long x].toArray bz tz cz H locs 0 0 (MQ bz (va_Qv (fun (_ : Unit) => True) (fun u t => mAt D (tY cI cZ cL) A ((fun (_ : Unit) => [wU cL t1 n9 (pfx (fun _ => x) f9 n9)]) u) t) A) [.ref t1, .long x].toArray sz 0 0 A) (F0 mz 6 ls [])  := by
    intro k_6
    induction k_6 with
    | zero => intro j hi_6 hk_6; exact absurd hk_6 (by omega)
    | succ k_6 ih_6 =>
      intro j hi_6 hk_6 H locs hP hD hS ls hl
      refine lv_iload_n hx hb dJ7_fill_d0a16_6 rfl (lv_at hl 1 rfl) ?_
      refine lv_iload hx hb dJ7_fill_d0a16_7 (lv_at hl 0 rfl) ?_
      refine lv_icmp_ge (tgt := 22) hx hb dJ7_fill_d0a16_9 (by decide) (fun c_9 => ?_) (fun c_9 => ?_)
      ·
        have n_9 : n9 ≤ j := (nI_leI (a := n9) (b := j) (by omega) (by omega)).mp c_9
        exact q_vret (()) hx hb hr hlocks hK hP hD hS (trivial) (by rw [show j = n9 by omega]) dJ7_fill_d0a16_22
      ·
        have n_9 : ¬ n9 ≤ j := fun h9 => c_9 ((nI_leI (a := n9) (b := j) (by omega) (by omega)).mpr h9)
        refine lv_aload_n hx hb dJ7_fill_d0a16_12 rfl (lv_at hl 2 rfl) ?_
        refine lv_iload_n hx hb dJ7_fill_d0a16_13 rfl (lv_at hl 1 rfl) ?_
        refine lv_lload_n hx hb dJ7_fill_d0a16_14 rfl (lv_at hl 3 rfl) ?_
        refine q_last hx hb hK hP hD hS 0 0 2 rfl (f := pfx (fun _ => x) f9 j) rfl rfl (k := j) (nI_clamp (n := j) (by omega)) (vp_in_nI (show j < n9 from by omega) (by omega)) dJ7_fill_d0a16_15 wU_s_tr (Fs' := [wU cL t1 n9 (vp_updL (pfx (fun _ => x) f9 j) j x)]) rfl (fun H locs hP hD hS => ?_)
        have hP : va_P D vwCl (List.flatten [wU cL t1 n9 (pfx (fun _ => x) f9 (j + 1))]) _ := wCast hP (by rw [show vp_updL (pfx (fun _ => x) f9 j) j x = pfx (fun _ => x) f9 (j + 1) from pfx_wL rfl])
        have hD : va_D A (List.flatten [wU cL t1 n9 (pfx (fun _ => x) f9 (j + 1))]) := dCast hD (by rw [show vp_updL (pfx (fun _ => x) f9 j) j x = pfx (fun _ => x) f9 (j + 1) from pfx_wL rfl])
        refine lv_iinc (v := nI (j + 1)) (lv' := [(3, .int (nI (j + 1))), (4, .int (nI n9)), (0, .ref t1), (1, .long x)]) hx hb dJ7_fill_d0a16_16 hl (k := 1) rfl (nI_add j 1) (by decide) rfl (fun ls hl => ?_)
        refine lv_goto (tgt := 6) hx hb dJ7_fill_d0a16_19 (by decide) ?_
        have hl : lv_has ls 5 [(4, .int (nI n9)), (3, .int (nI (j + 1))), (0, .ref t1), (1, .long x)] := lv_sub hl [1, 0, 2, 3] rfl
        have hP : va_P D vwCl (List.flatten [wU cL t1 n9 (pfx (fun _ => x) f9 (j + 1))]) _ := hP
        have hD : va_D A (List.flatten [wU cL t1 n9 (pfx (fun _ => x) f9 (j + 1))]) := hD
        exact ih_6 (j + 1) (by omega) (by omega) _ _ hP hD hS _ hl
  have hl : lv_has ls 5 [(4, .int (nI n9)), (3, .int (nI 0)), (0, .ref t1), (1, .long x)] := lv_sub hl [0, 1, 2, 3] rfl
  have hq0 : f9 = pfx (fun _ => x) f9 0 := pfx_0.symm
  have hP : va_P D vwCl (List.flatten [wU cL t1 n9 (pfx (fun _ => x) f9 0)]) _ := wCast hP (by rw [← hq0])
  have hD : va_D A (List.flatten [wU cL t1 n9 (pfx (fun _ => x) f9 0)]) := dCast hD (by rw [← hq0])
  exact loop_6 (n9 + 1) 0 (by omega) (by omega) _ _ hP hD hS _ hl

set_option maxHeartbeats 8000000 in
set_option maxRecDepth 100000 in
theorem k5_load (l : Launch) (D : va_G) (cI cZ cL : ClassId) (q : Nat → Nat) (th : Nat) (N : Nat) (c : Nat) (fr : Nat → Int32) (tt : Nat → Int32) (sa : Nat → Int32) (tk : Nat → Int32) (tn : Nat) (tr : Nat → Int32) (op : Nat → Int32) (sl : Nat → Int32) (nd : Nat → Int32) (oi : Nat → Int32) (il : Nat → Int32) (tl : Nat → Int32) (go : Nat → Int32) (gt : Nat → Int32) (fa : Nat → Int32) (mn : Nat → Int64) (nx : Nat → Int64) (x : Int32) (hN : N ≤ 24) (hN1 : 1 ≤ N) : McI l D (tY cI cZ cL) yX5_load wsX5_load 2 45 [.ref (q 0), .int x] ([wM cI cZ cL q th N c fr tt sa tk tn tr op sl nd oi il tl go gt fa mn nx]) (fun r (_ : Unit) => r = loR N go gt x) (fun (_ : Unit) => [wM cI cZ cL q 0 N (loC N c go gt x x.toNatClampNeg) (loF N go gt x fr (loV N go)) (loF N go gt x tt gt) (loF N go gt x sa (fun _ => 1)) (loF N go gt x tk (fun _ => 0)) (loC N tn go gt x 0) tr op (loS N go gt x sl) nd oi il tl go gt fa mn nx]) := by
  refine q_ofW (Qc := fun A => (va_Qi (fun r (_ : Unit) => r = loR N go gt x) (fun u t => mAt D (tY cI cZ cL) A ((fun (_ : Unit) => [wM cI cZ cL q 0 N (loC N c go gt x x.toNatClampNeg) (loF N go gt x fr (loV N go)) (loF N go gt x tt gt) (loF N go gt x sa (fun _ => 1)) (loF N go gt x tk (fun _ => 0)) (loC N tn go gt x 0) tr op (loS N go gt x sl) nd oi il tl go gt fa mn nx]) u) t) A)) (cc := cX5_load) (maxL := 5) (ret := (some .int)) (by decide) rfl (Nat.le_of_ble_eq_true rfl) ?_
  intro pz ez sz mz bz tz cz hx hb hml hr hlocks hts hown hK hP A hD hA ls hl
  have hS : va_S A sz.heap sz.heap [] := va_S.rf
  have hl : lv_has ls 5 [(0, .ref (q 0)), (1, .int x)] := hl
  refine lv_aload_n hx hb dX5_load_0 rfl (lv_at hl 0 rfl) ?_
  refine lv_iconst (v := (0 : Int32)) hx hb dX5_load_1 (by decide) ?_
  refine q_put (D := D) (ci := 5) (v := .int (nI 0)) (ty := .int) (C := RX5) (T := TX5) (N := 20) hx hb hts (by decide +kernel) tyX5 tyX5_ok nmX5 hown hK hP hD hS 0 0 rfl rfl rfl 0 (by decide) (hts (.fieldLink RX5 1 "OffsetRowsModel" "thrown" "I") (by decide +kernel)) (fun _ h9 => h9) rfl (by decide +kernel) rfl rfl (Nat.le_of_ble_eq_true rfl) dX5_load_2 (wM_s_th (g9 := 0)) (Fs' := [wM cI cZ cL q 0 N c fr tt sa tk tn tr op sl nd oi il tl go gt fa mn nx]) rfl (fun H locs hP hD hS => ?_)
  refine lv_iload_n hx hb dX5_load_5 rfl (lv_at hl 1 rfl) ?_
  refine lv_if_lt (tgt := 16) hx hb dX5_load_6 (by decide) (fun c_6 => ?_) (fun c_6 => ?_)
  ·
    refine lv_bipush (v := (-3)) hx hb dX5_load_16 (by decide) ?_
    exact q_iret (()) hx hb hr hlocks hK hP hD hS (by simp [loR, c_6]) (by simp [loC, loF, loS, loB, c_6]) dX5_load_18
  ·
    refine lv_iload_n hx hb dX5_load_9 rfl (lv_at hl 1 rfl) ?_
    refine lv_sipush (v := (160 : Int32)) hx hb dX5_load_10 (by decide) ?_
    refine lv_icmp_le (tgt := 19) hx hb dX5_load_13 (by decide) (fun c_13 => ?_) (fun c_13 => ?_)
    ·
      obtain ⟨m, hm, hxm⟩ := nI_of2 (M := 160) (n := 160) (by decide) c_6 c_13
      have hl : lv_has ls 5 [(0, .ref (q 0)), (1, .int (nI m))] := by rw [← hxm]; exact hl
      have hxc : x.toNatClampNeg = m := by rw [hxm]; exact nI_clamp (by omega)
      refine lv_aload_n hx hb dX5_load_19 rfl (lv_at hl 0 rfl) ?_
      refine lv_iload_n hx hb dX5_load_20 rfl (lv_at hl 1 rfl) ?_
      refine q_callVi (index := 121) (n := 1) (As := [.int (nI m)]) (rest := []) (js := [0]) (ci := 5) ⟨hx, hb, hml, hown, hts⟩ hK hP hD hS hA (k5_judged l D cI cZ cL q 0 N c fr tt sa tk tn tr op sl nd oi il tl go gt fa mn nx m (by omega) (by omega)) rfl (by decide) (fun _ => by simp only [List.map_cons, List.map_nil, wM_fst]) (fun (_ : Unit) => [wM cI cZ cL q 0 N c fr tt sa tk tn tr op sl nd oi il tl go gt fa mn nx]) (fun _ => rfl) gX5_load_X5_judged rfl (by decide +kernel) rfl ⟨by decide, by decide⟩ rfl rfl rfl rfl hl.1 (Nat.le_of_ble_eq_true rfl) ⟨(Nat.zero_le _), (Nat.zero_le _)⟩ dX5_load_21 rfl (fun r _ H locs hw hP hD hS => ?_)
      have hw : r = jdR N m go gt := hw
      subst hw
      refine lv_istore_n (lv' := [(2, .int (jdR N m go gt)), (0, .ref (q 0)), (1, .int (nI m))]) hx hb dX5_load_24 rfl hl (by decide) rfl (fun ls hl => ?_)
      refine lv_iload_n hx hb dX5_load_25 rfl (lv_at hl 0 rfl) ?_
      refine lv_if_eq (tgt := 31) hx hb dX5_load_26 (by decide) (fun c_26 => ?_) (fun c_26 => ?_)
      ·
        have hgN : go N = nI m := jgR_N ((jdR_0 hN hm c_26).1 N (Nat.le_refl N))
        refine lv_iconst (v := (0 : Int32)) hx hb dX5_load_31 (by decide) ?_
        refine lv_istore_n (lv' := [(3, .int (0 : Int32)), (2, .int (jdR N m go gt)), (0, .ref (q 0)), (1, .int (nI m))]) hx hb dX5_load_32 rfl hl (by decide) rfl (fun ls hl => ?_)
        have loop_33 : ∀ (k_33 i : Nat), i ≤ m → m < i + k_33 → ∀ (H : Heap) (locs : List Loc), va_P D vwCl (List.flatten [wM cI cZ cL q 0 N c (pfx (loV N go) fr i) (pfx gt tt i) (pfx (fun _ => 1) sa i) (pfx (fun _ => 0) tk i) tn tr op sl nd oi il tl go gt fa mn nx]) H → va_D A (List.flatten [wM cI cZ cL q 0 N c (pfx (loV N go) fr i) (pfx gt tt i) (pfx (fun _ => 1) sa i) (pfx (fun _ => 0) tk i) tn tr op sl nd oi il tl go gt fa mn nx]) → va_S A sz.heap H locs → ∀ (ls : Array Slot), lv_has ls 5 [(3, .int (nI i)), (2, .int (jdR N m go gt)), (0, .ref (q 0)), (1, .int (nI m))] → W pz l ez (rM 2 45) sz mz [.ref (q 0), .int x].toArray bz tz cz H locs 0 0 (MQ bz (va_Qi (fun r (_ : Unit) => r = loR N go gt x) (fun u t => mAt D (tY cI cZ cL) A ((fun (_ : Unit) => [wM cI cZ cL q 0 N (loC N c go gt x x.toNatClampNeg) (loF N go gt x fr (loV N go)) (loF N go gt x tt gt) (loF N go gt x sa (fun _ => 1)) (loF N go gt x tk (fun _ => 0)) (loC N tn go gt x 0) tr op (loS N go gt x sl) nd oi il tl go gt fa mn nx]) u) t) A) [.ref (q 0), .int x].toArray sz 0 0 A) (F0 mz 33 ls [])  := by
          intro k_33
          induction k_33 with
          | zero => intro i hi_33 hk_33; exact absurd hk_33 (by omega)
          | succ k_33 ih_33 =>
            intro i hi_33 hk_33 H locs hP hD hS ls hl
            refine lv_iload_n hx hb dX5_load_33 rfl (lv_at hl 0 rfl) ?_
            refine lv_iload_n hx hb dX5_load_34 rfl (lv_at hl 3 rfl) ?_
            refine lv_icmp_ge (tgt := 100) hx hb dX5_load_35 (by decide) (fun c_35 => ?_) (fun c_35 => ?_)
            ·
              have n_35 : m ≤ i := (nI_leI (a := m) (b := i) (by omega) (by omega)).mp c_35
              refine lv_aload_n hx hb dX5_load_100 rfl (lv_at hl 2 rfl) ?_
              refine lv_iload_n hx hb dX5_load_101 rfl (lv_at hl 3 rfl) ?_
              refine q_put (D := D) (ci := 5) (v := .int (nI m)) (ty := .int) (C := RX5) (T := TX5) (N := 20) hx hb hts (by decide +kernel) tyX5 tyX5_ok nmX5 hown hK hP hD hS 0 0 rfl rfl rfl 2 (by decide) (hts (.fieldLink RX5 67 "OffsetRowsModel" "arcs" "I") (by decide +kernel)) (fun _ h9 => h9) rfl (by decide +kernel) rfl rfl (Nat.le_of_ble_eq_true rfl) dX5_load_102 (wM_s_c (g9 := m)) (Fs' := [wM cI cZ cL q 0 N m (pfx (loV N go) fr i) (pfx gt tt i) (pfx (fun _ => 1) sa i) (pfx (fun _ => 0) tk i) tn tr op sl nd oi il tl go gt fa mn nx]) rfl (fun H locs hP hD hS => ?_)
              refine lv_aload_n hx hb dX5_load_105 rfl (lv_at hl 2 rfl) ?_
              refine lv_iconst (v := (0 : Int32)) hx hb dX5_load_106 (by decide) ?_
              refine q_put (D := D) (ci := 5) (v := .int (nI 0)) (ty := .int) (C := RX5) (T := TX5) (N := 20) hx hb hts (by decide +kernel) tyX5 tyX5_ok nmX5 hown hK hP hD hS 0 0 rfl rfl rfl 7 (by decide) (hts (.fieldLink RX5 84 "OffsetRowsModel" "turns" "I") (by decide +kernel)) (fun _ h9 => h9) rfl (by decide +kernel) rfl rfl (Nat.le_of_ble_eq_true rfl) dX5_load_107 (wM_s_tn (g9 := 0)) (Fs' := [wM cI cZ cL q 0 N m (pfx (loV N go) fr i) (pfx gt tt i) (pfx (fun _ => 1) sa i) (pfx (fun _ => 0) tk i) 0 tr op sl nd oi il tl go gt fa mn nx]) rfl (fun H locs hP hD hS => ?_)
              refine lv_aload_n hx hb dX5_load_110 rfl (lv_at hl 2 rfl) ?_
              refine q_callVv (index := 77) (n := 0) (As := []) (rest := []) (js := [0]) (ci := 5) ⟨hx, hb, hml, hown, hts⟩ hK hP hD hS hA (k5_stale l D cI cZ cL q 0 N m (pfx (loV N go) fr i) (pfx gt tt i) (pfx (fun _ => 1) sa i) (pfx (fun _ => 0) tk i) 0 tr op sl nd oi il tl go gt fa mn nx) rfl (by decide) (fun _ => by simp only [List.map_cons, List.map_nil, wM_fst]) (fun (_ : Unit) => [wM cI cZ cL q 0 N m (pfx (loV N go) fr i) (pfx gt tt i) (pfx (fun _ => 1) sa i) (pfx (fun _ => 0) tk i) 0 tr op (stl sl) nd oi il tl go gt fa mn nx]) (fun _ => rfl) gX5_load_X5_stale rfl (by decide +kernel) rfl ⟨by decide, by decide⟩ rfl rfl rfl rfl hl.1 (Nat.le_of_ble_eq_true rfl) ⟨(Nat.zero_le _), (Nat.zero_le _)⟩ dX5_load_111 rfl (fun _ H locs hw hP hD hS => ?_)
              refine lv_iconst (v := (0 : Int32)) hx hb dX5_load_114 (by decide) ?_
              exact q_iret (()) hx hb hr hlocks hK hP hD hS (by simp [loR, c_6, c_13, hxc, c_26]) (by rw [show i = m by omega]; simp [loC, loF, loS, loB, c_6, c_13, hxc, c_26]) dX5_load_115
            ·
              have n_35 : ¬ m ≤ i := fun h9 => c_35 ((nI_leI (a := m) (b := i) (by omega) (by omega)).mpr h9)
              refine lv_iconst (v := (0 : Int32)) hx hb dX5_load_38 (by decide) ?_
              refine lv_istore (lv' := [(4, .int (0 : Int32)), (3, .int (nI i)), (2, .int (jdR N m go gt)), (0, .ref (q 0)), (1, .int (nI m))]) hx hb dX5_load_39 hl (by decide) rfl (fun ls hl => ?_)
              have loop_41 : ∀ (k_41 v : Nat), v ≤ N - 1 → N - 1 < v + k_41 → (lsN (loQ go i) N 0 = lsN (loQ go i) (N - v) v) → ∀ (H : Heap) (locs : List Loc), va_P D vwCl (List.flatten [wM cI cZ cL q 0 N c (pfx (loV N go) fr i) (pfx gt tt i) (pfx (fun _ => 1) sa i) (pfx (fun _ => 0) tk i) tn tr op sl nd oi il tl go gt fa mn nx]) H → va_D A (List.flatten [wM cI cZ cL q 0 N c (pfx (loV N go) fr i) (pfx gt tt i) (pfx (fun _ => 1) sa i) (pfx (fun _ => 0) tk i) tn tr op sl nd oi il tl go gt fa mn nx]) → va_S A sz.heap H locs → ∀ (ls : Array Slot), lv_has ls 5 [(4, .int (nI v)), (3, .int (nI i)), (2, .int (jdR N m go gt)), (0, .ref (q 0)), (1, .int (nI m))] → W pz l ez (rM 2 45) sz mz [.ref (q 0), .int x].toArray bz tz cz H locs 0 0 (MQ bz (va_Qi (fun r (_ : Unit) => r = loR N go gt x) (fun u t => mAt D (tY cI cZ cL) A ((fun (_ : Unit) => [wM cI cZ cL q 0 N (loC N c go gt x x.toNatClampNeg) (loF N go gt x fr (loV N go)) (loF N go gt x tt gt) (loF N go gt x sa (fun _ => 1)) (loF N go gt x tk (fun _ => 0)) (loC N tn go gt x 0) tr op (loS N go gt x sl) nd oi il tl go gt fa mn nx]) u) t) A) [.ref (q 0), .int x].toArray sz 0 0 A) (F0 mz 41 ls [])  := by
                intro k_41
                induction k_41 with
                | zero => intro v hi_41 hk_41; exact absurd hk_41 (by omega)
                | succ k_41 ih_41 =>
                  intro v hi_41 hk_41 hin H locs hP hD hS ls hl
                  refine lv_aload_n hx hb dX5_load_41 rfl (lv_at hl 3 rfl) ?_
                  refine q_get (D := D) (ci := 5) (v := .ref (q 12)) (C := RX5) (T := TX5) (N := 20) hx hb hts (by decide +kernel) hown hK hP 0 0 rfl rfl rfl 15 (by decide) (hts (.fieldLink RX5 48 "OffsetRowsModel" "givenOffset" "[I") (by decide +kernel)) (fun _ h9 => h9) rfl dX5_load_42 ?_
                  refine lv_iload hx hb dX5_load_45 (lv_at hl 0 rfl) ?_
                  refine lv_iconst (v := (1 : Int32)) hx hb dX5_load_47 (by decide) ?_
                  refine q_iadd (z := nI (v + 1)) hx hb dX5_load_48 (nI_add v 1) ?_
                  refine q_iald hx hb hK hP 0 12 0 rfl (f := go) rfl rfl (k := v + 1) (nI_clamp (n := v + 1) (by omega)) (vp_in_nI (show v + 1 < 25 from by omega) (by omega)) dX5_load_49 ?_
                  refine lv_iload_n hx hb dX5_load_50 rfl (lv_at hl 1 rfl) ?_
                  refine lv_icmp_gt (tgt := 60) hx hb dX5_load_51 (by decide) (fun c_51 => ?_) (fun c_51 => ?_)
                  ·
                    refine lv_aload_n hx hb dX5_load_60 rfl (lv_at hl 3 rfl) ?_
                    refine q_get (D := D) (ci := 5) (v := .ref (q 1)) (C := RX5) (T := TX5) (N := 20) hx hb hts (by decide +kernel) hown hK hP 0 0 rfl rfl rfl 3 (by decide) (hts (.fieldLink RX5 13 "OffsetRowsModel" "from" "[I") (by decide +kernel)) (fun _ h9 => h9) rfl dX5_load_61 ?_
                    refine lv_iload_n hx hb dX5_load_64 rfl (lv_at hl 1 rfl) ?_
                    refine lv_iload hx hb dX5_load_65 (lv_at hl 0 rfl) ?_
                    refine q_iast hx hb hK hP hD hS 0 1 0 rfl (f := pfx (loV N go) fr i) rfl rfl (k := i) (nI_clamp (n := i) (by omega)) (vp_in_nI (show i < 160 from by omega) (by omega)) dX5_load_67 wM_s_fr (Fs' := [wM cI cZ cL q 0 N c (upd (pfx (loV N go) fr i) i (nI v)) (pfx gt tt i) (pfx (fun _ => 1) sa i) (pfx (fun _ => 0) tk i) tn tr op sl nd oi il tl go gt fa mn nx]) rfl (fun H locs hP hD hS => ?_)
                    have hP : va_P D vwCl (List.flatten [wM cI cZ cL q 0 N c (pfx (loV N go) fr (i + 1)) (pfx gt tt i) (pfx (fun _ => 1) sa i) (pfx (fun _ => 0) tk i) tn tr op sl nd oi il tl go gt fa mn nx]) _ := wCast hP (by rw [show upd (pfx (loV N go) fr i) i (nI v) = pfx (loV N go) fr (i + 1) from pfx_w (by rw [loV, hin, lsN_yes (by omega) (by simp [loQ, k2_nle c_51])])])
                    have hD : va_D A (List.flatten [wM cI cZ cL q 0 N c (pfx (loV N go) fr (i + 1)) (pfx gt tt i) (pfx (fun _ => 1) sa i) (pfx (fun _ => 0) tk i) tn tr op sl nd oi il tl go gt fa mn nx]) := dCast hD (by rw [show upd (pfx (loV N go) fr i) i (nI v) = pfx (loV N go) fr (i + 1) from pfx_w (by rw [loV, hin, lsN_yes (by omega) (by simp [loQ, k2_nle c_51])])])
                    refine lv_aload_n hx hb dX5_load_68 rfl (lv_at hl 3 rfl) ?_
                    refine q_get (D := D) (ci := 5) (v := .ref (q 2)) (C := RX5) (T := TX5) (N := 20) hx hb hts (by decide +kernel) hown hK hP 0 0 rfl rfl rfl 4 (by decide) (hts (.fieldLink RX5 17 "OffsetRowsModel" "to" "[I") (by decide +kernel)) (fun _ h9 => h9) rfl dX5_load_69 ?_
                    refine lv_iload_n hx hb dX5_load_72 rfl (lv_at hl 1 rfl) ?_
                    refine lv_aload_n hx hb dX5_load_73 rfl (lv_at hl 3 rfl) ?_
                    refine q_get (D := D) (ci := 5) (v := .ref (q 13)) (C := RX5) (T := TX5) (N := 20) hx hb hts (by decide +kernel) hown hK hP 0 0 rfl rfl rfl 16 (by decide) (hts (.fieldLink RX5 51 "OffsetRowsModel" "givenTarget" "[I") (by decide +kernel)) (fun _ h9 => h9) rfl dX5_load_74 ?_
                    refine lv_iload_n hx hb dX5_load_77 rfl (lv_at hl 1 rfl) ?_
                    refine q_iald hx hb hK hP 0 13 0 rfl (f := gt) rfl rfl (k := i) (nI_clamp (n := i) (by omega)) (vp_in_nI (show i < 160 from by omega) (by omega)) dX5_load_78 ?_
                    refine q_iast hx hb hK hP hD hS 0 2 0 rfl (f := pfx gt tt i) rfl rfl (k := i) (nI_clamp (n := i) (by omega)) (vp_in_nI (show i < 160 from by omega) (by omega)) dX5_load_79 wM_s_tt (Fs' := [wM cI cZ cL q 0 N c (pfx (loV N go) fr (i + 1)) (upd (pfx gt tt i) i (gt i)) (pfx (fun _ => 1) sa i) (pfx (fun _ => 0) tk i) tn tr op sl nd oi il tl go gt fa mn nx]) rfl (fun H locs hP hD hS => ?_)
                    have hP : va_P D vwCl (List.flatten [wM cI cZ cL q 0 N c (pfx (loV N go) fr (i + 1)) (pfx gt tt (i + 1)) (pfx (fun _ => 1) sa i) (pfx (fun _ => 0) tk i) tn tr op sl nd oi il tl go gt fa mn nx]) _ := wCast hP (by rw [show upd (pfx gt tt i) i (gt i) = pfx gt tt (i + 1) from pfx_w rfl])
                    have hD : va_D A (List.flatten [wM cI cZ cL q 0 N c (pfx (loV N go) fr (i + 1)) (pfx gt tt (i + 1)) (pfx (fun _ => 1) sa i) (pfx (fun _ => 0) tk i) tn tr op sl nd oi il tl go gt fa mn nx]) := dCast hD (by rw [show upd (pfx gt tt i) i (gt i) = pfx gt tt (i + 1) from pfx_w rfl])
                    refine lv_aload_n hx hb dX5_load_80 rfl (lv_at hl 3 rfl) ?_
                    refine q_get (D := D) (ci := 5) (v := .ref (q 3)) (C := RX5) (T := TX5) (N := 20) hx hb hts (by decide +kernel) hown hK hP 0 0 rfl rfl rfl 5 (by decide) (hts (.fieldLink RX5 20 "OffsetRowsModel" "state" "[I") (by decide +kernel)) (fun _ h9 => h9) rfl dX5_load_81 ?_
                    refine lv_iload_n hx hb dX5_load_84 rfl (lv_at hl 1 rfl) ?_
                    refine lv_iconst (v := (1 : Int32)) hx hb dX5_load_85 (by decide) ?_
                    refine q_iast hx hb hK hP hD hS 0 3 0 rfl (f := pfx (fun _ => 1) sa i) rfl rfl (k := i) (nI_clamp (n := i) (by omega)) (vp_in_nI (show i < 160 from by omega) (by omega)) dX5_load_86 wM_s_sa (Fs' := [wM cI cZ cL q 0 N c (pfx (loV N go) fr (i + 1)) (pfx gt tt (i + 1)) (upd (pfx (fun _ => 1) sa i) i (1 : Int32)) (pfx (fun _ => 0) tk i) tn tr op sl nd oi il tl go gt fa mn nx]) rfl (fun H locs hP hD hS => ?_)
                    have hP : va_P D vwCl (List.flatten [wM cI cZ cL q 0 N c (pfx (loV N go) fr (i + 1)) (pfx gt tt (i + 1)) (pfx (fun _ => 1) sa (i + 1)) (pfx (fun _ => 0) tk i) tn tr op sl nd oi il tl go gt fa mn nx]) _ := wCast hP (by rw [show upd (pfx (fun _ => 1) sa i) i (1 : Int32) = pfx (fun _ => 1) sa (i + 1) from pfx_w rfl])
                    have hD : va_D A (List.flatten [wM cI cZ cL q 0 N c (pfx (loV N go) fr (i + 1)) (pfx gt tt (i + 1)) (pfx (fun _ => 1) sa (i + 1)) (pfx (fun _ => 0) tk i) tn tr op sl nd oi il tl go gt fa mn nx]) := dCast hD (by rw [show upd (pfx (fun _ => 1) sa i) i (1 : Int32) = pfx (fun _ => 1) sa (i + 1) from pfx_w rfl])
                    refine lv_aload_n hx hb dX5_load_87 rfl (lv_at hl 3 rfl) ?_
                    refine q_get (D := D) (ci := 5) (v := .ref (q 4)) (C := RX5) (T := TX5) (N := 20) hx hb hts (by decide +kernel) hown hK hP 0 0 rfl rfl rfl 6 (by decide) (hts (.fieldLink RX5 23 "OffsetRowsModel" "isTaken" "[Z") (by decide +kernel)) (fun _ h9 => h9) rfl dX5_load_88 ?_
                    refine lv_iload_n hx hb dX5_load_91 rfl (lv_at hl 1 rfl) ?_
                    refine lv_iconst (v := (0 : Int32)) hx hb dX5_load_92 (by decide) ?_
                    refine q_zast hx hb hK hP hD hS 0 4 1 rfl (f := pfx (fun _ => 0) tk i) rfl rfl (k := i) (nI_clamp (n := i) (by omega)) (vp_in_nI (show i < 160 from by omega) (by omega)) rfl dX5_load_93 wM_s_tk (Fs' := [wM cI cZ cL q 0 N c (pfx (loV N go) fr (i + 1)) (pfx gt tt (i + 1)) (pfx (fun _ => 1) sa (i + 1)) (upd (pfx (fun _ => 0) tk i) i (0 : Int32)) tn tr op sl nd oi il tl go gt fa mn nx]) rfl (fun H locs hP hD hS => ?_)
                    have hP : va_P D vwCl (List.flatten [wM cI cZ cL q 0 N c (pfx (loV N go) fr (i + 1)) (pfx gt tt (i + 1)) (pfx (fun _ => 1) sa (i + 1)) (pfx (fun _ => 0) tk (i + 1)) tn tr op sl nd oi il tl go gt fa mn nx]) _ := wCast hP (by rw [show upd (pfx (fun _ => 0) tk i) i (0 : Int32) = pfx (fun _ => 0) tk (i + 1) from pfx_w rfl])
                    have hD : va_D A (List.flatten [wM cI cZ cL q 0 N c (pfx (loV N go) fr (i + 1)) (pfx gt tt (i + 1)) (pfx (fun _ => 1) sa (i + 1)) (pfx (fun _ => 0) tk (i + 1)) tn tr op sl nd oi il tl go gt fa mn nx]) := dCast hD (by rw [show upd (pfx (fun _ => 0) tk i) i (0 : Int32) = pfx (fun _ => 0) tk (i + 1) from pfx_w rfl])
                    refine lv_iinc (v := nI (i + 1)) (lv' := [(3, .int (nI (i + 1))), (4, .int (nI v)), (2, .int (jdR N m go gt)), (0, .ref (q 0)), (1, .int (nI m))]) hx hb dX5_load_94 hl (k := 1) rfl (nI_add i 1) (by decide) rfl (fun ls hl => ?_)
                    refine lv_goto (tgt := 33) hx hb dX5_load_97 (by decide) ?_
                    have hl : lv_has ls 5 [(3, .int (nI (i + 1))), (2, .int (jdR N m go gt)), (0, .ref (q 0)), (1, .int (nI m))] := lv_sub hl [0, 2, 3, 4] rfl
                    have hP : va_P D vwCl (List.flatten [wM cI cZ cL q 0 N c (pfx (loV N go) fr (i + 1)) (pfx gt tt (i + 1)) (pfx (fun _ => 1) sa (i + 1)) (pfx (fun _ => 0) tk (i + 1)) tn tr op sl nd oi il tl go gt fa mn nx]) _ := hP
                    have hD : va_D A (List.flatten [wM cI cZ cL q 0 N c (pfx (loV N go) fr (i + 1)) (pfx gt tt (i + 1)) (pfx (fun _ => 1) sa (i + 1)) (pfx (fun _ => 0) tk (i + 1)) tn tr op sl nd oi il tl go gt fa mn nx]) := hD
                    exact ih_33 (i + 1) (by omega) (by omega) _ _ hP hD hS _ hl
                  ·
                    have hv1 : v + 1 ≤ N - 1 := by
                      rcases Nat.lt_or_ge (v + 1) N with h | h
                      · omega
                      · exfalso
                        have h5 : v + 1 = N := by omega
                        rw [h5, hgN] at c_51
                        exact c_51 ((nI_ltI (by omega) (by omega)).mpr (by omega))
                    refine lv_iinc (v := nI (v + 1)) (lv' := [(4, .int (nI (v + 1))), (3, .int (nI i)), (2, .int (jdR N m go gt)), (0, .ref (q 0)), (1, .int (nI m))]) hx hb dX5_load_54 hl (k := 0) rfl (nI_add v 1) (by decide) rfl (fun ls hl => ?_)
                    refine lv_goto (tgt := 41) hx hb dX5_load_57 (by decide) ?_
                    have hl : lv_has ls 5 [(4, .int (nI (v + 1))), (3, .int (nI i)), (2, .int (jdR N m go gt)), (0, .ref (q 0)), (1, .int (nI m))] := lv_sub hl [0, 1, 2, 3, 4] rfl
                    have hP : va_P D vwCl (List.flatten [wM cI cZ cL q 0 N c (pfx (loV N go) fr i) (pfx gt tt i) (pfx (fun _ => 1) sa i) (pfx (fun _ => 0) tk i) tn tr op sl nd oi il tl go gt fa mn nx]) _ := hP
                    have hD : va_D A (List.flatten [wM cI cZ cL q 0 N c (pfx (loV N go) fr i) (pfx gt tt i) (pfx (fun _ => 1) sa i) (pfx (fun _ => 0) tk i) tn tr op sl nd oi il tl go gt fa mn nx]) := hD
                    exact ih_41 (v + 1) (by omega) (by omega) (hin.trans (lsN_no (by omega) (by simp [loQ, k2_le c_51]))) _ _ hP hD hS _ hl
              have hl : lv_has ls 5 [(4, .int (nI 0)), (3, .int (nI i)), (2, .int (jdR N m go gt)), (0, .ref (q 0)), (1, .int (nI m))] := lv_sub hl [0, 1, 2, 3, 4] rfl
              have hP : va_P D vwCl (List.flatten [wM cI cZ cL q 0 N c (pfx (loV N go) fr i) (pfx gt tt i) (pfx (fun _ => 1) sa i) (pfx (fun _ => 0) tk i) tn tr op sl nd oi il tl go gt fa mn nx]) _ := hP
              have hD : va_D A (List.flatten [wM cI cZ cL q 0 N c (pfx (loV N go) fr i) (pfx gt tt i) (pfx (fun _ => 1) sa i) (pfx (fun _ => 0) tk i) tn tr op sl nd oi il tl go gt fa mn nx]) := hD
              exact loop_41 ((N - 1) + 1) 0 (by omega) (by omega) rfl _ _ hP hD hS _ hl
        have hl : lv_has ls 5 [(3, .int (nI 0)), (2, .int (jdR N m go gt)), (0, .ref (q 0)), (1, .int (nI m))] := lv_sub hl [0, 1, 2, 3] rfl
        have hq0 : fr = pfx (loV N go) fr 0 := pfx_0.symm
        have hq1 : tt = pfx gt tt 0 := pfx_0.symm
        have hq2 : sa = pfx (fun _ => 1) sa 0 := pfx_0.symm
        have hq3 : tk = pfx (fun _ => 0) tk 0 := pfx_0.symm
        have hP : va_P D vwCl (List.flatten [wM cI cZ cL q 0 N c (pfx (loV N go) fr 0) (pfx gt tt 0) (pfx (fun _ => 1) sa 0) (pfx (fun _ => 0) tk 0) tn tr op sl nd oi il tl go gt fa mn nx]) _ := wCast hP (by rw [← hq0, ← hq1, ← hq2, ← hq3])
        have hD : va_D A (List.flatten [wM cI cZ cL q 0 N c (pfx (loV N go) fr 0) (pfx gt tt 0) (pfx (fun _ => 1) sa 0) (pfx (fun _ => 0) tk 0) tn tr op sl nd oi il tl go gt fa mn nx]) := dCast hD (by rw [← hq0, ← hq1, ← hq2, ← hq3])
        exact loop_33 (m + 1) 0 (by omega) (by omega) _ _ hP hD hS _ hl
      ·
        refine lv_iload_n hx hb dX5_load_29 rfl (lv_at hl 0 rfl) ?_
        exact q_iret (()) hx hb hr hlocks hK hP hD hS (by simp [loR, c_6, c_13, hxc]) (by simp [loC, loF, loS, loB, hxc, c_26]) dX5_load_30
    ·
      refine lv_bipush (v := (-3)) hx hb dX5_load_16 (by decide) ?_
      exact q_iret (()) hx hb hr hlocks hK hP hD hS (by simp [loR, c_6, c_13]) (by simp [loC, loF, loS, loB, c_6, c_13]) dX5_load_18

set_option maxHeartbeats 8000000 in
set_option maxRecDepth 100000 in
theorem k5_about (l : Launch) (D : va_G) (cI cZ cL : ClassId) (q : Nat → Nat) (th : Nat) (N : Nat) (c : Nat) (fr : Nat → Int32) (tt : Nat → Int32) (sa : Nat → Int32) (tk : Nat → Int32) (tn : Nat) (tr : Nat → Int32) (op : Nat → Int32) (sl : Nat → Int32) (nd : Nat → Int32) (oi : Nat → Int32) (il : Nat → Int32) (tl : Nat → Int32) (go : Nat → Int32) (gt : Nat → Int32) (fa : Nat → Int32) (mn : Nat → Int64) (nx : Nat → Int64) (x : Int32) (hc : c ≤ 160) : McI l D (tY cI cZ cL) yX5_about wsX5_about 0 0 [.ref (q 0), .int x] ([wM cI cZ cL q th N c fr tt sa tk tn tr op sl nd oi il tl go gt fa mn nx]) (fun r (_ : Unit) => r = abR N c sa tk op x) (fun (_ : Unit) => [wM cI cZ cL q 0 N c fr tt sa tk tn tr op sl nd oi il tl go gt fa mn nx]) := by
  refine q_ofW (Qc := fun A => (va_Qi (fun r (_ : Unit) => r = abR N c sa tk op x) (fun u t => mAt D (tY cI cZ cL) A ((fun (_ : Unit) => [wM cI cZ cL q 0 N c fr tt sa tk tn tr op sl nd oi il tl go gt fa mn nx]) u) t) A)) (cc := cX5_about) (maxL := 4) (ret := (some .int)) (by decide) rfl (Nat.le_of_ble_eq_true rfl) ?_
  intro pz ez sz mz bz tz cz hx hb hml hr hlocks hts hown hK hP A hD hA ls hl
  have hS : va_S A sz.heap sz.heap [] := va_S.rf
  have hl : lv_has ls 4 [(0, .ref (q 0)), (1, .int x)] := hl
  refine lv_aload_n hx hb dX5_about_0 rfl (lv_at hl 0 rfl) ?_
  refine lv_iconst (v := (0 : Int32)) hx hb dX5_about_1 (by decide) ?_
  refine q_put (D := D) (ci := 5) (v := .int (nI 0)) (ty := .int) (C := RX5) (T := TX5) (N := 20) hx hb hts (by decide +kernel) tyX5 tyX5_ok nmX5 hown hK hP hD hS 0 0 rfl rfl rfl 0 (by decide) (hts (.fieldLink RX5 1 "OffsetRowsModel" "thrown" "I") (by decide +kernel)) (fun _ h9 => h9) rfl (by decide +kernel) rfl rfl (Nat.le_of_ble_eq_true rfl) dX5_about_2 (wM_s_th (g9 := 0)) (Fs' := [wM cI cZ cL q 0 N c fr tt sa tk tn tr op sl nd oi il tl go gt fa mn nx]) rfl (fun H locs hP hD hS => ?_)
  refine lv_iconst (v := (0 : Int32)) hx hb dX5_about_5 (by decide) ?_
  refine lv_istore_n (lv' := [(2, .int (0 : Int32)), (0, .ref (q 0)), (1, .int x)]) hx hb dX5_about_6 rfl hl (by decide) rfl (fun ls hl => ?_)
  refine lv_iload_n hx hb dX5_about_7 rfl (lv_at hl 2 rfl) ?_
  rcases (show x = 0 ∨ x = 1 ∨ x = 5 ∨ (¬ x = 0 ∧ ¬ x = 1 ∧ ¬ x = 5) by by_cases h0 : x = 0 <;> by_cases h1 : x = 1 <;> by_cases h5 : x = 5 <;> simp [h0, h1, h5]) with h_sw | h_sw | h_sw | h_sw
  ·
    refine lv_lookup (off := 36) (tgt := 44) hx hb dX5_about_8 (by decide) (by rw [h_sw]; rfl) (by decide) ?_
    refine lv_aload_n hx hb dX5_about_44 rfl (lv_at hl 1 rfl) ?_
    refine q_get (D := D) (ci := 5) (v := .int (nI N)) (C := RX5) (T := TX5) (N := 20) hx hb hts (by decide +kernel) hown hK hP 0 0 rfl rfl rfl 1 (by decide) (hts (.fieldLink RX5 64 "OffsetRowsModel" "nodes" "I") (by decide +kernel)) (fun _ h9 => h9) rfl dX5_about_45 ?_
    exact q_iret (()) hx hb hr hlocks hK hP hD hS (by simp [abR, h_sw]) (rfl) dX5_about_48
  ·
    refine lv_lookup (off := 41) (tgt := 49) hx hb dX5_about_8 (by decide) (by rw [h_sw]; rfl) (by decide) ?_
    refine lv_aload_n hx hb dX5_about_49 rfl (lv_at hl 1 rfl) ?_
    refine q_get (D := D) (ci := 5) (v := .int (nI c)) (C := RX5) (T := TX5) (N := 20) hx hb hts (by decide +kernel) hown hK hP 0 0 rfl rfl rfl 2 (by decide) (hts (.fieldLink RX5 67 "OffsetRowsModel" "arcs" "I") (by decide +kernel)) (fun _ h9 => h9) rfl dX5_about_50 ?_
    exact q_iret (()) hx hb hr hlocks hK hP hD hS (by simp [abR, h_sw]) (rfl) dX5_about_53
  ·
    refine lv_lookup (off := 46) (tgt := 54) hx hb dX5_about_8 (by decide) (by rw [h_sw]; rfl) (by decide) ?_
    refine lv_iconst (v := (0 : Int32)) hx hb dX5_about_54 (by decide) ?_
    refine lv_istore_n (lv' := [(3, .int (0 : Int32)), (2, .int (0 : Int32)), (0, .ref (q 0)), (1, .int x)]) hx hb dX5_about_55 rfl hl (by decide) rfl (fun ls hl => ?_)
    have loop_56 : ∀ (k_56 i : Nat), i ≤ 8 → 8 < i + k_56 → ∀ (H : Heap) (locs : List Loc), va_P D vwCl (List.flatten [wM cI cZ cL q 0 N c fr tt sa tk tn tr op sl nd oi il tl go gt fa mn nx]) H → va_D A (List.flatten [wM cI cZ cL q 0 N c fr tt sa tk tn tr op sl nd oi il tl go gt fa mn nx]) → va_S A sz.heap H locs → ∀ (ls : Array Slot), lv_has ls 4 [(3, .int (nI i)), (2, .int (nI (cN i (opC op)))), (0, .ref (q 0)), (1, .int x)] → W pz l ez (rM 0 0) sz mz [.ref (q 0), .int x].toArray bz tz cz H locs 0 0 (MQ bz (va_Qi (fun r (_ : Unit) => r = abR N c sa tk op x) (fun u t => mAt D (tY cI cZ cL) A ((fun (_ : Unit) => [wM cI cZ cL q 0 N c fr tt sa tk tn tr op sl nd oi il tl go gt fa mn nx]) u) t) A) [.ref (q 0), .int x].toArray sz 0 0 A) (F0 mz 56 ls [])  := by
      intro k_56
      induction k_56 with
      | zero => intro i hi_56 hk_56; exact absurd hk_56 (by omega)
      | succ k_56 ih_56 =>
        intro i hi_56 hk_56 H locs hP hD hS ls hl
        refine lv_iload_n hx hb dX5_about_56 rfl (lv_at hl 0 rfl) ?_
        refine lv_bipush (v := (8 : Int32)) hx hb dX5_about_57 (by decide) ?_
        refine lv_icmp_ge (tgt := 85) hx hb dX5_about_59 (by decide) (fun c_59 => ?_) (fun c_59 => ?_)
        ·
          have n_59 : 8 ≤ i := (nI_leI (a := 8) (b := i) (by omega) (by omega)).mp c_59
          refine lv_iload_n hx hb dX5_about_85 rfl (lv_at hl 1 rfl) ?_
          exact q_iret (()) hx hb hr hlocks hK hP hD hS (by rw [show i = 8 by omega, h_sw]; simp [abR]) (rfl) dX5_about_86
        ·
          have n_59 : ¬ 8 ≤ i := fun h9 => c_59 ((nI_leI (a := 8) (b := i) (by omega) (by omega)).mpr h9)
          refine lv_iload_n hx hb dX5_about_62 rfl (lv_at hl 1 rfl) ?_
          refine lv_aload_n hx hb dX5_about_63 rfl (lv_at hl 2 rfl) ?_
          refine q_get (D := D) (ci := 5) (v := .ref (q 6)) (C := RX5) (T := TX5) (N := 20) hx hb hts (by decide +kernel) hown hK hP 0 0 rfl rfl rfl 9 (by decide) (hts (.fieldLink RX5 30 "OffsetRowsModel" "isOpen" "[Z") (by decide +kernel)) (fun _ h9 => h9) rfl dX5_about_64 ?_
          refine lv_iload_n hx hb dX5_about_67 rfl (lv_at hl 0 rfl) ?_
          refine q_zald hx hb hK hP 0 6 1 rfl (f := op) rfl rfl (k := i) (nI_clamp (n := i) (by omega)) (vp_in_nI (show i < 8 from by omega) (by omega)) dX5_about_68 ?_
          refine lv_if_eq (tgt := 76) hx hb dX5_about_69 (by decide) (fun c_69 => ?_) (fun c_69 => ?_)
          ·
            refine lv_iconst (v := (0 : Int32)) hx hb dX5_about_76 (by decide) ?_
            refine q_iadd (z := nI (cN i (opC op) + 0)) hx hb dX5_about_77 (nI_add (cN i (opC op)) 0) ?_
            refine lv_istore_n (lv' := [(2, .int (nI (cN i (opC op) + 0))), (3, .int (nI i)), (0, .ref (q 0)), (1, .int x)]) hx hb dX5_about_78 rfl hl (by decide) rfl (fun ls hl => ?_)
            refine lv_iinc (v := nI (i + 1)) (lv' := [(3, .int (nI (i + 1))), (2, .int (nI (cN i (opC op) + 0))), (0, .ref (q 0)), (1, .int x)]) hx hb dX5_about_79 hl (k := 1) rfl (nI_add i 1) (by decide) rfl (fun ls hl => ?_)
            refine lv_goto (tgt := 56) hx hb dX5_about_82 (by decide) ?_
            have hl : lv_has ls 4 [(3, .int (nI (i + 1))), (2, .int (nI (cN i (opC op) + 0))), (0, .ref (q 0)), (1, .int x)] := lv_sub hl [0, 1, 2, 3] rfl
            have hl : lv_has ls 4 [(3, .int (nI (i + 1))), (2, .int (nI (cN (i + 1) (opC op)))), (0, .ref (q 0)), (1, .int x)] := by
              rw [← show nI (cN i (opC op) + 0) = nI (cN (i + 1) (opC op)) from by first | rfl | simp [cN, opC, h_sw, c_59, n_59, c_69]]
              exact hl
            have hP : va_P D vwCl (List.flatten [wM cI cZ cL q 0 N c fr tt sa tk tn tr op sl nd oi il tl go gt fa mn nx]) _ := hP
            have hD : va_D A (List.flatten [wM cI cZ cL q 0 N c fr tt sa tk tn tr op sl nd oi il tl go gt fa mn nx]) := hD
            exact ih_56 (i + 1) (by omega) (by omega) _ _ hP hD hS _ hl
          ·
            refine lv_iconst (v := (1 : Int32)) hx hb dX5_about_72 (by decide) ?_
            refine lv_goto (tgt := 77) hx hb dX5_about_73 (by decide) ?_
            refine q_iadd (z := nI (cN i (opC op) + 1)) hx hb dX5_about_77 (nI_add (cN i (opC op)) 1) ?_
            refine lv_istore_n (lv' := [(2, .int (nI (cN i (opC op) + 1))), (3, .int (nI i)), (0, .ref (q 0)), (1, .int x)]) hx hb dX5_about_78 rfl hl (by decide) rfl (fun ls hl => ?_)
            refine lv_iinc (v := nI (i + 1)) (lv' := [(3, .int (nI (i + 1))), (2, .int (nI (cN i (opC op) + 1))), (0, .ref (q 0)), (1, .int x)]) hx hb dX5_about_79 hl (k := 1) rfl (nI_add i 1) (by decide) rfl (fun ls hl => ?_)
            refine lv_goto (tgt := 56) hx hb dX5_about_82 (by decide) ?_
            have hl : lv_has ls 4 [(3, .int (nI (i + 1))), (2, .int (nI (cN i (opC op) + 1))), (0, .ref (q 0)), (1, .int x)] := lv_sub hl [0, 1, 2, 3] rfl
            have hl : lv_has ls 4 [(3, .int (nI (i + 1))), (2, .int (nI (cN (i + 1) (opC op)))), (0, .ref (q 0)), (1, .int x)] := by
              rw [← show nI (cN i (opC op) + 1) = nI (cN (i + 1) (opC op)) from by first | rfl | simp [cN, opC, h_sw, c_59, n_59, c_69]]
              exact hl
            have hP : va_P D vwCl (List.flatten [wM cI cZ cL q 0 N c fr tt sa tk tn tr op sl nd oi il tl go gt fa mn nx]) _ := hP
            have hD : va_D A (List.flatten [wM cI cZ cL q 0 N c fr tt sa tk tn tr op sl nd oi il tl go gt fa mn nx]) := hD
            exact ih_56 (i + 1) (by omega) (by omega) _ _ hP hD hS _ hl
    have hl : lv_has ls 4 [(3, .int (nI 0)), (2, .int (nI (cN 0 (opC op)))), (0, .ref (q 0)), (1, .int x)] := lv_sub hl [0, 1, 2, 3] rfl
    have hP : va_P D vwCl (List.flatten [wM cI cZ cL q 0 N c fr tt sa tk tn tr op sl nd oi il tl go gt fa mn nx]) _ := hP
    have hD : va_D A (List.flatten [wM cI cZ cL q 0 N c fr tt sa tk tn tr op sl nd oi il tl go gt fa mn nx]) := hD
    exact loop_56 (8 + 1) 0 (by omega) (by omega) _ _ hP hD hS _ hl
  ·
    refine lv_lookup (off := 79) (tgt := 87) hx hb dX5_about_8 (by decide) ((lv_osw h_sw.1 rfl).trans ((lv_osw h_sw.2.1 rfl).trans (lv_osw h_sw.2.2 rfl))) (by decide) ?_
    refine lv_iconst (v := (0 : Int32)) hx hb dX5_about_87 (by decide) ?_
    refine lv_istore_n (lv' := [(3, .int (0 : Int32)), (2, .int (0 : Int32)), (0, .ref (q 0)), (1, .int x)]) hx hb dX5_about_88 rfl hl (by decide) rfl (fun ls hl => ?_)
    have loop_89 : ∀ (k_89 i : Nat), i ≤ c → c < i + k_89 → ∀ (H : Heap) (locs : List Loc), va_P D vwCl (List.flatten [wM cI cZ cL q 0 N c fr tt sa tk tn tr op sl nd oi il tl go gt fa mn nx]) H → va_D A (List.flatten [wM cI cZ cL q 0 N c fr tt sa tk tn tr op sl nd oi il tl go gt fa mn nx]) → va_S A sz.heap H locs → ∀ (ls : Array Slot), lv_has ls 4 [(3, .int (nI i)), (2, .int (nI (cN i (abB sa tk x)))), (0, .ref (q 0)), (1, .int x)] → W pz l ez (rM 0 0) sz mz [.ref (q 0), .int x].toArray bz tz cz H locs 0 0 (MQ bz (va_Qi (fun r (_ : Unit) => r = abR N c sa tk op x) (fun u t => mAt D (tY cI cZ cL) A ((fun (_ : Unit) => [wM cI cZ cL q 0 N c fr tt sa tk tn tr op sl nd oi il tl go gt fa mn nx]) u) t) A) [.ref (q 0), .int x].toArray sz 0 0 A) (F0 mz 89 ls [])  := by
      intro k_89
      induction k_89 with
      | zero => intro i hi_89 hk_89; exact absurd hk_89 (by omega)
      | succ k_89 ih_89 =>
        intro i hi_89 hk_89 H locs hP hD hS ls hl
        refine lv_iload_n hx hb dX5_about_89 rfl (lv_at hl 0 rfl) ?_
        refine lv_aload_n hx hb dX5_about_90 rfl (lv_at hl 2 rfl) ?_
        refine q_get (D := D) (ci := 5) (v := .int (nI c)) (C := RX5) (T := TX5) (N := 20) hx hb hts (by decide +kernel) hown hK hP 0 0 rfl rfl rfl 2 (by decide) (hts (.fieldLink RX5 67 "OffsetRowsModel" "arcs" "I") (by decide +kernel)) (fun _ h9 => h9) rfl dX5_about_91 ?_
        refine lv_icmp_ge (tgt := 175) hx hb dX5_about_94 (by decide) (fun c_94 => ?_) (fun c_94 => ?_)
        ·
          have n_94 : c ≤ i := (nI_leI (a := c) (b := i) (by omega) (by omega)).mp c_94
          refine lv_iload_n hx hb dX5_about_175 rfl (lv_at hl 3 rfl) ?_
          refine lv_iconst (v := (2 : Int32)) hx hb dX5_about_176 (by decide) ?_
          refine lv_icmp_lt (tgt := 189) hx hb dX5_about_177 (by decide) (fun c_177 => ?_) (fun c_177 => ?_)
          ·
            refine lv_bipush (v := (-3)) hx hb dX5_about_189 (by decide) ?_
            exact q_iret (()) hx hb hr hlocks hK hP hD hS (by (try rw [show i = c by omega]); simp [abR, h_sw.1, h_sw.2.1, h_sw.2.2, c_94, n_94, c_177]) (rfl) dX5_about_191
          ·
            refine lv_iload_n hx hb dX5_about_180 rfl (lv_at hl 3 rfl) ?_
            refine lv_iconst (v := (4 : Int32)) hx hb dX5_about_181 (by decide) ?_
            refine lv_icmp_gt (tgt := 189) hx hb dX5_about_182 (by decide) (fun c_182 => ?_) (fun c_182 => ?_)
            ·
              refine lv_bipush (v := (-3)) hx hb dX5_about_189 (by decide) ?_
              exact q_iret (()) hx hb hr hlocks hK hP hD hS (by (try rw [show i = c by omega]); simp [abR, h_sw.1, h_sw.2.1, h_sw.2.2, c_94, n_94, c_177, c_182]) (rfl) dX5_about_191
            ·
              refine lv_iload_n hx hb dX5_about_185 rfl (lv_at hl 1 rfl) ?_
              refine lv_goto (tgt := 191) hx hb dX5_about_186 (by decide) ?_
              exact q_iret (()) hx hb hr hlocks hK hP hD hS (by (try rw [show i = c by omega]); simp [abR, h_sw.1, h_sw.2.1, h_sw.2.2, c_94, n_94, c_177, c_182]) (rfl) dX5_about_191
        ·
          have n_94 : ¬ c ≤ i := fun h9 => c_94 ((nI_leI (a := c) (b := i) (by omega) (by omega)).mpr h9)
          refine lv_iload_n hx hb dX5_about_97 rfl (lv_at hl 1 rfl) ?_
          refine lv_iload_n hx hb dX5_about_98 rfl (lv_at hl 3 rfl) ?_
          refine lv_iconst (v := (2 : Int32)) hx hb dX5_about_99 (by decide) ?_
          refine lv_icmp_ne (tgt := 121) hx hb dX5_about_100 (by decide) (fun c_100 => ?_) (fun c_100 => ?_)
          ·
            refine lv_iload_n hx hb dX5_about_121 rfl (lv_at hl 3 rfl) ?_
            refine lv_iconst (v := (3 : Int32)) hx hb dX5_about_122 (by decide) ?_
            refine lv_icmp_ne (tgt := 143) hx hb dX5_about_123 (by decide) (fun c_123 => ?_) (fun c_123 => ?_)
            ·
              refine lv_aload_n hx hb dX5_about_143 rfl (lv_at hl 2 rfl) ?_
              refine q_get (D := D) (ci := 5) (v := .ref (q 3)) (C := RX5) (T := TX5) (N := 20) hx hb hts (by decide +kernel) hown hK hP 0 0 rfl rfl rfl 5 (by decide) (hts (.fieldLink RX5 20 "OffsetRowsModel" "state" "[I") (by decide +kernel)) (fun _ h9 => h9) rfl dX5_about_144 ?_
              refine lv_iload_n hx hb dX5_about_147 rfl (lv_at hl 0 rfl) ?_
              refine q_iald hx hb hK hP 0 3 0 rfl (f := sa) rfl rfl (k := i) (nI_clamp (n := i) (by omega)) (vp_in_nI (show i < 160 from by omega) (by omega)) dX5_about_148 ?_
              refine lv_iconst (v := (2 : Int32)) hx hb dX5_about_149 (by decide) ?_
              refine lv_icmp_eq (tgt := 166) hx hb dX5_about_150 (by decide) (fun c_150 => ?_) (fun c_150 => ?_)
              ·
                refine lv_iconst (v := (0 : Int32)) hx hb dX5_about_166 (by decide) ?_
                refine q_iadd (z := nI (cN i (abB sa tk x) + 0)) hx hb dX5_about_167 (nI_add (cN i (abB sa tk x)) 0) ?_
                refine lv_istore_n (lv' := [(2, .int (nI (cN i (abB sa tk x) + 0))), (3, .int (nI i)), (0, .ref (q 0)), (1, .int x)]) hx hb dX5_about_168 rfl hl (by decide) rfl (fun ls hl => ?_)
                refine lv_iinc (v := nI (i + 1)) (lv' := [(3, .int (nI (i + 1))), (2, .int (nI (cN i (abB sa tk x) + 0))), (0, .ref (q 0)), (1, .int x)]) hx hb dX5_about_169 hl (k := 1) rfl (nI_add i 1) (by decide) rfl (fun ls hl => ?_)
                refine lv_goto (tgt := 89) hx hb dX5_about_172 (by decide) ?_
                have hl : lv_has ls 4 [(3, .int (nI (i + 1))), (2, .int (nI (cN i (abB sa tk x) + 0))), (0, .ref (q 0)), (1, .int x)] := lv_sub hl [0, 1, 2, 3] rfl
                have hl : lv_has ls 4 [(3, .int (nI (i + 1))), (2, .int (nI (cN (i + 1) (abB sa tk x)))), (0, .ref (q 0)), (1, .int x)] := by
                  rw [← show nI (cN i (abB sa tk x) + 0) = nI (cN (i + 1) (abB sa tk x)) from by simp [cN, abB, lvB, h_sw.1, h_sw.2.1, h_sw.2.2, c_94, n_94, c_100, c_123, c_150]]
                  exact hl
                have hP : va_P D vwCl (List.flatten [wM cI cZ cL q 0 N c fr tt sa tk tn tr op sl nd oi il tl go gt fa mn nx]) _ := hP
                have hD : va_D A (List.flatten [wM cI cZ cL q 0 N c fr tt sa tk tn tr op sl nd oi il tl go gt fa mn nx]) := hD
                exact ih_89 (i + 1) (by omega) (by omega) _ _ hP hD hS _ hl
              ·
                refine lv_aload_n hx hb dX5_about_153 rfl (lv_at hl 2 rfl) ?_
                refine q_get (D := D) (ci := 5) (v := .ref (q 4)) (C := RX5) (T := TX5) (N := 20) hx hb hts (by decide +kernel) hown hK hP 0 0 rfl rfl rfl 6 (by decide) (hts (.fieldLink RX5 23 "OffsetRowsModel" "isTaken" "[Z") (by decide +kernel)) (fun _ h9 => h9) rfl dX5_about_154 ?_
                refine lv_iload_n hx hb dX5_about_157 rfl (lv_at hl 0 rfl) ?_
                refine q_zald hx hb hK hP 0 4 1 rfl (f := tk) rfl rfl (k := i) (nI_clamp (n := i) (by omega)) (vp_in_nI (show i < 160 from by omega) (by omega)) dX5_about_158 ?_
                refine lv_if_ne (tgt := 166) hx hb dX5_about_159 (by decide) (fun c_159 => ?_) (fun c_159 => ?_)
                ·
                  refine lv_iconst (v := (0 : Int32)) hx hb dX5_about_166 (by decide) ?_
                  refine q_iadd (z := nI (cN i (abB sa tk x) + 0)) hx hb dX5_about_167 (nI_add (cN i (abB sa tk x)) 0) ?_
                  refine lv_istore_n (lv' := [(2, .int (nI (cN i (abB sa tk x) + 0))), (3, .int (nI i)), (0, .ref (q 0)), (1, .int x)]) hx hb dX5_about_168 rfl hl (by decide) rfl (fun ls hl => ?_)
                  refine lv_iinc (v := nI (i + 1)) (lv' := [(3, .int (nI (i + 1))), (2, .int (nI (cN i (abB sa tk x) + 0))), (0, .ref (q 0)), (1, .int x)]) hx hb dX5_about_169 hl (k := 1) rfl (nI_add i 1) (by decide) rfl (fun ls hl => ?_)
                  refine lv_goto (tgt := 89) hx hb dX5_about_172 (by decide) ?_
                  have hl : lv_has ls 4 [(3, .int (nI (i + 1))), (2, .int (nI (cN i (abB sa tk x) + 0))), (0, .ref (q 0)), (1, .int x)] := lv_sub hl [0, 1, 2, 3] rfl
                  have hl : lv_has ls 4 [(3, .int (nI (i + 1))), (2, .int (nI (cN (i + 1) (abB sa tk x)))), (0, .ref (q 0)), (1, .int x)] := by
                    rw [← show nI (cN i (abB sa tk x) + 0) = nI (cN (i + 1) (abB sa tk x)) from by simp [cN, abB, lvB, h_sw.1, h_sw.2.1, h_sw.2.2, c_94, n_94, c_100, c_123, c_150, c_159]]
                    exact hl
                  have hP : va_P D vwCl (List.flatten [wM cI cZ cL q 0 N c fr tt sa tk tn tr op sl nd oi il tl go gt fa mn nx]) _ := hP
                  have hD : va_D A (List.flatten [wM cI cZ cL q 0 N c fr tt sa tk tn tr op sl nd oi il tl go gt fa mn nx]) := hD
                  exact ih_89 (i + 1) (by omega) (by omega) _ _ hP hD hS _ hl
                ·
                  refine lv_iconst (v := (1 : Int32)) hx hb dX5_about_162 (by decide) ?_
                  refine lv_goto (tgt := 167) hx hb dX5_about_163 (by decide) ?_
                  refine q_iadd (z := nI (cN i (abB sa tk x) + 1)) hx hb dX5_about_167 (nI_add (cN i (abB sa tk x)) 1) ?_
                  refine lv_istore_n (lv' := [(2, .int (nI (cN i (abB sa tk x) + 1))), (3, .int (nI i)), (0, .ref (q 0)), (1, .int x)]) hx hb dX5_about_168 rfl hl (by decide) rfl (fun ls hl => ?_)
                  refine lv_iinc (v := nI (i + 1)) (lv' := [(3, .int (nI (i + 1))), (2, .int (nI (cN i (abB sa tk x) + 1))), (0, .ref (q 0)), (1, .int x)]) hx hb dX5_about_169 hl (k := 1) rfl (nI_add i 1) (by decide) rfl (fun ls hl => ?_)
                  refine lv_goto (tgt := 89) hx hb dX5_about_172 (by decide) ?_
                  have hl : lv_has ls 4 [(3, .int (nI (i + 1))), (2, .int (nI (cN i (abB sa tk x) + 1))), (0, .ref (q 0)), (1, .int x)] := lv_sub hl [0, 1, 2, 3] rfl
                  have hl : lv_has ls 4 [(3, .int (nI (i + 1))), (2, .int (nI (cN (i + 1) (abB sa tk x)))), (0, .ref (q 0)), (1, .int x)] := by
                    rw [← show nI (cN i (abB sa tk x) + 1) = nI (cN (i + 1) (abB sa tk x)) from by simp [cN, abB, lvB, h_sw.1, h_sw.2.1, h_sw.2.2, c_94, n_94, c_100, c_123, c_150, c_159]]
                    exact hl
                  have hP : va_P D vwCl (List.flatten [wM cI cZ cL q 0 N c fr tt sa tk tn tr op sl nd oi il tl go gt fa mn nx]) _ := hP
                  have hD : va_D A (List.flatten [wM cI cZ cL q 0 N c fr tt sa tk tn tr op sl nd oi il tl go gt fa mn nx]) := hD
                  exact ih_89 (i + 1) (by omega) (by omega) _ _ hP hD hS _ hl
            ·
              refine lv_aload_n hx hb dX5_about_126 rfl (lv_at hl 2 rfl) ?_
              refine q_get (D := D) (ci := 5) (v := .ref (q 3)) (C := RX5) (T := TX5) (N := 20) hx hb hts (by decide +kernel) hown hK hP 0 0 rfl rfl rfl 5 (by decide) (hts (.fieldLink RX5 20 "OffsetRowsModel" "state" "[I") (by decide +kernel)) (fun _ h9 => h9) rfl dX5_about_127 ?_
              refine lv_iload_n hx hb dX5_about_130 rfl (lv_at hl 0 rfl) ?_
              refine q_iald hx hb hK hP 0 3 0 rfl (f := sa) rfl rfl (k := i) (nI_clamp (n := i) (by omega)) (vp_in_nI (show i < 160 from by omega) (by omega)) dX5_about_131 ?_
              refine lv_if_ne (tgt := 139) hx hb dX5_about_132 (by decide) (fun c_132 => ?_) (fun c_132 => ?_)
              ·
                refine lv_iconst (v := (0 : Int32)) hx hb dX5_about_139 (by decide) ?_
                refine lv_goto (tgt := 167) hx hb dX5_about_140 (by decide) ?_
                refine q_iadd (z := nI (cN i (abB sa tk x) + 0)) hx hb dX5_about_167 (nI_add (cN i (abB sa tk x)) 0) ?_
                refine lv_istore_n (lv' := [(2, .int (nI (cN i (abB sa tk x) + 0))), (3, .int (nI i)), (0, .ref (q 0)), (1, .int x)]) hx hb dX5_about_168 rfl hl (by decide) rfl (fun ls hl => ?_)
                refine lv_iinc (v := nI (i + 1)) (lv' := [(3, .int (nI (i + 1))), (2, .int (nI (cN i (abB sa tk x) + 0))), (0, .ref (q 0)), (1, .int x)]) hx hb dX5_about_169 hl (k := 1) rfl (nI_add i 1) (by decide) rfl (fun ls hl => ?_)
                refine lv_goto (tgt := 89) hx hb dX5_about_172 (by decide) ?_
                have hl : lv_has ls 4 [(3, .int (nI (i + 1))), (2, .int (nI (cN i (abB sa tk x) + 0))), (0, .ref (q 0)), (1, .int x)] := lv_sub hl [0, 1, 2, 3] rfl
                have hl : lv_has ls 4 [(3, .int (nI (i + 1))), (2, .int (nI (cN (i + 1) (abB sa tk x)))), (0, .ref (q 0)), (1, .int x)] := by
                  rw [← show nI (cN i (abB sa tk x) + 0) = nI (cN (i + 1) (abB sa tk x)) from by simp [cN, abB, lvB, h_sw.1, h_sw.2.1, h_sw.2.2, c_94, n_94, c_100, c_123, c_132]]
                  exact hl
                have hP : va_P D vwCl (List.flatten [wM cI cZ cL q 0 N c fr tt sa tk tn tr op sl nd oi il tl go gt fa mn nx]) _ := hP
                have hD : va_D A (List.flatten [wM cI cZ cL q 0 N c fr tt sa tk tn tr op sl nd oi il tl go gt fa mn nx]) := hD
                exact ih_89 (i + 1) (by omega) (by omega) _ _ hP hD hS _ hl
              ·
                refine lv_iconst (v := (1 : Int32)) hx hb dX5_about_135 (by decide) ?_
                refine lv_goto (tgt := 167) hx hb dX5_about_136 (by decide) ?_
                refine q_iadd (z := nI (cN i (abB sa tk x) + 1)) hx hb dX5_about_167 (nI_add (cN i (abB sa tk x)) 1) ?_
                refine lv_istore_n (lv' := [(2, .int (nI (cN i (abB sa tk x) + 1))), (3, .int (nI i)), (0, .ref (q 0)), (1, .int x)]) hx hb dX5_about_168 rfl hl (by decide) rfl (fun ls hl => ?_)
                refine lv_iinc (v := nI (i + 1)) (lv' := [(3, .int (nI (i + 1))), (2, .int (nI (cN i (abB sa tk x) + 1))), (0, .ref (q 0)), (1, .int x)]) hx hb dX5_about_169 hl (k := 1) rfl (nI_add i 1) (by decide) rfl (fun ls hl => ?_)
                refine lv_goto (tgt := 89) hx hb dX5_about_172 (by decide) ?_
                have hl : lv_has ls 4 [(3, .int (nI (i + 1))), (2, .int (nI (cN i (abB sa tk x) + 1))), (0, .ref (q 0)), (1, .int x)] := lv_sub hl [0, 1, 2, 3] rfl
                have hl : lv_has ls 4 [(3, .int (nI (i + 1))), (2, .int (nI (cN (i + 1) (abB sa tk x)))), (0, .ref (q 0)), (1, .int x)] := by
                  rw [← show nI (cN i (abB sa tk x) + 1) = nI (cN (i + 1) (abB sa tk x)) from by simp [cN, abB, lvB, h_sw.1, h_sw.2.1, h_sw.2.2, c_94, n_94, c_100, c_123, c_132]]
                  exact hl
                have hP : va_P D vwCl (List.flatten [wM cI cZ cL q 0 N c fr tt sa tk tn tr op sl nd oi il tl go gt fa mn nx]) _ := hP
                have hD : va_D A (List.flatten [wM cI cZ cL q 0 N c fr tt sa tk tn tr op sl nd oi il tl go gt fa mn nx]) := hD
                exact ih_89 (i + 1) (by omega) (by omega) _ _ hP hD hS _ hl
          ·
            refine lv_aload_n hx hb dX5_about_103 rfl (lv_at hl 2 rfl) ?_
            refine q_get (D := D) (ci := 5) (v := .ref (q 3)) (C := RX5) (T := TX5) (N := 20) hx hb hts (by decide +kernel) hown hK hP 0 0 rfl rfl rfl 5 (by decide) (hts (.fieldLink RX5 20 "OffsetRowsModel" "state" "[I") (by decide +kernel)) (fun _ h9 => h9) rfl dX5_about_104 ?_
            refine lv_iload_n hx hb dX5_about_107 rfl (lv_at hl 0 rfl) ?_
            refine q_iald hx hb hK hP 0 3 0 rfl (f := sa) rfl rfl (k := i) (nI_clamp (n := i) (by omega)) (vp_in_nI (show i < 160 from by omega) (by omega)) dX5_about_108 ?_
            refine lv_iconst (v := (1 : Int32)) hx hb dX5_about_109 (by decide) ?_
            refine lv_icmp_ne (tgt := 117) hx hb dX5_about_110 (by decide) (fun c_110 => ?_) (fun c_110 => ?_)
            ·
              refine lv_iconst (v := (0 : Int32)) hx hb dX5_about_117 (by decide) ?_
              refine lv_goto (tgt := 167) hx hb dX5_about_118 (by decide) ?_
              refine q_iadd (z := nI (cN i (abB sa tk x) + 0)) hx hb dX5_about_167 (nI_add (cN i (abB sa tk x)) 0) ?_
              refine lv_istore_n (lv' := [(2, .int (nI (cN i (abB sa tk x) + 0))), (3, .int (nI i)), (0, .ref (q 0)), (1, .int x)]) hx hb dX5_about_168 rfl hl (by decide) rfl (fun ls hl => ?_)
              refine lv_iinc (v := nI (i + 1)) (lv' := [(3, .int (nI (i + 1))), (2, .int (nI (cN i (abB sa tk x) + 0))), (0, .ref (q 0)), (1, .int x)]) hx hb dX5_about_169 hl (k := 1) rfl (nI_add i 1) (by decide) rfl (fun ls hl => ?_)
              refine lv_goto (tgt := 89) hx hb dX5_about_172 (by decide) ?_
              have hl : lv_has ls 4 [(3, .int (nI (i + 1))), (2, .int (nI (cN i (abB sa tk x) + 0))), (0, .ref (q 0)), (1, .int x)] := lv_sub hl [0, 1, 2, 3] rfl
              have hl : lv_has ls 4 [(3, .int (nI (i + 1))), (2, .int (nI (cN (i + 1) (abB sa tk x)))), (0, .ref (q 0)), (1, .int x)] := by
                rw [← show nI (cN i (abB sa tk x) + 0) = nI (cN (i + 1) (abB sa tk x)) from by simp [cN, abB, lvB, h_sw.1, h_sw.2.1, h_sw.2.2, c_94, n_94, c_100, c_110]]
                exact hl
              have hP : va_P D vwCl (List.flatten [wM cI cZ cL q 0 N c fr tt sa tk tn tr op sl nd oi il tl go gt fa mn nx]) _ := hP
              have hD : va_D A (List.flatten [wM cI cZ cL q 0 N c fr tt sa tk tn tr op sl nd oi il tl go gt fa mn nx]) := hD
              exact ih_89 (i + 1) (by omega) (by omega) _ _ hP hD hS _ hl
            ·
              refine lv_iconst (v := (1 : Int32)) hx hb dX5_about_113 (by decide) ?_
              refine lv_goto (tgt := 167) hx hb dX5_about_114 (by decide) ?_
              refine q_iadd (z := nI (cN i (abB sa tk x) + 1)) hx hb dX5_about_167 (nI_add (cN i (abB sa tk x)) 1) ?_
              refine lv_istore_n (lv' := [(2, .int (nI (cN i (abB sa tk x) + 1))), (3, .int (nI i)), (0, .ref (q 0)), (1, .int x)]) hx hb dX5_about_168 rfl hl (by decide) rfl (fun ls hl => ?_)
              refine lv_iinc (v := nI (i + 1)) (lv' := [(3, .int (nI (i + 1))), (2, .int (nI (cN i (abB sa tk x) + 1))), (0, .ref (q 0)), (1, .int x)]) hx hb dX5_about_169 hl (k := 1) rfl (nI_add i 1) (by decide) rfl (fun ls hl => ?_)
              refine lv_goto (tgt := 89) hx hb dX5_about_172 (by decide) ?_
              have hl : lv_has ls 4 [(3, .int (nI (i + 1))), (2, .int (nI (cN i (abB sa tk x) + 1))), (0, .ref (q 0)), (1, .int x)] := lv_sub hl [0, 1, 2, 3] rfl
              have hl : lv_has ls 4 [(3, .int (nI (i + 1))), (2, .int (nI (cN (i + 1) (abB sa tk x)))), (0, .ref (q 0)), (1, .int x)] := by
                rw [← show nI (cN i (abB sa tk x) + 1) = nI (cN (i + 1) (abB sa tk x)) from by simp [cN, abB, lvB, h_sw.1, h_sw.2.1, h_sw.2.2, c_94, n_94, c_100, c_110]]
                exact hl
              have hP : va_P D vwCl (List.flatten [wM cI cZ cL q 0 N c fr tt sa tk tn tr op sl nd oi il tl go gt fa mn nx]) _ := hP
              have hD : va_D A (List.flatten [wM cI cZ cL q 0 N c fr tt sa tk tn tr op sl nd oi il tl go gt fa mn nx]) := hD
              exact ih_89 (i + 1) (by omega) (by omega) _ _ hP hD hS _ hl
    have hl : lv_has ls 4 [(3, .int (nI 0)), (2, .int (nI (cN 0 (abB sa tk x)))), (0, .ref (q 0)), (1, .int x)] := lv_sub hl [0, 1, 2, 3] rfl
    have hP : va_P D vwCl (List.flatten [wM cI cZ cL q 0 N c fr tt sa tk tn tr op sl nd oi il tl go gt fa mn nx]) _ := hP
    have hD : va_D A (List.flatten [wM cI cZ cL q 0 N c fr tt sa tk tn tr op sl nd oi il tl go gt fa mn nx]) := hD
    exact loop_89 (c + 1) 0 (by omega) (by omega) _ _ hP hD hS _ hl

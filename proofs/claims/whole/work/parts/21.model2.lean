set_option maxHeartbeats 8000000 in
set_option maxRecDepth 100000 in
theorem k5_near (l : Launch) (D : va_G) (cI cZ cL : ClassId) (q : Nat → Nat) (th : Nat) (N : Nat) (c : Nat) (fr : Nat → Int32) (tt : Nat → Int32) (sa : Nat → Int32) (tk : Nat → Int32) (tn : Nat) (tr : Nat → Int32) (op : Nat → Int32) (sl : Nat → Int32) (nd : Nat → Int32) (oi : Nat → Int32) (il : Nat → Int32) (tl : Nat → Int32) (go : Nat → Int32) (gt : Nat → Int32) (fa : Nat → Int32) (mn : Nat → Int64) (nx : Nat → Int64) (x : Int32) (y : Int32) (hc : c ≤ 160) (hN : N ≤ 24) (hfr : ∀ j, j < c → vp_in (fr j) N) (htt : ∀ j, j < c → vp_in (tt j) N) : McI l D (tY cI cZ cL) yX5_near wsX5_near 2 46 [.ref (q 0), .int x, .int y] ([wM cI cZ cL q th N c fr tt sa tk tn tr op sl nd oi il tl go gt fa mn nx]) (fun r (_ : Unit) => r = nrR N c fr tt sa tk fa x y) (fun (_ : Unit) => [wM cI cZ cL q 0 N c fr tt sa tk tn tr op sl nd oi il tl go gt (nrF N c fr tt sa tk fa x y) mn nx]) := by
  refine q_ofW (Qc := fun A => (va_Qi (fun r (_ : Unit) => r = nrR N c fr tt sa tk fa x y) (fun u t => mAt D (tY cI cZ cL) A ((fun (_ : Unit) => [wM cI cZ cL q 0 N c fr tt sa tk tn tr op sl nd oi il tl go gt (nrF N c fr tt sa tk fa x y) mn nx]) u) t) A)) (cc := cX5_near) (maxL := 5) (ret := (some .int)) (by decide) rfl (Nat.le_of_ble_eq_true rfl) ?_
  intro pz ez sz mz bz tz cz hx hb hml hr hlocks hts hown hK hP A hD hA ls hl
  have hS : va_S A sz.heap sz.heap [] := va_S.rf
  have hl : lv_has ls 5 [(0, .ref (q 0)), (1, .int x), (2, .int y)] := hl
  refine lv_aload_n hx hb dX5_near_0 rfl (lv_at hl 0 rfl) ?_
  refine lv_iconst (v := (0 : Int32)) hx hb dX5_near_1 (by decide) ?_
  refine q_put (D := D) (ci := 5) (v := .int (nI 0)) (ty := .int) (C := RX5) (T := TX5) (N := 20) hx hb hts (by decide +kernel) tyX5 tyX5_ok nmX5 hown hK hP hD hS 0 0 rfl rfl rfl 0 (by decide) (hts (.fieldLink RX5 1 "OffsetRowsModel" "thrown" "I") (by decide +kernel)) (fun _ h9 => h9) rfl (by decide +kernel) rfl rfl (Nat.le_of_ble_eq_true rfl) dX5_near_2 (wM_s_th (g9 := 0)) (Fs' := [wM cI cZ cL q 0 N c fr tt sa tk tn tr op sl nd oi il tl go gt fa mn nx]) rfl (fun H locs hP hD hS => ?_)
  refine lv_aload_n hx hb dX5_near_5 rfl (lv_at hl 0 rfl) ?_
  refine lv_iload_n hx hb dX5_near_6 rfl (lv_at hl 1 rfl) ?_
  refine q_callVi (index := 70) (n := 1) (As := [.int x]) (rest := []) (js := [0]) (ci := 5) ⟨hx, hb, hml, hown, hts⟩ hK hP hD hS hA (k5_isNode l D cI cZ cL q 0 N c fr tt sa tk tn tr op sl nd oi il tl go gt fa mn nx x) rfl (by decide) (fun _ => by simp only [List.map_cons, List.map_nil, wM_fst]) (fun (_ : Unit) => [wM cI cZ cL q 0 N c fr tt sa tk tn tr op sl nd oi il tl go gt fa mn nx]) (fun _ => rfl) gX5_near_X5_isNode rfl (by decide +kernel) rfl ⟨by decide, by decide⟩ rfl rfl rfl rfl hl.1 (Nat.le_of_ble_eq_true rfl) ⟨(Nat.zero_le _), (Nat.zero_le _)⟩ dX5_near_7 rfl (fun r _ H locs hw hP hD hS => ?_)
  have hw : r = bI (hasB N x) := hw
  subst hw
  refine lv_if_eq (tgt := 21) hx hb dX5_near_10 (by decide) (fun c_10 => ?_) (fun c_10 => ?_)
  ·
    have n_10 : (hasB N x) = false := bI_0.mp c_10
    refine lv_bipush (v := (-2)) hx hb dX5_near_21 (by decide) ?_
    exact q_iret (()) hx hb hr hlocks hK hP hD hS (by simp [nrR, nrF, arB, n_10]) (by simp [nrR, nrF, arB, n_10]) dX5_near_23
  ·
    have n_10 : (hasB N x) = true := bI_n.mp c_10
    refine lv_aload_n hx hb dX5_near_13 rfl (lv_at hl 0 rfl) ?_
    refine lv_iload_n hx hb dX5_near_14 rfl (lv_at hl 2 rfl) ?_
    refine q_callVi (index := 70) (n := 1) (As := [.int y]) (rest := []) (js := [0]) (ci := 5) ⟨hx, hb, hml, hown, hts⟩ hK hP hD hS hA (k5_isNode l D cI cZ cL q 0 N c fr tt sa tk tn tr op sl nd oi il tl go gt fa mn nx y) rfl (by decide) (fun _ => by simp only [List.map_cons, List.map_nil, wM_fst]) (fun (_ : Unit) => [wM cI cZ cL q 0 N c fr tt sa tk tn tr op sl nd oi il tl go gt fa mn nx]) (fun _ => rfl) gX5_near_X5_isNode rfl (by decide +kernel) rfl ⟨by decide, by decide⟩ rfl rfl rfl rfl hl.1 (Nat.le_of_ble_eq_true rfl) ⟨(Nat.zero_le _), (Nat.zero_le _)⟩ dX5_near_15 rfl (fun r _ H locs hw hP hD hS => ?_)
    have hw : r = bI (hasB N y) := hw
    subst hw
    refine lv_if_ne (tgt := 24) hx hb dX5_near_18 (by decide) (fun c_18 => ?_) (fun c_18 => ?_)
    ·
      have n_18 : (hasB N y) = true := bI_n.mp c_18
      refine lv_iconst (v := (0 : Int32)) hx hb dX5_near_24 (by decide) ?_
      refine lv_istore_n (lv' := [(3, .int (0 : Int32)), (0, .ref (q 0)), (1, .int x), (2, .int y)]) hx hb dX5_near_25 rfl hl (by decide) rfl (fun ls hl => ?_)
      have loop_26 : ∀ (k_26 v : Nat), v ≤ N → N < v + k_26 → ∀ (H : Heap) (locs : List Loc), va_P D vwCl (List.flatten [wM cI cZ cL q 0 N c fr tt sa tk tn tr op sl nd oi il tl go gt (pfx (nr0 x) fa v) mn nx]) H → va_D A (List.flatten [wM cI cZ cL q 0 N c fr tt sa tk tn tr op sl nd oi il tl go gt (pfx (nr0 x) fa v) mn nx]) → va_S A sz.heap H locs → ∀ (ls : Array Slot), lv_has ls 5 [(3, .int (nI v)), (0, .ref (q 0)), (1, .int x), (2, .int y)] → W pz l ez (rM 2 46) sz mz [.ref (q 0), .int x, .int y].toArray bz tz cz H locs 0 0 (MQ bz (va_Qi (fun r (_ : Unit) => r = nrR N c fr tt sa tk fa x y) (fun u t => mAt D (tY cI cZ cL) A ((fun (_ : Unit) => [wM cI cZ cL q 0 N c fr tt sa tk tn tr op sl nd oi il tl go gt (nrF N c fr tt sa tk fa x y) mn nx]) u) t) A) [.ref (q 0), .int x, .int y].toArray sz 0 0 A) (F0 mz 26 ls [])  := by
        intro k_26
        induction k_26 with
        | zero => intro v hi_26 hk_26; exact absurd hk_26 (by omega)
        | succ k_26 ih_26 =>
          intro v hi_26 hk_26 H locs hP hD hS ls hl
          refine lv_iload_n hx hb dX5_near_26 rfl (lv_at hl 0 rfl) ?_
          refine lv_aload_n hx hb dX5_near_27 rfl (lv_at hl 1 rfl) ?_
          refine q_get (D := D) (ci := 5) (v := .int (nI N)) (C := RX5) (T := TX5) (N := 20) hx hb hts (by decide +kernel) hown hK hP 0 0 rfl rfl rfl 1 (by decide) (hts (.fieldLink RX5 64 "OffsetRowsModel" "nodes" "I") (by decide +kernel)) (fun _ h9 => h9) rfl dX5_near_28 ?_
          refine lv_icmp_ge (tgt := 56) hx hb dX5_near_31 (by decide) (fun c_31 => ?_) (fun c_31 => ?_)
          ·
            have n_31 : N ≤ v := (nI_leI (a := N) (b := v) (by omega) (by omega)).mp c_31
            refine lv_iconst (v := (0 : Int32)) hx hb dX5_near_56 (by decide) ?_
            refine lv_istore_n (lv' := [(3, .int (0 : Int32)), (0, .ref (q 0)), (1, .int x), (2, .int y)]) hx hb dX5_near_57 rfl hl (by decide) rfl (fun ls hl => ?_)
            have loop_58 : ∀ (k_58 n : Nat), n ≤ N → N < n + k_58 → ∀ (H : Heap) (locs : List Loc), va_P D vwCl (List.flatten [wM cI cZ cL q 0 N c fr tt sa tk tn tr op sl nd oi il tl go gt (nrO c fr tt sa tk n (pfx (nr0 x) fa N)) mn nx]) H → va_D A (List.flatten [wM cI cZ cL q 0 N c fr tt sa tk tn tr op sl nd oi il tl go gt (nrO c fr tt sa tk n (pfx (nr0 x) fa N)) mn nx]) → va_S A sz.heap H locs → ∀ (ls : Array Slot), lv_has ls 5 [(3, .int (nI n)), (0, .ref (q 0)), (1, .int x), (2, .int y)] → W pz l ez (rM 2 46) sz mz [.ref (q 0), .int x, .int y].toArray bz tz cz H locs 0 0 (MQ bz (va_Qi (fun r (_ : Unit) => r = nrR N c fr tt sa tk fa x y) (fun u t => mAt D (tY cI cZ cL) A ((fun (_ : Unit) => [wM cI cZ cL q 0 N c fr tt sa tk tn tr op sl nd oi il tl go gt (nrF N c fr tt sa tk fa x y) mn nx]) u) t) A) [.ref (q 0), .int x, .int y].toArray sz 0 0 A) (F0 mz 58 ls [])  := by
              intro k_58
              induction k_58 with
              | zero => intro n hi_58 hk_58; exact absurd hk_58 (by omega)
              | succ k_58 ih_58 =>
                intro n hi_58 hk_58 H locs hP hD hS ls hl
                refine lv_iload_n hx hb dX5_near_58 rfl (lv_at hl 0 rfl) ?_
                refine lv_aload_n hx hb dX5_near_59 rfl (lv_at hl 1 rfl) ?_
                refine q_get (D := D) (ci := 5) (v := .int (nI N)) (C := RX5) (T := TX5) (N := 20) hx hb hts (by decide +kernel) hown hK hP 0 0 rfl rfl rfl 1 (by decide) (hts (.fieldLink RX5 64 "OffsetRowsModel" "nodes" "I") (by decide +kernel)) (fun _ h9 => h9) rfl dX5_near_60 ?_
                refine lv_icmp_ge (tgt := 155) hx hb dX5_near_63 (by decide) (fun c_63 => ?_) (fun c_63 => ?_)
                ·
                  have n_63 : N ≤ n := (nI_leI (a := N) (b := n) (by omega) (by omega)).mp c_63
                  refine lv_aload_n hx hb dX5_near_155 rfl (lv_at hl 1 rfl) ?_
                  refine q_get (D := D) (ci := 5) (v := .ref (q 14)) (C := RX5) (T := TX5) (N := 20) hx hb hts (by decide +kernel) hown hK hP 0 0 rfl rfl rfl 17 (by decide) (hts (.fieldLink RX5 54 "OffsetRowsModel" "far" "[I") (by decide +kernel)) (fun _ h9 => h9) rfl dX5_near_156 ?_
                  refine lv_iload_n hx hb dX5_near_159 rfl (lv_at hl 3 rfl) ?_
                  refine q_iald hx hb hK hP 0 14 0 rfl (f := nrO c fr tt sa tk n (pfx (nr0 x) fa N)) rfl rfl (k := y.toNatClampNeg) rfl (hasB_in n_18 hN (by decide)) dX5_near_160 ?_
                  exact q_iret (()) hx hb hr hlocks hK hP hD hS (by rw [show n = N by omega]; simp [nrR, arB, n_10, n_18]) (by rw [show n = N by omega]; simp [nrF, arB, n_10, n_18]) dX5_near_161
                ·
                  have n_63 : ¬ N ≤ n := fun h9 => c_63 ((nI_leI (a := N) (b := n) (by omega) (by omega)).mpr h9)
                  refine lv_iconst (v := (0 : Int32)) hx hb dX5_near_66 (by decide) ?_
                  refine lv_istore (lv' := [(4, .int (0 : Int32)), (3, .int (nI n)), (0, .ref (q 0)), (1, .int x), (2, .int y)]) hx hb dX5_near_67 hl (by decide) rfl (fun ls hl => ?_)
                  have loop_69 : ∀ (k_69 i : Nat), i ≤ c → c < i + k_69 → ∀ (H : Heap) (locs : List Loc), va_P D vwCl (List.flatten [wM cI cZ cL q 0 N c fr tt sa tk tn tr op sl nd oi il tl go gt (nrI fr tt sa tk n i (nrO c fr tt sa tk n (pfx (nr0 x) fa N))) mn nx]) H → va_D A (List.flatten [wM cI cZ cL q 0 N c fr tt sa tk tn tr op sl nd oi il tl go gt (nrI fr tt sa tk n i (nrO c fr tt sa tk n (pfx (nr0 x) fa N))) mn nx]) → va_S A sz.heap H locs → ∀ (ls : Array Slot), lv_has ls 5 [(4, .int (nI i)), (3, .int (nI n)), (0, .ref (q 0)), (1, .int x), (2, .int y)] → W pz l ez (rM 2 46) sz mz [.ref (q 0), .int x, .int y].toArray bz tz cz H locs 0 0 (MQ bz (va_Qi (fun r (_ : Unit) => r = nrR N c fr tt sa tk fa x y) (fun u t => mAt D (tY cI cZ cL) A ((fun (_ : Unit) => [wM cI cZ cL q 0 N c fr tt sa tk tn tr op sl nd oi il tl go gt (nrF N c fr tt sa tk fa x y) mn nx]) u) t) A) [.ref (q 0), .int x, .int y].toArray sz 0 0 A) (F0 mz 69 ls [])  := by
                    intro k_69
                    induction k_69 with
                    | zero => intro i hi_69 hk_69; exact absurd hk_69 (by omega)
                    | succ k_69 ih_69 =>
                      intro i hi_69 hk_69 H locs hP hD hS ls hl
                      refine lv_iload hx hb dX5_near_69 (lv_at hl 0 rfl) ?_
                      refine lv_aload_n hx hb dX5_near_71 rfl (lv_at hl 2 rfl) ?_
                      refine q_get (D := D) (ci := 5) (v := .int (nI c)) (C := RX5) (T := TX5) (N := 20) hx hb hts (by decide +kernel) hown hK hP 0 0 rfl rfl rfl 2 (by decide) (hts (.fieldLink RX5 67 "OffsetRowsModel" "arcs" "I") (by decide +kernel)) (fun _ h9 => h9) rfl dX5_near_72 ?_
                      refine lv_icmp_ge (tgt := 149) hx hb dX5_near_75 (by decide) (fun c_75 => ?_) (fun c_75 => ?_)
                      ·
                        have n_75 : c ≤ i := (nI_leI (a := c) (b := i) (by omega) (by omega)).mp c_75
                        refine lv_iinc (v := nI (n + 1)) (lv' := [(3, .int (nI (n + 1))), (4, .int (nI i)), (0, .ref (q 0)), (1, .int x), (2, .int y)]) hx hb dX5_near_149 hl (k := 1) rfl (nI_add n 1) (by decide) rfl (fun ls hl => ?_)
                        refine lv_goto (tgt := 58) hx hb dX5_near_152 (by decide) ?_
                        have hl : lv_has ls 5 [(3, .int (nI (n + 1))), (0, .ref (q 0)), (1, .int x), (2, .int y)] := lv_sub hl [0, 2, 3, 4] rfl
                        have hq0 : nrI fr tt sa tk n i (nrO c fr tt sa tk n (pfx (nr0 x) fa N)) = nrO c fr tt sa tk (n + 1) (pfx (nr0 x) fa N) := by rw [show i = c by omega]; rfl
                        have hP : va_P D vwCl (List.flatten [wM cI cZ cL q 0 N c fr tt sa tk tn tr op sl nd oi il tl go gt (nrO c fr tt sa tk (n + 1) (pfx (nr0 x) fa N)) mn nx]) _ := wCast hP (by rw [← hq0])
                        have hD : va_D A (List.flatten [wM cI cZ cL q 0 N c fr tt sa tk tn tr op sl nd oi il tl go gt (nrO c fr tt sa tk (n + 1) (pfx (nr0 x) fa N)) mn nx]) := dCast hD (by rw [← hq0])
                        exact ih_58 (n + 1) (by omega) (by omega) _ _ hP hD hS _ hl
                      ·
                        have n_75 : ¬ c ≤ i := fun h9 => c_75 ((nI_leI (a := c) (b := i) (by omega) (by omega)).mpr h9)
                        refine lv_aload_n hx hb dX5_near_78 rfl (lv_at hl 2 rfl) ?_
                        refine lv_iload hx hb dX5_near_79 (lv_at hl 0 rfl) ?_
                        refine lv_aload_n hx hb dX5_near_81 rfl (lv_at hl 2 rfl) ?_
                        refine q_get (D := D) (ci := 5) (v := .ref (q 1)) (C := RX5) (T := TX5) (N := 20) hx hb hts (by decide +kernel) hown hK hP 0 0 rfl rfl rfl 3 (by decide) (hts (.fieldLink RX5 13 "OffsetRowsModel" "from" "[I") (by decide +kernel)) (fun _ h9 => h9) rfl dX5_near_82 ?_
                        refine lv_iload hx hb dX5_near_85 (lv_at hl 0 rfl) ?_
                        refine q_iald hx hb hK hP 0 1 0 rfl (f := fr) rfl rfl (k := i) (nI_clamp (n := i) (by omega)) (vp_in_nI (show i < 160 from by omega) (by omega)) dX5_near_87 ?_
                        refine lv_iconst (v := (0 : Int32)) hx hb dX5_near_88 (by decide) ?_
                        refine lv_iconst (v := (1 : Int32)) hx hb dX5_near_89 (by decide) ?_
                        refine q_callVi (index := 94) (n := 4) (As := [.int (nI i), .int (fr i), .int (0 : Int32), .int (1 : Int32)]) (rest := []) (js := [0]) (ci := 5) ⟨hx, hb, hml, hown, hts⟩ hK hP hD hS hA (k5_isOf l D cI cZ cL q 0 N c fr tt sa tk tn tr op sl nd oi il tl go gt (nrI fr tt sa tk n i (nrO c fr tt sa tk n (pfx (nr0 x) fa N))) mn nx i (fr i) (0 : Int32) (1 : Int32) (by omega) (by omega)) rfl (by decide) (fun _ => by simp only [List.map_cons, List.map_nil, wM_fst]) (fun (_ : Unit) => [wM cI cZ cL q 0 N c fr tt sa tk tn tr op sl nd oi il tl go gt (nrI fr tt sa tk n i (nrO c fr tt sa tk n (pfx (nr0 x) fa N))) mn nx]) (fun _ => rfl) gX5_near_X5_isOf rfl (by decide +kernel) rfl ⟨by decide, by decide⟩ rfl rfl rfl rfl hl.1 (Nat.le_of_ble_eq_true rfl) ⟨(Nat.zero_le _), (Nat.zero_le _)⟩ dX5_near_90 rfl (fun r _ H locs hw hP hD hS => ?_)
                        have hw : r = bI (ofB fr tt sa tk (fr i) (0 : Int32) (1 : Int32) i) := hw
                        subst hw
                        refine q_top (z := bI (lvB sa tk i)) (by rw [ofB_self]) ?_
                        refine lv_if_eq (tgt := 143) hx hb dX5_near_93 (by decide) (fun c_93 => ?_) (fun c_93 => ?_)
                        ·
                          have n_93 : (lvB sa tk i) = false := bI_0.mp c_93
                          refine lv_iinc (v := nI (i + 1)) (lv' := [(4, .int (nI (i + 1))), (3, .int (nI n)), (0, .ref (q 0)), (1, .int x), (2, .int y)]) hx hb dX5_near_143 hl (k := 0) rfl (nI_add i 1) (by decide) rfl (fun ls hl => ?_)
                          refine lv_goto (tgt := 69) hx hb dX5_near_146 (by decide) ?_
                          have hl : lv_has ls 5 [(4, .int (nI (i + 1))), (3, .int (nI n)), (0, .ref (q 0)), (1, .int x), (2, .int y)] := lv_sub hl [0, 1, 2, 3, 4] rfl
                          have hq0 : (nrI fr tt sa tk n i (nrO c fr tt sa tk n (pfx (nr0 x) fa N))) = nrI fr tt sa tk n (i + 1) (nrO c fr tt sa tk n (pfx (nr0 x) fa N)) := by simp [nrI, n_10, n_18, c_31, n_31, c_63, n_63, c_75, n_75, n_93]
                          have hP : va_P D vwCl (List.flatten [wM cI cZ cL q 0 N c fr tt sa tk tn tr op sl nd oi il tl go gt (nrI fr tt sa tk n (i + 1) (nrO c fr tt sa tk n (pfx (nr0 x) fa N))) mn nx]) _ := wCast hP (by rw [← hq0])
                          have hD : va_D A (List.flatten [wM cI cZ cL q 0 N c fr tt sa tk tn tr op sl nd oi il tl go gt (nrI fr tt sa tk n (i + 1) (nrO c fr tt sa tk n (pfx (nr0 x) fa N))) mn nx]) := dCast hD (by rw [← hq0])
                          exact ih_69 (i + 1) (by omega) (by omega) _ _ hP hD hS _ hl
                        ·
                          have n_93 : (lvB sa tk i) = true := bI_n.mp c_93
                          refine lv_aload_n hx hb dX5_near_96 rfl (lv_at hl 2 rfl) ?_
                          refine q_get (D := D) (ci := 5) (v := .ref (q 14)) (C := RX5) (T := TX5) (N := 20) hx hb hts (by decide +kernel) hown hK hP 0 0 rfl rfl rfl 17 (by decide) (hts (.fieldLink RX5 54 "OffsetRowsModel" "far" "[I") (by decide +kernel)) (fun _ h9 => h9) rfl dX5_near_97 ?_
                          refine lv_aload_n hx hb dX5_near_100 rfl (lv_at hl 2 rfl) ?_
                          refine q_get (D := D) (ci := 5) (v := .ref (q 1)) (C := RX5) (T := TX5) (N := 20) hx hb hts (by decide +kernel) hown hK hP 0 0 rfl rfl rfl 3 (by decide) (hts (.fieldLink RX5 13 "OffsetRowsModel" "from" "[I") (by decide +kernel)) (fun _ h9 => h9) rfl dX5_near_101 ?_
                          refine lv_iload hx hb dX5_near_104 (lv_at hl 0 rfl) ?_
                          refine q_iald hx hb hK hP 0 1 0 rfl (f := fr) rfl rfl (k := i) (nI_clamp (n := i) (by omega)) (vp_in_nI (show i < 160 from by omega) (by omega)) dX5_near_106 ?_
                          refine q_iald hx hb hK hP 0 14 0 rfl (f := (nrI fr tt sa tk n i (nrO c fr tt sa tk n (pfx (nr0 x) fa N)))) rfl rfl (k := (fr i).toNatClampNeg) rfl (in_mono (hfr i (by omega)) hN) dX5_near_107 ?_
                          refine lv_iload_n hx hb dX5_near_108 rfl (lv_at hl 1 rfl) ?_
                          refine lv_icmp_ne (tgt := 143) hx hb dX5_near_109 (by decide) (fun c_109 => ?_) (fun c_109 => ?_)
                          ·
                            refine lv_iinc (v := nI (i + 1)) (lv' := [(4, .int (nI (i + 1))), (3, .int (nI n)), (0, .ref (q 0)), (1, .int x), (2, .int y)]) hx hb dX5_near_143 hl (k := 0) rfl (nI_add i 1) (by decide) rfl (fun ls hl => ?_)
                            refine lv_goto (tgt := 69) hx hb dX5_near_146 (by decide) ?_
                            have hl : lv_has ls 5 [(4, .int (nI (i + 1))), (3, .int (nI n)), (0, .ref (q 0)), (1, .int x), (2, .int y)] := lv_sub hl [0, 1, 2, 3, 4] rfl
                            have hq0 : (nrI fr tt sa tk n i (nrO c fr tt sa tk n (pfx (nr0 x) fa N))) = nrI fr tt sa tk n (i + 1) (nrO c fr tt sa tk n (pfx (nr0 x) fa N)) := by simp [nrI, n_10, n_18, c_31, n_31, c_63, n_63, c_75, n_75, n_93, c_109]
                            have hP : va_P D vwCl (List.flatten [wM cI cZ cL q 0 N c fr tt sa tk tn tr op sl nd oi il tl go gt (nrI fr tt sa tk n (i + 1) (nrO c fr tt sa tk n (pfx (nr0 x) fa N))) mn nx]) _ := wCast hP (by rw [← hq0])
                            have hD : va_D A (List.flatten [wM cI cZ cL q 0 N c fr tt sa tk tn tr op sl nd oi il tl go gt (nrI fr tt sa tk n (i + 1) (nrO c fr tt sa tk n (pfx (nr0 x) fa N))) mn nx]) := dCast hD (by rw [← hq0])
                            exact ih_69 (i + 1) (by omega) (by omega) _ _ hP hD hS _ hl
                          ·
                            refine lv_aload_n hx hb dX5_near_112 rfl (lv_at hl 2 rfl) ?_
                            refine q_get (D := D) (ci := 5) (v := .ref (q 14)) (C := RX5) (T := TX5) (N := 20) hx hb hts (by decide +kernel) hown hK hP 0 0 rfl rfl rfl 17 (by decide) (hts (.fieldLink RX5 54 "OffsetRowsModel" "far" "[I") (by decide +kernel)) (fun _ h9 => h9) rfl dX5_near_113 ?_
                            refine lv_aload_n hx hb dX5_near_116 rfl (lv_at hl 2 rfl) ?_
                            refine q_get (D := D) (ci := 5) (v := .ref (q 2)) (C := RX5) (T := TX5) (N := 20) hx hb hts (by decide +kernel) hown hK hP 0 0 rfl rfl rfl 4 (by decide) (hts (.fieldLink RX5 17 "OffsetRowsModel" "to" "[I") (by decide +kernel)) (fun _ h9 => h9) rfl dX5_near_117 ?_
                            refine lv_iload hx hb dX5_near_120 (lv_at hl 0 rfl) ?_
                            refine q_iald hx hb hK hP 0 2 0 rfl (f := tt) rfl rfl (k := i) (nI_clamp (n := i) (by omega)) (vp_in_nI (show i < 160 from by omega) (by omega)) dX5_near_122 ?_
                            refine q_iald hx hb hK hP 0 14 0 rfl (f := (nrI fr tt sa tk n i (nrO c fr tt sa tk n (pfx (nr0 x) fa N)))) rfl rfl (k := (tt i).toNatClampNeg) rfl (in_mono (htt i (by omega)) hN) dX5_near_123 ?_
                            refine lv_iconst (v := (-1)) hx hb dX5_near_124 (by decide) ?_
                            refine lv_icmp_ne (tgt := 143) hx hb dX5_near_125 (by decide) (fun c_125 => ?_) (fun c_125 => ?_)
                            ·
                              refine lv_iinc (v := nI (i + 1)) (lv' := [(4, .int (nI (i + 1))), (3, .int (nI n)), (0, .ref (q 0)), (1, .int x), (2, .int y)]) hx hb dX5_near_143 hl (k := 0) rfl (nI_add i 1) (by decide) rfl (fun ls hl => ?_)
                              refine lv_goto (tgt := 69) hx hb dX5_near_146 (by decide) ?_
                              have hl : lv_has ls 5 [(4, .int (nI (i + 1))), (3, .int (nI n)), (0, .ref (q 0)), (1, .int x), (2, .int y)] := lv_sub hl [0, 1, 2, 3, 4] rfl
                              have hq0 : (nrI fr tt sa tk n i (nrO c fr tt sa tk n (pfx (nr0 x) fa N))) = nrI fr tt sa tk n (i + 1) (nrO c fr tt sa tk n (pfx (nr0 x) fa N)) := by simp [nrI, n_10, n_18, c_31, n_31, c_63, n_63, c_75, n_75, n_93, c_109, c_125]
                              have hP : va_P D vwCl (List.flatten [wM cI cZ cL q 0 N c fr tt sa tk tn tr op sl nd oi il tl go gt (nrI fr tt sa tk n (i + 1) (nrO c fr tt sa tk n (pfx (nr0 x) fa N))) mn nx]) _ := wCast hP (by rw [← hq0])
                              have hD : va_D A (List.flatten [wM cI cZ cL q 0 N c fr tt sa tk tn tr op sl nd oi il tl go gt (nrI fr tt sa tk n (i + 1) (nrO c fr tt sa tk n (pfx (nr0 x) fa N))) mn nx]) := dCast hD (by rw [← hq0])
                              exact ih_69 (i + 1) (by omega) (by omega) _ _ hP hD hS _ hl
                            ·
                              refine lv_aload_n hx hb dX5_near_128 rfl (lv_at hl 2 rfl) ?_
                              refine q_get (D := D) (ci := 5) (v := .ref (q 14)) (C := RX5) (T := TX5) (N := 20) hx hb hts (by decide +kernel) hown hK hP 0 0 rfl rfl rfl 17 (by decide) (hts (.fieldLink RX5 54 "OffsetRowsModel" "far" "[I") (by decide +kernel)) (fun _ h9 => h9) rfl dX5_near_129 ?_
                              refine lv_aload_n hx hb dX5_near_132 rfl (lv_at hl 2 rfl) ?_
                              refine q_get (D := D) (ci := 5) (v := .ref (q 2)) (C := RX5) (T := TX5) (N := 20) hx hb hts (by decide +kernel) hown hK hP 0 0 rfl rfl rfl 4 (by decide) (hts (.fieldLink RX5 17 "OffsetRowsModel" "to" "[I") (by decide +kernel)) (fun _ h9 => h9) rfl dX5_near_133 ?_
                              refine lv_iload hx hb dX5_near_136 (lv_at hl 0 rfl) ?_
                              refine q_iald hx hb hK hP 0 2 0 rfl (f := tt) rfl rfl (k := i) (nI_clamp (n := i) (by omega)) (vp_in_nI (show i < 160 from by omega) (by omega)) dX5_near_138 ?_
                              refine lv_iload_n hx hb dX5_near_139 rfl (lv_at hl 1 rfl) ?_
                              refine lv_iconst (v := (1 : Int32)) hx hb dX5_near_140 (by decide) ?_
                              refine q_iadd (z := nI (n + 1)) hx hb dX5_near_141 (nI_add n 1) ?_
                              refine q_iast hx hb hK hP hD hS 0 14 0 rfl (f := (nrI fr tt sa tk n i (nrO c fr tt sa tk n (pfx (nr0 x) fa N)))) rfl rfl (k := (tt i).toNatClampNeg) rfl (in_mono (htt i (by omega)) hN) dX5_near_142 wM_s_fa (Fs' := [wM cI cZ cL q 0 N c fr tt sa tk tn tr op sl nd oi il tl go gt (upd (nrI fr tt sa tk n i (nrO c fr tt sa tk n (pfx (nr0 x) fa N))) ((tt i).toNatClampNeg) (nI (n + 1))) mn nx]) rfl (fun H locs hP hD hS => ?_)
                              refine lv_iinc (v := nI (i + 1)) (lv' := [(4, .int (nI (i + 1))), (3, .int (nI n)), (0, .ref (q 0)), (1, .int x), (2, .int y)]) hx hb dX5_near_143 hl (k := 0) rfl (nI_add i 1) (by decide) rfl (fun ls hl => ?_)
                              refine lv_goto (tgt := 69) hx hb dX5_near_146 (by decide) ?_
                              have hl : lv_has ls 5 [(4, .int (nI (i + 1))), (3, .int (nI n)), (0, .ref (q 0)), (1, .int x), (2, .int y)] := lv_sub hl [0, 1, 2, 3, 4] rfl
                              have hq0 : upd (nrI fr tt sa tk n i (nrO c fr tt sa tk n (pfx (nr0 x) fa N))) ((tt i).toNatClampNeg) (nI (n + 1)) = nrI fr tt sa tk n (i + 1) (nrO c fr tt sa tk n (pfx (nr0 x) fa N)) := by simp [nrI, n_10, n_18, c_31, n_31, c_63, n_63, c_75, n_75, n_93, c_109, c_125]
                              have hP : va_P D vwCl (List.flatten [wM cI cZ cL q 0 N c fr tt sa tk tn tr op sl nd oi il tl go gt (nrI fr tt sa tk n (i + 1) (nrO c fr tt sa tk n (pfx (nr0 x) fa N))) mn nx]) _ := wCast hP (by rw [← hq0])
                              have hD : va_D A (List.flatten [wM cI cZ cL q 0 N c fr tt sa tk tn tr op sl nd oi il tl go gt (nrI fr tt sa tk n (i + 1) (nrO c fr tt sa tk n (pfx (nr0 x) fa N))) mn nx]) := dCast hD (by rw [← hq0])
                              exact ih_69 (i + 1) (by omega) (by omega) _ _ hP hD hS _ hl
                  have hl : lv_has ls 5 [(4, .int (nI 0)), (3, .int (nI n)), (0, .ref (q 0)), (1, .int x), (2, .int y)] := lv_sub hl [0, 1, 2, 3, 4] rfl
                  have hq0 : nrO c fr tt sa tk n (pfx (nr0 x) fa N) = nrI fr tt sa tk n 0 (nrO c fr tt sa tk n (pfx (nr0 x) fa N)) := rfl
                  have hP : va_P D vwCl (List.flatten [wM cI cZ cL q 0 N c fr tt sa tk tn tr op sl nd oi il tl go gt (nrI fr tt sa tk n 0 (nrO c fr tt sa tk n (pfx (nr0 x) fa N))) mn nx]) _ := wCast hP (by rw [← hq0])
                  have hD : va_D A (List.flatten [wM cI cZ cL q 0 N c fr tt sa tk tn tr op sl nd oi il tl go gt (nrI fr tt sa tk n 0 (nrO c fr tt sa tk n (pfx (nr0 x) fa N))) mn nx]) := dCast hD (by rw [← hq0])
                  exact loop_69 (c + 1) 0 (by omega) (by omega) _ _ hP hD hS _ hl
            have hl : lv_has ls 5 [(3, .int (nI 0)), (0, .ref (q 0)), (1, .int x), (2, .int y)] := lv_sub hl [0, 1, 2, 3] rfl
            have hq0 : pfx (nr0 x) fa v = nrO c fr tt sa tk 0 (pfx (nr0 x) fa N) := by rw [show v = N by omega]; rfl
            have hP : va_P D vwCl (List.flatten [wM cI cZ cL q 0 N c fr tt sa tk tn tr op sl nd oi il tl go gt (nrO c fr tt sa tk 0 (pfx (nr0 x) fa N)) mn nx]) _ := wCast hP (by rw [← hq0])
            have hD : va_D A (List.flatten [wM cI cZ cL q 0 N c fr tt sa tk tn tr op sl nd oi il tl go gt (nrO c fr tt sa tk 0 (pfx (nr0 x) fa N)) mn nx]) := dCast hD (by rw [← hq0])
            exact loop_58 (N + 1) 0 (by omega) (by omega) _ _ hP hD hS _ hl
          ·
            have n_31 : ¬ N ≤ v := fun h9 => c_31 ((nI_leI (a := N) (b := v) (by omega) (by omega)).mpr h9)
            refine lv_aload_n hx hb dX5_near_34 rfl (lv_at hl 1 rfl) ?_
            refine q_get (D := D) (ci := 5) (v := .ref (q 14)) (C := RX5) (T := TX5) (N := 20) hx hb hts (by decide +kernel) hown hK hP 0 0 rfl rfl rfl 17 (by decide) (hts (.fieldLink RX5 54 "OffsetRowsModel" "far" "[I") (by decide +kernel)) (fun _ h9 => h9) rfl dX5_near_35 ?_
            refine lv_iload_n hx hb dX5_near_38 rfl (lv_at hl 0 rfl) ?_
            refine lv_iload_n hx hb dX5_near_39 rfl (lv_at hl 0 rfl) ?_
            refine lv_iload_n hx hb dX5_near_40 rfl (lv_at hl 2 rfl) ?_
            refine lv_icmp_ne (tgt := 48) hx hb dX5_near_41 (by decide) (fun c_41 => ?_) (fun c_41 => ?_)
            ·
              refine lv_iconst (v := (-1)) hx hb dX5_near_48 (by decide) ?_
              refine q_iast hx hb hK hP hD hS 0 14 0 rfl (f := pfx (nr0 x) fa v) rfl rfl (k := v) (nI_clamp (n := v) (by omega)) (vp_in_nI (show v < 24 from by omega) (by omega)) dX5_near_49 wM_s_fa (Fs' := [wM cI cZ cL q 0 N c fr tt sa tk tn tr op sl nd oi il tl go gt (upd (pfx (nr0 x) fa v) v (-1 : Int32)) mn nx]) rfl (fun H locs hP hD hS => ?_)
              have hP : va_P D vwCl (List.flatten [wM cI cZ cL q 0 N c fr tt sa tk tn tr op sl nd oi il tl go gt (pfx (nr0 x) fa (v + 1)) mn nx]) _ := wCast hP (by rw [show upd (pfx (nr0 x) fa v) v (-1 : Int32) = pfx (nr0 x) fa (v + 1) from pfx_w (by simp [nr0, c_41])])
              have hD : va_D A (List.flatten [wM cI cZ cL q 0 N c fr tt sa tk tn tr op sl nd oi il tl go gt (pfx (nr0 x) fa (v + 1)) mn nx]) := dCast hD (by rw [show upd (pfx (nr0 x) fa v) v (-1 : Int32) = pfx (nr0 x) fa (v + 1) from pfx_w (by simp [nr0, c_41])])
              refine lv_iinc (v := nI (v + 1)) (lv' := [(3, .int (nI (v + 1))), (0, .ref (q 0)), (1, .int x), (2, .int y)]) hx hb dX5_near_50 hl (k := 0) rfl (nI_add v 1) (by decide) rfl (fun ls hl => ?_)
              refine lv_goto (tgt := 26) hx hb dX5_near_53 (by decide) ?_
              have hl : lv_has ls 5 [(3, .int (nI (v + 1))), (0, .ref (q 0)), (1, .int x), (2, .int y)] := lv_sub hl [0, 1, 2, 3] rfl
              have hP : va_P D vwCl (List.flatten [wM cI cZ cL q 0 N c fr tt sa tk tn tr op sl nd oi il tl go gt (pfx (nr0 x) fa (v + 1)) mn nx]) _ := hP
              have hD : va_D A (List.flatten [wM cI cZ cL q 0 N c fr tt sa tk tn tr op sl nd oi il tl go gt (pfx (nr0 x) fa (v + 1)) mn nx]) := hD
              exact ih_26 (v + 1) (by omega) (by omega) _ _ hP hD hS _ hl
            ·
              refine lv_iconst (v := (0 : Int32)) hx hb dX5_near_44 (by decide) ?_
              refine lv_goto (tgt := 49) hx hb dX5_near_45 (by decide) ?_
              refine q_iast hx hb hK hP hD hS 0 14 0 rfl (f := pfx (nr0 x) fa v) rfl rfl (k := v) (nI_clamp (n := v) (by omega)) (vp_in_nI (show v < 24 from by omega) (by omega)) dX5_near_49 wM_s_fa (Fs' := [wM cI cZ cL q 0 N c fr tt sa tk tn tr op sl nd oi il tl go gt (upd (pfx (nr0 x) fa v) v (0 : Int32)) mn nx]) rfl (fun H locs hP hD hS => ?_)
              have hP : va_P D vwCl (List.flatten [wM cI cZ cL q 0 N c fr tt sa tk tn tr op sl nd oi il tl go gt (pfx (nr0 x) fa (v + 1)) mn nx]) _ := wCast hP (by rw [show upd (pfx (nr0 x) fa v) v (0 : Int32) = pfx (nr0 x) fa (v + 1) from pfx_w (by simp [nr0, c_41])])
              have hD : va_D A (List.flatten [wM cI cZ cL q 0 N c fr tt sa tk tn tr op sl nd oi il tl go gt (pfx (nr0 x) fa (v + 1)) mn nx]) := dCast hD (by rw [show upd (pfx (nr0 x) fa v) v (0 : Int32) = pfx (nr0 x) fa (v + 1) from pfx_w (by simp [nr0, c_41])])
              refine lv_iinc (v := nI (v + 1)) (lv' := [(3, .int (nI (v + 1))), (0, .ref (q 0)), (1, .int x), (2, .int y)]) hx hb dX5_near_50 hl (k := 0) rfl (nI_add v 1) (by decide) rfl (fun ls hl => ?_)
              refine lv_goto (tgt := 26) hx hb dX5_near_53 (by decide) ?_
              have hl : lv_has ls 5 [(3, .int (nI (v + 1))), (0, .ref (q 0)), (1, .int x), (2, .int y)] := lv_sub hl [0, 1, 2, 3] rfl
              have hP : va_P D vwCl (List.flatten [wM cI cZ cL q 0 N c fr tt sa tk tn tr op sl nd oi il tl go gt (pfx (nr0 x) fa (v + 1)) mn nx]) _ := hP
              have hD : va_D A (List.flatten [wM cI cZ cL q 0 N c fr tt sa tk tn tr op sl nd oi il tl go gt (pfx (nr0 x) fa (v + 1)) mn nx]) := hD
              exact ih_26 (v + 1) (by omega) (by omega) _ _ hP hD hS _ hl
      have hl : lv_has ls 5 [(3, .int (nI 0)), (0, .ref (q 0)), (1, .int x), (2, .int y)] := lv_sub hl [0, 1, 2, 3] rfl
      have hq0 : fa = pfx (nr0 x) fa 0 := pfx_0.symm
      have hP : va_P D vwCl (List.flatten [wM cI cZ cL q 0 N c fr tt sa tk tn tr op sl nd oi il tl go gt (pfx (nr0 x) fa 0) mn nx]) _ := wCast hP (by rw [← hq0])
      have hD : va_D A (List.flatten [wM cI cZ cL q 0 N c fr tt sa tk tn tr op sl nd oi il tl go gt (pfx (nr0 x) fa 0) mn nx]) := dCast hD (by rw [← hq0])
      exact loop_26 (N + 1) 0 (by omega) (by omega) _ _ hP hD hS _ hl
    ·
      have n_18 : (hasB N y) = false := bI_0.mp c_18
      refine lv_bipush (v := (-2)) hx hb dX5_near_21 (by decide) ?_
      exact q_iret (()) hx hb hr hlocks hK hP hD hS (by simp [nrR, nrF, arB, n_10, n_18]) (by simp [nrR, nrF, arB, n_10, n_18]) dX5_near_23

set_option maxHeartbeats 8000000 in
set_option maxRecDepth 100000 in
theorem k5_ways (l : Launch) (D : va_G) (cI cZ cL : ClassId) (q : Nat → Nat) (th : Nat) (N : Nat) (c : Nat) (fr : Nat → Int32) (tt : Nat → Int32) (sa : Nat → Int32) (tk : Nat → Int32) (tn : Nat) (tr : Nat → Int32) (op : Nat → Int32) (sl : Nat → Int32) (nd : Nat → Int32) (oi : Nat → Int32) (il : Nat → Int32) (tl : Nat → Int32) (go : Nat → Int32) (gt : Nat → Int32) (fa : Nat → Int32) (mn : Nat → Int64) (nx : Nat → Int64) (x : Int32) (y : Int32) (k : Int32) (hc : c ≤ 160) (hN : N ≤ 24) (hfr : ∀ j, j < c → vp_in (fr j) N) (htt : ∀ j, j < c → vp_in (tt j) N) : McL l D (tY cI cZ cL) yX5_ways wsX5_ways 2 46 [.ref (q 0), .int x, .int y, .int k] ([wM cI cZ cL q th N c fr tt sa tk tn tr op sl nd oi il tl go gt fa mn nx]) (fun r (_ : Unit) => r = wyR N c fr tt sa tk mn nx x y k) (fun (_ : Unit) => [wM cI cZ cL q 0 N c fr tt sa tk tn tr op sl nd oi il tl go gt fa (wyM N c fr tt sa tk mn nx x y k) (wyX N c fr tt sa tk mn nx x y k)]) := by
  refine q_ofW (Qc := fun A => (va_Ql (fun r (_ : Unit) => r = wyR N c fr tt sa tk mn nx x y k) (fun u t => mAt D (tY cI cZ cL) A ((fun (_ : Unit) => [wM cI cZ cL q 0 N c fr tt sa tk tn tr op sl nd oi il tl go gt fa (wyM N c fr tt sa tk mn nx x y k) (wyX N c fr tt sa tk mn nx x y k)]) u) t) A)) (cc := cX5_ways) (maxL := 6) (ret := (some .long)) (by decide) rfl (Nat.le_of_ble_eq_true rfl) ?_
  intro pz ez sz mz bz tz cz hx hb hml hr hlocks hts hown hK hP A hD hA ls hl
  have hS : va_S A sz.heap sz.heap [] := va_S.rf
  have hl : lv_has ls 6 [(0, .ref (q 0)), (1, .int x), (2, .int y), (3, .int k)] := hl
  refine lv_aload_n hx hb dX5_ways_0 rfl (lv_at hl 0 rfl) ?_
  refine lv_iconst (v := (0 : Int32)) hx hb dX5_ways_1 (by decide) ?_
  refine q_put (D := D) (ci := 5) (v := .int (nI 0)) (ty := .int) (C := RX5) (T := TX5) (N := 20) hx hb hts (by decide +kernel) tyX5 tyX5_ok nmX5 hown hK hP hD hS 0 0 rfl rfl rfl 0 (by decide) (hts (.fieldLink RX5 1 "OffsetRowsModel" "thrown" "I") (by decide +kernel)) (fun _ h9 => h9) rfl (by decide +kernel) rfl rfl (Nat.le_of_ble_eq_true rfl) dX5_ways_2 (wM_s_th (g9 := 0)) (Fs' := [wM cI cZ cL q 0 N c fr tt sa tk tn tr op sl nd oi il tl go gt fa mn nx]) rfl (fun H locs hP hD hS => ?_)
  refine lv_aload_n hx hb dX5_ways_5 rfl (lv_at hl 0 rfl) ?_
  refine lv_iload_n hx hb dX5_ways_6 rfl (lv_at hl 1 rfl) ?_
  refine q_callVi (index := 70) (n := 1) (As := [.int x]) (rest := []) (js := [0]) (ci := 5) ⟨hx, hb, hml, hown, hts⟩ hK hP hD hS hA (k5_isNode l D cI cZ cL q 0 N c fr tt sa tk tn tr op sl nd oi il tl go gt fa mn nx x) rfl (by decide) (fun _ => by simp only [List.map_cons, List.map_nil, wM_fst]) (fun (_ : Unit) => [wM cI cZ cL q 0 N c fr tt sa tk tn tr op sl nd oi il tl go gt fa mn nx]) (fun _ => rfl) gX5_ways_X5_isNode rfl (by decide +kernel) rfl ⟨by decide, by decide⟩ rfl rfl rfl rfl hl.1 (Nat.le_of_ble_eq_true rfl) ⟨(Nat.zero_le _), (Nat.zero_le _)⟩ dX5_ways_7 rfl (fun r _ H locs hw hP hD hS => ?_)
  have hw : r = bI (hasB N x) := hw
  subst hw
  refine lv_if_eq (tgt := 21) hx hb dX5_ways_10 (by decide) (fun c_10 => ?_) (fun c_10 => ?_)
  ·
    have n_10 : (hasB N x) = false := bI_0.mp c_10
    refine lv_ldc2 (v := -2) hx hb hown (hts (.constantLong RX5 114 (-2)) (by decide +kernel)) dX5_ways_21 ?_
    exact q_lret (()) hx hb hr hlocks hK hP hD hS (by simp [wyR, wyM, wyX, wyB, arB, n_10]) (by simp [wyR, wyM, wyX, wyB, arB, n_10]) dX5_ways_24
  ·
    have n_10 : (hasB N x) = true := bI_n.mp c_10
    refine lv_aload_n hx hb dX5_ways_13 rfl (lv_at hl 0 rfl) ?_
    refine lv_iload_n hx hb dX5_ways_14 rfl (lv_at hl 2 rfl) ?_
    refine q_callVi (index := 70) (n := 1) (As := [.int y]) (rest := []) (js := [0]) (ci := 5) ⟨hx, hb, hml, hown, hts⟩ hK hP hD hS hA (k5_isNode l D cI cZ cL q 0 N c fr tt sa tk tn tr op sl nd oi il tl go gt fa mn nx y) rfl (by decide) (fun _ => by simp only [List.map_cons, List.map_nil, wM_fst]) (fun (_ : Unit) => [wM cI cZ cL q 0 N c fr tt sa tk tn tr op sl nd oi il tl go gt fa mn nx]) (fun _ => rfl) gX5_ways_X5_isNode rfl (by decide +kernel) rfl ⟨by decide, by decide⟩ rfl rfl rfl rfl hl.1 (Nat.le_of_ble_eq_true rfl) ⟨(Nat.zero_le _), (Nat.zero_le _)⟩ dX5_ways_15 rfl (fun r _ H locs hw hP hD hS => ?_)
    have hw : r = bI (hasB N y) := hw
    subst hw
    refine lv_if_ne (tgt := 25) hx hb dX5_ways_18 (by decide) (fun c_18 => ?_) (fun c_18 => ?_)
    ·
      have n_18 : (hasB N y) = true := bI_n.mp c_18
      refine lv_iload_n hx hb dX5_ways_25 rfl (lv_at hl 3 rfl) ?_
      refine lv_if_lt (tgt := 35) hx hb dX5_ways_26 (by decide) (fun c_26 => ?_) (fun c_26 => ?_)
      ·
        refine lv_ldc2 (v := -3) hx hb hown (hts (.constantLong RX5 116 (-3)) (by decide +kernel)) dX5_ways_35 ?_
        exact q_lret (()) hx hb hr hlocks hK hP hD hS (by simp [wyR, wyM, wyX, wyB, arB, n_10, n_18, c_26]) (by simp [wyR, wyM, wyX, wyB, arB, n_10, n_18, c_26]) dX5_ways_38
      ·
        refine lv_iload_n hx hb dX5_ways_29 rfl (lv_at hl 3 rfl) ?_
        refine lv_bipush (v := (60 : Int32)) hx hb dX5_ways_30 (by decide) ?_
        refine lv_icmp_le (tgt := 39) hx hb dX5_ways_32 (by decide) (fun c_32 => ?_) (fun c_32 => ?_)
        ·
          obtain ⟨kk, hkk, hkq⟩ := nI_of2 (M := 60) (n := 60) (by decide) c_26 c_32
          have hl : lv_has ls 6 [(0, .ref (q 0)), (1, .int x), (2, .int y), (3, .int (nI kk))] := by rw [← hkq]; exact hl
          have hkc : k.toNatClampNeg = kk := by rw [hkq]; exact nI_clamp (by omega)
          refine lv_iconst (v := (0 : Int32)) hx hb dX5_ways_39 (by decide) ?_
          refine lv_istore (lv' := [(4, .int (0 : Int32)), (0, .ref (q 0)), (1, .int x), (2, .int y), (3, .int (nI kk))]) hx hb dX5_ways_40 hl (by decide) rfl (fun ls hl => ?_)
          have loop_42 : ∀ (k_42 v : Nat), v ≤ N → N < v + k_42 → ∀ (H : Heap) (locs : List Loc), va_P D vwCl (List.flatten [wM cI cZ cL q 0 N c fr tt sa tk tn tr op sl nd oi il tl go gt fa (pfx (wy0 x) mn v) nx]) H → va_D A (List.flatten [wM cI cZ cL q 0 N c fr tt sa tk tn tr op sl nd oi il tl go gt fa (pfx (wy0 x) mn v) nx]) → va_S A sz.heap H locs → ∀ (ls : Array Slot), lv_has ls 6 [(4, .int (nI v)), (0, .ref (q 0)), (1, .int x), (2, .int y), (3, .int (nI kk))] → W pz l ez (rM 2 46) sz mz [.ref (q 0), .int x, .int y, .int k].toArray bz tz cz H locs 0 0 (MQ bz (va_Ql (fun r (_ : Unit) => r = wyR N c fr tt sa tk mn nx x y k) (fun u t => mAt D (tY cI cZ cL) A ((fun (_ : Unit) => [wM cI cZ cL q 0 N c fr tt sa tk tn tr op sl nd oi il tl go gt fa (wyM N c fr tt sa tk mn nx x y k) (wyX N c fr tt sa tk mn nx x y k)]) u) t) A) [.ref (q 0), .int x, .int y, .int k].toArray sz 0 0 A) (F0 mz 42 ls [])  := by
            intro k_42
            induction k_42 with
            | zero => intro v hi_42 hk_42; exact absurd hk_42 (by omega)
            | succ k_42 ih_42 =>
              intro v hi_42 hk_42 H locs hP hD hS ls hl
              refine lv_iload hx hb dX5_ways_42 (lv_at hl 0 rfl) ?_
              refine lv_aload_n hx hb dX5_ways_44 rfl (lv_at hl 1 rfl) ?_
              refine q_get (D := D) (ci := 5) (v := .int (nI N)) (C := RX5) (T := TX5) (N := 20) hx hb hts (by decide +kernel) hown hK hP 0 0 rfl rfl rfl 1 (by decide) (hts (.fieldLink RX5 64 "OffsetRowsModel" "nodes" "I") (by decide +kernel)) (fun _ h9 => h9) rfl dX5_ways_45 ?_
              refine lv_icmp_ge (tgt := 75) hx hb dX5_ways_48 (by decide) (fun c_48 => ?_) (fun c_48 => ?_)
              ·
                have n_48 : N ≤ v := (nI_leI (a := N) (b := v) (by omega) (by omega)).mp c_48
                refine lv_iconst (v := (0 : Int32)) hx hb dX5_ways_75 (by decide) ?_
                refine lv_istore (lv' := [(4, .int (0 : Int32)), (0, .ref (q 0)), (1, .int x), (2, .int y), (3, .int (nI kk))]) hx hb dX5_ways_76 hl (by decide) rfl (fun ls hl => ?_)
                have loop_78 : ∀ (k_78 n : Nat), n ≤ kk → kk < n + k_78 → ∀ (H : Heap) (locs : List Loc), va_P D vwCl (List.flatten [wM cI cZ cL q 0 N c fr tt sa tk tn tr op sl nd oi il tl go gt fa ((wyO N c fr tt sa tk (pfx (wy0 x) mn N) nx n).1) ((wyO N c fr tt sa tk (pfx (wy0 x) mn N) nx n).2)]) H → va_D A (List.flatten [wM cI cZ cL q 0 N c fr tt sa tk tn tr op sl nd oi il tl go gt fa ((wyO N c fr tt sa tk (pfx (wy0 x) mn N) nx n).1) ((wyO N c fr tt sa tk (pfx (wy0 x) mn N) nx n).2)]) → va_S A sz.heap H locs → ∀ (ls : Array Slot), lv_has ls 6 [(4, .int (nI n)), (0, .ref (q 0)), (1, .int x), (2, .int y), (3, .int (nI kk))] → W pz l ez (rM 2 46) sz mz [.ref (q 0), .int x, .int y, .int k].toArray bz tz cz H locs 0 0 (MQ bz (va_Ql (fun r (_ : Unit) => r = wyR N c fr tt sa tk mn nx x y k) (fun u t => mAt D (tY cI cZ cL) A ((fun (_ : Unit) => [wM cI cZ cL q 0 N c fr tt sa tk tn tr op sl nd oi il tl go gt fa (wyM N c fr tt sa tk mn nx x y k) (wyX N c fr tt sa tk mn nx x y k)]) u) t) A) [.ref (q 0), .int x, .int y, .int k].toArray sz 0 0 A) (F0 mz 78 ls [])  := by
                  intro k_78
                  induction k_78 with
                  | zero => intro n hi_78 hk_78; exact absurd hk_78 (by omega)
                  | succ k_78 ih_78 =>
                    intro n hi_78 hk_78 H locs hP hD hS ls hl
                    refine lv_iload hx hb dX5_ways_78 (lv_at hl 0 rfl) ?_
                    refine lv_iload_n hx hb dX5_ways_80 rfl (lv_at hl 4 rfl) ?_
                    refine lv_icmp_ge (tgt := 215) hx hb dX5_ways_81 (by decide) (fun c_81 => ?_) (fun c_81 => ?_)
                    ·
                      have n_81 : kk ≤ n := (nI_leI (a := kk) (b := n) (by omega) (by omega)).mp c_81
                      refine lv_aload_n hx hb dX5_ways_215 rfl (lv_at hl 1 rfl) ?_
                      refine q_get (D := D) (ci := 5) (v := .ref (q 15)) (C := RX5) (T := TX5) (N := 20) hx hb hts (by decide +kernel) hown hK hP 0 0 rfl rfl rfl 18 (by decide) (hts (.fieldLink RX5 57 "OffsetRowsModel" "many" "[J") (by decide +kernel)) (fun _ h9 => h9) rfl dX5_ways_216 ?_
                      refine lv_iload_n hx hb dX5_ways_219 rfl (lv_at hl 3 rfl) ?_
                      refine q_lald hx hb hK hP 0 15 2 rfl (f := (wyO N c fr tt sa tk (pfx (wy0 x) mn N) nx n).1) rfl rfl (k := y.toNatClampNeg) rfl (hasB_in n_18 hN (by decide)) dX5_ways_220 ?_
                      exact q_lret (()) hx hb hr hlocks hK hP hD hS (by rw [show n = kk by omega]; simp [wyR, wyE, wyB, arB, n_10, n_18, c_26, c_32, hkc]) (by rw [show n = kk by omega]; simp [wyM, wyX, wyE, wyB, arB, n_10, n_18, c_26, c_32, hkc]) dX5_ways_221
                    ·
                      have n_81 : ¬ kk ≤ n := fun h9 => c_81 ((nI_leI (a := kk) (b := n) (by omega) (by omega)).mpr h9)
                      refine lv_iconst (v := (0 : Int32)) hx hb dX5_ways_84 (by decide) ?_
                      refine lv_istore (lv' := [(5, .int (0 : Int32)), (4, .int (nI n)), (0, .ref (q 0)), (1, .int x), (2, .int y), (3, .int (nI kk))]) hx hb dX5_ways_85 hl (by decide) rfl (fun ls hl => ?_)
                      have loop_87 : ∀ (k_87 u : Nat), u ≤ N → N < u + k_87 → ∀ (H : Heap) (locs : List Loc), va_P D vwCl (List.flatten [wM cI cZ cL q 0 N c fr tt sa tk tn tr op sl nd oi il tl go gt fa ((wyO N c fr tt sa tk (pfx (wy0 x) mn N) nx n).1) (pfx (fun _ => 0) (wyO N c fr tt sa tk (pfx (wy0 x) mn N) nx n).2 u)]) H → va_D A (List.flatten [wM cI cZ cL q 0 N c fr tt sa tk tn tr op sl nd oi il tl go gt fa ((wyO N c fr tt sa tk (pfx (wy0 x) mn N) nx n).1) (pfx (fun _ => 0) (wyO N c fr tt sa tk (pfx (wy0 x) mn N) nx n).2 u)]) → va_S A sz.heap H locs → ∀ (ls : Array Slot), lv_has ls 6 [(5, .int (nI u)), (4, .int (nI n)), (0, .ref (q 0)), (1, .int x), (2, .int y), (3, .int (nI kk))] → W pz l ez (rM 2 46) sz mz [.ref (q 0), .int x, .int y, .int k].toArray bz tz cz H locs 0 0 (MQ bz (va_Ql (fun r (_ : Unit) => r = wyR N c fr tt sa tk mn nx x y k) (fun u t => mAt D (tY cI cZ cL) A ((fun (_ : Unit) => [wM cI cZ cL q 0 N c fr tt sa tk tn tr op sl nd oi il tl go gt fa (wyM N c fr tt sa tk mn nx x y k) (wyX N c fr tt sa tk mn nx x y k)]) u) t) A) [.ref (q 0), .int x, .int y, .int k].toArray sz 0 0 A) (F0 mz 87 ls [])  := by
                        intro k_87
                        induction k_87 with
                        | zero => intro u hi_87 hk_87; exact absurd hk_87 (by omega)
                        | succ k_87 ih_87 =>
                          intro u hi_87 hk_87 H locs hP hD hS ls hl
                          refine lv_iload hx hb dX5_ways_87 (lv_at hl 0 rfl) ?_
                          refine lv_aload_n hx hb dX5_ways_89 rfl (lv_at hl 2 rfl) ?_
                          refine q_get (D := D) (ci := 5) (v := .int (nI N)) (C := RX5) (T := TX5) (N := 20) hx hb hts (by decide +kernel) hown hK hP 0 0 rfl rfl rfl 1 (by decide) (hts (.fieldLink RX5 64 "OffsetRowsModel" "nodes" "I") (by decide +kernel)) (fun _ h9 => h9) rfl dX5_ways_90 ?_
                          refine lv_icmp_ge (tgt := 110) hx hb dX5_ways_93 (by decide) (fun c_93 => ?_) (fun c_93 => ?_)
                          ·
                            have n_93 : N ≤ u := (nI_leI (a := N) (b := u) (by omega) (by omega)).mp c_93
                            refine lv_iconst (v := (0 : Int32)) hx hb dX5_ways_110 (by decide) ?_
                            refine lv_istore (lv' := [(5, .int (0 : Int32)), (4, .int (nI n)), (0, .ref (q 0)), (1, .int x), (2, .int y), (3, .int (nI kk))]) hx hb dX5_ways_111 hl (by decide) rfl (fun ls hl => ?_)
                            have loop_113 : ∀ (k_113 i : Nat), i ≤ c → c < i + k_113 → ∀ (H : Heap) (locs : List Loc), va_P D vwCl (List.flatten [wM cI cZ cL q 0 N c fr tt sa tk tn tr op sl nd oi il tl go gt fa ((wyO N c fr tt sa tk (pfx (wy0 x) mn N) nx n).1) (wyI fr tt sa tk (wyO N c fr tt sa tk (pfx (wy0 x) mn N) nx n).1 i (pfx (fun _ => 0) (wyO N c fr tt sa tk (pfx (wy0 x) mn N) nx n).2 N))]) H → va_D A (List.flatten [wM cI cZ cL q 0 N c fr tt sa tk tn tr op sl nd oi il tl go gt fa ((wyO N c fr tt sa tk (pfx (wy0 x) mn N) nx n).1) (wyI fr tt sa tk (wyO N c fr tt sa tk (pfx (wy0 x) mn N) nx n).1 i (pfx (fun _ => 0) (wyO N c fr tt sa tk (pfx (wy0 x) mn N) nx n).2 N))]) → va_S A sz.heap H locs → ∀ (ls : Array Slot), lv_has ls 6 [(5, .int (nI i)), (4, .int (nI n)), (0, .ref (q 0)), (1, .int x), (2, .int y), (3, .int (nI kk))] → W pz l ez (rM 2 46) sz mz [.ref (q 0), .int x, .int y, .int k].toArray bz tz cz H locs 0 0 (MQ bz (va_Ql (fun r (_ : Unit) => r = wyR N c fr tt sa tk mn nx x y k) (fun u t => mAt D (tY cI cZ cL) A ((fun (_ : Unit) => [wM cI cZ cL q 0 N c fr tt sa tk tn tr op sl nd oi il tl go gt fa (wyM N c fr tt sa tk mn nx x y k) (wyX N c fr tt sa tk mn nx x y k)]) u) t) A) [.ref (q 0), .int x, .int y, .int k].toArray sz 0 0 A) (F0 mz 113 ls [])  := by
                              intro k_113
                              induction k_113 with
                              | zero => intro i hi_113 hk_113; exact absurd hk_113 (by omega)
                              | succ k_113 ih_113 =>
                                intro i hi_113 hk_113 H locs hP hD hS ls hl
                                refine lv_iload hx hb dX5_ways_113 (lv_at hl 0 rfl) ?_
                                refine lv_aload_n hx hb dX5_ways_115 rfl (lv_at hl 2 rfl) ?_
                                refine q_get (D := D) (ci := 5) (v := .int (nI c)) (C := RX5) (T := TX5) (N := 20) hx hb hts (by decide +kernel) hown hK hP 0 0 rfl rfl rfl 2 (by decide) (hts (.fieldLink RX5 67 "OffsetRowsModel" "arcs" "I") (by decide +kernel)) (fun _ h9 => h9) rfl dX5_ways_116 ?_
                                refine lv_icmp_ge (tgt := 177) hx hb dX5_ways_119 (by decide) (fun c_119 => ?_) (fun c_119 => ?_)
                                ·
                                  have n_119 : c ≤ i := (nI_leI (a := c) (b := i) (by omega) (by omega)).mp c_119
                                  refine lv_iconst (v := (0 : Int32)) hx hb dX5_ways_177 (by decide) ?_
                                  refine lv_istore (lv' := [(5, .int (0 : Int32)), (4, .int (nI n)), (0, .ref (q 0)), (1, .int x), (2, .int y), (3, .int (nI kk))]) hx hb dX5_ways_178 hl (by decide) rfl (fun ls hl => ?_)
                                  have loop_180 : ∀ (k_180 t : Nat), t ≤ N → N < t + k_180 → ∀ (H : Heap) (locs : List Loc), va_P D vwCl (List.flatten [wM cI cZ cL q 0 N c fr tt sa tk tn tr op sl nd oi il tl go gt fa (pfx (wyI fr tt sa tk (wyO N c fr tt sa tk (pfx (wy0 x) mn N) nx n).1 c (pfx (fun _ => 0) (wyO N c fr tt sa tk (pfx (wy0 x) mn N) nx n).2 N)) (wyO N c fr tt sa tk (pfx (wy0 x) mn N) nx n).1 t) (wyI fr tt sa tk (wyO N c fr tt sa tk (pfx (wy0 x) mn N) nx n).1 c (pfx (fun _ => 0) (wyO N c fr tt sa tk (pfx (wy0 x) mn N) nx n).2 N))]) H → va_D A (List.flatten [wM cI cZ cL q 0 N c fr tt sa tk tn tr op sl nd oi il tl go gt fa (pfx (wyI fr tt sa tk (wyO N c fr tt sa tk (pfx (wy0 x) mn N) nx n).1 c (pfx (fun _ => 0) (wyO N c fr tt sa tk (pfx (wy0 x) mn N) nx n).2 N)) (wyO N c fr tt sa tk (pfx (wy0 x) mn N) nx n).1 t) (wyI fr tt sa tk (wyO N c fr tt sa tk (pfx (wy0 x) mn N) nx n).1 c (pfx (fun _ => 0) (wyO N c fr tt sa tk (pfx (wy0 x) mn N) nx n).2 N))]) → va_S A sz.heap H locs → ∀ (ls : Array Slot), lv_has ls 6 [(5, .int (nI t)), (4, .int (nI n)), (0, .ref (q 0)), (1, .int x), (2, .int y), (3, .int (nI kk))] → W pz l ez (rM 2 46) sz mz [.ref (q 0), .int x, .int y, .int k].toArray bz tz cz H locs 0 0 (MQ bz (va_Ql (fun r (_ : Unit) => r = wyR N c fr tt sa tk mn nx x y k) (fun u t => mAt D (tY cI cZ cL) A ((fun (_ : Unit) => [wM cI cZ cL q 0 N c fr tt sa tk tn tr op sl nd oi il tl go gt fa (wyM N c fr tt sa tk mn nx x y k) (wyX N c fr tt sa tk mn nx x y k)]) u) t) A) [.ref (q 0), .int x, .int y, .int k].toArray sz 0 0 A) (F0 mz 180 ls [])  := by
                                    intro k_180
                                    induction k_180 with
                                    | zero => intro t hi_180 hk_180; exact absurd hk_180 (by omega)
                                    | succ k_180 ih_180 =>
                                      intro t hi_180 hk_180 H locs hP hD hS ls hl
                                      refine lv_iload hx hb dX5_ways_180 (lv_at hl 0 rfl) ?_
                                      refine lv_aload_n hx hb dX5_ways_182 rfl (lv_at hl 2 rfl) ?_
                                      refine q_get (D := D) (ci := 5) (v := .int (nI N)) (C := RX5) (T := TX5) (N := 20) hx hb hts (by decide +kernel) hown hK hP 0 0 rfl rfl rfl 1 (by decide) (hts (.fieldLink RX5 64 "OffsetRowsModel" "nodes" "I") (by decide +kernel)) (fun _ h9 => h9) rfl dX5_ways_183 ?_
                                      refine lv_icmp_ge (tgt := 209) hx hb dX5_ways_186 (by decide) (fun c_186 => ?_) (fun c_186 => ?_)
                                      ·
                                        have n_186 : N ≤ t := (nI_leI (a := N) (b := t) (by omega) (by omega)).mp c_186
                                        refine lv_iinc (v := nI (n + 1)) (lv' := [(4, .int (nI (n + 1))), (5, .int (nI t)), (0, .ref (q 0)), (1, .int x), (2, .int y), (3, .int (nI kk))]) hx hb dX5_ways_209 hl (k := 1) rfl (nI_add n 1) (by decide) rfl (fun ls hl => ?_)
                                        refine lv_goto (tgt := 78) hx hb dX5_ways_212 (by decide) ?_
                                        have hl : lv_has ls 6 [(4, .int (nI (n + 1))), (0, .ref (q 0)), (1, .int x), (2, .int y), (3, .int (nI kk))] := lv_sub hl [0, 2, 3, 4, 5] rfl
                                        have hq0 : pfx (wyI fr tt sa tk (wyO N c fr tt sa tk (pfx (wy0 x) mn N) nx n).1 c (pfx (fun _ => 0) (wyO N c fr tt sa tk (pfx (wy0 x) mn N) nx n).2 N)) (wyO N c fr tt sa tk (pfx (wy0 x) mn N) nx n).1 t = (wyO N c fr tt sa tk (pfx (wy0 x) mn N) nx (n + 1)).1 := by rw [show t = N by omega]; rfl
                                        have hq1 : wyI fr tt sa tk (wyO N c fr tt sa tk (pfx (wy0 x) mn N) nx n).1 c (pfx (fun _ => 0) (wyO N c fr tt sa tk (pfx (wy0 x) mn N) nx n).2 N) = (wyO N c fr tt sa tk (pfx (wy0 x) mn N) nx (n + 1)).2 := rfl
                                        have hP : va_P D vwCl (List.flatten [wM cI cZ cL q 0 N c fr tt sa tk tn tr op sl nd oi il tl go gt fa ((wyO N c fr tt sa tk (pfx (wy0 x) mn N) nx (n + 1)).1) ((wyO N c fr tt sa tk (pfx (wy0 x) mn N) nx (n + 1)).2)]) _ := wCast hP (by rw [← hq0, ← hq1])
                                        have hD : va_D A (List.flatten [wM cI cZ cL q 0 N c fr tt sa tk tn tr op sl nd oi il tl go gt fa ((wyO N c fr tt sa tk (pfx (wy0 x) mn N) nx (n + 1)).1) ((wyO N c fr tt sa tk (pfx (wy0 x) mn N) nx (n + 1)).2)]) := dCast hD (by rw [← hq0, ← hq1])
                                        exact ih_78 (n + 1) (by omega) (by omega) _ _ hP hD hS _ hl
                                      ·
                                        have n_186 : ¬ N ≤ t := fun h9 => c_186 ((nI_leI (a := N) (b := t) (by omega) (by omega)).mpr h9)
                                        refine lv_aload_n hx hb dX5_ways_189 rfl (lv_at hl 2 rfl) ?_
                                        refine q_get (D := D) (ci := 5) (v := .ref (q 15)) (C := RX5) (T := TX5) (N := 20) hx hb hts (by decide +kernel) hown hK hP 0 0 rfl rfl rfl 18 (by decide) (hts (.fieldLink RX5 57 "OffsetRowsModel" "many" "[J") (by decide +kernel)) (fun _ h9 => h9) rfl dX5_ways_190 ?_
                                        refine lv_iload hx hb dX5_ways_193 (lv_at hl 0 rfl) ?_
                                        refine lv_aload_n hx hb dX5_ways_195 rfl (lv_at hl 2 rfl) ?_
                                        refine q_get (D := D) (ci := 5) (v := .ref (q 16)) (C := RX5) (T := TX5) (N := 20) hx hb hts (by decide +kernel) hown hK hP 0 0 rfl rfl rfl 19 (by decide) (hts (.fieldLink RX5 61 "OffsetRowsModel" "next" "[J") (by decide +kernel)) (fun _ h9 => h9) rfl dX5_ways_196 ?_
                                        refine lv_iload hx hb dX5_ways_199 (lv_at hl 0 rfl) ?_
                                        refine q_lald hx hb hK hP 0 16 2 rfl (f := wyI fr tt sa tk (wyO N c fr tt sa tk (pfx (wy0 x) mn N) nx n).1 c (pfx (fun _ => 0) (wyO N c fr tt sa tk (pfx (wy0 x) mn N) nx n).2 N)) rfl rfl (k := t) (nI_clamp (n := t) (by omega)) (vp_in_nI (show t < 24 from by omega) (by omega)) dX5_ways_201 ?_
                                        refine q_last hx hb hK hP hD hS 0 15 2 rfl (f := pfx (wyI fr tt sa tk (wyO N c fr tt sa tk (pfx (wy0 x) mn N) nx n).1 c (pfx (fun _ => 0) (wyO N c fr tt sa tk (pfx (wy0 x) mn N) nx n).2 N)) (wyO N c fr tt sa tk (pfx (wy0 x) mn N) nx n).1 t) rfl rfl (k := t) (nI_clamp (n := t) (by omega)) (vp_in_nI (show t < 24 from by omega) (by omega)) dX5_ways_202 wM_s_mn (Fs' := [wM cI cZ cL q 0 N c fr tt sa tk tn tr op sl nd oi il tl go gt fa (vp_updL (pfx (wyI fr tt sa tk (wyO N c fr tt sa tk (pfx (wy0 x) mn N) nx n).1 c (pfx (fun _ => 0) (wyO N c fr tt sa tk (pfx (wy0 x) mn N) nx n).2 N)) (wyO N c fr tt sa tk (pfx (wy0 x) mn N) nx n).1 t) t ((wyI fr tt sa tk (wyO N c fr tt sa tk (pfx (wy0 x) mn N) nx n).1 c (pfx (fun _ => 0) (wyO N c fr tt sa tk (pfx (wy0 x) mn N) nx n).2 N)) t)) (wyI fr tt sa tk (wyO N c fr tt sa tk (pfx (wy0 x) mn N) nx n).1 c (pfx (fun _ => 0) (wyO N c fr tt sa tk (pfx (wy0 x) mn N) nx n).2 N))]) rfl (fun H locs hP hD hS => ?_)
                                        have hP : va_P D vwCl (List.flatten [wM cI cZ cL q 0 N c fr tt sa tk tn tr op sl nd oi il tl go gt fa (pfx (wyI fr tt sa tk (wyO N c fr tt sa tk (pfx (wy0 x) mn N) nx n).1 c (pfx (fun _ => 0) (wyO N c fr tt sa tk (pfx (wy0 x) mn N) nx n).2 N)) (wyO N c fr tt sa tk (pfx (wy0 x) mn N) nx n).1 (t + 1)) (wyI fr tt sa tk (wyO N c fr tt sa tk (pfx (wy0 x) mn N) nx n).1 c (pfx (fun _ => 0) (wyO N c fr tt sa tk (pfx (wy0 x) mn N) nx n).2 N))]) _ := wCast hP (by rw [show vp_updL (pfx (wyI fr tt sa tk (wyO N c fr tt sa tk (pfx (wy0 x) mn N) nx n).1 c (pfx (fun _ => 0) (wyO N c fr tt sa tk (pfx (wy0 x) mn N) nx n).2 N)) (wyO N c fr tt sa tk (pfx (wy0 x) mn N) nx n).1 t) t ((wyI fr tt sa tk (wyO N c fr tt sa tk (pfx (wy0 x) mn N) nx n).1 c (pfx (fun _ => 0) (wyO N c fr tt sa tk (pfx (wy0 x) mn N) nx n).2 N)) t) = pfx (wyI fr tt sa tk (wyO N c fr tt sa tk (pfx (wy0 x) mn N) nx n).1 c (pfx (fun _ => 0) (wyO N c fr tt sa tk (pfx (wy0 x) mn N) nx n).2 N)) (wyO N c fr tt sa tk (pfx (wy0 x) mn N) nx n).1 (t + 1) from pfx_wL rfl])
                                        have hD : va_D A (List.flatten [wM cI cZ cL q 0 N c fr tt sa tk tn tr op sl nd oi il tl go gt fa (pfx (wyI fr tt sa tk (wyO N c fr tt sa tk (pfx (wy0 x) mn N) nx n).1 c (pfx (fun _ => 0) (wyO N c fr tt sa tk (pfx (wy0 x) mn N) nx n).2 N)) (wyO N c fr tt sa tk (pfx (wy0 x) mn N) nx n).1 (t + 1)) (wyI fr tt sa tk (wyO N c fr tt sa tk (pfx (wy0 x) mn N) nx n).1 c (pfx (fun _ => 0) (wyO N c fr tt sa tk (pfx (wy0 x) mn N) nx n).2 N))]) := dCast hD (by rw [show vp_updL (pfx (wyI fr tt sa tk (wyO N c fr tt sa tk (pfx (wy0 x) mn N) nx n).1 c (pfx (fun _ => 0) (wyO N c fr tt sa tk (pfx (wy0 x) mn N) nx n).2 N)) (wyO N c fr tt sa tk (pfx (wy0 x) mn N) nx n).1 t) t ((wyI fr tt sa tk (wyO N c fr tt sa tk (pfx (wy0 x) mn N) nx n).1 c (pfx (fun _ => 0) (wyO N c fr tt sa tk (pfx (wy0 x) mn N) nx n).2 N)) t) = pfx (wyI fr tt sa tk (wyO N c fr tt sa tk (pfx (wy0 x) mn N) nx n).1 c (pfx (fun _ => 0) (wyO N c fr tt sa tk (pfx (wy0 x) mn N) nx n).2 N)) (wyO N c fr tt sa tk (pfx (wy0 x) mn N) nx n).1 (t + 1) from pfx_wL rfl])
                                        refine lv_iinc (v := nI (t + 1)) (lv' := [(5, .int (nI (t + 1))), (4, .int (nI n)), (0, .ref (q 0)), (1, .int x), (2, .int y), (3, .int (nI kk))]) hx hb dX5_ways_203 hl (k := 0) rfl (nI_add t 1) (by decide) rfl (fun ls hl => ?_)
                                        refine lv_goto (tgt := 180) hx hb dX5_ways_206 (by decide) ?_
                                        have hl : lv_has ls 6 [(5, .int (nI (t + 1))), (4, .int (nI n)), (0, .ref (q 0)), (1, .int x), (2, .int y), (3, .int (nI kk))] := lv_sub hl [0, 1, 2, 3, 4, 5] rfl
                                        have hP : va_P D vwCl (List.flatten [wM cI cZ cL q 0 N c fr tt sa tk tn tr op sl nd oi il tl go gt fa (pfx (wyI fr tt sa tk (wyO N c fr tt sa tk (pfx (wy0 x) mn N) nx n).1 c (pfx (fun _ => 0) (wyO N c fr tt sa tk (pfx (wy0 x) mn N) nx n).2 N)) (wyO N c fr tt sa tk (pfx (wy0 x) mn N) nx n).1 (t + 1)) (wyI fr tt sa tk (wyO N c fr tt sa tk (pfx (wy0 x) mn N) nx n).1 c (pfx (fun _ => 0) (wyO N c fr tt sa tk (pfx (wy0 x) mn N) nx n).2 N))]) _ := hP
                                        have hD : va_D A (List.flatten [wM cI cZ cL q 0 N c fr tt sa tk tn tr op sl nd oi il tl go gt fa (pfx (wyI fr tt sa tk (wyO N c fr tt sa tk (pfx (wy0 x) mn N) nx n).1 c (pfx (fun _ => 0) (wyO N c fr tt sa tk (pfx (wy0 x) mn N) nx n).2 N)) (wyO N c fr tt sa tk (pfx (wy0 x) mn N) nx n).1 (t + 1)) (wyI fr tt sa tk (wyO N c fr tt sa tk (pfx (wy0 x) mn N) nx n).1 c (pfx (fun _ => 0) (wyO N c fr tt sa tk (pfx (wy0 x) mn N) nx n).2 N))]) := hD
                                        exact ih_180 (t + 1) (by omega) (by omega) _ _ hP hD hS _ hl
                                  have hl : lv_has ls 6 [(5, .int (nI 0)), (4, .int (nI n)), (0, .ref (q 0)), (1, .int x), (2, .int y), (3, .int (nI kk))] := lv_sub hl [0, 1, 2, 3, 4, 5] rfl
                                  have hq0 : (wyO N c fr tt sa tk (pfx (wy0 x) mn N) nx n).1 = pfx (wyI fr tt sa tk (wyO N c fr tt sa tk (pfx (wy0 x) mn N) nx n).1 c (pfx (fun _ => 0) (wyO N c fr tt sa tk (pfx (wy0 x) mn N) nx n).2 N)) (wyO N c fr tt sa tk (pfx (wy0 x) mn N) nx n).1 0 := pfx_0.symm
                                  have hq1 : wyI fr tt sa tk (wyO N c fr tt sa tk (pfx (wy0 x) mn N) nx n).1 i (pfx (fun _ => 0) (wyO N c fr tt sa tk (pfx (wy0 x) mn N) nx n).2 N) = wyI fr tt sa tk (wyO N c fr tt sa tk (pfx (wy0 x) mn N) nx n).1 c (pfx (fun _ => 0) (wyO N c fr tt sa tk (pfx (wy0 x) mn N) nx n).2 N) := by rw [show i = c by omega]
                                  have hP : va_P D vwCl (List.flatten [wM cI cZ cL q 0 N c fr tt sa tk tn tr op sl nd oi il tl go gt fa (pfx (wyI fr tt sa tk (wyO N c fr tt sa tk (pfx (wy0 x) mn N) nx n).1 c (pfx (fun _ => 0) (wyO N c fr tt sa tk (pfx (wy0 x) mn N) nx n).2 N)) (wyO N c fr tt sa tk (pfx (wy0 x) mn N) nx n).1 0) (wyI fr tt sa tk (wyO N c fr tt sa tk (pfx (wy0 x) mn N) nx n).1 c (pfx (fun _ => 0) (wyO N c fr tt sa tk (pfx (wy0 x) mn N) nx n).2 N))]) _ := wCast hP (by rw [← hq0, ← hq1])
                                  have hD : va_D A (List.flatten [wM cI cZ cL q 0 N c fr tt sa tk tn tr op sl nd oi il tl go gt fa (pfx (wyI fr tt sa tk (wyO N c fr tt sa tk (pfx (wy0 x) mn N) nx n).1 c (pfx (fun _ => 0) (wyO N c fr tt sa tk (pfx (wy0 x) mn N) nx n).2 N)) (wyO N c fr tt sa tk (pfx (wy0 x) mn N) nx n).1 0) (wyI fr tt sa tk (wyO N c fr tt sa tk (pfx (wy0 x) mn N) nx n).1 c (pfx (fun _ => 0) (wyO N c fr tt sa tk (pfx (wy0 x) mn N) nx n).2 N))]) := dCast hD (by rw [← hq0, ← hq1])
                                  exact loop_180 (N + 1) 0 (by omega) (by omega) _ _ hP hD hS _ hl
                                ·
                                  have n_119 : ¬ c ≤ i := fun h9 => c_119 ((nI_leI (a := c) (b := i) (by omega) (by omega)).mpr h9)
                                  refine lv_aload_n hx hb dX5_ways_122 rfl (lv_at hl 2 rfl) ?_
                                  refine q_get (D := D) (ci := 5) (v := .ref (q 16)) (C := RX5) (T := TX5) (N := 20) hx hb hts (by decide +kernel) hown hK hP 0 0 rfl rfl rfl 19 (by decide) (hts (.fieldLink RX5 61 "OffsetRowsModel" "next" "[J") (by decide +kernel)) (fun _ h9 => h9) rfl dX5_ways_123 ?_
                                  refine lv_aload_n hx hb dX5_ways_126 rfl (lv_at hl 2 rfl) ?_
                                  refine q_get (D := D) (ci := 5) (v := .ref (q 2)) (C := RX5) (T := TX5) (N := 20) hx hb hts (by decide +kernel) hown hK hP 0 0 rfl rfl rfl 4 (by decide) (hts (.fieldLink RX5 17 "OffsetRowsModel" "to" "[I") (by decide +kernel)) (fun _ h9 => h9) rfl dX5_ways_127 ?_
                                  refine lv_iload hx hb dX5_ways_130 (lv_at hl 0 rfl) ?_
                                  refine q_iald hx hb hK hP 0 2 0 rfl (f := tt) rfl rfl (k := i) (nI_clamp (n := i) (by omega)) (vp_in_nI (show i < 160 from by omega) (by omega)) dX5_ways_132 ?_
                                  refine lv_dup2_11 hx hb dX5_ways_133 rfl rfl ?_
                                  refine q_lald hx hb hK hP 0 16 2 rfl (f := wyI fr tt sa tk (wyO N c fr tt sa tk (pfx (wy0 x) mn N) nx n).1 i (pfx (fun _ => 0) (wyO N c fr tt sa tk (pfx (wy0 x) mn N) nx n).2 N)) rfl rfl (k := (tt i).toNatClampNeg) rfl (in_mono (htt i (by omega)) hN) dX5_ways_134 ?_
                                  refine lv_aload_n hx hb dX5_ways_135 rfl (lv_at hl 2 rfl) ?_
                                  refine lv_iload hx hb dX5_ways_136 (lv_at hl 0 rfl) ?_
                                  refine lv_aload_n hx hb dX5_ways_138 rfl (lv_at hl 2 rfl) ?_
                                  refine q_get (D := D) (ci := 5) (v := .ref (q 1)) (C := RX5) (T := TX5) (N := 20) hx hb hts (by decide +kernel) hown hK hP 0 0 rfl rfl rfl 3 (by decide) (hts (.fieldLink RX5 13 "OffsetRowsModel" "from" "[I") (by decide +kernel)) (fun _ h9 => h9) rfl dX5_ways_139 ?_
                                  refine lv_iload hx hb dX5_ways_142 (lv_at hl 0 rfl) ?_
                                  refine q_iald hx hb hK hP 0 1 0 rfl (f := fr) rfl rfl (k := i) (nI_clamp (n := i) (by omega)) (vp_in_nI (show i < 160 from by omega) (by omega)) dX5_ways_144 ?_
                                  refine lv_iconst (v := (0 : Int32)) hx hb dX5_ways_145 (by decide) ?_
                                  refine lv_iconst (v := (1 : Int32)) hx hb dX5_ways_146 (by decide) ?_
                                  refine q_callVi (index := 94) (n := 4) (As := [.int (nI i), .int (fr i), .int (0 : Int32), .int (1 : Int32)]) (rest := [.long ((wyI fr tt sa tk (wyO N c fr tt sa tk (pfx (wy0 x) mn N) nx n).1 i (pfx (fun _ => 0) (wyO N c fr tt sa tk (pfx (wy0 x) mn N) nx n).2 N)) ((tt i).toNatClampNeg)), .int (tt i), .ref (q 16)]) (js := [0]) (ci := 5) ⟨hx, hb, hml, hown, hts⟩ hK hP hD hS hA (k5_isOf l D cI cZ cL q 0 N c fr tt sa tk tn tr op sl nd oi il tl go gt fa ((wyO N c fr tt sa tk (pfx (wy0 x) mn N) nx n).1) (wyI fr tt sa tk (wyO N c fr tt sa tk (pfx (wy0 x) mn N) nx n).1 i (pfx (fun _ => 0) (wyO N c fr tt sa tk (pfx (wy0 x) mn N) nx n).2 N)) i (fr i) (0 : Int32) (1 : Int32) (by omega) (by omega)) rfl (by decide) (fun _ => by simp only [List.map_cons, List.map_nil, wM_fst]) (fun (_ : Unit) => [wM cI cZ cL q 0 N c fr tt sa tk tn tr op sl nd oi il tl go gt fa ((wyO N c fr tt sa tk (pfx (wy0 x) mn N) nx n).1) (wyI fr tt sa tk (wyO N c fr tt sa tk (pfx (wy0 x) mn N) nx n).1 i (pfx (fun _ => 0) (wyO N c fr tt sa tk (pfx (wy0 x) mn N) nx n).2 N))]) (fun _ => rfl) gX5_ways_X5_isOf rfl (by decide +kernel) rfl ⟨by decide, by decide⟩ rfl rfl rfl rfl hl.1 (Nat.le_of_ble_eq_true rfl) ⟨(Nat.zero_le _), (Nat.zero_le _)⟩ dX5_ways_147 rfl (fun r _ H locs hw hP hD hS => ?_)
                                  have hw : r = bI (ofB fr tt sa tk (fr i) (0 : Int32) (1 : Int32) i) := hw
                                  subst hw
                                  refine q_top (z := bI (lvB sa tk i)) (by rw [ofB_self]) ?_
                                  refine lv_if_eq (tgt := 168) hx hb dX5_ways_150 (by decide) (fun c_150 => ?_) (fun c_150 => ?_)
                                  ·
                                    have n_150 : (lvB sa tk i) = false := bI_0.mp c_150
                                    refine lv_lconst (v := 0) hx hb dX5_ways_168 (by decide) ?_
                                    refine lv_ladd hx hb dX5_ways_169 ?_
                                    refine q_last hx hb hK hP hD hS 0 16 2 rfl (f := (wyI fr tt sa tk (wyO N c fr tt sa tk (pfx (wy0 x) mn N) nx n).1 i (pfx (fun _ => 0) (wyO N c fr tt sa tk (pfx (wy0 x) mn N) nx n).2 N))) rfl rfl (k := (tt i).toNatClampNeg) rfl (in_mono (htt i (by omega)) hN) dX5_ways_170 wM_s_nx (Fs' := [wM cI cZ cL q 0 N c fr tt sa tk tn tr op sl nd oi il tl go gt fa ((wyO N c fr tt sa tk (pfx (wy0 x) mn N) nx n).1) (vp_updL (wyI fr tt sa tk (wyO N c fr tt sa tk (pfx (wy0 x) mn N) nx n).1 i (pfx (fun _ => 0) (wyO N c fr tt sa tk (pfx (wy0 x) mn N) nx n).2 N)) ((tt i).toNatClampNeg) (((wyI fr tt sa tk (wyO N c fr tt sa tk (pfx (wy0 x) mn N) nx n).1 i (pfx (fun _ => 0) (wyO N c fr tt sa tk (pfx (wy0 x) mn N) nx n).2 N)) ((tt i).toNatClampNeg)) + (0 : Int64)))]) rfl (fun H locs hP hD hS => ?_)
                                    refine lv_iinc (v := nI (i + 1)) (lv' := [(5, .int (nI (i + 1))), (4, .int (nI n)), (0, .ref (q 0)), (1, .int x), (2, .int y), (3, .int (nI kk))]) hx hb dX5_ways_171 hl (k := 0) rfl (nI_add i 1) (by decide) rfl (fun ls hl => ?_)
                                    refine lv_goto (tgt := 113) hx hb dX5_ways_174 (by decide) ?_
                                    have hl : lv_has ls 6 [(5, .int (nI (i + 1))), (4, .int (nI n)), (0, .ref (q 0)), (1, .int x), (2, .int y), (3, .int (nI kk))] := lv_sub hl [0, 1, 2, 3, 4, 5] rfl
                                    have hq0 : ((wyO N c fr tt sa tk (pfx (wy0 x) mn N) nx n).1) = (wyO N c fr tt sa tk (pfx (wy0 x) mn N) nx n).1 := by first | rfl | simp [wyR, wyM, wyX, wyB, arB, n_10, n_18, c_26, c_32, hkq, c_48, n_48, c_81, n_81, c_93, n_93, c_119, n_119, n_150]
                                    have hq1 : vp_updL (wyI fr tt sa tk (wyO N c fr tt sa tk (pfx (wy0 x) mn N) nx n).1 i (pfx (fun _ => 0) (wyO N c fr tt sa tk (pfx (wy0 x) mn N) nx n).2 N)) ((tt i).toNatClampNeg) (((wyI fr tt sa tk (wyO N c fr tt sa tk (pfx (wy0 x) mn N) nx n).1 i (pfx (fun _ => 0) (wyO N c fr tt sa tk (pfx (wy0 x) mn N) nx n).2 N)) ((tt i).toNatClampNeg)) + (0 : Int64)) = wyI fr tt sa tk (wyO N c fr tt sa tk (pfx (wy0 x) mn N) nx n).1 (i + 1) (pfx (fun _ => 0) (wyO N c fr tt sa tk (pfx (wy0 x) mn N) nx n).2 N) := by simp [wyI, n_150]
                                    have hP : va_P D vwCl (List.flatten [wM cI cZ cL q 0 N c fr tt sa tk tn tr op sl nd oi il tl go gt fa ((wyO N c fr tt sa tk (pfx (wy0 x) mn N) nx n).1) (wyI fr tt sa tk (wyO N c fr tt sa tk (pfx (wy0 x) mn N) nx n).1 (i + 1) (pfx (fun _ => 0) (wyO N c fr tt sa tk (pfx (wy0 x) mn N) nx n).2 N))]) _ := wCast hP (by rw [← hq0, ← hq1])
                                    have hD : va_D A (List.flatten [wM cI cZ cL q 0 N c fr tt sa tk tn tr op sl nd oi il tl go gt fa ((wyO N c fr tt sa tk (pfx (wy0 x) mn N) nx n).1) (wyI fr tt sa tk (wyO N c fr tt sa tk (pfx (wy0 x) mn N) nx n).1 (i + 1) (pfx (fun _ => 0) (wyO N c fr tt sa tk (pfx (wy0 x) mn N) nx n).2 N))]) := dCast hD (by rw [← hq0, ← hq1])
                                    exact ih_113 (i + 1) (by omega) (by omega) _ _ hP hD hS _ hl
                                  ·
                                    have n_150 : (lvB sa tk i) = true := bI_n.mp c_150
                                    refine lv_aload_n hx hb dX5_ways_153 rfl (lv_at hl 2 rfl) ?_
                                    refine q_get (D := D) (ci := 5) (v := .ref (q 15)) (C := RX5) (T := TX5) (N := 20) hx hb hts (by decide +kernel) hown hK hP 0 0 rfl rfl rfl 18 (by decide) (hts (.fieldLink RX5 57 "OffsetRowsModel" "many" "[J") (by decide +kernel)) (fun _ h9 => h9) rfl dX5_ways_154 ?_
                                    refine lv_aload_n hx hb dX5_ways_157 rfl (lv_at hl 2 rfl) ?_
                                    refine q_get (D := D) (ci := 5) (v := .ref (q 1)) (C := RX5) (T := TX5) (N := 20) hx hb hts (by decide +kernel) hown hK hP 0 0 rfl rfl rfl 3 (by decide) (hts (.fieldLink RX5 13 "OffsetRowsModel" "from" "[I") (by decide +kernel)) (fun _ h9 => h9) rfl dX5_ways_158 ?_
                                    refine lv_iload hx hb dX5_ways_161 (lv_at hl 0 rfl) ?_
                                    refine q_iald hx hb hK hP 0 1 0 rfl (f := fr) rfl rfl (k := i) (nI_clamp (n := i) (by omega)) (vp_in_nI (show i < 160 from by omega) (by omega)) dX5_ways_163 ?_
                                    refine q_lald hx hb hK hP 0 15 2 rfl (f := ((wyO N c fr tt sa tk (pfx (wy0 x) mn N) nx n).1)) rfl rfl (k := (fr i).toNatClampNeg) rfl (in_mono (hfr i (by omega)) hN) dX5_ways_164 ?_
                                    refine lv_goto (tgt := 169) hx hb dX5_ways_165 (by decide) ?_
                                    refine lv_ladd hx hb dX5_ways_169 ?_
                                    refine q_last hx hb hK hP hD hS 0 16 2 rfl (f := (wyI fr tt sa tk (wyO N c fr tt sa tk (pfx (wy0 x) mn N) nx n).1 i (pfx (fun _ => 0) (wyO N c fr tt sa tk (pfx (wy0 x) mn N) nx n).2 N))) rfl rfl (k := (tt i).toNatClampNeg) rfl (in_mono (htt i (by omega)) hN) dX5_ways_170 wM_s_nx (Fs' := [wM cI cZ cL q 0 N c fr tt sa tk tn tr op sl nd oi il tl go gt fa ((wyO N c fr tt sa tk (pfx (wy0 x) mn N) nx n).1) (vp_updL (wyI fr tt sa tk (wyO N c fr tt sa tk (pfx (wy0 x) mn N) nx n).1 i (pfx (fun _ => 0) (wyO N c fr tt sa tk (pfx (wy0 x) mn N) nx n).2 N)) ((tt i).toNatClampNeg) (((wyI fr tt sa tk (wyO N c fr tt sa tk (pfx (wy0 x) mn N) nx n).1 i (pfx (fun _ => 0) (wyO N c fr tt sa tk (pfx (wy0 x) mn N) nx n).2 N)) ((tt i).toNatClampNeg)) + (((wyO N c fr tt sa tk (pfx (wy0 x) mn N) nx n).1) ((fr i).toNatClampNeg))))]) rfl (fun H locs hP hD hS => ?_)
                                    refine lv_iinc (v := nI (i + 1)) (lv' := [(5, .int (nI (i + 1))), (4, .int (nI n)), (0, .ref (q 0)), (1, .int x), (2, .int y), (3, .int (nI kk))]) hx hb dX5_ways_171 hl (k := 0) rfl (nI_add i 1) (by decide) rfl (fun ls hl => ?_)
                                    refine lv_goto (tgt := 113) hx hb dX5_ways_174 (by decide) ?_
                                    have hl : lv_has ls 6 [(5, .int (nI (i + 1))), (4, .int (nI n)), (0, .ref (q 0)), (1, .int x), (2, .int y), (3, .int (nI kk))] := lv_sub hl [0, 1, 2, 3, 4, 5] rfl
                                    have hq0 : ((wyO N c fr tt sa tk (pfx (wy0 x) mn N) nx n).1) = (wyO N c fr tt sa tk (pfx (wy0 x) mn N) nx n).1 := by first | rfl | simp [wyR, wyM, wyX, wyB, arB, n_10, n_18, c_26, c_32, hkq, c_48, n_48, c_81, n_81, c_93, n_93, c_119, n_119, n_150]
                                    have hq1 : vp_updL (wyI fr tt sa tk (wyO N c fr tt sa tk (pfx (wy0 x) mn N) nx n).1 i (pfx (fun _ => 0) (wyO N c fr tt sa tk (pfx (wy0 x) mn N) nx n).2 N)) ((tt i).toNatClampNeg) (((wyI fr tt sa tk (wyO N c fr tt sa tk (pfx (wy0 x) mn N) nx n).1 i (pfx (fun _ => 0) (wyO N c fr tt sa tk (pfx (wy0 x) mn N) nx n).2 N)) ((tt i).toNatClampNeg)) + (((wyO N c fr tt sa tk (pfx (wy0 x) mn N) nx n).1) ((fr i).toNatClampNeg))) = wyI fr tt sa tk (wyO N c fr tt sa tk (pfx (wy0 x) mn N) nx n).1 (i + 1) (pfx (fun _ => 0) (wyO N c fr tt sa tk (pfx (wy0 x) mn N) nx n).2 N) := by simp [wyI, n_150]
                                    have hP : va_P D vwCl (List.flatten [wM cI cZ cL q 0 N c fr tt sa tk tn tr op sl nd oi il tl go gt fa ((wyO N c fr tt sa tk (pfx (wy0 x) mn N) nx n).1) (wyI fr tt sa tk (wyO N c fr tt sa tk (pfx (wy0 x) mn N) nx n).1 (i + 1) (pfx (fun _ => 0) (wyO N c fr tt sa tk (pfx (wy0 x) mn N) nx n).2 N))]) _ := wCast hP (by rw [← hq0, ← hq1])
                                    have hD : va_D A (List.flatten [wM cI cZ cL q 0 N c fr tt sa tk tn tr op sl nd oi il tl go gt fa ((wyO N c fr tt sa tk (pfx (wy0 x) mn N) nx n).1) (wyI fr tt sa tk (wyO N c fr tt sa tk (pfx (wy0 x) mn N) nx n).1 (i + 1) (pfx (fun _ => 0) (wyO N c fr tt sa tk (pfx (wy0 x) mn N) nx n).2 N))]) := dCast hD (by rw [← hq0, ← hq1])
                                    exact ih_113 (i + 1) (by omega) (by omega) _ _ hP hD hS _ hl
                            have hl : lv_has ls 6 [(5, .int (nI 0)), (4, .int (nI n)), (0, .ref (q 0)), (1, .int x), (2, .int y), (3, .int (nI kk))] := lv_sub hl [0, 1, 2, 3, 4, 5] rfl
                            have hq0 : pfx (fun _ => 0) (wyO N c fr tt sa tk (pfx (wy0 x) mn N) nx n).2 u = wyI fr tt sa tk (wyO N c fr tt sa tk (pfx (wy0 x) mn N) nx n).1 0 (pfx (fun _ => 0) (wyO N c fr tt sa tk (pfx (wy0 x) mn N) nx n).2 N) := by rw [show u = N by omega]; rfl
                            have hP : va_P D vwCl (List.flatten [wM cI cZ cL q 0 N c fr tt sa tk tn tr op sl nd oi il tl go gt fa ((wyO N c fr tt sa tk (pfx (wy0 x) mn N) nx n).1) (wyI fr tt sa tk (wyO N c fr tt sa tk (pfx (wy0 x) mn N) nx n).1 0 (pfx (fun _ => 0) (wyO N c fr tt sa tk (pfx (wy0 x) mn N) nx n).2 N))]) _ := wCast hP (by rw [← hq0])
                            have hD : va_D A (List.flatten [wM cI cZ cL q 0 N c fr tt sa tk tn tr op sl nd oi il tl go gt fa ((wyO N c fr tt sa tk (pfx (wy0 x) mn N) nx n).1) (wyI fr tt sa tk (wyO N c fr tt sa tk (pfx (wy0 x) mn N) nx n).1 0 (pfx (fun _ => 0) (wyO N c fr tt sa tk (pfx (wy0 x) mn N) nx n).2 N))]) := dCast hD (by rw [← hq0])
                            exact loop_113 (c + 1) 0 (by omega) (by omega) _ _ hP hD hS _ hl
                          ·
                            have n_93 : ¬ N ≤ u := fun h9 => c_93 ((nI_leI (a := N) (b := u) (by omega) (by omega)).mpr h9)
                            refine lv_aload_n hx hb dX5_ways_96 rfl (lv_at hl 2 rfl) ?_
                            refine q_get (D := D) (ci := 5) (v := .ref (q 16)) (C := RX5) (T := TX5) (N := 20) hx hb hts (by decide +kernel) hown hK hP 0 0 rfl rfl rfl 19 (by decide) (hts (.fieldLink RX5 61 "OffsetRowsModel" "next" "[J") (by decide +kernel)) (fun _ h9 => h9) rfl dX5_ways_97 ?_
                            refine lv_iload hx hb dX5_ways_100 (lv_at hl 0 rfl) ?_
                            refine lv_lconst (v := 0) hx hb dX5_ways_102 (by decide) ?_
                            refine q_last hx hb hK hP hD hS 0 16 2 rfl (f := pfx (fun _ => 0) (wyO N c fr tt sa tk (pfx (wy0 x) mn N) nx n).2 u) rfl rfl (k := u) (nI_clamp (n := u) (by omega)) (vp_in_nI (show u < 24 from by omega) (by omega)) dX5_ways_103 wM_s_nx (Fs' := [wM cI cZ cL q 0 N c fr tt sa tk tn tr op sl nd oi il tl go gt fa ((wyO N c fr tt sa tk (pfx (wy0 x) mn N) nx n).1) (vp_updL (pfx (fun _ => 0) (wyO N c fr tt sa tk (pfx (wy0 x) mn N) nx n).2 u) u (0 : Int64))]) rfl (fun H locs hP hD hS => ?_)
                            have hP : va_P D vwCl (List.flatten [wM cI cZ cL q 0 N c fr tt sa tk tn tr op sl nd oi il tl go gt fa ((wyO N c fr tt sa tk (pfx (wy0 x) mn N) nx n).1) (pfx (fun _ => 0) (wyO N c fr tt sa tk (pfx (wy0 x) mn N) nx n).2 (u + 1))]) _ := wCast hP (by rw [show vp_updL (pfx (fun _ => 0) (wyO N c fr tt sa tk (pfx (wy0 x) mn N) nx n).2 u) u (0 : Int64) = pfx (fun _ => 0) (wyO N c fr tt sa tk (pfx (wy0 x) mn N) nx n).2 (u + 1) from pfx_wL rfl])
                            have hD : va_D A (List.flatten [wM cI cZ cL q 0 N c fr tt sa tk tn tr op sl nd oi il tl go gt fa ((wyO N c fr tt sa tk (pfx (wy0 x) mn N) nx n).1) (pfx (fun _ => 0) (wyO N c fr tt sa tk (pfx (wy0 x) mn N) nx n).2 (u + 1))]) := dCast hD (by rw [show vp_updL (pfx (fun _ => 0) (wyO N c fr tt sa tk (pfx (wy0 x) mn N) nx n).2 u) u (0 : Int64) = pfx (fun _ => 0) (wyO N c fr tt sa tk (pfx (wy0 x) mn N) nx n).2 (u + 1) from pfx_wL rfl])
                            refine lv_iinc (v := nI (u + 1)) (lv' := [(5, .int (nI (u + 1))), (4, .int (nI n)), (0, .ref (q 0)), (1, .int x), (2, .int y), (3, .int (nI kk))]) hx hb dX5_ways_104 hl (k := 0) rfl (nI_add u 1) (by decide) rfl (fun ls hl => ?_)
                            refine lv_goto (tgt := 87) hx hb dX5_ways_107 (by decide) ?_
                            have hl : lv_has ls 6 [(5, .int (nI (u + 1))), (4, .int (nI n)), (0, .ref (q 0)), (1, .int x), (2, .int y), (3, .int (nI kk))] := lv_sub hl [0, 1, 2, 3, 4, 5] rfl
                            have hP : va_P D vwCl (List.flatten [wM cI cZ cL q 0 N c fr tt sa tk tn tr op sl nd oi il tl go gt fa ((wyO N c fr tt sa tk (pfx (wy0 x) mn N) nx n).1) (pfx (fun _ => 0) (wyO N c fr tt sa tk (pfx (wy0 x) mn N) nx n).2 (u + 1))]) _ := hP
                            have hD : va_D A (List.flatten [wM cI cZ cL q 0 N c fr tt sa tk tn tr op sl nd oi il tl go gt fa ((wyO N c fr tt sa tk (pfx (wy0 x) mn N) nx n).1) (pfx (fun _ => 0) (wyO N c fr tt sa tk (pfx (wy0 x) mn N) nx n).2 (u + 1))]) := hD
                            exact ih_87 (u + 1) (by omega) (by omega) _ _ hP hD hS _ hl
                      have hl : lv_has ls 6 [(5, .int (nI 0)), (4, .int (nI n)), (0, .ref (q 0)), (1, .int x), (2, .int y), (3, .int (nI kk))] := lv_sub hl [0, 1, 2, 3, 4, 5] rfl
                      have hq0 : (wyO N c fr tt sa tk (pfx (wy0 x) mn N) nx n).2 = pfx (fun _ => 0) (wyO N c fr tt sa tk (pfx (wy0 x) mn N) nx n).2 0 := pfx_0.symm
                      have hP : va_P D vwCl (List.flatten [wM cI cZ cL q 0 N c fr tt sa tk tn tr op sl nd oi il tl go gt fa ((wyO N c fr tt sa tk (pfx (wy0 x) mn N) nx n).1) (pfx (fun _ => 0) (wyO N c fr tt sa tk (pfx (wy0 x) mn N) nx n).2 0)]) _ := wCast hP (by rw [← hq0])
                      have hD : va_D A (List.flatten [wM cI cZ cL q 0 N c fr tt sa tk tn tr op sl nd oi il tl go gt fa ((wyO N c fr tt sa tk (pfx (wy0 x) mn N) nx n).1) (pfx (fun _ => 0) (wyO N c fr tt sa tk (pfx (wy0 x) mn N) nx n).2 0)]) := dCast hD (by rw [← hq0])
                      exact loop_87 (N + 1) 0 (by omega) (by omega) _ _ hP hD hS _ hl
                have hl : lv_has ls 6 [(4, .int (nI 0)), (0, .ref (q 0)), (1, .int x), (2, .int y), (3, .int (nI kk))] := lv_sub hl [0, 1, 2, 3, 4] rfl
                have hq0 : pfx (wy0 x) mn v = (wyO N c fr tt sa tk (pfx (wy0 x) mn N) nx 0).1 := by rw [show v = N by omega]; rfl
                have hq1 : nx = (wyO N c fr tt sa tk (pfx (wy0 x) mn N) nx 0).2 := rfl
                have hP : va_P D vwCl (List.flatten [wM cI cZ cL q 0 N c fr tt sa tk tn tr op sl nd oi il tl go gt fa ((wyO N c fr tt sa tk (pfx (wy0 x) mn N) nx 0).1) ((wyO N c fr tt sa tk (pfx (wy0 x) mn N) nx 0).2)]) _ := wCast hP (by rw [← hq0, ← hq1])
                have hD : va_D A (List.flatten [wM cI cZ cL q 0 N c fr tt sa tk tn tr op sl nd oi il tl go gt fa ((wyO N c fr tt sa tk (pfx (wy0 x) mn N) nx 0).1) ((wyO N c fr tt sa tk (pfx (wy0 x) mn N) nx 0).2)]) := dCast hD (by rw [← hq0, ← hq1])
                exact loop_78 (kk + 1) 0 (by omega) (by omega) _ _ hP hD hS _ hl
              ·
                have n_48 : ¬ N ≤ v := fun h9 => c_48 ((nI_leI (a := N) (b := v) (by omega) (by omega)).mpr h9)
                refine lv_aload_n hx hb dX5_ways_51 rfl (lv_at hl 1 rfl) ?_
                refine q_get (D := D) (ci := 5) (v := .ref (q 15)) (C := RX5) (T := TX5) (N := 20) hx hb hts (by decide +kernel) hown hK hP 0 0 rfl rfl rfl 18 (by decide) (hts (.fieldLink RX5 57 "OffsetRowsModel" "many" "[J") (by decide +kernel)) (fun _ h9 => h9) rfl dX5_ways_52 ?_
                refine lv_iload hx hb dX5_ways_55 (lv_at hl 0 rfl) ?_
                refine lv_iload hx hb dX5_ways_57 (lv_at hl 0 rfl) ?_
                refine lv_iload_n hx hb dX5_ways_59 rfl (lv_at hl 2 rfl) ?_
                refine lv_icmp_ne (tgt := 67) hx hb dX5_ways_60 (by decide) (fun c_60 => ?_) (fun c_60 => ?_)
                ·
                  refine lv_lconst (v := 0) hx hb dX5_ways_67 (by decide) ?_
                  refine q_last hx hb hK hP hD hS 0 15 2 rfl (f := pfx (wy0 x) mn v) rfl rfl (k := v) (nI_clamp (n := v) (by omega)) (vp_in_nI (show v < 24 from by omega) (by omega)) dX5_ways_68 wM_s_mn (Fs' := [wM cI cZ cL q 0 N c fr tt sa tk tn tr op sl nd oi il tl go gt fa (vp_updL (pfx (wy0 x) mn v) v (0 : Int64)) nx]) rfl (fun H locs hP hD hS => ?_)
                  have hP : va_P D vwCl (List.flatten [wM cI cZ cL q 0 N c fr tt sa tk tn tr op sl nd oi il tl go gt fa (pfx (wy0 x) mn (v + 1)) nx]) _ := wCast hP (by rw [show vp_updL (pfx (wy0 x) mn v) v (0 : Int64) = pfx (wy0 x) mn (v + 1) from pfx_wL (by simp [wy0, c_60])])
                  have hD : va_D A (List.flatten [wM cI cZ cL q 0 N c fr tt sa tk tn tr op sl nd oi il tl go gt fa (pfx (wy0 x) mn (v + 1)) nx]) := dCast hD (by rw [show vp_updL (pfx (wy0 x) mn v) v (0 : Int64) = pfx (wy0 x) mn (v + 1) from pfx_wL (by simp [wy0, c_60])])
                  refine lv_iinc (v := nI (v + 1)) (lv' := [(4, .int (nI (v + 1))), (0, .ref (q 0)), (1, .int x), (2, .int y), (3, .int (nI kk))]) hx hb dX5_ways_69 hl (k := 0) rfl (nI_add v 1) (by decide) rfl (fun ls hl => ?_)
                  refine lv_goto (tgt := 42) hx hb dX5_ways_72 (by decide) ?_
                  have hl : lv_has ls 6 [(4, .int (nI (v + 1))), (0, .ref (q 0)), (1, .int x), (2, .int y), (3, .int (nI kk))] := lv_sub hl [0, 1, 2, 3, 4] rfl
                  have hP : va_P D vwCl (List.flatten [wM cI cZ cL q 0 N c fr tt sa tk tn tr op sl nd oi il tl go gt fa (pfx (wy0 x) mn (v + 1)) nx]) _ := hP
                  have hD : va_D A (List.flatten [wM cI cZ cL q 0 N c fr tt sa tk tn tr op sl nd oi il tl go gt fa (pfx (wy0 x) mn (v + 1)) nx]) := hD
                  exact ih_42 (v + 1) (by omega) (by omega) _ _ hP hD hS _ hl
                ·
                  refine lv_lconst (v := 1) hx hb dX5_ways_63 (by decide) ?_
                  refine lv_goto (tgt := 68) hx hb dX5_ways_64 (by decide) ?_
                  refine q_last hx hb hK hP hD hS 0 15 2 rfl (f := pfx (wy0 x) mn v) rfl rfl (k := v) (nI_clamp (n := v) (by omega)) (vp_in_nI (show v < 24 from by omega) (by omega)) dX5_ways_68 wM_s_mn (Fs' := [wM cI cZ cL q 0 N c fr tt sa tk tn tr op sl nd oi il tl go gt fa (vp_updL (pfx (wy0 x) mn v) v (1 : Int64)) nx]) rfl (fun H locs hP hD hS => ?_)
                  have hP : va_P D vwCl (List.flatten [wM cI cZ cL q 0 N c fr tt sa tk tn tr op sl nd oi il tl go gt fa (pfx (wy0 x) mn (v + 1)) nx]) _ := wCast hP (by rw [show vp_updL (pfx (wy0 x) mn v) v (1 : Int64) = pfx (wy0 x) mn (v + 1) from pfx_wL (by simp [wy0, c_60])])
                  have hD : va_D A (List.flatten [wM cI cZ cL q 0 N c fr tt sa tk tn tr op sl nd oi il tl go gt fa (pfx (wy0 x) mn (v + 1)) nx]) := dCast hD (by rw [show vp_updL (pfx (wy0 x) mn v) v (1 : Int64) = pfx (wy0 x) mn (v + 1) from pfx_wL (by simp [wy0, c_60])])
                  refine lv_iinc (v := nI (v + 1)) (lv' := [(4, .int (nI (v + 1))), (0, .ref (q 0)), (1, .int x), (2, .int y), (3, .int (nI kk))]) hx hb dX5_ways_69 hl (k := 0) rfl (nI_add v 1) (by decide) rfl (fun ls hl => ?_)
                  refine lv_goto (tgt := 42) hx hb dX5_ways_72 (by decide) ?_
                  have hl : lv_has ls 6 [(4, .int (nI (v + 1))), (0, .ref (q 0)), (1, .int x), (2, .int y), (3, .int (nI kk))] := lv_sub hl [0, 1, 2, 3, 4] rfl
                  have hP : va_P D vwCl (List.flatten [wM cI cZ cL q 0 N c fr tt sa tk tn tr op sl nd oi il tl go gt fa (pfx (wy0 x) mn (v + 1)) nx]) _ := hP
                  have hD : va_D A (List.flatten [wM cI cZ cL q 0 N c fr tt sa tk tn tr op sl nd oi il tl go gt fa (pfx (wy0 x) mn (v + 1)) nx]) := hD
                  exact ih_42 (v + 1) (by omega) (by omega) _ _ hP hD hS _ hl
          have hl : lv_has ls 6 [(4, .int (nI 0)), (0, .ref (q 0)), (1, .int x), (2, .int y), (3, .int (nI kk))] := lv_sub hl [0, 1, 2, 3, 4] rfl
          have hq0 : mn = pfx (wy0 x) mn 0 := pfx_0.symm
          have hP : va_P D vwCl (List.flatten [wM cI cZ cL q 0 N c fr tt sa tk tn tr op sl nd oi il tl go gt fa (pfx (wy0 x) mn 0) nx]) _ := wCast hP (by rw [← hq0])
          have hD : va_D A (List.flatten [wM cI cZ cL q 0 N c fr tt sa tk tn tr op sl nd oi il tl go gt fa (pfx (wy0 x) mn 0) nx]) := dCast hD (by rw [← hq0])
          exact loop_42 (N + 1) 0 (by omega) (by omega) _ _ hP hD hS _ hl
        ·
          refine lv_ldc2 (v := -3) hx hb hown (hts (.constantLong RX5 116 (-3)) (by decide +kernel)) dX5_ways_35 ?_
          exact q_lret (()) hx hb hr hlocks hK hP hD hS (by simp [wyR, wyM, wyX, wyB, arB, n_10, n_18, c_26, c_32]) (by simp [wyR, wyM, wyX, wyB, arB, n_10, n_18, c_26, c_32]) dX5_ways_38
    ·
      have n_18 : (hasB N y) = false := bI_0.mp c_18
      refine lv_ldc2 (v := -2) hx hb hown (hts (.constantLong RX5 114 (-2)) (by decide +kernel)) dX5_ways_21 ?_
      exact q_lret (()) hx hb hr hlocks hK hP hD hS (by simp [wyR, wyM, wyX, wyB, arB, n_10, n_18]) (by simp [wyR, wyM, wyX, wyB, arB, n_10, n_18]) dX5_ways_24

set_option maxHeartbeats 8000000 in
set_option maxRecDepth 100000 in
theorem k5_open (l : Launch) (D : va_G) (cI cZ cL : ClassId) (q : Nat → Nat) (th : Nat) (N : Nat) (c : Nat) (fr : Nat → Int32) (tt : Nat → Int32) (sa : Nat → Int32) (tk : Nat → Int32) (tn : Nat) (tr : Nat → Int32) (op : Nat → Int32) (sl : Nat → Int32) (nd : Nat → Int32) (oi : Nat → Int32) (il : Nat → Int32) (tl : Nat → Int32) (go : Nat → Int32) (gt : Nat → Int32) (fa : Nat → Int32) (mn : Nat → Int64) (nx : Nat → Int64) (x : Int32) (z : Int32) (hz : vp_nar .boolean z = z) : McI l D (tY cI cZ cL) yX5_open wsX5_open 1 21 [.ref (q 0), .int x, .int z] ([wM cI cZ cL q th N c fr tt sa tk tn tr op sl nd oi il tl go gt fa mn nx]) (fun r (_ : Unit) => r = opR N op x) (fun (_ : Unit) => [wM cI cZ cL q 0 N c fr tt sa tk tn tr (opF N op x op 1) (opF N op x sl 0) (opF N op x nd x) (opF N op x oi z) (opF N op x il (-1)) (opF N op x tl 0) go gt fa mn nx]) := by
  refine q_ofW (Qc := fun A => (va_Qi (fun r (_ : Unit) => r = opR N op x) (fun u t => mAt D (tY cI cZ cL) A ((fun (_ : Unit) => [wM cI cZ cL q 0 N c fr tt sa tk tn tr (opF N op x op 1) (opF N op x sl 0) (opF N op x nd x) (opF N op x oi z) (opF N op x il (-1)) (opF N op x tl 0) go gt fa mn nx]) u) t) A)) (cc := cX5_open) (maxL := 4) (ret := (some .int)) (by decide) rfl (Nat.le_of_ble_eq_true rfl) ?_
  intro pz ez sz mz bz tz cz hx hb hml hr hlocks hts hown hK hP A hD hA ls hl
  have hS : va_S A sz.heap sz.heap [] := va_S.rf
  have hl : lv_has ls 4 [(0, .ref (q 0)), (1, .int x), (2, .int z)] := hl
  refine lv_aload_n hx hb dX5_open_0 rfl (lv_at hl 0 rfl) ?_
  refine lv_iconst (v := (0 : Int32)) hx hb dX5_open_1 (by decide) ?_
  refine q_put (D := D) (ci := 5) (v := .int (nI 0)) (ty := .int) (C := RX5) (T := TX5) (N := 20) hx hb hts (by decide +kernel) tyX5 tyX5_ok nmX5 hown hK hP hD hS 0 0 rfl rfl rfl 0 (by decide) (hts (.fieldLink RX5 1 "OffsetRowsModel" "thrown" "I") (by decide +kernel)) (fun _ h9 => h9) rfl (by decide +kernel) rfl rfl (Nat.le_of_ble_eq_true rfl) dX5_open_2 (wM_s_th (g9 := 0)) (Fs' := [wM cI cZ cL q 0 N c fr tt sa tk tn tr op sl nd oi il tl go gt fa mn nx]) rfl (fun H locs hP hD hS => ?_)
  refine lv_aload_n hx hb dX5_open_5 rfl (lv_at hl 0 rfl) ?_
  refine lv_iload_n hx hb dX5_open_6 rfl (lv_at hl 1 rfl) ?_
  refine q_callVi (index := 70) (n := 1) (As := [.int x]) (rest := []) (js := [0]) (ci := 5) ⟨hx, hb, hml, hown, hts⟩ hK hP hD hS hA (k5_isNode l D cI cZ cL q 0 N c fr tt sa tk tn tr op sl nd oi il tl go gt fa mn nx x) rfl (by decide) (fun _ => by simp only [List.map_cons, List.map_nil, wM_fst]) (fun (_ : Unit) => [wM cI cZ cL q 0 N c fr tt sa tk tn tr op sl nd oi il tl go gt fa mn nx]) (fun _ => rfl) gX5_open_X5_isNode rfl (by decide +kernel) rfl ⟨by decide, by decide⟩ rfl rfl rfl rfl hl.1 (Nat.le_of_ble_eq_true rfl) ⟨(Nat.zero_le _), (Nat.zero_le _)⟩ dX5_open_7 rfl (fun r _ H locs hw hP hD hS => ?_)
  have hw : r = bI (hasB N x) := hw
  subst hw
  refine lv_if_ne (tgt := 16) hx hb dX5_open_10 (by decide) (fun c_10 => ?_) (fun c_10 => ?_)
  ·
    have n_10 : (hasB N x) = true := bI_n.mp c_10
    refine lv_iconst (v := (0 : Int32)) hx hb dX5_open_16 (by decide) ?_
    refine lv_istore_n (lv' := [(3, .int (0 : Int32)), (0, .ref (q 0)), (1, .int x), (2, .int z)]) hx hb dX5_open_17 rfl hl (by decide) rfl (fun ls hl => ?_)
    have loop_18 : ∀ (k_18 i : Nat), i ≤ 8 → 8 < i + k_18 → (opA op = fsv (opB op) nI (8 - i) i) → ∀ (H : Heap) (locs : List Loc), va_P D vwCl (List.flatten [wM cI cZ cL q 0 N c fr tt sa tk tn tr op sl nd oi il tl go gt fa mn nx]) H → va_D A (List.flatten [wM cI cZ cL q 0 N c fr tt sa tk tn tr op sl nd oi il tl go gt fa mn nx]) → va_S A sz.heap H locs → ∀ (ls : Array Slot), lv_has ls 4 [(3, .int (nI i)), (0, .ref (q 0)), (1, .int x), (2, .int z)] → W pz l ez (rM 1 21) sz mz [.ref (q 0), .int x, .int z].toArray bz tz cz H locs 0 0 (MQ bz (va_Qi (fun r (_ : Unit) => r = opR N op x) (fun u t => mAt D (tY cI cZ cL) A ((fun (_ : Unit) => [wM cI cZ cL q 0 N c fr tt sa tk tn tr (opF N op x op 1) (opF N op x sl 0) (opF N op x nd x) (opF N op x oi z) (opF N op x il (-1)) (opF N op x tl 0) go gt fa mn nx]) u) t) A) [.ref (q 0), .int x, .int z].toArray sz 0 0 A) (F0 mz 18 ls [])  := by
      intro k_18
      induction k_18 with
      | zero => intro i hi_18 hk_18; exact absurd hk_18 (by omega)
      | succ k_18 ih_18 =>
        intro i hi_18 hk_18 hinv H locs hP hD hS ls hl
        refine lv_iload_n hx hb dX5_open_18 rfl (lv_at hl 0 rfl) ?_
        refine lv_bipush (v := (8 : Int32)) hx hb dX5_open_19 (by decide) ?_
        refine lv_icmp_ge (tgt := 39) hx hb dX5_open_21 (by decide) (fun c_21 => ?_) (fun c_21 => ?_)
        ·
          have n_21 : 8 ≤ i := (nI_leI (a := 8) (b := i) (by omega) (by omega)).mp c_21
          refine lv_iload_n hx hb dX5_open_39 rfl (lv_at hl 0 rfl) ?_
          refine lv_bipush (v := (8 : Int32)) hx hb dX5_open_40 (by decide) ?_
          refine lv_icmp_ne (tgt := 48) hx hb dX5_open_42 (by decide) (fun c_42 => ?_) (fun c_42 => ?_)
          ·
            have n_42 : ¬ i = 8 := fun h9 => c_42 ((nI_eq (a := i) (b := 8) (by omega) (by omega)).mpr h9)
            exact absurd (show i = 8 by omega) n_42
          ·
            have n_42 : i = 8 := (nI_eq (a := i) (b := 8) (by omega) (by omega)).mp c_42
            have hA1 : opA op = -1 := by rw [hinv, fsv_end (by omega)]
            refine lv_bipush (v := (-6)) hx hb dX5_open_45 (by decide) ?_
            exact q_iret (()) hx hb hr hlocks hK hP hD hS (by simp [opR, n_10, hA1]) (by simp [opF, hA1]) dX5_open_47
        ·
          have n_21 : ¬ 8 ≤ i := fun h9 => c_21 ((nI_leI (a := 8) (b := i) (by omega) (by omega)).mpr h9)
          refine lv_aload_n hx hb dX5_open_24 rfl (lv_at hl 1 rfl) ?_
          refine q_get (D := D) (ci := 5) (v := .ref (q 6)) (C := RX5) (T := TX5) (N := 20) hx hb hts (by decide +kernel) hown hK hP 0 0 rfl rfl rfl 9 (by decide) (hts (.fieldLink RX5 30 "OffsetRowsModel" "isOpen" "[Z") (by decide +kernel)) (fun _ h9 => h9) rfl dX5_open_25 ?_
          refine lv_iload_n hx hb dX5_open_28 rfl (lv_at hl 0 rfl) ?_
          refine q_zald hx hb hK hP 0 6 1 rfl (f := op) rfl rfl (k := i) (nI_clamp (n := i) (by omega)) (vp_in_nI (show i < 8 from by omega) (by omega)) dX5_open_29 ?_
          refine lv_if_eq (tgt := 39) hx hb dX5_open_30 (by decide) (fun c_30 => ?_) (fun c_30 => ?_)
          ·
            refine lv_iload_n hx hb dX5_open_39 rfl (lv_at hl 0 rfl) ?_
            refine lv_bipush (v := (8 : Int32)) hx hb dX5_open_40 (by decide) ?_
            refine lv_icmp_ne (tgt := 48) hx hb dX5_open_42 (by decide) (fun c_42 => ?_) (fun c_42 => ?_)
            ·
              have n_42 : ¬ i = 8 := fun h9 => c_42 ((nI_eq (a := i) (b := 8) (by omega) (by omega)).mpr h9)
              have hA1 : opA op = nI i := by rw [hinv, fsv_yes (by omega) (by simp [opB, c_30])]
              have hne : ¬ opA op = -1 := by rw [hA1]; exact nI_ne_m1 (by omega)
              have hcl : (opA op).toNatClampNeg = i := by rw [hA1]; exact nI_clamp (by omega)
              refine lv_aload_n hx hb dX5_open_48 rfl (lv_at hl 1 rfl) ?_
              refine q_get (D := D) (ci := 5) (v := .ref (q 6)) (C := RX5) (T := TX5) (N := 20) hx hb hts (by decide +kernel) hown hK hP 0 0 rfl rfl rfl 9 (by decide) (hts (.fieldLink RX5 30 "OffsetRowsModel" "isOpen" "[Z") (by decide +kernel)) (fun _ h9 => h9) rfl dX5_open_49 ?_
              refine lv_iload_n hx hb dX5_open_52 rfl (lv_at hl 0 rfl) ?_
              refine lv_iconst (v := (1 : Int32)) hx hb dX5_open_53 (by decide) ?_
              refine q_zast hx hb hK hP hD hS 0 6 1 rfl (f := op) rfl rfl (k := i) (nI_clamp (n := i) (by omega)) (vp_in_nI (show i < 8 from by omega) (by omega)) rfl dX5_open_54 wM_s_op (Fs' := [wM cI cZ cL q 0 N c fr tt sa tk tn tr (upd op i (1 : Int32)) sl nd oi il tl go gt fa mn nx]) rfl (fun H locs hP hD hS => ?_)
              refine lv_aload_n hx hb dX5_open_55 rfl (lv_at hl 1 rfl) ?_
              refine q_get (D := D) (ci := 5) (v := .ref (q 7)) (C := RX5) (T := TX5) (N := 20) hx hb hts (by decide +kernel) hown hK hP 0 0 rfl rfl rfl 10 (by decide) (hts (.fieldLink RX5 33 "OffsetRowsModel" "isStale" "[Z") (by decide +kernel)) (fun _ h9 => h9) rfl dX5_open_56 ?_
              refine lv_iload_n hx hb dX5_open_59 rfl (lv_at hl 0 rfl) ?_
              refine lv_iconst (v := (0 : Int32)) hx hb dX5_open_60 (by decide) ?_
              refine q_zast hx hb hK hP hD hS 0 7 1 rfl (f := sl) rfl rfl (k := i) (nI_clamp (n := i) (by omega)) (vp_in_nI (show i < 8 from by omega) (by omega)) rfl dX5_open_61 wM_s_sl (Fs' := [wM cI cZ cL q 0 N c fr tt sa tk tn tr (upd op i (1 : Int32)) (upd sl i (0 : Int32)) nd oi il tl go gt fa mn nx]) rfl (fun H locs hP hD hS => ?_)
              refine lv_aload_n hx hb dX5_open_62 rfl (lv_at hl 1 rfl) ?_
              refine q_get (D := D) (ci := 5) (v := .ref (q 8)) (C := RX5) (T := TX5) (N := 20) hx hb hts (by decide +kernel) hown hK hP 0 0 rfl rfl rfl 11 (by decide) (hts (.fieldLink RX5 36 "OffsetRowsModel" "itNode" "[I") (by decide +kernel)) (fun _ h9 => h9) rfl dX5_open_63 ?_
              refine lv_iload_n hx hb dX5_open_66 rfl (lv_at hl 0 rfl) ?_
              refine lv_iload_n hx hb dX5_open_67 rfl (lv_at hl 2 rfl) ?_
              refine q_iast hx hb hK hP hD hS 0 8 0 rfl (f := nd) rfl rfl (k := i) (nI_clamp (n := i) (by omega)) (vp_in_nI (show i < 8 from by omega) (by omega)) dX5_open_68 wM_s_nd (Fs' := [wM cI cZ cL q 0 N c fr tt sa tk tn tr (upd op i (1 : Int32)) (upd sl i (0 : Int32)) (upd nd i x) oi il tl go gt fa mn nx]) rfl (fun H locs hP hD hS => ?_)
              refine lv_aload_n hx hb dX5_open_69 rfl (lv_at hl 1 rfl) ?_
              refine q_get (D := D) (ci := 5) (v := .ref (q 9)) (C := RX5) (T := TX5) (N := 20) hx hb hts (by decide +kernel) hown hK hP 0 0 rfl rfl rfl 12 (by decide) (hts (.fieldLink RX5 39 "OffsetRowsModel" "itIn" "[Z") (by decide +kernel)) (fun _ h9 => h9) rfl dX5_open_70 ?_
              refine lv_iload_n hx hb dX5_open_73 rfl (lv_at hl 0 rfl) ?_
              refine lv_iload_n hx hb dX5_open_74 rfl (lv_at hl 3 rfl) ?_
              refine q_zast hx hb hK hP hD hS 0 9 1 rfl (f := oi) rfl rfl (k := i) (nI_clamp (n := i) (by omega)) (vp_in_nI (show i < 8 from by omega) (by omega)) hz dX5_open_75 wM_s_oi (Fs' := [wM cI cZ cL q 0 N c fr tt sa tk tn tr (upd op i (1 : Int32)) (upd sl i (0 : Int32)) (upd nd i x) (upd oi i z) il tl go gt fa mn nx]) rfl (fun H locs hP hD hS => ?_)
              refine lv_aload_n hx hb dX5_open_76 rfl (lv_at hl 1 rfl) ?_
              refine q_get (D := D) (ci := 5) (v := .ref (q 10)) (C := RX5) (T := TX5) (N := 20) hx hb hts (by decide +kernel) hown hK hP 0 0 rfl rfl rfl 13 (by decide) (hts (.fieldLink RX5 42 "OffsetRowsModel" "itLast" "[I") (by decide +kernel)) (fun _ h9 => h9) rfl dX5_open_77 ?_
              refine lv_iload_n hx hb dX5_open_80 rfl (lv_at hl 0 rfl) ?_
              refine lv_iconst (v := (-1)) hx hb dX5_open_81 (by decide) ?_
              refine q_iast hx hb hK hP hD hS 0 10 0 rfl (f := il) rfl rfl (k := i) (nI_clamp (n := i) (by omega)) (vp_in_nI (show i < 8 from by omega) (by omega)) dX5_open_82 wM_s_il (Fs' := [wM cI cZ cL q 0 N c fr tt sa tk tn tr (upd op i (1 : Int32)) (upd sl i (0 : Int32)) (upd nd i x) (upd oi i z) (upd il i (-1 : Int32)) tl go gt fa mn nx]) rfl (fun H locs hP hD hS => ?_)
              refine lv_aload_n hx hb dX5_open_83 rfl (lv_at hl 1 rfl) ?_
              refine q_get (D := D) (ci := 5) (v := .ref (q 11)) (C := RX5) (T := TX5) (N := 20) hx hb hts (by decide +kernel) hown hK hP 0 0 rfl rfl rfl 14 (by decide) (hts (.fieldLink RX5 45 "OffsetRowsModel" "itTold" "[I") (by decide +kernel)) (fun _ h9 => h9) rfl dX5_open_84 ?_
              refine lv_iload_n hx hb dX5_open_87 rfl (lv_at hl 0 rfl) ?_
              refine lv_iconst (v := (0 : Int32)) hx hb dX5_open_88 (by decide) ?_
              refine q_iast hx hb hK hP hD hS 0 11 0 rfl (f := tl) rfl rfl (k := i) (nI_clamp (n := i) (by omega)) (vp_in_nI (show i < 8 from by omega) (by omega)) dX5_open_89 wM_s_tl (Fs' := [wM cI cZ cL q 0 N c fr tt sa tk tn tr (upd op i (1 : Int32)) (upd sl i (0 : Int32)) (upd nd i x) (upd oi i z) (upd il i (-1 : Int32)) (upd tl i (0 : Int32)) go gt fa mn nx]) rfl (fun H locs hP hD hS => ?_)
              refine lv_iload_n hx hb dX5_open_90 rfl (lv_at hl 0 rfl) ?_
              exact q_iret (()) hx hb hr hlocks hK hP hD hS (by simp [opR, n_10, hne, hA1, nI_ne_m1 (show i < 2 ^ 31 by omega)]) (by simp [opF, n_10, hne, hcl]) dX5_open_91
            ·
              have n_42 : i = 8 := (nI_eq (a := i) (b := 8) (by omega) (by omega)).mp c_42
              exact absurd n_42 (by omega)
          ·
            refine lv_iinc (v := nI (i + 1)) (lv' := [(3, .int (nI (i + 1))), (0, .ref (q 0)), (1, .int x), (2, .int z)]) hx hb dX5_open_33 hl (k := 0) rfl (nI_add i 1) (by decide) rfl (fun ls hl => ?_)
            refine lv_goto (tgt := 18) hx hb dX5_open_36 (by decide) ?_
            have hl : lv_has ls 4 [(3, .int (nI (i + 1))), (0, .ref (q 0)), (1, .int x), (2, .int z)] := lv_sub hl [0, 1, 2, 3] rfl
            have hP : va_P D vwCl (List.flatten [wM cI cZ cL q 0 N c fr tt sa tk tn tr op sl nd oi il tl go gt fa mn nx]) _ := hP
            have hD : va_D A (List.flatten [wM cI cZ cL q 0 N c fr tt sa tk tn tr op sl nd oi il tl go gt fa mn nx]) := hD
            exact ih_18 (i + 1) (by omega) (by omega) (hinv.trans (fsv_no (by omega) (by simp [opB, c_30]))) _ _ hP hD hS _ hl
    have hl : lv_has ls 4 [(3, .int (nI 0)), (0, .ref (q 0)), (1, .int x), (2, .int z)] := lv_sub hl [0, 1, 2, 3] rfl
    have hP : va_P D vwCl (List.flatten [wM cI cZ cL q 0 N c fr tt sa tk tn tr op sl nd oi il tl go gt fa mn nx]) _ := hP
    have hD : va_D A (List.flatten [wM cI cZ cL q 0 N c fr tt sa tk tn tr op sl nd oi il tl go gt fa mn nx]) := hD
    exact loop_18 (8 + 1) 0 (by omega) (by omega) rfl _ _ hP hD hS _ hl
  ·
    have n_10 : (hasB N x) = false := bI_0.mp c_10
    refine lv_bipush (v := (-2)) hx hb dX5_open_13 (by decide) ?_
    exact q_iret (()) hx hb hr hlocks hK hP hD hS (by simp [opR, n_10]) (by simp [opF, n_10]) dX5_open_15

set_option maxHeartbeats 8000000 in
set_option maxRecDepth 100000 in
theorem k5_isIterator (l : Launch) (D : va_G) (cI cZ cL : ClassId) (q : Nat → Nat) (th : Nat) (N : Nat) (c : Nat) (fr : Nat → Int32) (tt : Nat → Int32) (sa : Nat → Int32) (tk : Nat → Int32) (tn : Nat) (tr : Nat → Int32) (op : Nat → Int32) (sl : Nat → Int32) (nd : Nat → Int32) (oi : Nat → Int32) (il : Nat → Int32) (tl : Nat → Int32) (go : Nat → Int32) (gt : Nat → Int32) (fa : Nat → Int32) (mn : Nat → Int64) (nx : Nat → Int64) (x : Int32) : McI l D (tY cI cZ cL) yX5_isIterator wsX5_isIterator 0 0 [.ref (q 0), .int x] ([wM cI cZ cL q th N c fr tt sa tk tn tr op sl nd oi il tl go gt fa mn nx]) (fun r (_ : Unit) => r = bI (itB op x)) (fun (_ : Unit) => [wM cI cZ cL q th N c fr tt sa tk tn tr op sl nd oi il tl go gt fa mn nx]) := by
  refine q_ofW (Qc := fun A => (va_Qi (fun r (_ : Unit) => r = bI (itB op x)) (fun u t => mAt D (tY cI cZ cL) A ((fun (_ : Unit) => [wM cI cZ cL q th N c fr tt sa tk tn tr op sl nd oi il tl go gt fa mn nx]) u) t) A)) (cc := cX5_isIterator) (maxL := 2) (ret := (some .boolean)) (by decide) rfl (Nat.le_of_ble_eq_true rfl) ?_
  intro pz ez sz mz bz tz cz hx hb hml hr hlocks hts hown hK hP A hD hA ls hl
  have hS : va_S A sz.heap sz.heap [] := va_S.rf
  have hl : lv_has ls 2 [(0, .ref (q 0)), (1, .int x)] := hl
  refine lv_iload_n hx hb dX5_isIterator_0 rfl (lv_at hl 1 rfl) ?_
  refine lv_if_lt (tgt := 23) hx hb dX5_isIterator_1 (by decide) (fun c_1 => ?_) (fun c_1 => ?_)
  ·
    refine lv_iconst (v := (0 : Int32)) hx hb dX5_isIterator_23 (by decide) ?_
    exact q_zret (()) hx hb hr rfl hlocks hK hP hD hS (by simp [itB, hasB, bI, nI_8, c_1]) (rfl) dX5_isIterator_24
  ·
    refine lv_iload_n hx hb dX5_isIterator_4 rfl (lv_at hl 1 rfl) ?_
    refine lv_bipush (v := (8 : Int32)) hx hb dX5_isIterator_5 (by decide) ?_
    refine lv_icmp_ge (tgt := 23) hx hb dX5_isIterator_7 (by decide) (fun c_7 => ?_) (fun c_7 => ?_)
    ·
      refine lv_iconst (v := (0 : Int32)) hx hb dX5_isIterator_23 (by decide) ?_
      exact q_zret (()) hx hb hr rfl hlocks hK hP hD hS (by simp [itB, hasB, bI, nI_8, c_1, c_7]) (rfl) dX5_isIterator_24
    ·
      refine lv_aload_n hx hb dX5_isIterator_10 rfl (lv_at hl 0 rfl) ?_
      refine q_get (D := D) (ci := 5) (v := .ref (q 6)) (C := RX5) (T := TX5) (N := 20) hx hb hts (by decide +kernel) hown hK hP 0 0 rfl rfl rfl 9 (by decide) (hts (.fieldLink RX5 30 "OffsetRowsModel" "isOpen" "[Z") (by decide +kernel)) (fun _ h9 => h9) rfl dX5_isIterator_11 ?_
      refine lv_iload_n hx hb dX5_isIterator_14 rfl (lv_at hl 1 rfl) ?_
      refine q_zald hx hb hK hP 0 6 1 rfl (f := op) rfl rfl (k := x.toNatClampNeg) rfl (hasB_in (c := 8) (by simp [hasB, nI_8, c_1, c_7]) (Nat.le_refl 8) (by decide)) dX5_isIterator_15 ?_
      refine lv_if_eq (tgt := 23) hx hb dX5_isIterator_16 (by decide) (fun c_16 => ?_) (fun c_16 => ?_)
      ·
        refine lv_iconst (v := (0 : Int32)) hx hb dX5_isIterator_23 (by decide) ?_
        exact q_zret (()) hx hb hr rfl hlocks hK hP hD hS (by simp [itB, hasB, bI, nI_8, c_1, c_7, c_16]) (rfl) dX5_isIterator_24
      ·
        refine lv_iconst (v := (1 : Int32)) hx hb dX5_isIterator_19 (by decide) ?_
        refine lv_goto (tgt := 24) hx hb dX5_isIterator_20 (by decide) ?_
        exact q_zret (()) hx hb hr rfl hlocks hK hP hD hS (by simp [itB, hasB, bI, nI_8, c_1, c_7, c_16]) (rfl) dX5_isIterator_24

set_option maxHeartbeats 8000000 in
set_option maxRecDepth 100000 in
theorem k5_next (l : Launch) (D : va_G) (cI cZ cL : ClassId) (q : Nat → Nat) (th : Nat) (N : Nat) (c : Nat) (fr : Nat → Int32) (tt : Nat → Int32) (sa : Nat → Int32) (tk : Nat → Int32) (tn : Nat) (tr : Nat → Int32) (op : Nat → Int32) (sl : Nat → Int32) (nd : Nat → Int32) (oi : Nat → Int32) (il : Nat → Int32) (tl : Nat → Int32) (go : Nat → Int32) (gt : Nat → Int32) (fa : Nat → Int32) (mn : Nat → Int64) (nx : Nat → Int64) (x : Int32) (hc : c ≤ 160) (hil : ¬ op x.toNatClampNeg = 0 → sl x.toNatClampNeg = 0 → (il x.toNatClampNeg = -1 ∨ hasB c (il x.toNatClampNeg) = true)) : McI l D (tY cI cZ cL) yX5_next wsX5_next 2 46 [.ref (q 0), .int x] ([wM cI cZ cL q th N c fr tt sa tk tn tr op sl nd oi il tl go gt fa mn nx]) (fun r (_ : Unit) => r = nxR c fr tt sa tk op sl nd oi il x) (fun (_ : Unit) => [wM cI cZ cL q 0 N c fr tt sa tk tn tr op sl nd oi (nxF c fr tt sa tk op sl nd oi il x) (nxT c fr tt sa tk op sl nd oi il tl x) go gt fa mn nx]) := by
  refine q_ofW (Qc := fun A => (va_Qi (fun r (_ : Unit) => r = nxR c fr tt sa tk op sl nd oi il x) (fun u t => mAt D (tY cI cZ cL) A ((fun (_ : Unit) => [wM cI cZ cL q 0 N c fr tt sa tk tn tr op sl nd oi (nxF c fr tt sa tk op sl nd oi il x) (nxT c fr tt sa tk op sl nd oi il tl x) go gt fa mn nx]) u) t) A)) (cc := cX5_next) (maxL := 5) (ret := (some .int)) (by decide) rfl (Nat.le_of_ble_eq_true rfl) ?_
  intro pz ez sz mz bz tz cz hx hb hml hr hlocks hts hown hK hP A hD hA ls hl
  have hS : va_S A sz.heap sz.heap [] := va_S.rf
  have hl : lv_has ls 5 [(0, .ref (q 0)), (1, .int x)] := hl
  refine lv_aload_n hx hb dX5_next_0 rfl (lv_at hl 0 rfl) ?_
  refine lv_iconst (v := (0 : Int32)) hx hb dX5_next_1 (by decide) ?_
  refine q_put (D := D) (ci := 5) (v := .int (nI 0)) (ty := .int) (C := RX5) (T := TX5) (N := 20) hx hb hts (by decide +kernel) tyX5 tyX5_ok nmX5 hown hK hP hD hS 0 0 rfl rfl rfl 0 (by decide) (hts (.fieldLink RX5 1 "OffsetRowsModel" "thrown" "I") (by decide +kernel)) (fun _ h9 => h9) rfl (by decide +kernel) rfl rfl (Nat.le_of_ble_eq_true rfl) dX5_next_2 (wM_s_th (g9 := 0)) (Fs' := [wM cI cZ cL q 0 N c fr tt sa tk tn tr op sl nd oi il tl go gt fa mn nx]) rfl (fun H locs hP hD hS => ?_)
  refine lv_aload_n hx hb dX5_next_5 rfl (lv_at hl 0 rfl) ?_
  refine lv_iload_n hx hb dX5_next_6 rfl (lv_at hl 1 rfl) ?_
  refine q_callVi (index := 118) (n := 1) (As := [.int x]) (rest := []) (js := [0]) (ci := 5) ⟨hx, hb, hml, hown, hts⟩ hK hP hD hS hA (k5_isIterator l D cI cZ cL q 0 N c fr tt sa tk tn tr op sl nd oi il tl go gt fa mn nx x) rfl (by decide) (fun _ => by simp only [List.map_cons, List.map_nil, wM_fst]) (fun (_ : Unit) => [wM cI cZ cL q 0 N c fr tt sa tk tn tr op sl nd oi il tl go gt fa mn nx]) (fun _ => rfl) gX5_next_X5_isIterator rfl (by decide +kernel) rfl ⟨by decide, by decide⟩ rfl rfl rfl rfl hl.1 (Nat.le_of_ble_eq_true rfl) ⟨(Nat.zero_le _), (Nat.zero_le _)⟩ dX5_next_7 rfl (fun r _ H locs hw hP hD hS => ?_)
  have hw : r = bI (itB op x) := hw
  subst hw
  refine lv_if_ne (tgt := 16) hx hb dX5_next_10 (by decide) (fun c_10 => ?_) (fun c_10 => ?_)
  ·
    have n_10 : (itB op x) = true := bI_n.mp c_10
    refine lv_aload_n hx hb dX5_next_16 rfl (lv_at hl 0 rfl) ?_
    refine q_get (D := D) (ci := 5) (v := .ref (q 7)) (C := RX5) (T := TX5) (N := 20) hx hb hts (by decide +kernel) hown hK hP 0 0 rfl rfl rfl 10 (by decide) (hts (.fieldLink RX5 33 "OffsetRowsModel" "isStale" "[Z") (by decide +kernel)) (fun _ h9 => h9) rfl dX5_next_17 ?_
    refine lv_iload_n hx hb dX5_next_20 rfl (lv_at hl 1 rfl) ?_
    refine q_zald hx hb hK hP 0 7 1 rfl (f := sl) rfl rfl (k := x.toNatClampNeg) rfl (hasB_in (c := 8) (by simp [itB] at n_10; exact n_10.1) (Nat.le_refl 8) (by decide)) dX5_next_21 ?_
    refine lv_if_eq (tgt := 28) hx hb dX5_next_22 (by decide) (fun c_22 => ?_) (fun c_22 => ?_)
    ·
      refine lv_iconst (v := (-1)) hx hb dX5_next_28 (by decide) ?_
      refine lv_istore_n (lv' := [(2, .int (-1 : Int32)), (0, .ref (q 0)), (1, .int x)]) hx hb dX5_next_29 rfl hl (by decide) rfl (fun ls hl => ?_)
      refine lv_iconst (v := (0 : Int32)) hx hb dX5_next_30 (by decide) ?_
      refine lv_istore_n (lv' := [(3, .int (0 : Int32)), (2, .int (-1 : Int32)), (0, .ref (q 0)), (1, .int x)]) hx hb dX5_next_31 rfl hl (by decide) rfl (fun ls hl => ?_)
      have loop_32 : ∀ (k_32 i : Nat), i ≤ c → c < i + k_32 → ∀ (H : Heap) (locs : List Loc), va_P D vwCl (List.flatten [wM cI cZ cL q 0 N c fr tt sa tk tn tr op sl nd oi il tl go gt fa mn nx]) H → va_D A (List.flatten [wM cI cZ cL q 0 N c fr tt sa tk tn tr op sl nd oi il tl go gt fa mn nx]) → va_S A sz.heap H locs → ∀ (ls : Array Slot), lv_has ls 5 [(3, .int (nI i)), (2, .int (nxV fr tt sa tk (nd x.toNatClampNeg) (oi x.toNatClampNeg) (il x.toNatClampNeg) i)), (0, .ref (q 0)), (1, .int x)] → W pz l ez (rM 2 46) sz mz [.ref (q 0), .int x].toArray bz tz cz H locs 0 0 (MQ bz (va_Qi (fun r (_ : Unit) => r = nxR c fr tt sa tk op sl nd oi il x) (fun u t => mAt D (tY cI cZ cL) A ((fun (_ : Unit) => [wM cI cZ cL q 0 N c fr tt sa tk tn tr op sl nd oi (nxF c fr tt sa tk op sl nd oi il x) (nxT c fr tt sa tk op sl nd oi il tl x) go gt fa mn nx]) u) t) A) [.ref (q 0), .int x].toArray sz 0 0 A) (F0 mz 32 ls [])  := by
        intro k_32
        induction k_32 with
        | zero => intro i hi_32 hk_32; exact absurd hk_32 (by omega)
        | succ k_32 ih_32 =>
          intro i hi_32 hk_32 H locs hP hD hS ls hl
          refine lv_iload_n hx hb dX5_next_32 rfl (lv_at hl 0 rfl) ?_
          refine lv_aload_n hx hb dX5_next_33 rfl (lv_at hl 2 rfl) ?_
          refine q_get (D := D) (ci := 5) (v := .int (nI c)) (C := RX5) (T := TX5) (N := 20) hx hb hts (by decide +kernel) hown hK hP 0 0 rfl rfl rfl 2 (by decide) (hts (.fieldLink RX5 67 "OffsetRowsModel" "arcs" "I") (by decide +kernel)) (fun _ h9 => h9) rfl dX5_next_34 ?_
          refine lv_icmp_ge (tgt := 131) hx hb dX5_next_37 (by decide) (fun c_37 => ?_) (fun c_37 => ?_)
          ·
            have n_37 : c ≤ i := (nI_leI (a := c) (b := i) (by omega) (by omega)).mp c_37
            have hic : i = c := by omega
            refine lv_iload_n hx hb dX5_next_131 rfl (lv_at hl 1 rfl) ?_
            refine lv_iconst (v := (-1)) hx hb dX5_next_132 (by decide) ?_
            refine lv_icmp_eq (tgt := 153) hx hb dX5_next_133 (by decide) (fun c_133 => ?_) (fun c_133 => ?_)
            ·
              refine lv_iload_n hx hb dX5_next_153 rfl (lv_at hl 1 rfl) ?_
              exact q_iret (()) hx hb hr hlocks hK hP hD hS (by rw [hic]; simp [nxR, nxA, n_10, c_22]) (by rw [hic] at c_133; (try rw [hic]); simp [nxF, nxT, nxG, nxA, n_10, c_22, c_133]) dX5_next_154
            ·
              refine lv_aload_n hx hb dX5_next_136 rfl (lv_at hl 2 rfl) ?_
              refine q_get (D := D) (ci := 5) (v := .ref (q 10)) (C := RX5) (T := TX5) (N := 20) hx hb hts (by decide +kernel) hown hK hP 0 0 rfl rfl rfl 13 (by decide) (hts (.fieldLink RX5 42 "OffsetRowsModel" "itLast" "[I") (by decide +kernel)) (fun _ h9 => h9) rfl dX5_next_137 ?_
              refine lv_iload_n hx hb dX5_next_140 rfl (lv_at hl 3 rfl) ?_
              refine lv_iload_n hx hb dX5_next_141 rfl (lv_at hl 1 rfl) ?_
              refine q_iast hx hb hK hP hD hS 0 10 0 rfl (f := il) rfl rfl (k := x.toNatClampNeg) rfl (hasB_in (c := 8) (by simp [itB] at n_10; exact n_10.1) (Nat.le_refl 8) (by decide)) dX5_next_142 wM_s_il (Fs' := [wM cI cZ cL q 0 N c fr tt sa tk tn tr op sl nd oi (upd il x.toNatClampNeg (nxV fr tt sa tk (nd x.toNatClampNeg) (oi x.toNatClampNeg) (il x.toNatClampNeg) i)) tl go gt fa mn nx]) rfl (fun H locs hP hD hS => ?_)
              refine lv_aload_n hx hb dX5_next_143 rfl (lv_at hl 2 rfl) ?_
              refine q_get (D := D) (ci := 5) (v := .ref (q 11)) (C := RX5) (T := TX5) (N := 20) hx hb hts (by decide +kernel) hown hK hP 0 0 rfl rfl rfl 14 (by decide) (hts (.fieldLink RX5 45 "OffsetRowsModel" "itTold" "[I") (by decide +kernel)) (fun _ h9 => h9) rfl dX5_next_144 ?_
              refine lv_iload_n hx hb dX5_next_147 rfl (lv_at hl 3 rfl) ?_
              refine lv_dup2_11 hx hb dX5_next_148 rfl rfl ?_
              refine q_iald hx hb hK hP 0 11 0 rfl (f := tl) rfl rfl (k := x.toNatClampNeg) rfl (hasB_in (c := 8) (by simp [itB] at n_10; exact n_10.1) (Nat.le_refl 8) (by decide)) dX5_next_149 ?_
              refine lv_iconst (v := (1 : Int32)) hx hb dX5_next_150 (by decide) ?_
              refine q_iadd (z := (tl x.toNatClampNeg) + (1 : Int32)) hx hb dX5_next_151 (rfl) ?_
              refine q_iast hx hb hK hP hD hS 0 11 0 rfl (f := tl) rfl rfl (k := x.toNatClampNeg) rfl (hasB_in (c := 8) (by simp [itB] at n_10; exact n_10.1) (Nat.le_refl 8) (by decide)) dX5_next_152 wM_s_tl (Fs' := [wM cI cZ cL q 0 N c fr tt sa tk tn tr op sl nd oi (upd il x.toNatClampNeg (nxV fr tt sa tk (nd x.toNatClampNeg) (oi x.toNatClampNeg) (il x.toNatClampNeg) i)) (upd tl x.toNatClampNeg ((tl x.toNatClampNeg) + (1 : Int32))) go gt fa mn nx]) rfl (fun H locs hP hD hS => ?_)
              refine lv_iload_n hx hb dX5_next_153 rfl (lv_at hl 1 rfl) ?_
              exact q_iret (()) hx hb hr hlocks hK hP hD hS (by rw [hic]; simp [nxR, nxA, n_10, c_22]) (by rw [hic] at c_133; (try rw [hic]); simp [nxF, nxT, nxG, nxA, n_10, c_22, c_133]) dX5_next_154
          ·
            have n_37 : ¬ c ≤ i := fun h9 => c_37 ((nI_leI (a := c) (b := i) (by omega) (by omega)).mpr h9)
            refine lv_aload_n hx hb dX5_next_40 rfl (lv_at hl 2 rfl) ?_
            refine lv_iload_n hx hb dX5_next_41 rfl (lv_at hl 0 rfl) ?_
            refine lv_aload_n hx hb dX5_next_42 rfl (lv_at hl 2 rfl) ?_
            refine q_get (D := D) (ci := 5) (v := .ref (q 8)) (C := RX5) (T := TX5) (N := 20) hx hb hts (by decide +kernel) hown hK hP 0 0 rfl rfl rfl 11 (by decide) (hts (.fieldLink RX5 36 "OffsetRowsModel" "itNode" "[I") (by decide +kernel)) (fun _ h9 => h9) rfl dX5_next_43 ?_
            refine lv_iload_n hx hb dX5_next_46 rfl (lv_at hl 3 rfl) ?_
            refine q_iald hx hb hK hP 0 8 0 rfl (f := nd) rfl rfl (k := x.toNatClampNeg) rfl (hasB_in (c := 8) (by simp [itB] at n_10; exact n_10.1) (Nat.le_refl 8) (by decide)) dX5_next_47 ?_
            refine lv_aload_n hx hb dX5_next_48 rfl (lv_at hl 2 rfl) ?_
            refine q_get (D := D) (ci := 5) (v := .ref (q 9)) (C := RX5) (T := TX5) (N := 20) hx hb hts (by decide +kernel) hown hK hP 0 0 rfl rfl rfl 12 (by decide) (hts (.fieldLink RX5 39 "OffsetRowsModel" "itIn" "[Z") (by decide +kernel)) (fun _ h9 => h9) rfl dX5_next_49 ?_
            refine lv_iload_n hx hb dX5_next_52 rfl (lv_at hl 3 rfl) ?_
            refine q_zald hx hb hK hP 0 9 1 rfl (f := oi) rfl rfl (k := x.toNatClampNeg) rfl (hasB_in (c := 8) (by simp [itB] at n_10; exact n_10.1) (Nat.le_refl 8) (by decide)) dX5_next_53 ?_
            refine lv_iconst (v := (1 : Int32)) hx hb dX5_next_54 (by decide) ?_
            refine q_callVi (index := 94) (n := 4) (As := [.int (nI i), .int (nd x.toNatClampNeg), .int (oi x.toNatClampNeg), .int (1 : Int32)]) (rest := []) (js := [0]) (ci := 5) ⟨hx, hb, hml, hown, hts⟩ hK hP hD hS hA (k5_isOf l D cI cZ cL q 0 N c fr tt sa tk tn tr op sl nd oi il tl go gt fa mn nx i (nd x.toNatClampNeg) (oi x.toNatClampNeg) (1 : Int32) (by omega) (by omega)) rfl (by decide) (fun _ => by simp only [List.map_cons, List.map_nil, wM_fst]) (fun (_ : Unit) => [wM cI cZ cL q 0 N c fr tt sa tk tn tr op sl nd oi il tl go gt fa mn nx]) (fun _ => rfl) gX5_next_X5_isOf rfl (by decide +kernel) rfl ⟨by decide, by decide⟩ rfl rfl rfl rfl hl.1 (Nat.le_of_ble_eq_true rfl) ⟨(Nat.zero_le _), (Nat.zero_le _)⟩ dX5_next_55 rfl (fun r _ H locs hw hP hD hS => ?_)
            have hw : r = bI (ofB fr tt sa tk (nd x.toNatClampNeg) (oi x.toNatClampNeg) (1 : Int32) i) := hw
            subst hw
            refine lv_if_eq (tgt := 95) hx hb dX5_next_58 (by decide) (fun c_58 => ?_) (fun c_58 => ?_)
            ·
              have n_58 : (ofB fr tt sa tk (nd x.toNatClampNeg) (oi x.toNatClampNeg) (1 : Int32) i) = false := bI_0.mp c_58
              refine lv_iconst (v := (0 : Int32)) hx hb dX5_next_95 (by decide) ?_
              refine lv_istore (lv' := [(4, .int (0 : Int32)), (3, .int (nI i)), (2, .int (nxV fr tt sa tk (nd x.toNatClampNeg) (oi x.toNatClampNeg) (il x.toNatClampNeg) i)), (0, .ref (q 0)), (1, .int x)]) hx hb dX5_next_96 hl (by decide) rfl (fun ls hl => ?_)
              refine lv_iload hx hb dX5_next_98 (lv_at hl 0 rfl) ?_
              refine lv_if_eq (tgt := 125) hx hb dX5_next_100 (by decide) (fun c_100 => ?_) (fun c_100 => ?_)
              ·
                refine lv_iinc (v := nI (i + 1)) (lv' := [(3, .int (nI (i + 1))), (4, .int (0 : Int32)), (2, .int (nxV fr tt sa tk (nd x.toNatClampNeg) (oi x.toNatClampNeg) (il x.toNatClampNeg) i)), (0, .ref (q 0)), (1, .int x)]) hx hb dX5_next_125 hl (k := 1) rfl (nI_add i 1) (by decide) rfl (fun ls hl => ?_)
                refine lv_goto (tgt := 32) hx hb dX5_next_128 (by decide) ?_
                have hl : lv_has ls 5 [(3, .int (nI (i + 1))), (2, .int (nxV fr tt sa tk (nd x.toNatClampNeg) (oi x.toNatClampNeg) (il x.toNatClampNeg) i)), (0, .ref (q 0)), (1, .int x)] := lv_sub hl [0, 2, 3, 4] rfl
                have hl : lv_has ls 5 [(3, .int (nI (i + 1))), (2, .int (nxV fr tt sa tk (nd x.toNatClampNeg) (oi x.toNatClampNeg) (il x.toNatClampNeg) (i + 1))), (0, .ref (q 0)), (1, .int x)] := by
                  rw [← show nxV fr tt sa tk (nd x.toNatClampNeg) (oi x.toNatClampNeg) (il x.toNatClampNeg) i = nxV fr tt sa tk (nd x.toNatClampNeg) (oi x.toNatClampNeg) (il x.toNatClampNeg) (i + 1) from nxV_n (nxB_n1 n_58)]
                  exact hl
                have hP : va_P D vwCl (List.flatten [wM cI cZ cL q 0 N c fr tt sa tk tn tr op sl nd oi il tl go gt fa mn nx]) _ := hP
                have hD : va_D A (List.flatten [wM cI cZ cL q 0 N c fr tt sa tk tn tr op sl nd oi il tl go gt fa mn nx]) := hD
                exact ih_32 (i + 1) (by omega) (by omega) _ _ hP hD hS _ hl
              ·
                exact absurd (by decide) c_100
            ·
              have n_58 : (ofB fr tt sa tk (nd x.toNatClampNeg) (oi x.toNatClampNeg) (1 : Int32) i) = true := bI_n.mp c_58
              refine lv_aload_n hx hb dX5_next_61 rfl (lv_at hl 2 rfl) ?_
              refine q_get (D := D) (ci := 5) (v := .ref (q 10)) (C := RX5) (T := TX5) (N := 20) hx hb hts (by decide +kernel) hown hK hP 0 0 rfl rfl rfl 13 (by decide) (hts (.fieldLink RX5 42 "OffsetRowsModel" "itLast" "[I") (by decide +kernel)) (fun _ h9 => h9) rfl dX5_next_62 ?_
              refine lv_iload_n hx hb dX5_next_65 rfl (lv_at hl 3 rfl) ?_
              refine q_iald hx hb hK hP 0 10 0 rfl (f := il) rfl rfl (k := x.toNatClampNeg) rfl (hasB_in (c := 8) (by simp [itB] at n_10; exact n_10.1) (Nat.le_refl 8) (by decide)) dX5_next_66 ?_
              refine lv_iconst (v := (-1)) hx hb dX5_next_67 (by decide) ?_
              refine lv_icmp_eq (tgt := 91) hx hb dX5_next_68 (by decide) (fun c_68 => ?_) (fun c_68 => ?_)
              ·
                refine lv_iconst (v := (1 : Int32)) hx hb dX5_next_91 (by decide) ?_
                refine lv_goto (tgt := 96) hx hb dX5_next_92 (by decide) ?_
                refine lv_istore (lv' := [(4, .int (1 : Int32)), (3, .int (nI i)), (2, .int (nxV fr tt sa tk (nd x.toNatClampNeg) (oi x.toNatClampNeg) (il x.toNatClampNeg) i)), (0, .ref (q 0)), (1, .int x)]) hx hb dX5_next_96 hl (by decide) rfl (fun ls hl => ?_)
                refine lv_iload hx hb dX5_next_98 (lv_at hl 0 rfl) ?_
                refine lv_if_eq (tgt := 125) hx hb dX5_next_100 (by decide) (fun c_100 => ?_) (fun c_100 => ?_)
                ·
                  exact absurd c_100 (by decide)
                ·
                  refine lv_iload_n hx hb dX5_next_103 rfl (lv_at hl 2 rfl) ?_
                  refine lv_iconst (v := (-1)) hx hb dX5_next_104 (by decide) ?_
                  refine lv_icmp_eq (tgt := 123) hx hb dX5_next_105 (by decide) (fun c_105 => ?_) (fun c_105 => ?_)
                  ·
                    refine lv_iload_n hx hb dX5_next_123 rfl (lv_at hl 1 rfl) ?_
                    refine lv_istore_n (lv' := [(2, .int (nI i)), (4, .int (1 : Int32)), (3, .int (nI i)), (0, .ref (q 0)), (1, .int x)]) hx hb dX5_next_124 rfl hl (by decide) rfl (fun ls hl => ?_)
                    refine lv_iinc (v := nI (i + 1)) (lv' := [(3, .int (nI (i + 1))), (2, .int (nI i)), (4, .int (1 : Int32)), (0, .ref (q 0)), (1, .int x)]) hx hb dX5_next_125 hl (k := 2) rfl (nI_add i 1) (by decide) rfl (fun ls hl => ?_)
                    refine lv_goto (tgt := 32) hx hb dX5_next_128 (by decide) ?_
                    have hl : lv_has ls 5 [(3, .int (nI (i + 1))), (2, .int (nI i)), (0, .ref (q 0)), (1, .int x)] := lv_sub hl [0, 1, 3, 4] rfl
                    have hl : lv_has ls 5 [(3, .int (nI (i + 1))), (2, .int (nxV fr tt sa tk (nd x.toNatClampNeg) (oi x.toNatClampNeg) (il x.toNatClampNeg) (i + 1))), (0, .ref (q 0)), (1, .int x)] := by
                      rw [← show nI i = nxV fr tt sa tk (nd x.toNatClampNeg) (oi x.toNatClampNeg) (il x.toNatClampNeg) (i + 1) from nxV_y (nxB_y n_58 (Or.inl c_68) (Or.inl c_105))]
                      exact hl
                    have hP : va_P D vwCl (List.flatten [wM cI cZ cL q 0 N c fr tt sa tk tn tr op sl nd oi il tl go gt fa mn nx]) _ := hP
                    have hD : va_D A (List.flatten [wM cI cZ cL q 0 N c fr tt sa tk tn tr op sl nd oi il tl go gt fa mn nx]) := hD
                    exact ih_32 (i + 1) (by omega) (by omega) _ _ hP hD hS _ hl
                  ·
                    obtain ⟨b9, hb9, hbq⟩ := (nxV_in (fr := fr) (tt := tt) (sa := sa) (tk := tk) (x := nd x.toNatClampNeg) (z := oi x.toNatClampNeg) (lv := il x.toNatClampNeg) i).resolve_left c_105
                    have hbc : (nxV fr tt sa tk (nd x.toNatClampNeg) (oi x.toNatClampNeg) (il x.toNatClampNeg)  i).toNatClampNeg = b9 := by rw [hbq]; exact nI_clamp (by omega)
                    refine lv_aload_n hx hb dX5_next_108 rfl (lv_at hl 3 rfl) ?_
                    refine lv_iload_n hx hb dX5_next_109 rfl (lv_at hl 1 rfl) ?_
                    refine lv_iload_n hx hb dX5_next_110 rfl (lv_at hl 2 rfl) ?_
                    refine q_top (z := nI b9) (hbq) ?_
                    refine lv_aload_n hx hb dX5_next_111 rfl (lv_at hl 3 rfl) ?_
                    refine q_get (D := D) (ci := 5) (v := .ref (q 9)) (C := RX5) (T := TX5) (N := 20) hx hb hts (by decide +kernel) hown hK hP 0 0 rfl rfl rfl 12 (by decide) (hts (.fieldLink RX5 39 "OffsetRowsModel" "itIn" "[Z") (by decide +kernel)) (fun _ h9 => h9) rfl dX5_next_112 ?_
                    refine lv_iload_n hx hb dX5_next_115 rfl (lv_at hl 4 rfl) ?_
                    refine q_zald hx hb hK hP 0 9 1 rfl (f := oi) rfl rfl (k := x.toNatClampNeg) rfl (hasB_in (c := 8) (by simp [itB] at n_10; exact n_10.1) (Nat.le_refl 8) (by decide)) dX5_next_116 ?_
                    refine q_callVi (index := 98) (n := 3) (As := [.int (nI i), .int (nI b9), .int (oi x.toNatClampNeg)]) (rest := []) (js := [0]) (ci := 5) ⟨hx, hb, hml, hown, hts⟩ hK hP hD hS hA (k5_isAhead l D cI cZ cL q 0 N c fr tt sa tk tn tr op sl nd oi il tl go gt fa mn nx i b9 (oi x.toNatClampNeg) (by omega) (by omega) (by omega)) rfl (by decide) (fun _ => by simp only [List.map_cons, List.map_nil, wM_fst]) (fun (_ : Unit) => [wM cI cZ cL q 0 N c fr tt sa tk tn tr op sl nd oi il tl go gt fa mn nx]) (fun _ => rfl) gX5_next_X5_isAhead rfl (by decide +kernel) rfl ⟨by decide, by decide⟩ rfl rfl rfl rfl hl.1 (Nat.le_of_ble_eq_true rfl) ⟨(Nat.zero_le _), (Nat.zero_le _)⟩ dX5_next_117 rfl (fun r _ H locs hw hP hD hS => ?_)
                    have hw : r = bI (ahB fr tt sa (oi x.toNatClampNeg) i b9) := hw
                    subst hw
                    refine lv_if_eq (tgt := 125) hx hb dX5_next_120 (by decide) (fun c_120 => ?_) (fun c_120 => ?_)
                    ·
                      have n_120 : (ahB fr tt sa (oi x.toNatClampNeg) i b9) = false := bI_0.mp c_120
                      refine lv_iinc (v := nI (i + 1)) (lv' := [(3, .int (nI (i + 1))), (4, .int (1 : Int32)), (2, .int (nxV fr tt sa tk (nd x.toNatClampNeg) (oi x.toNatClampNeg) (il x.toNatClampNeg) i)), (0, .ref (q 0)), (1, .int x)]) hx hb dX5_next_125 hl (k := 1) rfl (nI_add i 1) (by decide) rfl (fun ls hl => ?_)
                      refine lv_goto (tgt := 32) hx hb dX5_next_128 (by decide) ?_
                      have hl : lv_has ls 5 [(3, .int (nI (i + 1))), (2, .int (nxV fr tt sa tk (nd x.toNatClampNeg) (oi x.toNatClampNeg) (il x.toNatClampNeg) i)), (0, .ref (q 0)), (1, .int x)] := lv_sub hl [0, 2, 3, 4] rfl
                      have hl : lv_has ls 5 [(3, .int (nI (i + 1))), (2, .int (nxV fr tt sa tk (nd x.toNatClampNeg) (oi x.toNatClampNeg) (il x.toNatClampNeg) (i + 1))), (0, .ref (q 0)), (1, .int x)] := by
                        rw [← show nxV fr tt sa tk (nd x.toNatClampNeg) (oi x.toNatClampNeg) (il x.toNatClampNeg) i = nxV fr tt sa tk (nd x.toNatClampNeg) (oi x.toNatClampNeg) (il x.toNatClampNeg) (i + 1) from nxV_n (nxB_n3 c_105 (by rw [hbc]; exact n_120))]
                        exact hl
                      have hP : va_P D vwCl (List.flatten [wM cI cZ cL q 0 N c fr tt sa tk tn tr op sl nd oi il tl go gt fa mn nx]) _ := hP
                      have hD : va_D A (List.flatten [wM cI cZ cL q 0 N c fr tt sa tk tn tr op sl nd oi il tl go gt fa mn nx]) := hD
                      exact ih_32 (i + 1) (by omega) (by omega) _ _ hP hD hS _ hl
                    ·
                      have n_120 : (ahB fr tt sa (oi x.toNatClampNeg) i b9) = true := bI_n.mp c_120
                      refine lv_iload_n hx hb dX5_next_123 rfl (lv_at hl 1 rfl) ?_
                      refine lv_istore_n (lv' := [(2, .int (nI i)), (4, .int (1 : Int32)), (3, .int (nI i)), (0, .ref (q 0)), (1, .int x)]) hx hb dX5_next_124 rfl hl (by decide) rfl (fun ls hl => ?_)
                      refine lv_iinc (v := nI (i + 1)) (lv' := [(3, .int (nI (i + 1))), (2, .int (nI i)), (4, .int (1 : Int32)), (0, .ref (q 0)), (1, .int x)]) hx hb dX5_next_125 hl (k := 2) rfl (nI_add i 1) (by decide) rfl (fun ls hl => ?_)
                      refine lv_goto (tgt := 32) hx hb dX5_next_128 (by decide) ?_
                      have hl : lv_has ls 5 [(3, .int (nI (i + 1))), (2, .int (nI i)), (0, .ref (q 0)), (1, .int x)] := lv_sub hl [0, 1, 3, 4] rfl
                      have hl : lv_has ls 5 [(3, .int (nI (i + 1))), (2, .int (nxV fr tt sa tk (nd x.toNatClampNeg) (oi x.toNatClampNeg) (il x.toNatClampNeg) (i + 1))), (0, .ref (q 0)), (1, .int x)] := by
                        rw [← show nI i = nxV fr tt sa tk (nd x.toNatClampNeg) (oi x.toNatClampNeg) (il x.toNatClampNeg) (i + 1) from nxV_y (nxB_y n_58 (Or.inl c_68) (Or.inr (by rw [hbc]; exact n_120)))]
                        exact hl
                      have hP : va_P D vwCl (List.flatten [wM cI cZ cL q 0 N c fr tt sa tk tn tr op sl nd oi il tl go gt fa mn nx]) _ := hP
                      have hD : va_D A (List.flatten [wM cI cZ cL q 0 N c fr tt sa tk tn tr op sl nd oi il tl go gt fa mn nx]) := hD
                      exact ih_32 (i + 1) (by omega) (by omega) _ _ hP hD hS _ hl
              ·
                obtain ⟨l9, hl9, hlq⟩ := hasB_of ((hil (by simp [itB] at n_10; exact n_10.2) c_22).resolve_left c_68) (by omega)
                refine lv_aload_n hx hb dX5_next_71 rfl (lv_at hl 2 rfl) ?_
                refine lv_aload_n hx hb dX5_next_72 rfl (lv_at hl 2 rfl) ?_
                refine q_get (D := D) (ci := 5) (v := .ref (q 10)) (C := RX5) (T := TX5) (N := 20) hx hb hts (by decide +kernel) hown hK hP 0 0 rfl rfl rfl 13 (by decide) (hts (.fieldLink RX5 42 "OffsetRowsModel" "itLast" "[I") (by decide +kernel)) (fun _ h9 => h9) rfl dX5_next_73 ?_
                refine lv_iload_n hx hb dX5_next_76 rfl (lv_at hl 3 rfl) ?_
                refine q_iald hx hb hK hP 0 10 0 rfl (f := il) rfl rfl (k := x.toNatClampNeg) rfl (hasB_in (c := 8) (by simp [itB] at n_10; exact n_10.1) (Nat.le_refl 8) (by decide)) dX5_next_77 ?_
                refine q_top (z := nI l9) (hlq) ?_
                refine lv_iload_n hx hb dX5_next_78 rfl (lv_at hl 0 rfl) ?_
                refine lv_aload_n hx hb dX5_next_79 rfl (lv_at hl 2 rfl) ?_
                refine q_get (D := D) (ci := 5) (v := .ref (q 9)) (C := RX5) (T := TX5) (N := 20) hx hb hts (by decide +kernel) hown hK hP 0 0 rfl rfl rfl 12 (by decide) (hts (.fieldLink RX5 39 "OffsetRowsModel" "itIn" "[Z") (by decide +kernel)) (fun _ h9 => h9) rfl dX5_next_80 ?_
                refine lv_iload_n hx hb dX5_next_83 rfl (lv_at hl 3 rfl) ?_
                refine q_zald hx hb hK hP 0 9 1 rfl (f := oi) rfl rfl (k := x.toNatClampNeg) rfl (hasB_in (c := 8) (by simp [itB] at n_10; exact n_10.1) (Nat.le_refl 8) (by decide)) dX5_next_84 ?_
                refine q_callVi (index := 98) (n := 3) (As := [.int (nI l9), .int (nI i), .int (oi x.toNatClampNeg)]) (rest := []) (js := [0]) (ci := 5) ⟨hx, hb, hml, hown, hts⟩ hK hP hD hS hA (k5_isAhead l D cI cZ cL q 0 N c fr tt sa tk tn tr op sl nd oi il tl go gt fa mn nx l9 i (oi x.toNatClampNeg) (by omega) (by omega) (by omega)) rfl (by decide) (fun _ => by simp only [List.map_cons, List.map_nil, wM_fst]) (fun (_ : Unit) => [wM cI cZ cL q 0 N c fr tt sa tk tn tr op sl nd oi il tl go gt fa mn nx]) (fun _ => rfl) gX5_next_X5_isAhead rfl (by decide +kernel) rfl ⟨by decide, by decide⟩ rfl rfl rfl rfl hl.1 (Nat.le_of_ble_eq_true rfl) ⟨(Nat.zero_le _), (Nat.zero_le _)⟩ dX5_next_85 rfl (fun r _ H locs hw hP hD hS => ?_)
                have hw : r = bI (ahB fr tt sa (oi x.toNatClampNeg) l9 i) := hw
                subst hw
                refine lv_if_eq (tgt := 95) hx hb dX5_next_88 (by decide) (fun c_88 => ?_) (fun c_88 => ?_)
                ·
                  have n_88 : (ahB fr tt sa (oi x.toNatClampNeg) l9 i) = false := bI_0.mp c_88
                  refine lv_iconst (v := (0 : Int32)) hx hb dX5_next_95 (by decide) ?_
                  refine lv_istore (lv' := [(4, .int (0 : Int32)), (3, .int (nI i)), (2, .int (nxV fr tt sa tk (nd x.toNatClampNeg) (oi x.toNatClampNeg) (il x.toNatClampNeg) i)), (0, .ref (q 0)), (1, .int x)]) hx hb dX5_next_96 hl (by decide) rfl (fun ls hl => ?_)
                  refine lv_iload hx hb dX5_next_98 (lv_at hl 0 rfl) ?_
                  refine lv_if_eq (tgt := 125) hx hb dX5_next_100 (by decide) (fun c_100 => ?_) (fun c_100 => ?_)
                  ·
                    refine lv_iinc (v := nI (i + 1)) (lv' := [(3, .int (nI (i + 1))), (4, .int (0 : Int32)), (2, .int (nxV fr tt sa tk (nd x.toNatClampNeg) (oi x.toNatClampNeg) (il x.toNatClampNeg) i)), (0, .ref (q 0)), (1, .int x)]) hx hb dX5_next_125 hl (k := 1) rfl (nI_add i 1) (by decide) rfl (fun ls hl => ?_)
                    refine lv_goto (tgt := 32) hx hb dX5_next_128 (by decide) ?_
                    have hl : lv_has ls 5 [(3, .int (nI (i + 1))), (2, .int (nxV fr tt sa tk (nd x.toNatClampNeg) (oi x.toNatClampNeg) (il x.toNatClampNeg) i)), (0, .ref (q 0)), (1, .int x)] := lv_sub hl [0, 2, 3, 4] rfl
                    have hl : lv_has ls 5 [(3, .int (nI (i + 1))), (2, .int (nxV fr tt sa tk (nd x.toNatClampNeg) (oi x.toNatClampNeg) (il x.toNatClampNeg) (i + 1))), (0, .ref (q 0)), (1, .int x)] := by
                      rw [← show nxV fr tt sa tk (nd x.toNatClampNeg) (oi x.toNatClampNeg) (il x.toNatClampNeg) i = nxV fr tt sa tk (nd x.toNatClampNeg) (oi x.toNatClampNeg) (il x.toNatClampNeg) (i + 1) from nxV_n (nxB_n2 c_68 (by rw [hlq, nI_clamp (by omega)]; exact n_88))]
                      exact hl
                    have hP : va_P D vwCl (List.flatten [wM cI cZ cL q 0 N c fr tt sa tk tn tr op sl nd oi il tl go gt fa mn nx]) _ := hP
                    have hD : va_D A (List.flatten [wM cI cZ cL q 0 N c fr tt sa tk tn tr op sl nd oi il tl go gt fa mn nx]) := hD
                    exact ih_32 (i + 1) (by omega) (by omega) _ _ hP hD hS _ hl
                  ·
                    exact absurd (by decide) c_100
                ·
                  have n_88 : (ahB fr tt sa (oi x.toNatClampNeg) l9 i) = true := bI_n.mp c_88
                  refine lv_iconst (v := (1 : Int32)) hx hb dX5_next_91 (by decide) ?_
                  refine lv_goto (tgt := 96) hx hb dX5_next_92 (by decide) ?_
                  refine lv_istore (lv' := [(4, .int (1 : Int32)), (3, .int (nI i)), (2, .int (nxV fr tt sa tk (nd x.toNatClampNeg) (oi x.toNatClampNeg) (il x.toNatClampNeg) i)), (0, .ref (q 0)), (1, .int x)]) hx hb dX5_next_96 hl (by decide) rfl (fun ls hl => ?_)
                  refine lv_iload hx hb dX5_next_98 (lv_at hl 0 rfl) ?_
                  refine lv_if_eq (tgt := 125) hx hb dX5_next_100 (by decide) (fun c_100 => ?_) (fun c_100 => ?_)
                  ·
                    exact absurd c_100 (by decide)
                  ·
                    refine lv_iload_n hx hb dX5_next_103 rfl (lv_at hl 2 rfl) ?_
                    refine lv_iconst (v := (-1)) hx hb dX5_next_104 (by decide) ?_
                    refine lv_icmp_eq (tgt := 123) hx hb dX5_next_105 (by decide) (fun c_105 => ?_) (fun c_105 => ?_)
                    ·
                      refine lv_iload_n hx hb dX5_next_123 rfl (lv_at hl 1 rfl) ?_
                      refine lv_istore_n (lv' := [(2, .int (nI i)), (4, .int (1 : Int32)), (3, .int (nI i)), (0, .ref (q 0)), (1, .int x)]) hx hb dX5_next_124 rfl hl (by decide) rfl (fun ls hl => ?_)
                      refine lv_iinc (v := nI (i + 1)) (lv' := [(3, .int (nI (i + 1))), (2, .int (nI i)), (4, .int (1 : Int32)), (0, .ref (q 0)), (1, .int x)]) hx hb dX5_next_125 hl (k := 2) rfl (nI_add i 1) (by decide) rfl (fun ls hl => ?_)
                      refine lv_goto (tgt := 32) hx hb dX5_next_128 (by decide) ?_
                      have hl : lv_has ls 5 [(3, .int (nI (i + 1))), (2, .int (nI i)), (0, .ref (q 0)), (1, .int x)] := lv_sub hl [0, 1, 3, 4] rfl
                      have hl : lv_has ls 5 [(3, .int (nI (i + 1))), (2, .int (nxV fr tt sa tk (nd x.toNatClampNeg) (oi x.toNatClampNeg) (il x.toNatClampNeg) (i + 1))), (0, .ref (q 0)), (1, .int x)] := by
                        rw [← show nI i = nxV fr tt sa tk (nd x.toNatClampNeg) (oi x.toNatClampNeg) (il x.toNatClampNeg) (i + 1) from nxV_y (nxB_y n_58 (Or.inr (by rw [hlq, nI_clamp (by omega)]; exact n_88)) (Or.inl c_105))]
                        exact hl
                      have hP : va_P D vwCl (List.flatten [wM cI cZ cL q 0 N c fr tt sa tk tn tr op sl nd oi il tl go gt fa mn nx]) _ := hP
                      have hD : va_D A (List.flatten [wM cI cZ cL q 0 N c fr tt sa tk tn tr op sl nd oi il tl go gt fa mn nx]) := hD
                      exact ih_32 (i + 1) (by omega) (by omega) _ _ hP hD hS _ hl
                    ·
                      obtain ⟨b9, hb9, hbq⟩ := (nxV_in (fr := fr) (tt := tt) (sa := sa) (tk := tk) (x := nd x.toNatClampNeg) (z := oi x.toNatClampNeg) (lv := il x.toNatClampNeg) i).resolve_left c_105
                      have hbc : (nxV fr tt sa tk (nd x.toNatClampNeg) (oi x.toNatClampNeg) (il x.toNatClampNeg)  i).toNatClampNeg = b9 := by rw [hbq]; exact nI_clamp (by omega)
                      refine lv_aload_n hx hb dX5_next_108 rfl (lv_at hl 3 rfl) ?_
                      refine lv_iload_n hx hb dX5_next_109 rfl (lv_at hl 1 rfl) ?_
                      refine lv_iload_n hx hb dX5_next_110 rfl (lv_at hl 2 rfl) ?_
                      refine q_top (z := nI b9) (hbq) ?_
                      refine lv_aload_n hx hb dX5_next_111 rfl (lv_at hl 3 rfl) ?_
                      refine q_get (D := D) (ci := 5) (v := .ref (q 9)) (C := RX5) (T := TX5) (N := 20) hx hb hts (by decide +kernel) hown hK hP 0 0 rfl rfl rfl 12 (by decide) (hts (.fieldLink RX5 39 "OffsetRowsModel" "itIn" "[Z") (by decide +kernel)) (fun _ h9 => h9) rfl dX5_next_112 ?_
                      refine lv_iload_n hx hb dX5_next_115 rfl (lv_at hl 4 rfl) ?_
                      refine q_zald hx hb hK hP 0 9 1 rfl (f := oi) rfl rfl (k := x.toNatClampNeg) rfl (hasB_in (c := 8) (by simp [itB] at n_10; exact n_10.1) (Nat.le_refl 8) (by decide)) dX5_next_116 ?_
                      refine q_callVi (index := 98) (n := 3) (As := [.int (nI i), .int (nI b9), .int (oi x.toNatClampNeg)]) (rest := []) (js := [0]) (ci := 5) ⟨hx, hb, hml, hown, hts⟩ hK hP hD hS hA (k5_isAhead l D cI cZ cL q 0 N c fr tt sa tk tn tr op sl nd oi il tl go gt fa mn nx i b9 (oi x.toNatClampNeg) (by omega) (by omega) (by omega)) rfl (by decide) (fun _ => by simp only [List.map_cons, List.map_nil, wM_fst]) (fun (_ : Unit) => [wM cI cZ cL q 0 N c fr tt sa tk tn tr op sl nd oi il tl go gt fa mn nx]) (fun _ => rfl) gX5_next_X5_isAhead rfl (by decide +kernel) rfl ⟨by decide, by decide⟩ rfl rfl rfl rfl hl.1 (Nat.le_of_ble_eq_true rfl) ⟨(Nat.zero_le _), (Nat.zero_le _)⟩ dX5_next_117 rfl (fun r _ H locs hw hP hD hS => ?_)
                      have hw : r = bI (ahB fr tt sa (oi x.toNatClampNeg) i b9) := hw
                      subst hw
                      refine lv_if_eq (tgt := 125) hx hb dX5_next_120 (by decide) (fun c_120 => ?_) (fun c_120 => ?_)
                      ·
                        have n_120 : (ahB fr tt sa (oi x.toNatClampNeg) i b9) = false := bI_0.mp c_120
                        refine lv_iinc (v := nI (i + 1)) (lv' := [(3, .int (nI (i + 1))), (4, .int (1 : Int32)), (2, .int (nxV fr tt sa tk (nd x.toNatClampNeg) (oi x.toNatClampNeg) (il x.toNatClampNeg) i)), (0, .ref (q 0)), (1, .int x)]) hx hb dX5_next_125 hl (k := 1) rfl (nI_add i 1) (by decide) rfl (fun ls hl => ?_)
                        refine lv_goto (tgt := 32) hx hb dX5_next_128 (by decide) ?_
                        have hl : lv_has ls 5 [(3, .int (nI (i + 1))), (2, .int (nxV fr tt sa tk (nd x.toNatClampNeg) (oi x.toNatClampNeg) (il x.toNatClampNeg) i)), (0, .ref (q 0)), (1, .int x)] := lv_sub hl [0, 2, 3, 4] rfl
                        have hl : lv_has ls 5 [(3, .int (nI (i + 1))), (2, .int (nxV fr tt sa tk (nd x.toNatClampNeg) (oi x.toNatClampNeg) (il x.toNatClampNeg) (i + 1))), (0, .ref (q 0)), (1, .int x)] := by
                          rw [← show nxV fr tt sa tk (nd x.toNatClampNeg) (oi x.toNatClampNeg) (il x.toNatClampNeg) i = nxV fr tt sa tk (nd x.toNatClampNeg) (oi x.toNatClampNeg) (il x.toNatClampNeg) (i + 1) from nxV_n (nxB_n3 c_105 (by rw [hbc]; exact n_120))]
                          exact hl
                        have hP : va_P D vwCl (List.flatten [wM cI cZ cL q 0 N c fr tt sa tk tn tr op sl nd oi il tl go gt fa mn nx]) _ := hP
                        have hD : va_D A (List.flatten [wM cI cZ cL q 0 N c fr tt sa tk tn tr op sl nd oi il tl go gt fa mn nx]) := hD
                        exact ih_32 (i + 1) (by omega) (by omega) _ _ hP hD hS _ hl
                      ·
                        have n_120 : (ahB fr tt sa (oi x.toNatClampNeg) i b9) = true := bI_n.mp c_120
                        refine lv_iload_n hx hb dX5_next_123 rfl (lv_at hl 1 rfl) ?_
                        refine lv_istore_n (lv' := [(2, .int (nI i)), (4, .int (1 : Int32)), (3, .int (nI i)), (0, .ref (q 0)), (1, .int x)]) hx hb dX5_next_124 rfl hl (by decide) rfl (fun ls hl => ?_)
                        refine lv_iinc (v := nI (i + 1)) (lv' := [(3, .int (nI (i + 1))), (2, .int (nI i)), (4, .int (1 : Int32)), (0, .ref (q 0)), (1, .int x)]) hx hb dX5_next_125 hl (k := 2) rfl (nI_add i 1) (by decide) rfl (fun ls hl => ?_)
                        refine lv_goto (tgt := 32) hx hb dX5_next_128 (by decide) ?_
                        have hl : lv_has ls 5 [(3, .int (nI (i + 1))), (2, .int (nI i)), (0, .ref (q 0)), (1, .int x)] := lv_sub hl [0, 1, 3, 4] rfl
                        have hl : lv_has ls 5 [(3, .int (nI (i + 1))), (2, .int (nxV fr tt sa tk (nd x.toNatClampNeg) (oi x.toNatClampNeg) (il x.toNatClampNeg) (i + 1))), (0, .ref (q 0)), (1, .int x)] := by
                          rw [← show nI i = nxV fr tt sa tk (nd x.toNatClampNeg) (oi x.toNatClampNeg) (il x.toNatClampNeg) (i + 1) from nxV_y (nxB_y n_58 (Or.inr (by rw [hlq, nI_clamp (by omega)]; exact n_88)) (Or.inr (by rw [hbc]; exact n_120)))]
                          exact hl
                        have hP : va_P D vwCl (List.flatten [wM cI cZ cL q 0 N c fr tt sa tk tn tr op sl nd oi il tl go gt fa mn nx]) _ := hP
                        have hD : va_D A (List.flatten [wM cI cZ cL q 0 N c fr tt sa tk tn tr op sl nd oi il tl go gt fa mn nx]) := hD
                        exact ih_32 (i + 1) (by omega) (by omega) _ _ hP hD hS _ hl
      have hl : lv_has ls 5 [(3, .int (nI 0)), (2, .int (nxV fr tt sa tk (nd x.toNatClampNeg) (oi x.toNatClampNeg) (il x.toNatClampNeg) 0)), (0, .ref (q 0)), (1, .int x)] := lv_sub hl [0, 1, 2, 3] rfl
      have hP : va_P D vwCl (List.flatten [wM cI cZ cL q 0 N c fr tt sa tk tn tr op sl nd oi il tl go gt fa mn nx]) _ := hP
      have hD : va_D A (List.flatten [wM cI cZ cL q 0 N c fr tt sa tk tn tr op sl nd oi il tl go gt fa mn nx]) := hD
      exact loop_32 (c + 1) 0 (by omega) (by omega) _ _ hP hD hS _ hl
    ·
      refine lv_bipush (v := (-4)) hx hb dX5_next_25 (by decide) ?_
      exact q_iret (()) hx hb hr hlocks hK hP hD hS (by simp [nxR, nxF, nxT, nxG, nxA, n_10, c_22]) (by simp [nxR, nxF, nxT, nxG, nxA, n_10, c_22]) dX5_next_27
  ·
    have n_10 : (itB op x) = false := bI_0.mp c_10
    refine lv_bipush (v := (-2)) hx hb dX5_next_13 (by decide) ?_
    exact q_iret (()) hx hb hr hlocks hK hP hD hS (by simp [nxR, nxF, nxT, nxG, nxA, n_10]) (by simp [nxR, nxF, nxT, nxG, nxA, n_10]) dX5_next_15

set_option maxHeartbeats 8000000 in
set_option maxRecDepth 100000 in
theorem k5_close (l : Launch) (D : va_G) (cI cZ cL : ClassId) (q : Nat → Nat) (th : Nat) (N : Nat) (c : Nat) (fr : Nat → Int32) (tt : Nat → Int32) (sa : Nat → Int32) (tk : Nat → Int32) (tn : Nat) (tr : Nat → Int32) (op : Nat → Int32) (sl : Nat → Int32) (nd : Nat → Int32) (oi : Nat → Int32) (il : Nat → Int32) (tl : Nat → Int32) (go : Nat → Int32) (gt : Nat → Int32) (fa : Nat → Int32) (mn : Nat → Int64) (nx : Nat → Int64) (x : Int32) : McI l D (tY cI cZ cL) yX5_close wsX5_close 1 21 [.ref (q 0), .int x] ([wM cI cZ cL q th N c fr tt sa tk tn tr op sl nd oi il tl go gt fa mn nx]) (fun r (_ : Unit) => r = clR op tl x) (fun (_ : Unit) => [wM cI cZ cL q 0 N c fr tt sa tk tn tr (clF op x) sl nd oi il tl go gt fa mn nx]) := by
  refine q_ofW (Qc := fun A => (va_Qi (fun r (_ : Unit) => r = clR op tl x) (fun u t => mAt D (tY cI cZ cL) A ((fun (_ : Unit) => [wM cI cZ cL q 0 N c fr tt sa tk tn tr (clF op x) sl nd oi il tl go gt fa mn nx]) u) t) A)) (cc := cX5_close) (maxL := 2) (ret := (some .int)) (by decide) rfl (Nat.le_of_ble_eq_true rfl) ?_
  intro pz ez sz mz bz tz cz hx hb hml hr hlocks hts hown hK hP A hD hA ls hl
  have hS : va_S A sz.heap sz.heap [] := va_S.rf
  have hl : lv_has ls 2 [(0, .ref (q 0)), (1, .int x)] := hl
  refine lv_aload_n hx hb dX5_close_0 rfl (lv_at hl 0 rfl) ?_
  refine lv_iconst (v := (0 : Int32)) hx hb dX5_close_1 (by decide) ?_
  refine q_put (D := D) (ci := 5) (v := .int (nI 0)) (ty := .int) (C := RX5) (T := TX5) (N := 20) hx hb hts (by decide +kernel) tyX5 tyX5_ok nmX5 hown hK hP hD hS 0 0 rfl rfl rfl 0 (by decide) (hts (.fieldLink RX5 1 "OffsetRowsModel" "thrown" "I") (by decide +kernel)) (fun _ h9 => h9) rfl (by decide +kernel) rfl rfl (Nat.le_of_ble_eq_true rfl) dX5_close_2 (wM_s_th (g9 := 0)) (Fs' := [wM cI cZ cL q 0 N c fr tt sa tk tn tr op sl nd oi il tl go gt fa mn nx]) rfl (fun H locs hP hD hS => ?_)
  refine lv_aload_n hx hb dX5_close_5 rfl (lv_at hl 0 rfl) ?_
  refine lv_iload_n hx hb dX5_close_6 rfl (lv_at hl 1 rfl) ?_
  refine q_callVi (index := 118) (n := 1) (As := [.int x]) (rest := []) (js := [0]) (ci := 5) ⟨hx, hb, hml, hown, hts⟩ hK hP hD hS hA (k5_isIterator l D cI cZ cL q 0 N c fr tt sa tk tn tr op sl nd oi il tl go gt fa mn nx x) rfl (by decide) (fun _ => by simp only [List.map_cons, List.map_nil, wM_fst]) (fun (_ : Unit) => [wM cI cZ cL q 0 N c fr tt sa tk tn tr op sl nd oi il tl go gt fa mn nx]) (fun _ => rfl) gX5_close_X5_isIterator rfl (by decide +kernel) rfl ⟨by decide, by decide⟩ rfl rfl rfl rfl hl.1 (Nat.le_of_ble_eq_true rfl) ⟨(Nat.zero_le _), (Nat.zero_le _)⟩ dX5_close_7 rfl (fun r _ H locs hw hP hD hS => ?_)
  have hw : r = bI (itB op x) := hw
  subst hw
  refine lv_if_ne (tgt := 16) hx hb dX5_close_10 (by decide) (fun c_10 => ?_) (fun c_10 => ?_)
  ·
    have n_10 : (itB op x) = true := bI_n.mp c_10
    refine lv_aload_n hx hb dX5_close_16 rfl (lv_at hl 0 rfl) ?_
    refine q_get (D := D) (ci := 5) (v := .ref (q 6)) (C := RX5) (T := TX5) (N := 20) hx hb hts (by decide +kernel) hown hK hP 0 0 rfl rfl rfl 9 (by decide) (hts (.fieldLink RX5 30 "OffsetRowsModel" "isOpen" "[Z") (by decide +kernel)) (fun _ h9 => h9) rfl dX5_close_17 ?_
    refine lv_iload_n hx hb dX5_close_20 rfl (lv_at hl 1 rfl) ?_
    refine lv_iconst (v := (0 : Int32)) hx hb dX5_close_21 (by decide) ?_
    refine q_zast hx hb hK hP hD hS 0 6 1 rfl (f := op) rfl rfl (k := x.toNatClampNeg) rfl (hasB_in (c := 8) (by simp [itB] at n_10; exact n_10.1) (Nat.le_refl 8) (by decide)) rfl dX5_close_22 wM_s_op (Fs' := [wM cI cZ cL q 0 N c fr tt sa tk tn tr (upd op x.toNatClampNeg (0 : Int32)) sl nd oi il tl go gt fa mn nx]) rfl (fun H locs hP hD hS => ?_)
    refine lv_aload_n hx hb dX5_close_23 rfl (lv_at hl 0 rfl) ?_
    refine q_get (D := D) (ci := 5) (v := .ref (q 11)) (C := RX5) (T := TX5) (N := 20) hx hb hts (by decide +kernel) hown hK hP 0 0 rfl rfl rfl 14 (by decide) (hts (.fieldLink RX5 45 "OffsetRowsModel" "itTold" "[I") (by decide +kernel)) (fun _ h9 => h9) rfl dX5_close_24 ?_
    refine lv_iload_n hx hb dX5_close_27 rfl (lv_at hl 1 rfl) ?_
    refine q_iald hx hb hK hP 0 11 0 rfl (f := tl) rfl rfl (k := x.toNatClampNeg) rfl (hasB_in (c := 8) (by simp [itB] at n_10; exact n_10.1) (Nat.le_refl 8) (by decide)) dX5_close_28 ?_
    exact q_iret (()) hx hb hr hlocks hK hP hD hS (by simp [clR, clF, n_10]) (by simp [clR, clF, n_10]) dX5_close_29
  ·
    have n_10 : (itB op x) = false := bI_0.mp c_10
    refine lv_bipush (v := (-2)) hx hb dX5_close_13 (by decide) ?_
    exact q_iret (()) hx hb hr hlocks hK hP hD hS (by simp [clR, clF, n_10]) (by simp [clR, clF, n_10]) dX5_close_15

set_option maxHeartbeats 8000000 in
set_option maxRecDepth 100000 in
theorem k5_give (l : Launch) (D : va_G) (cI cZ cL : ClassId) (q : Nat → Nat) (th : Nat) (N : Nat) (c : Nat) (fr : Nat → Int32) (tt : Nat → Int32) (sa : Nat → Int32) (tk : Nat → Int32) (tn : Nat) (tr : Nat → Int32) (op : Nat → Int32) (sl : Nat → Int32) (nd : Nat → Int32) (oi : Nat → Int32) (il : Nat → Int32) (tl : Nat → Int32) (go : Nat → Int32) (gt : Nat → Int32) (fa : Nat → Int32) (mn : Nat → Int64) (nx : Nat → Int64) (z : Int32) (k : Int32) (v : Int32) : McI l D (tY cI cZ cL) yX5_give wsX5_give 0 0 [.ref (q 0), .int z, .int k, .int v] ([wM cI cZ cL q th N c fr tt sa tk tn tr op sl nd oi il tl go gt fa mn nx]) (fun r (_ : Unit) => r = gwR go gt z k) (fun (_ : Unit) => [wM cI cZ cL q 0 N c fr tt sa tk tn tr op sl nd oi il tl (gwO go z k v) (gwT gt z k v) fa mn nx]) := by
  refine q_ofW (Qc := fun A => (va_Qi (fun r (_ : Unit) => r = gwR go gt z k) (fun u t => mAt D (tY cI cZ cL) A ((fun (_ : Unit) => [wM cI cZ cL q 0 N c fr tt sa tk tn tr op sl nd oi il tl (gwO go z k v) (gwT gt z k v) fa mn nx]) u) t) A)) (cc := cX5_give) (maxL := 5) (ret := (some .int)) (by decide) rfl (Nat.le_of_ble_eq_true rfl) ?_
  intro pz ez sz mz bz tz cz hx hb hml hr hlocks hts hown hK hP A hD hA ls hl
  have hS : va_S A sz.heap sz.heap [] := va_S.rf
  have hl : lv_has ls 5 [(0, .ref (q 0)), (1, .int z), (2, .int k), (3, .int v)] := hl
  refine lv_aload_n hx hb dX5_give_0 rfl (lv_at hl 0 rfl) ?_
  refine lv_iconst (v := (0 : Int32)) hx hb dX5_give_1 (by decide) ?_
  refine q_put (D := D) (ci := 5) (v := .int (nI 0)) (ty := .int) (C := RX5) (T := TX5) (N := 20) hx hb hts (by decide +kernel) tyX5 tyX5_ok nmX5 hown hK hP hD hS 0 0 rfl rfl rfl 0 (by decide) (hts (.fieldLink RX5 1 "OffsetRowsModel" "thrown" "I") (by decide +kernel)) (fun _ h9 => h9) rfl (by decide +kernel) rfl rfl (Nat.le_of_ble_eq_true rfl) dX5_give_2 (wM_s_th (g9 := 0)) (Fs' := [wM cI cZ cL q 0 N c fr tt sa tk tn tr op sl nd oi il tl go gt fa mn nx]) rfl (fun H locs hP hD hS => ?_)
  refine lv_iload_n hx hb dX5_give_5 rfl (lv_at hl 2 rfl) ?_
  refine lv_if_lt (tgt := 25) hx hb dX5_give_6 (by decide) (fun c_6 => ?_) (fun c_6 => ?_)
  ·
    refine lv_bipush (v := (-3)) hx hb dX5_give_25 (by decide) ?_
    exact q_iret (()) hx hb hr hlocks hK hP hD hS (by simp [gwR, gwO, gwT, gwB, c_6]) (by simp [gwR, gwO, gwT, gwB, c_6]) dX5_give_27
  ·
    refine lv_iload_n hx hb dX5_give_9 rfl (lv_at hl 2 rfl) ?_
    refine lv_iload_n hx hb dX5_give_10 rfl (lv_at hl 1 rfl) ?_
    refine lv_if_eq (tgt := 20) hx hb dX5_give_11 (by decide) (fun c_11 => ?_) (fun c_11 => ?_)
    ·
      refine lv_bipush (v := (25 : Int32)) hx hb dX5_give_20 (by decide) ?_
      refine lv_icmp_lt (tgt := 28) hx hb dX5_give_22 (by decide) (fun c_22 => ?_) (fun c_22 => ?_)
      ·
        refine lv_iload_n hx hb dX5_give_28 rfl (lv_at hl 1 rfl) ?_
        refine lv_if_eq (tgt := 41) hx hb dX5_give_29 (by decide) (fun c_29 => ?_) (fun c_29 => ?_)
        ·
          refine lv_aload_n hx hb dX5_give_41 rfl (lv_at hl 0 rfl) ?_
          refine q_get (D := D) (ci := 5) (v := .ref (q 12)) (C := RX5) (T := TX5) (N := 20) hx hb hts (by decide +kernel) hown hK hP 0 0 rfl rfl rfl 15 (by decide) (hts (.fieldLink RX5 48 "OffsetRowsModel" "givenOffset" "[I") (by decide +kernel)) (fun _ h9 => h9) rfl dX5_give_42 ?_
          refine lv_iload_n hx hb dX5_give_45 rfl (lv_at hl 2 rfl) ?_
          refine q_iald hx hb hK hP 0 12 0 rfl (f := go) rfl rfl (k := k.toNatClampNeg) rfl (in_lt (n := 25) c_6 c_22 (by decide)) dX5_give_46 ?_
          refine lv_istore (lv' := [(4, .int (go k.toNatClampNeg)), (0, .ref (q 0)), (1, .int z), (2, .int k), (3, .int v)]) hx hb dX5_give_47 hl (by decide) rfl (fun ls hl => ?_)
          refine lv_iload_n hx hb dX5_give_49 rfl (lv_at hl 2 rfl) ?_
          refine lv_if_eq (tgt := 63) hx hb dX5_give_50 (by decide) (fun c_50 => ?_) (fun c_50 => ?_)
          ·
            refine lv_aload_n hx hb dX5_give_63 rfl (lv_at hl 1 rfl) ?_
            refine q_get (D := D) (ci := 5) (v := .ref (q 12)) (C := RX5) (T := TX5) (N := 20) hx hb hts (by decide +kernel) hown hK hP 0 0 rfl rfl rfl 15 (by decide) (hts (.fieldLink RX5 48 "OffsetRowsModel" "givenOffset" "[I") (by decide +kernel)) (fun _ h9 => h9) rfl dX5_give_64 ?_
            refine lv_iload_n hx hb dX5_give_67 rfl (lv_at hl 3 rfl) ?_
            refine lv_iload_n hx hb dX5_give_68 rfl (lv_at hl 4 rfl) ?_
            refine q_iast hx hb hK hP hD hS 0 12 0 rfl (f := go) rfl rfl (k := k.toNatClampNeg) rfl (in_lt (n := 25) c_6 c_22 (by decide)) dX5_give_69 wM_s_go (Fs' := [wM cI cZ cL q 0 N c fr tt sa tk tn tr op sl nd oi il tl (upd go k.toNatClampNeg v) gt fa mn nx]) rfl (fun H locs hP hD hS => ?_)
            refine lv_iload hx hb dX5_give_70 (lv_at hl 0 rfl) ?_
            exact q_iret (()) hx hb hr hlocks hK hP hD hS (by simp [gwR, gwO, gwT, gwB, c_6, c_11, c_22, c_29, c_50]) (by simp [gwR, gwO, gwT, gwB, c_6, c_11, c_22, c_29, c_50]) dX5_give_72
          ·
            exact absurd c_11 c_50
        ·
          exact absurd c_11 c_29
      ·
        refine lv_bipush (v := (-3)) hx hb dX5_give_25 (by decide) ?_
        exact q_iret (()) hx hb hr hlocks hK hP hD hS (by simp [gwR, gwO, gwT, gwB, c_6, c_11, c_22]) (by simp [gwR, gwO, gwT, gwB, c_6, c_11, c_22]) dX5_give_27
    ·
      refine lv_sipush (v := (160 : Int32)) hx hb dX5_give_14 (by decide) ?_
      refine lv_goto (tgt := 22) hx hb dX5_give_17 (by decide) ?_
      refine lv_icmp_lt (tgt := 28) hx hb dX5_give_22 (by decide) (fun c_22 => ?_) (fun c_22 => ?_)
      ·
        refine lv_iload_n hx hb dX5_give_28 rfl (lv_at hl 1 rfl) ?_
        refine lv_if_eq (tgt := 41) hx hb dX5_give_29 (by decide) (fun c_29 => ?_) (fun c_29 => ?_)
        ·
          exact absurd c_29 c_11
        ·
          refine lv_aload_n hx hb dX5_give_32 rfl (lv_at hl 0 rfl) ?_
          refine q_get (D := D) (ci := 5) (v := .ref (q 13)) (C := RX5) (T := TX5) (N := 20) hx hb hts (by decide +kernel) hown hK hP 0 0 rfl rfl rfl 16 (by decide) (hts (.fieldLink RX5 51 "OffsetRowsModel" "givenTarget" "[I") (by decide +kernel)) (fun _ h9 => h9) rfl dX5_give_33 ?_
          refine lv_iload_n hx hb dX5_give_36 rfl (lv_at hl 2 rfl) ?_
          refine q_iald hx hb hK hP 0 13 0 rfl (f := gt) rfl rfl (k := k.toNatClampNeg) rfl (in_lt (n := 160) c_6 c_22 (by decide)) dX5_give_37 ?_
          refine lv_goto (tgt := 47) hx hb dX5_give_38 (by decide) ?_
          refine lv_istore (lv' := [(4, .int (gt k.toNatClampNeg)), (0, .ref (q 0)), (1, .int z), (2, .int k), (3, .int v)]) hx hb dX5_give_47 hl (by decide) rfl (fun ls hl => ?_)
          refine lv_iload_n hx hb dX5_give_49 rfl (lv_at hl 2 rfl) ?_
          refine lv_if_eq (tgt := 63) hx hb dX5_give_50 (by decide) (fun c_50 => ?_) (fun c_50 => ?_)
          ·
            exact absurd c_50 c_11
          ·
            refine lv_aload_n hx hb dX5_give_53 rfl (lv_at hl 1 rfl) ?_
            refine q_get (D := D) (ci := 5) (v := .ref (q 13)) (C := RX5) (T := TX5) (N := 20) hx hb hts (by decide +kernel) hown hK hP 0 0 rfl rfl rfl 16 (by decide) (hts (.fieldLink RX5 51 "OffsetRowsModel" "givenTarget" "[I") (by decide +kernel)) (fun _ h9 => h9) rfl dX5_give_54 ?_
            refine lv_iload_n hx hb dX5_give_57 rfl (lv_at hl 3 rfl) ?_
            refine lv_iload_n hx hb dX5_give_58 rfl (lv_at hl 4 rfl) ?_
            refine q_iast hx hb hK hP hD hS 0 13 0 rfl (f := gt) rfl rfl (k := k.toNatClampNeg) rfl (in_lt (n := 160) c_6 c_22 (by decide)) dX5_give_59 wM_s_gt (Fs' := [wM cI cZ cL q 0 N c fr tt sa tk tn tr op sl nd oi il tl go (upd gt k.toNatClampNeg v) fa mn nx]) rfl (fun H locs hP hD hS => ?_)
            refine lv_goto (tgt := 70) hx hb dX5_give_60 (by decide) ?_
            refine lv_iload hx hb dX5_give_70 (lv_at hl 0 rfl) ?_
            exact q_iret (()) hx hb hr hlocks hK hP hD hS (by simp [gwR, gwO, gwT, gwB, c_6, c_11, c_22, c_29, c_50]) (by simp [gwR, gwO, gwT, gwB, c_6, c_11, c_22, c_29, c_50]) dX5_give_72
      ·
        refine lv_bipush (v := (-3)) hx hb dX5_give_25 (by decide) ?_
        exact q_iret (()) hx hb hr hlocks hK hP hD hS (by simp [gwR, gwO, gwT, gwB, c_6, c_11, c_22]) (by simp [gwR, gwO, gwT, gwB, c_6, c_11, c_22]) dX5_give_27

set_option maxHeartbeats 8000000 in
set_option maxRecDepth 100000 in
theorem k5_judged (l : Launch) (D : va_G) (cI cZ cL : ClassId) (q : Nat → Nat) (th : Nat) (N : Nat) (c : Nat) (fr : Nat → Int32) (tt : Nat → Int32) (sa : Nat → Int32) (tk : Nat → Int32) (tn : Nat) (tr : Nat → Int32) (op : Nat → Int32) (sl : Nat → Int32) (nd : Nat → Int32) (oi : Nat → Int32) (il : Nat → Int32) (tl : Nat → Int32) (go : Nat → Int32) (gt : Nat → Int32) (fa : Nat → Int32) (mn : Nat → Int64) (nx : Nat → Int64) (m : Nat) (hN : N ≤ 24) (hm : m ≤ 160) : McI l D (tY cI cZ cL) yX5_judged wsX5_judged 1 21 [.ref (q 0), .int (nI m)] ([wM cI cZ cL q th N c fr tt sa tk tn tr op sl nd oi il tl go gt fa mn nx]) (fun r (_ : Unit) => r = jdR N m go gt) (fun (_ : Unit) => [wM cI cZ cL q th N c fr tt sa tk tn tr op sl nd oi il tl go gt fa mn nx]) := by
  refine q_ofW (Qc := fun A => (va_Qi (fun r (_ : Unit) => r = jdR N m go gt) (fun u t => mAt D (tY cI cZ cL) A ((fun (_ : Unit) => [wM cI cZ cL q th N c fr tt sa tk tn tr op sl nd oi il tl go gt fa mn nx]) u) t) A)) (cc := cX5_judged) (maxL := 5) (ret := (some .int)) (by decide) rfl (Nat.le_of_ble_eq_true rfl) ?_
  intro pz ez sz mz bz tz cz hx hb hml hr hlocks hts hown hK hP A hD hA ls hl
  have hS : va_S A sz.heap sz.heap [] := va_S.rf
  have hl : lv_has ls 5 [(0, .ref (q 0)), (1, .int (nI m))] := hl
  refine lv_iconst (v := (0 : Int32)) hx hb dX5_judged_0 (by decide) ?_
  refine lv_istore_n (lv' := [(2, .int (0 : Int32)), (0, .ref (q 0)), (1, .int (nI m))]) hx hb dX5_judged_1 rfl hl (by decide) rfl (fun ls hl => ?_)
  have loop_2 : ∀ (k_2 i : Nat), i ≤ N + 1 → N + 1 < i + k_2 → (j1A N m go = fsv (jgB N m go) j1V (N + 1 - i) i) → ∀ (H : Heap) (locs : List Loc), va_P D vwCl (List.flatten [wM cI cZ cL q th N c fr tt sa tk tn tr op sl nd oi il tl go gt fa mn nx]) H → va_D A (List.flatten [wM cI cZ cL q th N c fr tt sa tk tn tr op sl nd oi il tl go gt fa mn nx]) → va_S A sz.heap H locs → ∀ (ls : Array Slot), lv_has ls 5 [(2, .int (nI i)), (0, .ref (q 0)), (1, .int (nI m))] → W pz l ez (rM 1 21) sz mz [.ref (q 0), .int (nI m)].toArray bz tz cz H locs 0 0 (MQ bz (va_Qi (fun r (_ : Unit) => r = jdR N m go gt) (fun u t => mAt D (tY cI cZ cL) A ((fun (_ : Unit) => [wM cI cZ cL q th N c fr tt sa tk tn tr op sl nd oi il tl go gt fa mn nx]) u) t) A) [.ref (q 0), .int (nI m)].toArray sz 0 0 A) (F0 mz 2 ls [])  := by
    intro k_2
    induction k_2 with
    | zero => intro i hi_2 hk_2; exact absurd hk_2 (by omega)
    | succ k_2 ih_2 =>
      intro i hi_2 hk_2 hinv H locs hP hD hS ls hl
      refine lv_iload_n hx hb dX5_judged_2 rfl (lv_at hl 0 rfl) ?_
      refine lv_aload_n hx hb dX5_judged_3 rfl (lv_at hl 1 rfl) ?_
      refine q_get (D := D) (ci := 5) (v := .int (nI N)) (C := RX5) (T := TX5) (N := 20) hx hb hts (by decide +kernel) hown hK hP 0 0 rfl rfl rfl 1 (by decide) (hts (.fieldLink RX5 64 "OffsetRowsModel" "nodes" "I") (by decide +kernel)) (fun _ h9 => h9) rfl dX5_judged_4 ?_
      refine lv_icmp_gt (tgt := 80) hx hb dX5_judged_7 (by decide) (fun c_7 => ?_) (fun c_7 => ?_)
      ·
        have n_7 : N < i := (nI_ltI (a := N) (b := i) (by omega) (by omega)).mp c_7
        have hj1 : j1A N m go = -1 := by rw [hinv, fsv_end (by omega)]
        refine lv_iconst (v := (0 : Int32)) hx hb dX5_judged_80 (by decide) ?_
        refine lv_istore_n (lv' := [(2, .int (0 : Int32)), (0, .ref (q 0)), (1, .int (nI m))]) hx hb dX5_judged_81 rfl hl (by decide) rfl (fun ls hl => ?_)
        have loop_82 : ∀ (k_82 t : Nat), t ≤ m → m < t + k_82 → (j2A N m gt = fsv (jtB N gt) j2V (m - t) t) → ∀ (H : Heap) (locs : List Loc), va_P D vwCl (List.flatten [wM cI cZ cL q th N c fr tt sa tk tn tr op sl nd oi il tl go gt fa mn nx]) H → va_D A (List.flatten [wM cI cZ cL q th N c fr tt sa tk tn tr op sl nd oi il tl go gt fa mn nx]) → va_S A sz.heap H locs → ∀ (ls : Array Slot), lv_has ls 5 [(2, .int (nI t)), (0, .ref (q 0)), (1, .int (nI m))] → W pz l ez (rM 1 21) sz mz [.ref (q 0), .int (nI m)].toArray bz tz cz H locs 0 0 (MQ bz (va_Qi (fun r (_ : Unit) => r = jdR N m go gt) (fun u t => mAt D (tY cI cZ cL) A ((fun (_ : Unit) => [wM cI cZ cL q th N c fr tt sa tk tn tr op sl nd oi il tl go gt fa mn nx]) u) t) A) [.ref (q 0), .int (nI m)].toArray sz 0 0 A) (F0 mz 82 ls [])  := by
          intro k_82
          induction k_82 with
          | zero => intro t hi_82 hk_82; exact absurd hk_82 (by omega)
          | succ k_82 ih_82 =>
            intro t hi_82 hk_82 hin2 H locs hP hD hS ls hl
            refine lv_iload_n hx hb dX5_judged_82 rfl (lv_at hl 0 rfl) ?_
            refine lv_iload_n hx hb dX5_judged_83 rfl (lv_at hl 2 rfl) ?_
            refine lv_icmp_ge (tgt := 111) hx hb dX5_judged_84 (by decide) (fun c_84 => ?_) (fun c_84 => ?_)
            ·
              have n_84 : m ≤ t := (nI_leI (a := m) (b := t) (by omega) (by omega)).mp c_84
              refine lv_iconst (v := (0 : Int32)) hx hb dX5_judged_111 (by decide) ?_
              exact q_iret (()) hx hb hr hlocks hK hP hD hS (by rw [jdR, if_pos hj1, hin2, fsv_end (by omega), if_pos rfl]) (rfl) dX5_judged_112
            ·
              have n_84 : ¬ m ≤ t := fun h9 => c_84 ((nI_leI (a := m) (b := t) (by omega) (by omega)).mpr h9)
              refine lv_aload_n hx hb dX5_judged_87 rfl (lv_at hl 1 rfl) ?_
              refine lv_aload_n hx hb dX5_judged_88 rfl (lv_at hl 1 rfl) ?_
              refine q_get (D := D) (ci := 5) (v := .ref (q 13)) (C := RX5) (T := TX5) (N := 20) hx hb hts (by decide +kernel) hown hK hP 0 0 rfl rfl rfl 16 (by decide) (hts (.fieldLink RX5 51 "OffsetRowsModel" "givenTarget" "[I") (by decide +kernel)) (fun _ h9 => h9) rfl dX5_judged_89 ?_
              refine lv_iload_n hx hb dX5_judged_92 rfl (lv_at hl 0 rfl) ?_
              refine q_iald hx hb hK hP 0 13 0 rfl (f := gt) rfl rfl (k := t) (nI_clamp (n := t) (by omega)) (vp_in_nI (show t < 160 from by omega) (by omega)) dX5_judged_93 ?_
              refine q_callVi (index := 70) (n := 1) (As := [.int (gt t)]) (rest := []) (js := [0]) (ci := 5) ⟨hx, hb, hml, hown, hts⟩ hK hP hD hS hA (k5_isNode l D cI cZ cL q th N c fr tt sa tk tn tr op sl nd oi il tl go gt fa mn nx (gt t)) rfl (by decide) (fun _ => by simp only [List.map_cons, List.map_nil, wM_fst]) (fun (_ : Unit) => [wM cI cZ cL q th N c fr tt sa tk tn tr op sl nd oi il tl go gt fa mn nx]) (fun _ => rfl) gX5_judged_X5_isNode rfl (by decide +kernel) rfl ⟨by decide, by decide⟩ rfl rfl rfl rfl hl.1 (Nat.le_of_ble_eq_true rfl) ⟨(Nat.zero_le _), (Nat.zero_le _)⟩ dX5_judged_94 rfl (fun r _ H locs hw hP hD hS => ?_)
              have hw : r = bI (hasB N (gt t)) := hw
              subst hw
              refine lv_if_ne (tgt := 105) hx hb dX5_judged_97 (by decide) (fun c_97 => ?_) (fun c_97 => ?_)
              ·
                have n_97 : (hasB N (gt t)) = true := bI_n.mp c_97
                refine lv_iinc (v := nI (t + 1)) (lv' := [(2, .int (nI (t + 1))), (0, .ref (q 0)), (1, .int (nI m))]) hx hb dX5_judged_105 hl (k := 0) rfl (nI_add t 1) (by decide) rfl (fun ls hl => ?_)
                refine lv_goto (tgt := 82) hx hb dX5_judged_108 (by decide) ?_
                have hl : lv_has ls 5 [(2, .int (nI (t + 1))), (0, .ref (q 0)), (1, .int (nI m))] := lv_sub hl [0, 1, 2] rfl
                have hP : va_P D vwCl (List.flatten [wM cI cZ cL q th N c fr tt sa tk tn tr op sl nd oi il tl go gt fa mn nx]) _ := hP
                have hD : va_D A (List.flatten [wM cI cZ cL q th N c fr tt sa tk tn tr op sl nd oi il tl go gt fa mn nx]) := hD
                exact ih_82 (t + 1) (by omega) (by omega) (hin2.trans (fsv_no (by omega) (by simp [jtB, n_97]))) _ _ hP hD hS _ hl
              ·
                have n_97 : (hasB N (gt t)) = false := bI_0.mp c_97
                refine lv_bipush (v := (100 : Int32)) hx hb dX5_judged_100 (by decide) ?_
                refine lv_iload_n hx hb dX5_judged_102 rfl (lv_at hl 0 rfl) ?_
                refine q_iadd (z := nI (100 + t)) hx hb dX5_judged_103 (nI_add 100 t) ?_
                exact q_iret (()) hx hb hr hlocks hK hP hD hS (by rw [jdR, if_pos hj1, hin2, fsv_yes (by omega) (by simp [jtB, n_97]), if_neg (show ¬ j2V t = -1 from nI_ne_m1 (by omega))]; rfl) (rfl) dX5_judged_104
        have hl : lv_has ls 5 [(2, .int (nI 0)), (0, .ref (q 0)), (1, .int (nI m))] := lv_sub hl [0, 1, 2] rfl
        have hP : va_P D vwCl (List.flatten [wM cI cZ cL q th N c fr tt sa tk tn tr op sl nd oi il tl go gt fa mn nx]) _ := hP
        have hD : va_D A (List.flatten [wM cI cZ cL q th N c fr tt sa tk tn tr op sl nd oi il tl go gt fa mn nx]) := hD
        exact loop_82 (m + 1) 0 (by omega) (by omega) rfl _ _ hP hD hS _ hl
      ·
        have n_7 : ¬ N < i := fun h9 => c_7 ((nI_ltI (a := N) (b := i) (by omega) (by omega)).mpr h9)
        refine lv_aload_n hx hb dX5_judged_10 rfl (lv_at hl 1 rfl) ?_
        refine q_get (D := D) (ci := 5) (v := .ref (q 12)) (C := RX5) (T := TX5) (N := 20) hx hb hts (by decide +kernel) hown hK hP 0 0 rfl rfl rfl 15 (by decide) (hts (.fieldLink RX5 48 "OffsetRowsModel" "givenOffset" "[I") (by decide +kernel)) (fun _ h9 => h9) rfl dX5_judged_11 ?_
        refine lv_iload_n hx hb dX5_judged_14 rfl (lv_at hl 0 rfl) ?_
        refine q_iald hx hb hK hP 0 12 0 rfl (f := go) rfl rfl (k := i) (nI_clamp (n := i) (by omega)) (vp_in_nI (show i < 25 from by omega) (by omega)) dX5_judged_15 ?_
        refine lv_istore_n (lv' := [(3, .int (go i)), (2, .int (nI i)), (0, .ref (q 0)), (1, .int (nI m))]) hx hb dX5_judged_16 rfl hl (by decide) rfl (fun ls hl => ?_)
        refine lv_iload_n hx hb dX5_judged_17 rfl (lv_at hl 1 rfl) ?_
        refine lv_if_ne (tgt := 28) hx hb dX5_judged_18 (by decide) (fun c_18 => ?_) (fun c_18 => ?_)
        ·
          have n_18 : ¬ i = 0 := fun h9 => c_18 ((nI_eq (a := i) (b := 0) (by omega) (by omega)).mpr h9)
          refine lv_iload_n hx hb dX5_judged_28 rfl (lv_at hl 0 rfl) ?_
          refine lv_aload_n hx hb dX5_judged_29 rfl (lv_at hl 2 rfl) ?_
          refine q_get (D := D) (ci := 5) (v := .ref (q 12)) (C := RX5) (T := TX5) (N := 20) hx hb hts (by decide +kernel) hown hK hP 0 0 rfl rfl rfl 15 (by decide) (hts (.fieldLink RX5 48 "OffsetRowsModel" "givenOffset" "[I") (by decide +kernel)) (fun _ h9 => h9) rfl dX5_judged_30 ?_
          refine lv_iload_n hx hb dX5_judged_33 rfl (lv_at hl 1 rfl) ?_
          refine lv_iconst (v := (1 : Int32)) hx hb dX5_judged_34 (by decide) ?_
          refine q_isub (z := nI (i - 1)) hx hb dX5_judged_35 (pk_sub (a := i) (b := 1) (by omega)) ?_
          refine q_iald hx hb hK hP 0 12 0 rfl (f := go) rfl rfl (k := i - 1) (nI_clamp (n := i - 1) (by omega)) (vp_in_nI (show i - 1 < 25 from by omega) (by omega)) dX5_judged_36 ?_
          refine lv_icmp_lt (tgt := 62) hx hb dX5_judged_37 (by decide) (fun c_37 => ?_) (fun c_37 => ?_)
          ·
            refine lv_iconst (v := (0 : Int32)) hx hb dX5_judged_62 (by decide) ?_
            refine lv_istore (lv' := [(4, .int (0 : Int32)), (3, .int (go i)), (2, .int (nI i)), (0, .ref (q 0)), (1, .int (nI m))]) hx hb dX5_judged_63 hl (by decide) rfl (fun ls hl => ?_)
            refine lv_iload hx hb dX5_judged_65 (lv_at hl 0 rfl) ?_
            refine lv_if_ne (tgt := 74) hx hb dX5_judged_67 (by decide) (fun c_67 => ?_) (fun c_67 => ?_)
            ·
              exact absurd (by decide) c_67
            ·
              refine lv_iconst (v := (1 : Int32)) hx hb dX5_judged_70 (by decide) ?_
              refine lv_iload_n hx hb dX5_judged_71 rfl (lv_at hl 2 rfl) ?_
              refine q_iadd (z := nI (1 + i)) hx hb dX5_judged_72 (nI_add 1 i) ?_
              exact q_iret (()) hx hb hr hlocks hK hP hD hS (by rw [jdR, hinv, fsv_yes (by omega) (jg_y (fun h => h.1.elim (fun h => n_18 h.1) (fun h => absurd h.2 (k2_nle c_37)))), if_neg (show ¬ j1V i = -1 from nI_ne_m1 (by omega))]; rfl) (rfl) dX5_judged_73
          ·
            refine lv_iload_n hx hb dX5_judged_40 rfl (lv_at hl 0 rfl) ?_
            refine lv_iload_n hx hb dX5_judged_41 rfl (lv_at hl 3 rfl) ?_
            refine lv_icmp_gt (tgt := 62) hx hb dX5_judged_42 (by decide) (fun c_42 => ?_) (fun c_42 => ?_)
            ·
              refine lv_iconst (v := (0 : Int32)) hx hb dX5_judged_62 (by decide) ?_
              refine lv_istore (lv' := [(4, .int (0 : Int32)), (3, .int (go i)), (2, .int (nI i)), (0, .ref (q 0)), (1, .int (nI m))]) hx hb dX5_judged_63 hl (by decide) rfl (fun ls hl => ?_)
              refine lv_iload hx hb dX5_judged_65 (lv_at hl 0 rfl) ?_
              refine lv_if_ne (tgt := 74) hx hb dX5_judged_67 (by decide) (fun c_67 => ?_) (fun c_67 => ?_)
              ·
                exact absurd (by decide) c_67
              ·
                refine lv_iconst (v := (1 : Int32)) hx hb dX5_judged_70 (by decide) ?_
                refine lv_iload_n hx hb dX5_judged_71 rfl (lv_at hl 2 rfl) ?_
                refine q_iadd (z := nI (1 + i)) hx hb dX5_judged_72 (nI_add 1 i) ?_
                exact q_iret (()) hx hb hr hlocks hK hP hD hS (by rw [jdR, hinv, fsv_yes (by omega) (jg_y (fun h => absurd h.2.1 (k2_nle c_42))), if_neg (show ¬ j1V i = -1 from nI_ne_m1 (by omega))]; rfl) (rfl) dX5_judged_73
            ·
              refine lv_iload_n hx hb dX5_judged_45 rfl (lv_at hl 1 rfl) ?_
              refine lv_aload_n hx hb dX5_judged_46 rfl (lv_at hl 2 rfl) ?_
              refine q_get (D := D) (ci := 5) (v := .int (nI N)) (C := RX5) (T := TX5) (N := 20) hx hb hts (by decide +kernel) hown hK hP 0 0 rfl rfl rfl 1 (by decide) (hts (.fieldLink RX5 64 "OffsetRowsModel" "nodes" "I") (by decide +kernel)) (fun _ h9 => h9) rfl dX5_judged_47 ?_
              refine lv_icmp_lt (tgt := 58) hx hb dX5_judged_50 (by decide) (fun c_50 => ?_) (fun c_50 => ?_)
              ·
                have n_50 : i < N := (nI_ltI (a := i) (b := N) (by omega) (by omega)).mp c_50
                refine lv_iconst (v := (1 : Int32)) hx hb dX5_judged_58 (by decide) ?_
                refine lv_goto (tgt := 63) hx hb dX5_judged_59 (by decide) ?_
                refine lv_istore (lv' := [(4, .int (1 : Int32)), (3, .int (go i)), (2, .int (nI i)), (0, .ref (q 0)), (1, .int (nI m))]) hx hb dX5_judged_63 hl (by decide) rfl (fun ls hl => ?_)
                refine lv_iload hx hb dX5_judged_65 (lv_at hl 0 rfl) ?_
                refine lv_if_ne (tgt := 74) hx hb dX5_judged_67 (by decide) (fun c_67 => ?_) (fun c_67 => ?_)
                ·
                  refine lv_iinc (v := nI (i + 1)) (lv' := [(2, .int (nI (i + 1))), (4, .int (1 : Int32)), (3, .int (go i)), (0, .ref (q 0)), (1, .int (nI m))]) hx hb dX5_judged_74 hl (k := 2) rfl (nI_add i 1) (by decide) rfl (fun ls hl => ?_)
                  refine lv_goto (tgt := 2) hx hb dX5_judged_77 (by decide) ?_
                  have hl : lv_has ls 5 [(2, .int (nI (i + 1))), (0, .ref (q 0)), (1, .int (nI m))] := lv_sub hl [0, 3, 4] rfl
                  have hP : va_P D vwCl (List.flatten [wM cI cZ cL q th N c fr tt sa tk tn tr op sl nd oi il tl go gt fa mn nx]) _ := hP
                  have hD : va_D A (List.flatten [wM cI cZ cL q th N c fr tt sa tk tn tr op sl nd oi il tl go gt fa mn nx]) := hD
                  exact ih_2 (i + 1) (by omega) (by omega) (hinv.trans (fsv_no (by omega) (jg_n ⟨Or.inr ⟨n_18, k2_le c_37⟩, k2_le c_42, Or.inl n_50⟩))) _ _ hP hD hS _ hl
                ·
                  exact absurd c_67 (by decide)
              ·
                have n_50 : ¬ i < N := fun h9 => c_50 ((nI_ltI (a := i) (b := N) (by omega) (by omega)).mpr h9)
                refine lv_iload_n hx hb dX5_judged_53 rfl (lv_at hl 0 rfl) ?_
                refine lv_iload_n hx hb dX5_judged_54 rfl (lv_at hl 3 rfl) ?_
                refine lv_icmp_ne (tgt := 62) hx hb dX5_judged_55 (by decide) (fun c_55 => ?_) (fun c_55 => ?_)
                ·
                  refine lv_iconst (v := (0 : Int32)) hx hb dX5_judged_62 (by decide) ?_
                  refine lv_istore (lv' := [(4, .int (0 : Int32)), (3, .int (go i)), (2, .int (nI i)), (0, .ref (q 0)), (1, .int (nI m))]) hx hb dX5_judged_63 hl (by decide) rfl (fun ls hl => ?_)
                  refine lv_iload hx hb dX5_judged_65 (lv_at hl 0 rfl) ?_
                  refine lv_if_ne (tgt := 74) hx hb dX5_judged_67 (by decide) (fun c_67 => ?_) (fun c_67 => ?_)
                  ·
                    exact absurd (by decide) c_67
                  ·
                    refine lv_iconst (v := (1 : Int32)) hx hb dX5_judged_70 (by decide) ?_
                    refine lv_iload_n hx hb dX5_judged_71 rfl (lv_at hl 2 rfl) ?_
                    refine q_iadd (z := nI (1 + i)) hx hb dX5_judged_72 (nI_add 1 i) ?_
                    exact q_iret (()) hx hb hr hlocks hK hP hD hS (by rw [jdR, hinv, fsv_yes (by omega) (jg_y (fun h => h.2.2.elim (fun h => n_50 h) (fun h => c_55 h))), if_neg (show ¬ j1V i = -1 from nI_ne_m1 (by omega))]; rfl) (rfl) dX5_judged_73
                ·
                  refine lv_iconst (v := (1 : Int32)) hx hb dX5_judged_58 (by decide) ?_
                  refine lv_goto (tgt := 63) hx hb dX5_judged_59 (by decide) ?_
                  refine lv_istore (lv' := [(4, .int (1 : Int32)), (3, .int (go i)), (2, .int (nI i)), (0, .ref (q 0)), (1, .int (nI m))]) hx hb dX5_judged_63 hl (by decide) rfl (fun ls hl => ?_)
                  refine lv_iload hx hb dX5_judged_65 (lv_at hl 0 rfl) ?_
                  refine lv_if_ne (tgt := 74) hx hb dX5_judged_67 (by decide) (fun c_67 => ?_) (fun c_67 => ?_)
                  ·
                    refine lv_iinc (v := nI (i + 1)) (lv' := [(2, .int (nI (i + 1))), (4, .int (1 : Int32)), (3, .int (go i)), (0, .ref (q 0)), (1, .int (nI m))]) hx hb dX5_judged_74 hl (k := 2) rfl (nI_add i 1) (by decide) rfl (fun ls hl => ?_)
                    refine lv_goto (tgt := 2) hx hb dX5_judged_77 (by decide) ?_
                    have hl : lv_has ls 5 [(2, .int (nI (i + 1))), (0, .ref (q 0)), (1, .int (nI m))] := lv_sub hl [0, 3, 4] rfl
                    have hP : va_P D vwCl (List.flatten [wM cI cZ cL q th N c fr tt sa tk tn tr op sl nd oi il tl go gt fa mn nx]) _ := hP
                    have hD : va_D A (List.flatten [wM cI cZ cL q th N c fr tt sa tk tn tr op sl nd oi il tl go gt fa mn nx]) := hD
                    exact ih_2 (i + 1) (by omega) (by omega) (hinv.trans (fsv_no (by omega) (jg_n ⟨Or.inr ⟨n_18, k2_le c_37⟩, k2_le c_42, Or.inr c_55⟩))) _ _ hP hD hS _ hl
                  ·
                    exact absurd c_67 (by decide)
        ·
          have n_18 : i = 0 := (nI_eq (a := i) (b := 0) (by omega) (by omega)).mp c_18
          refine lv_iload_n hx hb dX5_judged_21 rfl (lv_at hl 0 rfl) ?_
          refine lv_if_ne (tgt := 62) hx hb dX5_judged_22 (by decide) (fun c_22 => ?_) (fun c_22 => ?_)
          ·
            refine lv_iconst (v := (0 : Int32)) hx hb dX5_judged_62 (by decide) ?_
            refine lv_istore (lv' := [(4, .int (0 : Int32)), (3, .int (go i)), (2, .int (nI i)), (0, .ref (q 0)), (1, .int (nI m))]) hx hb dX5_judged_63 hl (by decide) rfl (fun ls hl => ?_)
            refine lv_iload hx hb dX5_judged_65 (lv_at hl 0 rfl) ?_
            refine lv_if_ne (tgt := 74) hx hb dX5_judged_67 (by decide) (fun c_67 => ?_) (fun c_67 => ?_)
            ·
              exact absurd (by decide) c_67
            ·
              refine lv_iconst (v := (1 : Int32)) hx hb dX5_judged_70 (by decide) ?_
              refine lv_iload_n hx hb dX5_judged_71 rfl (lv_at hl 2 rfl) ?_
              refine q_iadd (z := nI (1 + i)) hx hb dX5_judged_72 (nI_add 1 i) ?_
              exact q_iret (()) hx hb hr hlocks hK hP hD hS (by rw [jdR, hinv, fsv_yes (by omega) (jg_y (fun h => h.1.elim (fun h => c_22 h.2) (fun h => h.1 n_18))), if_neg (show ¬ j1V i = -1 from nI_ne_m1 (by omega))]; rfl) (rfl) dX5_judged_73
          ·
            refine lv_goto (tgt := 40) hx hb dX5_judged_25 (by decide) ?_
            refine lv_iload_n hx hb dX5_judged_40 rfl (lv_at hl 0 rfl) ?_
            refine lv_iload_n hx hb dX5_judged_41 rfl (lv_at hl 3 rfl) ?_
            refine lv_icmp_gt (tgt := 62) hx hb dX5_judged_42 (by decide) (fun c_42 => ?_) (fun c_42 => ?_)
            ·
              refine lv_iconst (v := (0 : Int32)) hx hb dX5_judged_62 (by decide) ?_
              refine lv_istore (lv' := [(4, .int (0 : Int32)), (3, .int (go i)), (2, .int (nI i)), (0, .ref (q 0)), (1, .int (nI m))]) hx hb dX5_judged_63 hl (by decide) rfl (fun ls hl => ?_)
              refine lv_iload hx hb dX5_judged_65 (lv_at hl 0 rfl) ?_
              refine lv_if_ne (tgt := 74) hx hb dX5_judged_67 (by decide) (fun c_67 => ?_) (fun c_67 => ?_)
              ·
                exact absurd (by decide) c_67
              ·
                refine lv_iconst (v := (1 : Int32)) hx hb dX5_judged_70 (by decide) ?_
                refine lv_iload_n hx hb dX5_judged_71 rfl (lv_at hl 2 rfl) ?_
                refine q_iadd (z := nI (1 + i)) hx hb dX5_judged_72 (nI_add 1 i) ?_
                exact q_iret (()) hx hb hr hlocks hK hP hD hS (by rw [jdR, hinv, fsv_yes (by omega) (jg_y (fun h => absurd h.2.1 (k2_nle c_42))), if_neg (show ¬ j1V i = -1 from nI_ne_m1 (by omega))]; rfl) (rfl) dX5_judged_73
            ·
              refine lv_iload_n hx hb dX5_judged_45 rfl (lv_at hl 1 rfl) ?_
              refine lv_aload_n hx hb dX5_judged_46 rfl (lv_at hl 2 rfl) ?_
              refine q_get (D := D) (ci := 5) (v := .int (nI N)) (C := RX5) (T := TX5) (N := 20) hx hb hts (by decide +kernel) hown hK hP 0 0 rfl rfl rfl 1 (by decide) (hts (.fieldLink RX5 64 "OffsetRowsModel" "nodes" "I") (by decide +kernel)) (fun _ h9 => h9) rfl dX5_judged_47 ?_
              refine lv_icmp_lt (tgt := 58) hx hb dX5_judged_50 (by decide) (fun c_50 => ?_) (fun c_50 => ?_)
              ·
                have n_50 : i < N := (nI_ltI (a := i) (b := N) (by omega) (by omega)).mp c_50
                refine lv_iconst (v := (1 : Int32)) hx hb dX5_judged_58 (by decide) ?_
                refine lv_goto (tgt := 63) hx hb dX5_judged_59 (by decide) ?_
                refine lv_istore (lv' := [(4, .int (1 : Int32)), (3, .int (go i)), (2, .int (nI i)), (0, .ref (q 0)), (1, .int (nI m))]) hx hb dX5_judged_63 hl (by decide) rfl (fun ls hl => ?_)
                refine lv_iload hx hb dX5_judged_65 (lv_at hl 0 rfl) ?_
                refine lv_if_ne (tgt := 74) hx hb dX5_judged_67 (by decide) (fun c_67 => ?_) (fun c_67 => ?_)
                ·
                  refine lv_iinc (v := nI (i + 1)) (lv' := [(2, .int (nI (i + 1))), (4, .int (1 : Int32)), (3, .int (go i)), (0, .ref (q 0)), (1, .int (nI m))]) hx hb dX5_judged_74 hl (k := 2) rfl (nI_add i 1) (by decide) rfl (fun ls hl => ?_)
                  refine lv_goto (tgt := 2) hx hb dX5_judged_77 (by decide) ?_
                  have hl : lv_has ls 5 [(2, .int (nI (i + 1))), (0, .ref (q 0)), (1, .int (nI m))] := lv_sub hl [0, 3, 4] rfl
                  have hP : va_P D vwCl (List.flatten [wM cI cZ cL q th N c fr tt sa tk tn tr op sl nd oi il tl go gt fa mn nx]) _ := hP
                  have hD : va_D A (List.flatten [wM cI cZ cL q th N c fr tt sa tk tn tr op sl nd oi il tl go gt fa mn nx]) := hD
                  exact ih_2 (i + 1) (by omega) (by omega) (hinv.trans (fsv_no (by omega) (jg_n ⟨Or.inl ⟨n_18, c_22⟩, k2_le c_42, Or.inl n_50⟩))) _ _ hP hD hS _ hl
                ·
                  exact absurd c_67 (by decide)
              ·
                have n_50 : ¬ i < N := fun h9 => c_50 ((nI_ltI (a := i) (b := N) (by omega) (by omega)).mpr h9)
                refine lv_iload_n hx hb dX5_judged_53 rfl (lv_at hl 0 rfl) ?_
                refine lv_iload_n hx hb dX5_judged_54 rfl (lv_at hl 3 rfl) ?_
                refine lv_icmp_ne (tgt := 62) hx hb dX5_judged_55 (by decide) (fun c_55 => ?_) (fun c_55 => ?_)
                ·
                  refine lv_iconst (v := (0 : Int32)) hx hb dX5_judged_62 (by decide) ?_
                  refine lv_istore (lv' := [(4, .int (0 : Int32)), (3, .int (go i)), (2, .int (nI i)), (0, .ref (q 0)), (1, .int (nI m))]) hx hb dX5_judged_63 hl (by decide) rfl (fun ls hl => ?_)
                  refine lv_iload hx hb dX5_judged_65 (lv_at hl 0 rfl) ?_
                  refine lv_if_ne (tgt := 74) hx hb dX5_judged_67 (by decide) (fun c_67 => ?_) (fun c_67 => ?_)
                  ·
                    exact absurd (by decide) c_67
                  ·
                    refine lv_iconst (v := (1 : Int32)) hx hb dX5_judged_70 (by decide) ?_
                    refine lv_iload_n hx hb dX5_judged_71 rfl (lv_at hl 2 rfl) ?_
                    refine q_iadd (z := nI (1 + i)) hx hb dX5_judged_72 (nI_add 1 i) ?_
                    exact q_iret (()) hx hb hr hlocks hK hP hD hS (by rw [jdR, hinv, fsv_yes (by omega) (jg_y (fun h => h.2.2.elim (fun h => n_50 h) (fun h => c_55 h))), if_neg (show ¬ j1V i = -1 from nI_ne_m1 (by omega))]; rfl) (rfl) dX5_judged_73
                ·
                  refine lv_iconst (v := (1 : Int32)) hx hb dX5_judged_58 (by decide) ?_
                  refine lv_goto (tgt := 63) hx hb dX5_judged_59 (by decide) ?_
                  refine lv_istore (lv' := [(4, .int (1 : Int32)), (3, .int (go i)), (2, .int (nI i)), (0, .ref (q 0)), (1, .int (nI m))]) hx hb dX5_judged_63 hl (by decide) rfl (fun ls hl => ?_)
                  refine lv_iload hx hb dX5_judged_65 (lv_at hl 0 rfl) ?_
                  refine lv_if_ne (tgt := 74) hx hb dX5_judged_67 (by decide) (fun c_67 => ?_) (fun c_67 => ?_)
                  ·
                    refine lv_iinc (v := nI (i + 1)) (lv' := [(2, .int (nI (i + 1))), (4, .int (1 : Int32)), (3, .int (go i)), (0, .ref (q 0)), (1, .int (nI m))]) hx hb dX5_judged_74 hl (k := 2) rfl (nI_add i 1) (by decide) rfl (fun ls hl => ?_)
                    refine lv_goto (tgt := 2) hx hb dX5_judged_77 (by decide) ?_
                    have hl : lv_has ls 5 [(2, .int (nI (i + 1))), (0, .ref (q 0)), (1, .int (nI m))] := lv_sub hl [0, 3, 4] rfl
                    have hP : va_P D vwCl (List.flatten [wM cI cZ cL q th N c fr tt sa tk tn tr op sl nd oi il tl go gt fa mn nx]) _ := hP
                    have hD : va_D A (List.flatten [wM cI cZ cL q th N c fr tt sa tk tn tr op sl nd oi il tl go gt fa mn nx]) := hD
                    exact ih_2 (i + 1) (by omega) (by omega) (hinv.trans (fsv_no (by omega) (jg_n ⟨Or.inl ⟨n_18, c_22⟩, k2_le c_42, Or.inr c_55⟩))) _ _ hP hD hS _ hl
                  ·
                    exact absurd c_67 (by decide)
  have hl : lv_has ls 5 [(2, .int (nI 0)), (0, .ref (q 0)), (1, .int (nI m))] := lv_sub hl [0, 1, 2] rfl
  have hP : va_P D vwCl (List.flatten [wM cI cZ cL q th N c fr tt sa tk tn tr op sl nd oi il tl go gt fa mn nx]) _ := hP
  have hD : va_D A (List.flatten [wM cI cZ cL q th N c fr tt sa tk tn tr op sl nd oi il tl go gt fa mn nx]) := hD
  exact loop_2 ((N + 1) + 1) 0 (by omega) (by omega) rfl _ _ hP hD hS _ hl

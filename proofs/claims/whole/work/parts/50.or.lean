set_option maxHeartbeats 8000000 in
set_option maxRecDepth 100000 in
theorem k3o_build (l : Launch) (D : va_G) (cI cZ cL : ClassId) (b : Nat → Nat) (N : Nat) (rw : Nat → Int32) (nm : Nat → Int32) (bf : Nat → Int32) (fe : Nat → Int32) (of : Nat → Int32) (a : Nat → Nat) (c : Nat) (fr : Nat → Int32) (tt : Nat → Int32) (sa : Nat → Int32) (tk : Nat → Int32) (hc : c ≤ 160) (hN : N ≤ 24) (hfr : ∀ j, j < c → vp_in (fr j) N) (htt : ∀ j, j < c → vp_in (tt j) N) : McV l D (tY cI cZ cL) yX3_build wsX3_build 2 66 [.ref (b 0)] ([wS cI b (a 0) (a 1) (a 2) N rw nm bf fe, wT cI (b 1) (N + 1) of, wA cI cZ a c fr tt sa tk]) (fun (u : uT) => rowsOK c sa fr tt u.1 u.2.1) (fun (u : uT) => [wS cI b (a 0) (a 1) (a 2) N u.2.1 u.2.2.1 u.2.2.2.1 u.2.2.2.2, wT cI (b 1) (N + 1) (nF u.1), wA cI cZ a c fr tt sa tk]) := by
  refine q_ofW (Qc := fun A => (va_Qv (fun (u : uT) => rowsOK c sa fr tt u.1 u.2.1) (fun u t => mAt D (tY cI cZ cL) A ((fun (u : uT) => [wS cI b (a 0) (a 1) (a 2) N u.2.1 u.2.2.1 u.2.2.2.1 u.2.2.2.2, wT cI (b 1) (N + 1) (nF u.1), wA cI cZ a c fr tt sa tk]) u) t) A)) (cc := cX3_build) (maxL := 2) (ret := none) (by decide) rfl (Nat.le_of_ble_eq_true rfl) ?_
  intro pz ez sz mz bz tz cz hx hb hml hr hlocks hts hown hK hP A hD hA ls hl
  have hS : va_S A sz.heap sz.heap [] := va_S.rf
  have hl : lv_has ls 2 [(0, .ref (b 0))] := hl
  refine lv_aload_n hx hb dX3_build_0 rfl (lv_at hl 0 rfl) ?_
  refine q_callVi (index := 37) (n := 0) (As := []) (rest := []) (js := [0, 1, 2]) (ci := 3) ⟨hx, hb, hml, hown, hts⟩ hK hP hD hS hA (k3o_listBuilt l D cI cZ cL b N rw nm bf fe of a c fr tt sa tk (by omega)) rfl (by decide) (fun _ => by simp only [List.map_cons, List.map_nil, wA_fst, wS_fst, wT_fst]) (fun (_ : Unit) => [wS cI b (a 0) (a 1) (a 2) N rw (pkG (stB sa 1) nI nm c) bf fe, wT cI (b 1) (N + 1) of, wA cI cZ a c fr tt sa tk]) (fun _ => rfl) gX3_build_X3_listBuilt rfl (by decide +kernel) rfl ⟨by decide, by decide⟩ rfl rfl rfl rfl hl.1 (Nat.le_of_ble_eq_true rfl) ⟨(Nat.zero_le _), (Nat.zero_le _)⟩ dX3_build_1 rfl (fun r _ H locs hw hP hD hS => ?_)
  have hw : r = nI (cN c (stB sa 1)) := hw
  subst hw
  refine q_top (z := nI (nB c sa)) (rfl) ?_
  refine lv_istore_n (lv' := [(1, .int (nI (nB c sa))), (0, .ref (b 0))]) hx hb dX3_build_4 rfl hl (by decide) rfl (fun ls hl => ?_)
  refine lv_aload_n hx hb dX3_build_5 rfl (lv_at hl 1 rfl) ?_
  refine lv_aload_n hx hb dX3_build_6 rfl (lv_at hl 1 rfl) ?_
  refine q_get (D := D) (ci := 3) (v := .ref (b 3)) (C := RX3) (T := TX3) (N := 8) hx hb hts (by decide +kernel) hown hK hP 0 0 rfl rfl rfl 5 (by decide) (hts (.fieldLink RX3 15 "OffsetRows$Side" "numbers" "[I") (by decide +kernel)) (fun _ h9 => h9) rfl dX3_build_7 ?_
  refine lv_iload_n hx hb dX3_build_10 rfl (lv_at hl 0 rfl) ?_
  refine lv_aload_n hx hb dX3_build_11 rfl (lv_at hl 1 rfl) ?_
  refine q_get (D := D) (ci := 3) (v := .ref (a 2)) (C := RX3) (T := TX3) (N := 8) hx hb hts (by decide +kernel) hown hK hP 0 0 rfl rfl rfl 2 (by decide) (hts (.fieldLink RX3 28 "OffsetRows$Side" "farEnd" "[I") (by decide +kernel)) (fun _ h9 => h9) rfl dX3_build_12 ?_
  refine lv_aload_n hx hb dX3_build_15 rfl (lv_at hl 1 rfl) ?_
  refine q_get (D := D) (ci := 3) (v := .ref (b 4)) (C := RX3) (T := TX3) (N := 8) hx hb hts (by decide +kernel) hown hK hP 0 0 rfl rfl rfl 6 (by decide) (hts (.fieldLink RX3 18 "OffsetRows$Side" "byFarEnd" "[I") (by decide +kernel)) (fun _ h9 => h9) rfl dX3_build_16 ?_
  refine q_callVv (index := 41) (n := 4) (As := [.ref (b 3), .int (nI (nB c sa)), .ref (a 2), .ref (b 4)]) (rest := []) (js := [0, 1, 2]) (ci := 3) ⟨hx, hb, hml, hown, hts⟩ hK hP hD hS hA (k3o_sort1 l D cI cZ cL b N rw (pkG (stB sa 1) nI nm c) bf fe of a c fr tt sa tk (nB c sa) (sn1 c sa) (kk1 c sa tt) (by omega) (nB_le hc) (b_hs1 hc) (b_hk1 hN htt)) rfl (by decide) (fun _ => by simp only [List.map_cons, List.map_nil, wA_fst, wS_fst, wT_fst]) (fun (_ : Unit) => [wS cI b (a 0) (a 1) (a 2) N rw (pkG (stB sa 1) nI nm c) (srF (rkN (nB c sa) (kk1 c sa tt)) (sn1 c sa) bf (nB c sa)) (nF (f3F (nB c sa) (kk1 c sa tt) (nB c sa))), wT cI (b 1) (N + 1) (nF (psN (nB c sa) (kk1 c sa tt))), wA cI cZ a c fr tt sa tk]) (fun _ => rfl) gX3_build_X3_sortByCounting rfl (by decide +kernel) rfl ⟨by decide, by decide⟩ rfl rfl rfl rfl hl.1 (Nat.le_of_ble_eq_true rfl) ⟨(Nat.zero_le _), (Nat.zero_le _)⟩ dX3_build_19 rfl (fun _ H locs hw hP hD hS => ?_)
  refine lv_aload_n hx hb dX3_build_22 rfl (lv_at hl 1 rfl) ?_
  refine lv_aload_n hx hb dX3_build_23 rfl (lv_at hl 1 rfl) ?_
  refine q_get (D := D) (ci := 3) (v := .ref (b 4)) (C := RX3) (T := TX3) (N := 8) hx hb hts (by decide +kernel) hown hK hP 0 0 rfl rfl rfl 6 (by decide) (hts (.fieldLink RX3 18 "OffsetRows$Side" "byFarEnd" "[I") (by decide +kernel)) (fun _ h9 => h9) rfl dX3_build_24 ?_
  refine lv_iload_n hx hb dX3_build_27 rfl (lv_at hl 0 rfl) ?_
  refine lv_aload_n hx hb dX3_build_28 rfl (lv_at hl 1 rfl) ?_
  refine q_get (D := D) (ci := 3) (v := .ref (a 1)) (C := RX3) (T := TX3) (N := 8) hx hb hts (by decide +kernel) hown hK hP 0 0 rfl rfl rfl 1 (by decide) (hts (.fieldLink RX3 25 "OffsetRows$Side" "ownEnd" "[I") (by decide +kernel)) (fun _ h9 => h9) rfl dX3_build_29 ?_
  refine lv_aload_n hx hb dX3_build_32 rfl (lv_at hl 1 rfl) ?_
  refine q_get (D := D) (ci := 3) (v := .ref (b 2)) (C := RX3) (T := TX3) (N := 8) hx hb hts (by decide +kernel) hown hK hP 0 0 rfl rfl rfl 4 (by decide) (hts (.fieldLink RX3 9 "OffsetRows$Side" "row" "[I") (by decide +kernel)) (fun _ h9 => h9) rfl dX3_build_33 ?_
  refine q_callVv (index := 41) (n := 4) (As := [.ref (b 4), .int (nI (nB c sa)), .ref (a 1), .ref (b 2)]) (rest := []) (js := [0, 1, 2]) (ci := 3) ⟨hx, hb, hml, hown, hts⟩ hK hP hD hS hA (k3o_sort2 l D cI cZ cL b N rw (pkG (stB sa 1) nI nm c) (srF (rkN (nB c sa) (kk1 c sa tt)) (sn1 c sa) bf (nB c sa)) (nF (f3F (nB c sa) (kk1 c sa tt) (nB c sa))) (nF (psN (nB c sa) (kk1 c sa tt))) a c fr tt sa tk (nB c sa) (sn2 c sa tt) (kk2 c sa fr tt) (by omega) (nB_le hc) (b_hs2 hc) (b_hk2 hN hfr)) rfl (by decide) (fun _ => by simp only [List.map_cons, List.map_nil, wA_fst, wS_fst, wT_fst]) (fun (_ : Unit) => [wS cI b (a 0) (a 1) (a 2) N (srF (rkN (nB c sa) (kk2 c sa fr tt)) (sn2 c sa tt) rw (nB c sa)) (pkG (stB sa 1) nI nm c) (srF (rkN (nB c sa) (kk1 c sa tt)) (sn1 c sa) bf (nB c sa)) (nF (f3F (nB c sa) (kk2 c sa fr tt) (nB c sa))), wT cI (b 1) (N + 1) (nF (psN (nB c sa) (kk2 c sa fr tt))), wA cI cZ a c fr tt sa tk]) (fun _ => rfl) gX3_build_X3_sortByCounting rfl (by decide +kernel) rfl ⟨by decide, by decide⟩ rfl rfl rfl rfl hl.1 (Nat.le_of_ble_eq_true rfl) ⟨(Nat.zero_le _), (Nat.zero_le _)⟩ dX3_build_36 rfl (fun _ H locs hw hP hD hS => ?_)
  exact q_vret ((psN (nB c sa) (kk2 c sa fr tt), srF (rkN (nB c sa) (kk2 c sa fr tt)) (sn2 c sa tt) rw (nB c sa), (pkG (stB sa 1) nI nm c), (srF (rkN (nB c sa) (kk1 c sa tt)) (sn1 c sa) bf (nB c sa)), nF (f3F (nB c sa) (kk2 c sa fr tt) (nB c sa)))) hx hb hr hlocks hK hP hD hS (build_ok) (rfl) dX3_build_39

set_option maxHeartbeats 8000000 in
set_option maxRecDepth 100000 in
theorem k3i_build (l : Launch) (D : va_G) (cI cZ cL : ClassId) (b : Nat → Nat) (N : Nat) (rw : Nat → Int32) (nm : Nat → Int32) (bf : Nat → Int32) (fe : Nat → Int32) (of : Nat → Int32) (a : Nat → Nat) (c : Nat) (fr : Nat → Int32) (tt : Nat → Int32) (sa : Nat → Int32) (tk : Nat → Int32) (hc : c ≤ 160) (hN : N ≤ 24) (hfr : ∀ j, j < c → vp_in (fr j) N) (htt : ∀ j, j < c → vp_in (tt j) N) : McV l D (tY cI cZ cL) yX3_build wsX3_build 2 66 [.ref (b 0)] ([wS cI b (a 0) (a 2) (a 1) N rw nm bf fe, wT cI (b 1) (N + 1) of, wA cI cZ a c fr tt sa tk]) (fun (u : uT) => rowsOK c sa tt fr u.1 u.2.1) (fun (u : uT) => [wS cI b (a 0) (a 2) (a 1) N u.2.1 u.2.2.1 u.2.2.2.1 u.2.2.2.2, wT cI (b 1) (N + 1) (nF u.1), wA cI cZ a c fr tt sa tk]) := by
  refine q_ofW (Qc := fun A => (va_Qv (fun (u : uT) => rowsOK c sa tt fr u.1 u.2.1) (fun u t => mAt D (tY cI cZ cL) A ((fun (u : uT) => [wS cI b (a 0) (a 2) (a 1) N u.2.1 u.2.2.1 u.2.2.2.1 u.2.2.2.2, wT cI (b 1) (N + 1) (nF u.1), wA cI cZ a c fr tt sa tk]) u) t) A)) (cc := cX3_build) (maxL := 2) (ret := none) (by decide) rfl (Nat.le_of_ble_eq_true rfl) ?_
  intro pz ez sz mz bz tz cz hx hb hml hr hlocks hts hown hK hP A hD hA ls hl
  have hS : va_S A sz.heap sz.heap [] := va_S.rf
  have hl : lv_has ls 2 [(0, .ref (b 0))] := hl
  refine lv_aload_n hx hb dX3_build_0 rfl (lv_at hl 0 rfl) ?_
  refine q_callVi (index := 37) (n := 0) (As := []) (rest := []) (js := [0, 1, 2]) (ci := 3) ⟨hx, hb, hml, hown, hts⟩ hK hP hD hS hA (k3i_listBuilt l D cI cZ cL b N rw nm bf fe of a c fr tt sa tk (by omega)) rfl (by decide) (fun _ => by simp only [List.map_cons, List.map_nil, wA_fst, wS_fst, wT_fst]) (fun (_ : Unit) => [wS cI b (a 0) (a 2) (a 1) N rw (pkG (stB sa 1) nI nm c) bf fe, wT cI (b 1) (N + 1) of, wA cI cZ a c fr tt sa tk]) (fun _ => rfl) gX3_build_X3_listBuilt rfl (by decide +kernel) rfl ⟨by decide, by decide⟩ rfl rfl rfl rfl hl.1 (Nat.le_of_ble_eq_true rfl) ⟨(Nat.zero_le _), (Nat.zero_le _)⟩ dX3_build_1 rfl (fun r _ H locs hw hP hD hS => ?_)
  have hw : r = nI (cN c (stB sa 1)) := hw
  subst hw
  refine q_top (z := nI (nB c sa)) (rfl) ?_
  refine lv_istore_n (lv' := [(1, .int (nI (nB c sa))), (0, .ref (b 0))]) hx hb dX3_build_4 rfl hl (by decide) rfl (fun ls hl => ?_)
  refine lv_aload_n hx hb dX3_build_5 rfl (lv_at hl 1 rfl) ?_
  refine lv_aload_n hx hb dX3_build_6 rfl (lv_at hl 1 rfl) ?_
  refine q_get (D := D) (ci := 3) (v := .ref (b 3)) (C := RX3) (T := TX3) (N := 8) hx hb hts (by decide +kernel) hown hK hP 0 0 rfl rfl rfl 5 (by decide) (hts (.fieldLink RX3 15 "OffsetRows$Side" "numbers" "[I") (by decide +kernel)) (fun _ h9 => h9) rfl dX3_build_7 ?_
  refine lv_iload_n hx hb dX3_build_10 rfl (lv_at hl 0 rfl) ?_
  refine lv_aload_n hx hb dX3_build_11 rfl (lv_at hl 1 rfl) ?_
  refine q_get (D := D) (ci := 3) (v := .ref (a 1)) (C := RX3) (T := TX3) (N := 8) hx hb hts (by decide +kernel) hown hK hP 0 0 rfl rfl rfl 2 (by decide) (hts (.fieldLink RX3 28 "OffsetRows$Side" "farEnd" "[I") (by decide +kernel)) (fun _ h9 => h9) rfl dX3_build_12 ?_
  refine lv_aload_n hx hb dX3_build_15 rfl (lv_at hl 1 rfl) ?_
  refine q_get (D := D) (ci := 3) (v := .ref (b 4)) (C := RX3) (T := TX3) (N := 8) hx hb hts (by decide +kernel) hown hK hP 0 0 rfl rfl rfl 6 (by decide) (hts (.fieldLink RX3 18 "OffsetRows$Side" "byFarEnd" "[I") (by decide +kernel)) (fun _ h9 => h9) rfl dX3_build_16 ?_
  refine q_callVv (index := 41) (n := 4) (As := [.ref (b 3), .int (nI (nB c sa)), .ref (a 1), .ref (b 4)]) (rest := []) (js := [0, 1, 2]) (ci := 3) ⟨hx, hb, hml, hown, hts⟩ hK hP hD hS hA (k3i_sort1 l D cI cZ cL b N rw (pkG (stB sa 1) nI nm c) bf fe of a c fr tt sa tk (nB c sa) (sn1 c sa) (kk1 c sa fr) (by omega) (nB_le hc) (b_hs1 hc) (b_hk1 hN hfr)) rfl (by decide) (fun _ => by simp only [List.map_cons, List.map_nil, wA_fst, wS_fst, wT_fst]) (fun (_ : Unit) => [wS cI b (a 0) (a 2) (a 1) N rw (pkG (stB sa 1) nI nm c) (srF (rkN (nB c sa) (kk1 c sa fr)) (sn1 c sa) bf (nB c sa)) (nF (f3F (nB c sa) (kk1 c sa fr) (nB c sa))), wT cI (b 1) (N + 1) (nF (psN (nB c sa) (kk1 c sa fr))), wA cI cZ a c fr tt sa tk]) (fun _ => rfl) gX3_build_X3_sortByCounting rfl (by decide +kernel) rfl ⟨by decide, by decide⟩ rfl rfl rfl rfl hl.1 (Nat.le_of_ble_eq_true rfl) ⟨(Nat.zero_le _), (Nat.zero_le _)⟩ dX3_build_19 rfl (fun _ H locs hw hP hD hS => ?_)
  refine lv_aload_n hx hb dX3_build_22 rfl (lv_at hl 1 rfl) ?_
  refine lv_aload_n hx hb dX3_build_23 rfl (lv_at hl 1 rfl) ?_
  refine q_get (D := D) (ci := 3) (v := .ref (b 4)) (C := RX3) (T := TX3) (N := 8) hx hb hts (by decide +kernel) hown hK hP 0 0 rfl rfl rfl 6 (by decide) (hts (.fieldLink RX3 18 "OffsetRows$Side" "byFarEnd" "[I") (by decide +kernel)) (fun _ h9 => h9) rfl dX3_build_24 ?_
  refine lv_iload_n hx hb dX3_build_27 rfl (lv_at hl 0 rfl) ?_
  refine lv_aload_n hx hb dX3_build_28 rfl (lv_at hl 1 rfl) ?_
  refine q_get (D := D) (ci := 3) (v := .ref (a 2)) (C := RX3) (T := TX3) (N := 8) hx hb hts (by decide +kernel) hown hK hP 0 0 rfl rfl rfl 1 (by decide) (hts (.fieldLink RX3 25 "OffsetRows$Side" "ownEnd" "[I") (by decide +kernel)) (fun _ h9 => h9) rfl dX3_build_29 ?_
  refine lv_aload_n hx hb dX3_build_32 rfl (lv_at hl 1 rfl) ?_
  refine q_get (D := D) (ci := 3) (v := .ref (b 2)) (C := RX3) (T := TX3) (N := 8) hx hb hts (by decide +kernel) hown hK hP 0 0 rfl rfl rfl 4 (by decide) (hts (.fieldLink RX3 9 "OffsetRows$Side" "row" "[I") (by decide +kernel)) (fun _ h9 => h9) rfl dX3_build_33 ?_
  refine q_callVv (index := 41) (n := 4) (As := [.ref (b 4), .int (nI (nB c sa)), .ref (a 2), .ref (b 2)]) (rest := []) (js := [0, 1, 2]) (ci := 3) ⟨hx, hb, hml, hown, hts⟩ hK hP hD hS hA (k3i_sort2 l D cI cZ cL b N rw (pkG (stB sa 1) nI nm c) (srF (rkN (nB c sa) (kk1 c sa fr)) (sn1 c sa) bf (nB c sa)) (nF (f3F (nB c sa) (kk1 c sa fr) (nB c sa))) (nF (psN (nB c sa) (kk1 c sa fr))) a c fr tt sa tk (nB c sa) (sn2 c sa fr) (kk2 c sa tt fr) (by omega) (nB_le hc) (b_hs2 hc) (b_hk2 hN htt)) rfl (by decide) (fun _ => by simp only [List.map_cons, List.map_nil, wA_fst, wS_fst, wT_fst]) (fun (_ : Unit) => [wS cI b (a 0) (a 2) (a 1) N (srF (rkN (nB c sa) (kk2 c sa tt fr)) (sn2 c sa fr) rw (nB c sa)) (pkG (stB sa 1) nI nm c) (srF (rkN (nB c sa) (kk1 c sa fr)) (sn1 c sa) bf (nB c sa)) (nF (f3F (nB c sa) (kk2 c sa tt fr) (nB c sa))), wT cI (b 1) (N + 1) (nF (psN (nB c sa) (kk2 c sa tt fr))), wA cI cZ a c fr tt sa tk]) (fun _ => rfl) gX3_build_X3_sortByCounting rfl (by decide +kernel) rfl ⟨by decide, by decide⟩ rfl rfl rfl rfl hl.1 (Nat.le_of_ble_eq_true rfl) ⟨(Nat.zero_le _), (Nat.zero_le _)⟩ dX3_build_36 rfl (fun _ H locs hw hP hD hS => ?_)
  exact q_vret ((psN (nB c sa) (kk2 c sa tt fr), srF (rkN (nB c sa) (kk2 c sa tt fr)) (sn2 c sa fr) rw (nB c sa), (pkG (stB sa 1) nI nm c), (srF (rkN (nB c sa) (kk1 c sa fr)) (sn1 c sa) bf (nB c sa)), nF (f3F (nB c sa) (kk2 c sa tt fr) (nB c sa)))) hx hb hr hlocks hK hP hD hS (build_ok) (rfl) dX3_build_39

set_option maxHeartbeats 8000000 in
set_option maxRecDepth 100000 in
theorem k4_isNode (l : Launch) (D : va_G) (cI cZ cL : ClassId) (o : Nat → Nat) (N : Nat) (tn : Nat) (tr : Nat → Int32) (sp : Nat → Int32) (wh : Nat → Int64) (ow : Nat → Int64) (b : Nat → Nat) (rw : Nat → Int32) (nm : Nat → Int32) (bf : Nat → Int32) (fe : Nat → Int32) (d : Nat → Nat) (rx : Nat → Int32) (nn : Nat → Int32) (bg : Nat → Int32) (fx : Nat → Int32) (a : Nat → Nat) (c : Nat) (fr : Nat → Int32) (tt : Nat → Int32) (sa : Nat → Int32) (tk : Nat → Int32) (i : Nat → Nat) (op : Nat → Int32) (sl : Nat → Int32) (oi : Nat → Int32) (nd : Nat → Int32) (lp : Nat → Int32) (tl : Nat → Int32) (g : Nat → Nat) (go : Nat → Int32) (gt : Nat → Int32) (oo : Nat → Nat) (ox : Nat → Nat) (x : Int32) : McI l D (tY cI cZ cL) yX4_isNode wsX4_isNode 0 0 [.ref (o 0), .int x] ([wO o (a 0) (b 0) (d 0) (i 0) (g 0) N tn, wT cI (o 1) 160 tr, wT cI (o 2) N sp, wU cL (o 3) N wh, wU cL (o 4) N ow, wS cI b (a 0) (a 1) (a 2) N rw nm bf fe, wT cI (b 1) (N + 1) (nF oo), wS cI d (a 0) (a 2) (a 1) N rx nn bg fx, wT cI (d 1) (N + 1) (nF ox), wA cI cZ a c fr tt sa tk, wI cI cZ i op sl oi nd lp tl, wG cI g go gt]) (fun r (_ : Unit) => r = bI (hasB N x)) (fun (_ : Unit) => [wO o (a 0) (b 0) (d 0) (i 0) (g 0) N tn, wT cI (o 1) 160 tr, wT cI (o 2) N sp, wU cL (o 3) N wh, wU cL (o 4) N ow, wS cI b (a 0) (a 1) (a 2) N rw nm bf fe, wT cI (b 1) (N + 1) (nF oo), wS cI d (a 0) (a 2) (a 1) N rx nn bg fx, wT cI (d 1) (N + 1) (nF ox), wA cI cZ a c fr tt sa tk, wI cI cZ i op sl oi nd lp tl, wG cI g go gt]) := by
  refine q_ofW (Qc := fun A => (va_Qi (fun r (_ : Unit) => r = bI (hasB N x)) (fun u t => mAt D (tY cI cZ cL) A ((fun (_ : Unit) => [wO o (a 0) (b 0) (d 0) (i 0) (g 0) N tn, wT cI (o 1) 160 tr, wT cI (o 2) N sp, wU cL (o 3) N wh, wU cL (o 4) N ow, wS cI b (a 0) (a 1) (a 2) N rw nm bf fe, wT cI (b 1) (N + 1) (nF oo), wS cI d (a 0) (a 2) (a 1) N rx nn bg fx, wT cI (d 1) (N + 1) (nF ox), wA cI cZ a c fr tt sa tk, wI cI cZ i op sl oi nd lp tl, wG cI g go gt]) u) t) A)) (cc := cX4_isNode) (maxL := 2) (ret := (some .boolean)) (by decide) rfl (Nat.le_of_ble_eq_true rfl) ?_
  intro pz ez sz mz bz tz cz hx hb hml hr hlocks hts hown hK hP A hD hA ls hl
  have hS : va_S A sz.heap sz.heap [] := va_S.rf
  have hl : lv_has ls 2 [(0, .ref (o 0)), (1, .int x)] := hl
  refine lv_iload_n hx hb dX4_isNode_0 rfl (lv_at hl 1 rfl) ?_
  refine lv_if_lt (tgt := 16) hx hb dX4_isNode_1 (by decide) (fun c_1 => ?_) (fun c_1 => ?_)
  ·
    refine lv_iconst (v := (0 : Int32)) hx hb dX4_isNode_16 (by decide) ?_
    exact q_zret (()) hx hb hr rfl hlocks hK hP hD hS (by simp [hasB, bI, c_1]) (rfl) dX4_isNode_17
  ·
    refine lv_iload_n hx hb dX4_isNode_4 rfl (lv_at hl 1 rfl) ?_
    refine lv_aload_n hx hb dX4_isNode_5 rfl (lv_at hl 0 rfl) ?_
    refine q_get (D := D) (ci := 4) (v := .int (nI N)) (C := RX4) (T := TX4) (N := 11) hx hb hts (by decide +kernel) hown hK hP 0 0 rfl rfl rfl 0 (by decide) (hts (.fieldLink RX4 18 "OffsetRows" "nodes" "I") (by decide +kernel)) (fun _ h9 => h9) rfl dX4_isNode_6 ?_
    refine lv_icmp_ge (tgt := 16) hx hb dX4_isNode_9 (by decide) (fun c_9 => ?_) (fun c_9 => ?_)
    ·
      refine lv_iconst (v := (0 : Int32)) hx hb dX4_isNode_16 (by decide) ?_
      exact q_zret (()) hx hb hr rfl hlocks hK hP hD hS (by simp [hasB, bI, c_1, c_9]) (rfl) dX4_isNode_17
    ·
      refine lv_iconst (v := (1 : Int32)) hx hb dX4_isNode_12 (by decide) ?_
      refine lv_goto (tgt := 17) hx hb dX4_isNode_13 (by decide) ?_
      exact q_zret (()) hx hb hr rfl hlocks hK hP hD hS (by simp [hasB, bI, c_1, c_9]) (rfl) dX4_isNode_17

set_option maxHeartbeats 8000000 in
set_option maxRecDepth 100000 in
theorem k4_side0 (l : Launch) (D : va_G) (cI cZ cL : ClassId) (o : Nat → Nat) (N : Nat) (tn : Nat) (tr : Nat → Int32) (sp : Nat → Int32) (wh : Nat → Int64) (ow : Nat → Int64) (b : Nat → Nat) (rw : Nat → Int32) (nm : Nat → Int32) (bf : Nat → Int32) (fe : Nat → Int32) (d : Nat → Nat) (rx : Nat → Int32) (nn : Nat → Int32) (bg : Nat → Int32) (fx : Nat → Int32) (a : Nat → Nat) (c : Nat) (fr : Nat → Int32) (tt : Nat → Int32) (sa : Nat → Int32) (tk : Nat → Int32) (i : Nat → Nat) (op : Nat → Int32) (sl : Nat → Int32) (oi : Nat → Int32) (nd : Nat → Int32) (lp : Nat → Int32) (tl : Nat → Int32) (g : Nat → Nat) (go : Nat → Int32) (gt : Nat → Int32) (oo : Nat → Nat) (ox : Nat → Nat) (z : Int32) (hz0 : z = 0) : McR l D (tY cI cZ cL) yX4_side wsX4_side 0 0 [.ref (o 0), .int z] ([wO o (a 0) (b 0) (d 0) (i 0) (g 0) N tn, wT cI (o 1) 160 tr, wT cI (o 2) N sp, wU cL (o 3) N wh, wU cL (o 4) N ow, wS cI b (a 0) (a 1) (a 2) N rw nm bf fe, wT cI (b 1) (N + 1) (nF oo), wS cI d (a 0) (a 2) (a 1) N rx nn bg fx, wT cI (d 1) (N + 1) (nF ox), wA cI cZ a c fr tt sa tk, wI cI cZ i op sl oi nd lp tl, wG cI g go gt]) (b 0) ([wO o (a 0) (b 0) (d 0) (i 0) (g 0) N tn, wT cI (o 1) 160 tr, wT cI (o 2) N sp, wU cL (o 3) N wh, wU cL (o 4) N ow, wS cI b (a 0) (a 1) (a 2) N rw nm bf fe, wT cI (b 1) (N + 1) (nF oo), wS cI d (a 0) (a 2) (a 1) N rx nn bg fx, wT cI (d 1) (N + 1) (nF ox), wA cI cZ a c fr tt sa tk, wI cI cZ i op sl oi nd lp tl, wG cI g go gt]) := by
  refine q_ofW (Qc := fun A => (va_Qr (fun _ : Unit => True) (fun _ a9 t => a9 = b 0 ∧ mAt D (tY cI cZ cL) A ([wO o (a 0) (b 0) (d 0) (i 0) (g 0) N tn, wT cI (o 1) 160 tr, wT cI (o 2) N sp, wU cL (o 3) N wh, wU cL (o 4) N ow, wS cI b (a 0) (a 1) (a 2) N rw nm bf fe, wT cI (b 1) (N + 1) (nF oo), wS cI d (a 0) (a 2) (a 1) N rx nn bg fx, wT cI (d 1) (N + 1) (nF ox), wA cI cZ a c fr tt sa tk, wI cI cZ i op sl oi nd lp tl, wG cI g go gt]) t) A)) (cc := cX4_side) (maxL := 2) (ret := (some (.object "OffsetRows$Side"))) (by decide) rfl (Nat.le_of_ble_eq_true rfl) ?_
  intro pz ez sz mz bz tz cz hx hb hml hr hlocks hts hown hK hP A hD hA ls hl
  have hS : va_S A sz.heap sz.heap [] := va_S.rf
  have hl : lv_has ls 2 [(0, .ref (o 0)), (1, .int z)] := hl
  refine lv_iload_n hx hb dX4_side_0 rfl (lv_at hl 1 rfl) ?_
  refine lv_if_eq (tgt := 11) hx hb dX4_side_1 (by decide) (fun c_1 => ?_) (fun c_1 => ?_)
  ·
    refine lv_aload_n hx hb dX4_side_11 rfl (lv_at hl 0 rfl) ?_
    refine q_get (D := D) (ci := 4) (v := .ref (b 0)) (C := RX4) (T := TX4) (N := 11) hx hb hts (by decide +kernel) hown hK hP 0 0 rfl rfl rfl 2 (by decide) (hts (.fieldLink RX4 41 "OffsetRows" "outSide" "LOffsetRows$Side;") (by decide +kernel)) (fun _ h9 => h9) rfl dX4_side_12 ?_
    exact q_aret hx hb hr hlocks hK hP hD hS (rfl) (rfl) dX4_side_15
  ·
    exact absurd hz0 c_1

set_option maxHeartbeats 8000000 in
set_option maxRecDepth 100000 in
theorem k4_side1 (l : Launch) (D : va_G) (cI cZ cL : ClassId) (o : Nat → Nat) (N : Nat) (tn : Nat) (tr : Nat → Int32) (sp : Nat → Int32) (wh : Nat → Int64) (ow : Nat → Int64) (b : Nat → Nat) (rw : Nat → Int32) (nm : Nat → Int32) (bf : Nat → Int32) (fe : Nat → Int32) (d : Nat → Nat) (rx : Nat → Int32) (nn : Nat → Int32) (bg : Nat → Int32) (fx : Nat → Int32) (a : Nat → Nat) (c : Nat) (fr : Nat → Int32) (tt : Nat → Int32) (sa : Nat → Int32) (tk : Nat → Int32) (i : Nat → Nat) (op : Nat → Int32) (sl : Nat → Int32) (oi : Nat → Int32) (nd : Nat → Int32) (lp : Nat → Int32) (tl : Nat → Int32) (g : Nat → Nat) (go : Nat → Int32) (gt : Nat → Int32) (oo : Nat → Nat) (ox : Nat → Nat) (z : Int32) (hz0 : ¬ z = 0) : McR l D (tY cI cZ cL) yX4_side wsX4_side 0 0 [.ref (o 0), .int z] ([wO o (a 0) (b 0) (d 0) (i 0) (g 0) N tn, wT cI (o 1) 160 tr, wT cI (o 2) N sp, wU cL (o 3) N wh, wU cL (o 4) N ow, wS cI b (a 0) (a 1) (a 2) N rw nm bf fe, wT cI (b 1) (N + 1) (nF oo), wS cI d (a 0) (a 2) (a 1) N rx nn bg fx, wT cI (d 1) (N + 1) (nF ox), wA cI cZ a c fr tt sa tk, wI cI cZ i op sl oi nd lp tl, wG cI g go gt]) (d 0) ([wO o (a 0) (b 0) (d 0) (i 0) (g 0) N tn, wT cI (o 1) 160 tr, wT cI (o 2) N sp, wU cL (o 3) N wh, wU cL (o 4) N ow, wS cI b (a 0) (a 1) (a 2) N rw nm bf fe, wT cI (b 1) (N + 1) (nF oo), wS cI d (a 0) (a 2) (a 1) N rx nn bg fx, wT cI (d 1) (N + 1) (nF ox), wA cI cZ a c fr tt sa tk, wI cI cZ i op sl oi nd lp tl, wG cI g go gt]) := by
  refine q_ofW (Qc := fun A => (va_Qr (fun _ : Unit => True) (fun _ a9 t => a9 = d 0 ∧ mAt D (tY cI cZ cL) A ([wO o (a 0) (b 0) (d 0) (i 0) (g 0) N tn, wT cI (o 1) 160 tr, wT cI (o 2) N sp, wU cL (o 3) N wh, wU cL (o 4) N ow, wS cI b (a 0) (a 1) (a 2) N rw nm bf fe, wT cI (b 1) (N + 1) (nF oo), wS cI d (a 0) (a 2) (a 1) N rx nn bg fx, wT cI (d 1) (N + 1) (nF ox), wA cI cZ a c fr tt sa tk, wI cI cZ i op sl oi nd lp tl, wG cI g go gt]) t) A)) (cc := cX4_side) (maxL := 2) (ret := (some (.object "OffsetRows$Side"))) (by decide) rfl (Nat.le_of_ble_eq_true rfl) ?_
  intro pz ez sz mz bz tz cz hx hb hml hr hlocks hts hown hK hP A hD hA ls hl
  have hS : va_S A sz.heap sz.heap [] := va_S.rf
  have hl : lv_has ls 2 [(0, .ref (o 0)), (1, .int z)] := hl
  refine lv_iload_n hx hb dX4_side_0 rfl (lv_at hl 1 rfl) ?_
  refine lv_if_eq (tgt := 11) hx hb dX4_side_1 (by decide) (fun c_1 => ?_) (fun c_1 => ?_)
  ·
    exact absurd c_1 hz0
  ·
    refine lv_aload_n hx hb dX4_side_4 rfl (lv_at hl 0 rfl) ?_
    refine q_get (D := D) (ci := 4) (v := .ref (d 0)) (C := RX4) (T := TX4) (N := 11) hx hb hts (by decide +kernel) hown hK hP 0 0 rfl rfl rfl 3 (by decide) (hts (.fieldLink RX4 45 "OffsetRows" "inSide" "LOffsetRows$Side;") (by decide +kernel)) (fun _ h9 => h9) rfl dX4_side_5 ?_
    refine lv_goto (tgt := 15) hx hb dX4_side_8 (by decide) ?_
    exact q_aret hx hb hr hlocks hK hP hD hS (rfl) (rfl) dX4_side_15

set_option maxHeartbeats 8000000 in
set_option maxRecDepth 100000 in
theorem k4_arc (l : Launch) (D : va_G) (cI cZ cL : ClassId) (o : Nat → Nat) (N : Nat) (tn : Nat) (tr : Nat → Int32) (sp : Nat → Int32) (wh : Nat → Int64) (ow : Nat → Int64) (b : Nat → Nat) (rw : Nat → Int32) (nm : Nat → Int32) (bf : Nat → Int32) (fe : Nat → Int32) (d : Nat → Nat) (rx : Nat → Int32) (nn : Nat → Int32) (bg : Nat → Int32) (fx : Nat → Int32) (a : Nat → Nat) (c : Nat) (fr : Nat → Int32) (tt : Nat → Int32) (sa : Nat → Int32) (tk : Nat → Int32) (i : Nat → Nat) (op : Nat → Int32) (sl : Nat → Int32) (oi : Nat → Int32) (nd : Nat → Int32) (lp : Nat → Int32) (tl : Nat → Int32) (g : Nat → Nat) (go : Nat → Int32) (gt : Nat → Int32) (oo : Nat → Nat) (ox : Nat → Nat) (x : Int32) (y : Int32) (hc : c ≤ 160) : McI l D (tY cI cZ cL) yX4_arc wsX4_arc 1 24 [.ref (o 0), .int x, .int y] ([wO o (a 0) (b 0) (d 0) (i 0) (g 0) N tn, wT cI (o 1) 160 tr, wT cI (o 2) N sp, wU cL (o 3) N wh, wU cL (o 4) N ow, wS cI b (a 0) (a 1) (a 2) N rw nm bf fe, wT cI (b 1) (N + 1) (nF oo), wS cI d (a 0) (a 2) (a 1) N rx nn bg fx, wT cI (d 1) (N + 1) (nF ox), wA cI cZ a c fr tt sa tk, wI cI cZ i op sl oi nd lp tl, wG cI g go gt]) (fun r (_ : Unit) => r = arR N c x y) (fun (_ : Unit) => [wO o (a 0) (b 0) (d 0) (i 0) (g 0) N tn, wT cI (o 1) 160 tr, wT cI (o 2) N sp, wU cL (o 3) N wh, wU cL (o 4) N ow, wS cI b (a 0) (a 1) (a 2) N rw nm bf fe, wT cI (b 1) (N + 1) (nF oo), wS cI d (a 0) (a 2) (a 1) N rx nn bg fx, wT cI (d 1) (N + 1) (nF ox), wA cI cZ a (arC N c x y) (arF N c x y fr x) (arF N c x y tt y) (arF N c x y sa 0) (arF N c x y tk 0), wI cI cZ i op sl oi nd lp tl, wG cI g go gt]) := by
  refine q_ofW (Qc := fun A => (va_Qi (fun r (_ : Unit) => r = arR N c x y) (fun u t => mAt D (tY cI cZ cL) A ((fun (_ : Unit) => [wO o (a 0) (b 0) (d 0) (i 0) (g 0) N tn, wT cI (o 1) 160 tr, wT cI (o 2) N sp, wU cL (o 3) N wh, wU cL (o 4) N ow, wS cI b (a 0) (a 1) (a 2) N rw nm bf fe, wT cI (b 1) (N + 1) (nF oo), wS cI d (a 0) (a 2) (a 1) N rx nn bg fx, wT cI (d 1) (N + 1) (nF ox), wA cI cZ a (arC N c x y) (arF N c x y fr x) (arF N c x y tt y) (arF N c x y sa 0) (arF N c x y tk 0), wI cI cZ i op sl oi nd lp tl, wG cI g go gt]) u) t) A)) (cc := cX4_arc) (maxL := 3) (ret := (some .int)) (by decide) rfl (Nat.le_of_ble_eq_true rfl) ?_
  intro pz ez sz mz bz tz cz hx hb hml hr hlocks hts hown hK hP A hD hA ls hl
  have hS : va_S A sz.heap sz.heap [] := va_S.rf
  have hl : lv_has ls 3 [(0, .ref (o 0)), (1, .int x), (2, .int y)] := hl
  refine lv_aload_n hx hb dX4_arc_0 rfl (lv_at hl 0 rfl) ?_
  refine lv_iload_n hx hb dX4_arc_1 rfl (lv_at hl 1 rfl) ?_
  refine q_callVi (index := 78) (n := 1) (As := [.int x]) (rest := []) (js := [0, 1, 2, 3, 4, 5, 6, 7, 8, 9, 10, 11]) (ci := 4) ⟨hx, hb, hml, hown, hts⟩ hK hP hD hS hA (k4_isNode l D cI cZ cL o N tn tr sp wh ow b rw nm bf fe d rx nn bg fx a c fr tt sa tk i op sl oi nd lp tl g go gt oo ox x) rfl (by decide) (fun _ => by simp only [List.map_cons, List.map_nil, wA_fst, wG_fst, wI_fst, wO_fst, wS_fst, wT_fst, wU_fst]) (fun (_ : Unit) => [wO o (a 0) (b 0) (d 0) (i 0) (g 0) N tn, wT cI (o 1) 160 tr, wT cI (o 2) N sp, wU cL (o 3) N wh, wU cL (o 4) N ow, wS cI b (a 0) (a 1) (a 2) N rw nm bf fe, wT cI (b 1) (N + 1) (nF oo), wS cI d (a 0) (a 2) (a 1) N rx nn bg fx, wT cI (d 1) (N + 1) (nF ox), wA cI cZ a c fr tt sa tk, wI cI cZ i op sl oi nd lp tl, wG cI g go gt]) (fun _ => rfl) gX4_arc_X4_isNode rfl (by decide +kernel) rfl ⟨by decide, by decide⟩ rfl rfl rfl rfl hl.1 (Nat.le_of_ble_eq_true rfl) ⟨(Nat.zero_le _), (Nat.zero_le _)⟩ dX4_arc_2 rfl (fun r _ H locs hw hP hD hS => ?_)
  have hw : r = bI (hasB N x) := hw
  subst hw
  refine lv_if_eq (tgt := 16) hx hb dX4_arc_5 (by decide) (fun c_5 => ?_) (fun c_5 => ?_)
  ·
    have n_5 : (hasB N x) = false := bI_0.mp c_5
    refine lv_bipush (v := (-2)) hx hb dX4_arc_16 (by decide) ?_
    exact q_iret (()) hx hb hr hlocks hK hP hD hS (by simp [arR, arB, arC, arF, n_5]) (by simp [arR, arB, arC, arF, n_5]) dX4_arc_18
  ·
    have n_5 : (hasB N x) = true := bI_n.mp c_5
    refine lv_aload_n hx hb dX4_arc_8 rfl (lv_at hl 0 rfl) ?_
    refine lv_iload_n hx hb dX4_arc_9 rfl (lv_at hl 2 rfl) ?_
    refine q_callVi (index := 78) (n := 1) (As := [.int y]) (rest := []) (js := [0, 1, 2, 3, 4, 5, 6, 7, 8, 9, 10, 11]) (ci := 4) ⟨hx, hb, hml, hown, hts⟩ hK hP hD hS hA (k4_isNode l D cI cZ cL o N tn tr sp wh ow b rw nm bf fe d rx nn bg fx a c fr tt sa tk i op sl oi nd lp tl g go gt oo ox y) rfl (by decide) (fun _ => by simp only [List.map_cons, List.map_nil, wA_fst, wG_fst, wI_fst, wO_fst, wS_fst, wT_fst, wU_fst]) (fun (_ : Unit) => [wO o (a 0) (b 0) (d 0) (i 0) (g 0) N tn, wT cI (o 1) 160 tr, wT cI (o 2) N sp, wU cL (o 3) N wh, wU cL (o 4) N ow, wS cI b (a 0) (a 1) (a 2) N rw nm bf fe, wT cI (b 1) (N + 1) (nF oo), wS cI d (a 0) (a 2) (a 1) N rx nn bg fx, wT cI (d 1) (N + 1) (nF ox), wA cI cZ a c fr tt sa tk, wI cI cZ i op sl oi nd lp tl, wG cI g go gt]) (fun _ => rfl) gX4_arc_X4_isNode rfl (by decide +kernel) rfl ⟨by decide, by decide⟩ rfl rfl rfl rfl hl.1 (Nat.le_of_ble_eq_true rfl) ⟨(Nat.zero_le _), (Nat.zero_le _)⟩ dX4_arc_10 rfl (fun r _ H locs hw hP hD hS => ?_)
    have hw : r = bI (hasB N y) := hw
    subst hw
    refine lv_if_ne (tgt := 19) hx hb dX4_arc_13 (by decide) (fun c_13 => ?_) (fun c_13 => ?_)
    ·
      have n_13 : (hasB N y) = true := bI_n.mp c_13
      refine lv_aload_n hx hb dX4_arc_19 rfl (lv_at hl 0 rfl) ?_
      refine q_get (D := D) (ci := 4) (v := .ref (a 0)) (C := RX4) (T := TX4) (N := 11) hx hb hts (by decide +kernel) hown hK hP 0 0 rfl rfl rfl 1 (by decide) (hts (.fieldLink RX4 25 "OffsetRows" "arcs" "LOffsetRows$ArcList;") (by decide +kernel)) (fun _ h9 => h9) rfl dX4_arc_20 ?_
      refine lv_iload_n hx hb dX4_arc_23 rfl (lv_at hl 1 rfl) ?_
      refine lv_iload_n hx hb dX4_arc_24 rfl (lv_at hl 2 rfl) ?_
      refine lv_iconst (v := (0 : Int32)) hx hb dX4_arc_25 (by decide) ?_
      refine q_callVi (index := 82) (n := 3) (As := [.int x, .int y, .int (0 : Int32)]) (rest := []) (js := [9]) (ci := 0) ⟨hx, hb, hml, hown, hts⟩ hK hP hD hS hA (k0_append l D cI cZ cL a c fr tt sa tk x y (0 : Int32) (by omega)) rfl (by decide) (fun _ => by simp only [List.map_cons, List.map_nil, wA_fst]) (fun (_ : Unit) => [wO o (a 0) (b 0) (d 0) (i 0) (g 0) N tn, wT cI (o 1) 160 tr, wT cI (o 2) N sp, wU cL (o 3) N wh, wU cL (o 4) N ow, wS cI b (a 0) (a 1) (a 2) N rw nm bf fe, wT cI (b 1) (N + 1) (nF oo), wS cI d (a 0) (a 2) (a 1) N rx nn bg fx, wT cI (d 1) (N + 1) (nF ox), wA cI cZ a (apC c) (apF c fr x) (apF c tt y) (apF c sa (0 : Int32)) (apF c tk 0), wI cI cZ i op sl oi nd lp tl, wG cI g go gt]) (fun _ => rfl) gX4_arc_X0_append rfl (by decide +kernel) rfl ⟨by decide, by decide⟩ rfl rfl rfl rfl hl.1 (Nat.le_of_ble_eq_true rfl) ⟨(Nat.zero_le _), (Nat.zero_le _)⟩ dX4_arc_26 rfl (fun r _ H locs hw hP hD hS => ?_)
      have hw : r = apR c := hw
      subst hw
      exact q_iret (()) hx hb hr hlocks hK hP hD hS (by simp [arR, arB, arC, arF, n_5, n_13]) (by simp [arR, arB, arC, arF, n_5, n_13]) dX4_arc_29
    ·
      have n_13 : (hasB N y) = false := bI_0.mp c_13
      refine lv_bipush (v := (-2)) hx hb dX4_arc_16 (by decide) ?_
      exact q_iret (()) hx hb hr hlocks hK hP hD hS (by simp [arR, arB, arC, arF, n_5, n_13]) (by simp [arR, arB, arC, arF, n_5, n_13]) dX4_arc_18

set_option maxHeartbeats 8000000 in
set_option maxRecDepth 100000 in
theorem k4_mark (l : Launch) (D : va_G) (cI cZ cL : ClassId) (o : Nat → Nat) (N : Nat) (tn : Nat) (tr : Nat → Int32) (sp : Nat → Int32) (wh : Nat → Int64) (ow : Nat → Int64) (b : Nat → Nat) (rw : Nat → Int32) (nm : Nat → Int32) (bf : Nat → Int32) (fe : Nat → Int32) (d : Nat → Nat) (rx : Nat → Int32) (nn : Nat → Int32) (bg : Nat → Int32) (fx : Nat → Int32) (a : Nat → Nat) (c : Nat) (fr : Nat → Int32) (tt : Nat → Int32) (sa : Nat → Int32) (tk : Nat → Int32) (i : Nat → Nat) (op : Nat → Int32) (sl : Nat → Int32) (oi : Nat → Int32) (nd : Nat → Int32) (lp : Nat → Int32) (tl : Nat → Int32) (g : Nat → Nat) (go : Nat → Int32) (gt : Nat → Int32) (oo : Nat → Nat) (ox : Nat → Nat) (x : Int32) (z : Int32) (hc : c ≤ 160) (hz : vp_nar .boolean z = z) : McI l D (tY cI cZ cL) yX4_mark wsX4_mark 1 21 [.ref (o 0), .int x, .int z] ([wO o (a 0) (b 0) (d 0) (i 0) (g 0) N tn, wT cI (o 1) 160 tr, wT cI (o 2) N sp, wU cL (o 3) N wh, wU cL (o 4) N ow, wS cI b (a 0) (a 1) (a 2) N rw nm bf fe, wT cI (b 1) (N + 1) (nF oo), wS cI d (a 0) (a 2) (a 1) N rx nn bg fx, wT cI (d 1) (N + 1) (nF ox), wA cI cZ a c fr tt sa tk, wI cI cZ i op sl oi nd lp tl, wG cI g go gt]) (fun r (_ : Unit) => r = mkR c sa tk x z) (fun (_ : Unit) => [wO o (a 0) (b 0) (d 0) (i 0) (g 0) N tn, wT cI (o 1) 160 tr, wT cI (o 2) N sp, wU cL (o 3) N wh, wU cL (o 4) N ow, wS cI b (a 0) (a 1) (a 2) N rw nm bf fe, wT cI (b 1) (N + 1) (nF oo), wS cI d (a 0) (a 2) (a 1) N rx nn bg fx, wT cI (d 1) (N + 1) (nF ox), wA cI cZ a c fr tt sa (mkF c sa tk x z), wI cI cZ i op sl oi nd lp tl, wG cI g go gt]) := by
  refine q_ofW (Qc := fun A => (va_Qi (fun r (_ : Unit) => r = mkR c sa tk x z) (fun u t => mAt D (tY cI cZ cL) A ((fun (_ : Unit) => [wO o (a 0) (b 0) (d 0) (i 0) (g 0) N tn, wT cI (o 1) 160 tr, wT cI (o 2) N sp, wU cL (o 3) N wh, wU cL (o 4) N ow, wS cI b (a 0) (a 1) (a 2) N rw nm bf fe, wT cI (b 1) (N + 1) (nF oo), wS cI d (a 0) (a 2) (a 1) N rx nn bg fx, wT cI (d 1) (N + 1) (nF ox), wA cI cZ a c fr tt sa (mkF c sa tk x z), wI cI cZ i op sl oi nd lp tl, wG cI g go gt]) u) t) A)) (cc := cX4_mark) (maxL := 3) (ret := (some .int)) (by decide) rfl (Nat.le_of_ble_eq_true rfl) ?_
  intro pz ez sz mz bz tz cz hx hb hml hr hlocks hts hown hK hP A hD hA ls hl
  have hS : va_S A sz.heap sz.heap [] := va_S.rf
  have hl : lv_has ls 3 [(0, .ref (o 0)), (1, .int x), (2, .int z)] := hl
  refine lv_aload_n hx hb dX4_mark_0 rfl (lv_at hl 0 rfl) ?_
  refine q_get (D := D) (ci := 4) (v := .ref (a 0)) (C := RX4) (T := TX4) (N := 11) hx hb hts (by decide +kernel) hown hK hP 0 0 rfl rfl rfl 1 (by decide) (hts (.fieldLink RX4 25 "OffsetRows" "arcs" "LOffsetRows$ArcList;") (by decide +kernel)) (fun _ h9 => h9) rfl dX4_mark_1 ?_
  refine lv_iload_n hx hb dX4_mark_4 rfl (lv_at hl 1 rfl) ?_
  refine q_callVi (index := 115) (n := 1) (As := [.int x]) (rest := []) (js := [9]) (ci := 0) ⟨hx, hb, hml, hown, hts⟩ hK hP hD hS hA (k0_has l D cI cZ cL a c fr tt sa tk x (by omega)) rfl (by decide) (fun _ => by simp only [List.map_cons, List.map_nil, wA_fst]) (fun (_ : Unit) => [wO o (a 0) (b 0) (d 0) (i 0) (g 0) N tn, wT cI (o 1) 160 tr, wT cI (o 2) N sp, wU cL (o 3) N wh, wU cL (o 4) N ow, wS cI b (a 0) (a 1) (a 2) N rw nm bf fe, wT cI (b 1) (N + 1) (nF oo), wS cI d (a 0) (a 2) (a 1) N rx nn bg fx, wT cI (d 1) (N + 1) (nF ox), wA cI cZ a c fr tt sa tk, wI cI cZ i op sl oi nd lp tl, wG cI g go gt]) (fun _ => rfl) gX4_mark_X0_has rfl (by decide +kernel) rfl ⟨by decide, by decide⟩ rfl rfl rfl rfl hl.1 (Nat.le_of_ble_eq_true rfl) ⟨(Nat.zero_le _), (Nat.zero_le _)⟩ dX4_mark_5 rfl (fun r _ H locs hw hP hD hS => ?_)
  have hw : r = bI (hasB c x) := hw
  subst hw
  refine lv_if_ne (tgt := 14) hx hb dX4_mark_8 (by decide) (fun c_8 => ?_) (fun c_8 => ?_)
  ·
    have n_8 : (hasB c x) = true := bI_n.mp c_8
    refine lv_aload_n hx hb dX4_mark_14 rfl (lv_at hl 0 rfl) ?_
    refine q_get (D := D) (ci := 4) (v := .ref (a 0)) (C := RX4) (T := TX4) (N := 11) hx hb hts (by decide +kernel) hown hK hP 0 0 rfl rfl rfl 1 (by decide) (hts (.fieldLink RX4 25 "OffsetRows" "arcs" "LOffsetRows$ArcList;") (by decide +kernel)) (fun _ h9 => h9) rfl dX4_mark_15 ?_
    refine q_get (D := D) (ci := 0) (v := .ref (a 3)) (C := RX0) (T := TX0) (N := 5) hx hb hts (by decide +kernel) hown hK hP 9 0 rfl rfl rfl 2 (by decide) (hts (.fieldLink RX4 118 "OffsetRows$ArcList" "state" "[I") (by decide +kernel)) (fun _ h9 => h9) rfl dX4_mark_18 ?_
    refine lv_iload_n hx hb dX4_mark_21 rfl (lv_at hl 1 rfl) ?_
    refine q_iald hx hb hK hP 9 3 0 rfl (f := sa) rfl rfl (k := x.toNatClampNeg) rfl (hasB_in n_8 hc (by decide)) dX4_mark_22 ?_
    refine lv_iconst (v := (2 : Int32)) hx hb dX4_mark_23 (by decide) ?_
    refine lv_icmp_ne (tgt := 30) hx hb dX4_mark_24 (by decide) (fun c_24 => ?_) (fun c_24 => ?_)
    ·
      refine lv_aload_n hx hb dX4_mark_30 rfl (lv_at hl 0 rfl) ?_
      refine q_get (D := D) (ci := 4) (v := .ref (a 0)) (C := RX4) (T := TX4) (N := 11) hx hb hts (by decide +kernel) hown hK hP 0 0 rfl rfl rfl 1 (by decide) (hts (.fieldLink RX4 25 "OffsetRows" "arcs" "LOffsetRows$ArcList;") (by decide +kernel)) (fun _ h9 => h9) rfl dX4_mark_31 ?_
      refine q_get (D := D) (ci := 0) (v := .ref (a 4)) (C := RX0) (T := TX0) (N := 5) hx hb hts (by decide +kernel) hown hK hP 9 0 rfl rfl rfl 3 (by decide) (hts (.fieldLink RX4 121 "OffsetRows$ArcList" "taken" "[Z") (by decide +kernel)) (fun _ h9 => h9) rfl dX4_mark_34 ?_
      refine lv_iload_n hx hb dX4_mark_37 rfl (lv_at hl 1 rfl) ?_
      refine q_zald hx hb hK hP 9 4 1 rfl (f := tk) rfl rfl (k := x.toNatClampNeg) rfl (hasB_in n_8 hc (by decide)) dX4_mark_38 ?_
      refine lv_iload_n hx hb dX4_mark_39 rfl (lv_at hl 2 rfl) ?_
      refine lv_icmp_ne (tgt := 45) hx hb dX4_mark_40 (by decide) (fun c_40 => ?_) (fun c_40 => ?_)
      ·
        refine lv_aload_n hx hb dX4_mark_45 rfl (lv_at hl 0 rfl) ?_
        refine q_get (D := D) (ci := 4) (v := .ref (a 0)) (C := RX4) (T := TX4) (N := 11) hx hb hts (by decide +kernel) hown hK hP 0 0 rfl rfl rfl 1 (by decide) (hts (.fieldLink RX4 25 "OffsetRows" "arcs" "LOffsetRows$ArcList;") (by decide +kernel)) (fun _ h9 => h9) rfl dX4_mark_46 ?_
        refine q_get (D := D) (ci := 0) (v := .ref (a 4)) (C := RX0) (T := TX0) (N := 5) hx hb hts (by decide +kernel) hown hK hP 9 0 rfl rfl rfl 3 (by decide) (hts (.fieldLink RX4 121 "OffsetRows$ArcList" "taken" "[Z") (by decide +kernel)) (fun _ h9 => h9) rfl dX4_mark_49 ?_
        refine lv_iload_n hx hb dX4_mark_52 rfl (lv_at hl 1 rfl) ?_
        refine lv_iload_n hx hb dX4_mark_53 rfl (lv_at hl 2 rfl) ?_
        refine q_zast hx hb hK hP hD hS 9 4 1 rfl (f := tk) rfl rfl (k := x.toNatClampNeg) rfl (hasB_in n_8 hc (by decide)) hz dX4_mark_54 wA_s_tk (Fs' := [wO o (a 0) (b 0) (d 0) (i 0) (g 0) N tn, wT cI (o 1) 160 tr, wT cI (o 2) N sp, wU cL (o 3) N wh, wU cL (o 4) N ow, wS cI b (a 0) (a 1) (a 2) N rw nm bf fe, wT cI (b 1) (N + 1) (nF oo), wS cI d (a 0) (a 2) (a 1) N rx nn bg fx, wT cI (d 1) (N + 1) (nF ox), wA cI cZ a c fr tt sa (upd tk x.toNatClampNeg z), wI cI cZ i op sl oi nd lp tl, wG cI g go gt]) rfl (fun H locs hP hD hS => ?_)
        refine lv_iconst (v := (1 : Int32)) hx hb dX4_mark_55 (by decide) ?_
        exact q_iret (()) hx hb hr hlocks hK hP hD hS (by simp [mkR, mkF, n_8, c_24, c_40]) (by simp [mkR, mkF, n_8, c_24, c_40]) dX4_mark_56
      ·
        refine lv_iconst (v := (0 : Int32)) hx hb dX4_mark_43 (by decide) ?_
        exact q_iret (()) hx hb hr hlocks hK hP hD hS (by simp [mkR, mkF, n_8, c_24, c_40]) (by simp [mkR, mkF, n_8, c_24, c_40]) dX4_mark_44
    ·
      refine lv_bipush (v := (-5)) hx hb dX4_mark_27 (by decide) ?_
      exact q_iret (()) hx hb hr hlocks hK hP hD hS (by simp [mkR, mkF, n_8, c_24]) (by simp [mkR, mkF, n_8, c_24]) dX4_mark_29
  ·
    have n_8 : (hasB c x) = false := bI_0.mp c_8
    refine lv_bipush (v := (-2)) hx hb dX4_mark_11 (by decide) ?_
    exact q_iret (()) hx hb hr hlocks hK hP hD hS (by simp [mkR, mkF, n_8]) (by simp [mkR, mkF, n_8]) dX4_mark_13

set_option maxHeartbeats 8000000 in
set_option maxRecDepth 100000 in
theorem k4_take (l : Launch) (D : va_G) (cI cZ cL : ClassId) (o : Nat → Nat) (N : Nat) (tn : Nat) (tr : Nat → Int32) (sp : Nat → Int32) (wh : Nat → Int64) (ow : Nat → Int64) (b : Nat → Nat) (rw : Nat → Int32) (nm : Nat → Int32) (bf : Nat → Int32) (fe : Nat → Int32) (d : Nat → Nat) (rx : Nat → Int32) (nn : Nat → Int32) (bg : Nat → Int32) (fx : Nat → Int32) (a : Nat → Nat) (c : Nat) (fr : Nat → Int32) (tt : Nat → Int32) (sa : Nat → Int32) (tk : Nat → Int32) (i : Nat → Nat) (op : Nat → Int32) (sl : Nat → Int32) (oi : Nat → Int32) (nd : Nat → Int32) (lp : Nat → Int32) (tl : Nat → Int32) (g : Nat → Nat) (go : Nat → Int32) (gt : Nat → Int32) (oo : Nat → Nat) (ox : Nat → Nat) (x : Int32) (hc : c ≤ 160) : McI l D (tY cI cZ cL) yX4_take wsX4_take 2 43 [.ref (o 0), .int x] ([wO o (a 0) (b 0) (d 0) (i 0) (g 0) N tn, wT cI (o 1) 160 tr, wT cI (o 2) N sp, wU cL (o 3) N wh, wU cL (o 4) N ow, wS cI b (a 0) (a 1) (a 2) N rw nm bf fe, wT cI (b 1) (N + 1) (nF oo), wS cI d (a 0) (a 2) (a 1) N rx nn bg fx, wT cI (d 1) (N + 1) (nF ox), wA cI cZ a c fr tt sa tk, wI cI cZ i op sl oi nd lp tl, wG cI g go gt]) (fun r (_ : Unit) => r = mkR c sa tk x 1) (fun (_ : Unit) => [wO o (a 0) (b 0) (d 0) (i 0) (g 0) N tn, wT cI (o 1) 160 tr, wT cI (o 2) N sp, wU cL (o 3) N wh, wU cL (o 4) N ow, wS cI b (a 0) (a 1) (a 2) N rw nm bf fe, wT cI (b 1) (N + 1) (nF oo), wS cI d (a 0) (a 2) (a 1) N rx nn bg fx, wT cI (d 1) (N + 1) (nF ox), wA cI cZ a c fr tt sa (mkF c sa tk x 1), wI cI cZ i op sl oi nd lp tl, wG cI g go gt]) := by
  refine q_ofW (Qc := fun A => (va_Qi (fun r (_ : Unit) => r = mkR c sa tk x 1) (fun u t => mAt D (tY cI cZ cL) A ((fun (_ : Unit) => [wO o (a 0) (b 0) (d 0) (i 0) (g 0) N tn, wT cI (o 1) 160 tr, wT cI (o 2) N sp, wU cL (o 3) N wh, wU cL (o 4) N ow, wS cI b (a 0) (a 1) (a 2) N rw nm bf fe, wT cI (b 1) (N + 1) (nF oo), wS cI d (a 0) (a 2) (a 1) N rx nn bg fx, wT cI (d 1) (N + 1) (nF ox), wA cI cZ a c fr tt sa (mkF c sa tk x 1), wI cI cZ i op sl oi nd lp tl, wG cI g go gt]) u) t) A)) (cc := cX4_take) (maxL := 2) (ret := (some .int)) (by decide) rfl (Nat.le_of_ble_eq_true rfl) ?_
  intro pz ez sz mz bz tz cz hx hb hml hr hlocks hts hown hK hP A hD hA ls hl
  have hS : va_S A sz.heap sz.heap [] := va_S.rf
  have hl : lv_has ls 2 [(0, .ref (o 0)), (1, .int x)] := hl
  refine lv_aload_n hx hb dX4_take_0 rfl (lv_at hl 0 rfl) ?_
  refine lv_iload_n hx hb dX4_take_1 rfl (lv_at hl 1 rfl) ?_
  refine lv_iconst (v := (1 : Int32)) hx hb dX4_take_2 (by decide) ?_
  refine q_callVi (index := 86) (n := 2) (As := [.int x, .int (1 : Int32)]) (rest := []) (js := [0, 1, 2, 3, 4, 5, 6, 7, 8, 9, 10, 11]) (ci := 4) ⟨hx, hb, hml, hown, hts⟩ hK hP hD hS hA (k4_mark l D cI cZ cL o N tn tr sp wh ow b rw nm bf fe d rx nn bg fx a c fr tt sa tk i op sl oi nd lp tl g go gt oo ox x (1 : Int32) (by omega) rfl) rfl (by decide) (fun _ => by simp only [List.map_cons, List.map_nil, wA_fst, wG_fst, wI_fst, wO_fst, wS_fst, wT_fst, wU_fst]) (fun (_ : Unit) => [wO o (a 0) (b 0) (d 0) (i 0) (g 0) N tn, wT cI (o 1) 160 tr, wT cI (o 2) N sp, wU cL (o 3) N wh, wU cL (o 4) N ow, wS cI b (a 0) (a 1) (a 2) N rw nm bf fe, wT cI (b 1) (N + 1) (nF oo), wS cI d (a 0) (a 2) (a 1) N rx nn bg fx, wT cI (d 1) (N + 1) (nF ox), wA cI cZ a c fr tt sa (mkF c sa tk x (1 : Int32)), wI cI cZ i op sl oi nd lp tl, wG cI g go gt]) (fun _ => rfl) gX4_take_X4_mark rfl (by decide +kernel) rfl ⟨by decide, by decide⟩ rfl rfl rfl rfl hl.1 (Nat.le_of_ble_eq_true rfl) ⟨(Nat.zero_le _), (Nat.zero_le _)⟩ dX4_take_3 rfl (fun r _ H locs hw hP hD hS => ?_)
  have hw : r = mkR c sa tk x (1 : Int32) := hw
  subst hw
  exact q_iret (()) hx hb hr hlocks hK hP hD hS (rfl) (rfl) dX4_take_6

set_option maxHeartbeats 8000000 in
set_option maxRecDepth 100000 in
theorem k4_untake (l : Launch) (D : va_G) (cI cZ cL : ClassId) (o : Nat → Nat) (N : Nat) (tn : Nat) (tr : Nat → Int32) (sp : Nat → Int32) (wh : Nat → Int64) (ow : Nat → Int64) (b : Nat → Nat) (rw : Nat → Int32) (nm : Nat → Int32) (bf : Nat → Int32) (fe : Nat → Int32) (d : Nat → Nat) (rx : Nat → Int32) (nn : Nat → Int32) (bg : Nat → Int32) (fx : Nat → Int32) (a : Nat → Nat) (c : Nat) (fr : Nat → Int32) (tt : Nat → Int32) (sa : Nat → Int32) (tk : Nat → Int32) (i : Nat → Nat) (op : Nat → Int32) (sl : Nat → Int32) (oi : Nat → Int32) (nd : Nat → Int32) (lp : Nat → Int32) (tl : Nat → Int32) (g : Nat → Nat) (go : Nat → Int32) (gt : Nat → Int32) (oo : Nat → Nat) (ox : Nat → Nat) (x : Int32) (hc : c ≤ 160) : McI l D (tY cI cZ cL) yX4_untake wsX4_untake 2 43 [.ref (o 0), .int x] ([wO o (a 0) (b 0) (d 0) (i 0) (g 0) N tn, wT cI (o 1) 160 tr, wT cI (o 2) N sp, wU cL (o 3) N wh, wU cL (o 4) N ow, wS cI b (a 0) (a 1) (a 2) N rw nm bf fe, wT cI (b 1) (N + 1) (nF oo), wS cI d (a 0) (a 2) (a 1) N rx nn bg fx, wT cI (d 1) (N + 1) (nF ox), wA cI cZ a c fr tt sa tk, wI cI cZ i op sl oi nd lp tl, wG cI g go gt]) (fun r (_ : Unit) => r = mkR c sa tk x 0) (fun (_ : Unit) => [wO o (a 0) (b 0) (d 0) (i 0) (g 0) N tn, wT cI (o 1) 160 tr, wT cI (o 2) N sp, wU cL (o 3) N wh, wU cL (o 4) N ow, wS cI b (a 0) (a 1) (a 2) N rw nm bf fe, wT cI (b 1) (N + 1) (nF oo), wS cI d (a 0) (a 2) (a 1) N rx nn bg fx, wT cI (d 1) (N + 1) (nF ox), wA cI cZ a c fr tt sa (mkF c sa tk x 0), wI cI cZ i op sl oi nd lp tl, wG cI g go gt]) := by
  refine q_ofW (Qc := fun A => (va_Qi (fun r (_ : Unit) => r = mkR c sa tk x 0) (fun u t => mAt D (tY cI cZ cL) A ((fun (_ : Unit) => [wO o (a 0) (b 0) (d 0) (i 0) (g 0) N tn, wT cI (o 1) 160 tr, wT cI (o 2) N sp, wU cL (o 3) N wh, wU cL (o 4) N ow, wS cI b (a 0) (a 1) (a 2) N rw nm bf fe, wT cI (b 1) (N + 1) (nF oo), wS cI d (a 0) (a 2) (a 1) N rx nn bg fx, wT cI (d 1) (N + 1) (nF ox), wA cI cZ a c fr tt sa (mkF c sa tk x 0), wI cI cZ i op sl oi nd lp tl, wG cI g go gt]) u) t) A)) (cc := cX4_untake) (maxL := 2) (ret := (some .int)) (by decide) rfl (Nat.le_of_ble_eq_true rfl) ?_
  intro pz ez sz mz bz tz cz hx hb hml hr hlocks hts hown hK hP A hD hA ls hl
  have hS : va_S A sz.heap sz.heap [] := va_S.rf
  have hl : lv_has ls 2 [(0, .ref (o 0)), (1, .int x)] := hl
  refine lv_aload_n hx hb dX4_untake_0 rfl (lv_at hl 0 rfl) ?_
  refine lv_iload_n hx hb dX4_untake_1 rfl (lv_at hl 1 rfl) ?_
  refine lv_iconst (v := (0 : Int32)) hx hb dX4_untake_2 (by decide) ?_
  refine q_callVi (index := 86) (n := 2) (As := [.int x, .int (0 : Int32)]) (rest := []) (js := [0, 1, 2, 3, 4, 5, 6, 7, 8, 9, 10, 11]) (ci := 4) ⟨hx, hb, hml, hown, hts⟩ hK hP hD hS hA (k4_mark l D cI cZ cL o N tn tr sp wh ow b rw nm bf fe d rx nn bg fx a c fr tt sa tk i op sl oi nd lp tl g go gt oo ox x (0 : Int32) (by omega) rfl) rfl (by decide) (fun _ => by simp only [List.map_cons, List.map_nil, wA_fst, wG_fst, wI_fst, wO_fst, wS_fst, wT_fst, wU_fst]) (fun (_ : Unit) => [wO o (a 0) (b 0) (d 0) (i 0) (g 0) N tn, wT cI (o 1) 160 tr, wT cI (o 2) N sp, wU cL (o 3) N wh, wU cL (o 4) N ow, wS cI b (a 0) (a 1) (a 2) N rw nm bf fe, wT cI (b 1) (N + 1) (nF oo), wS cI d (a 0) (a 2) (a 1) N rx nn bg fx, wT cI (d 1) (N + 1) (nF ox), wA cI cZ a c fr tt sa (mkF c sa tk x (0 : Int32)), wI cI cZ i op sl oi nd lp tl, wG cI g go gt]) (fun _ => rfl) gX4_untake_X4_mark rfl (by decide +kernel) rfl ⟨by decide, by decide⟩ rfl rfl rfl rfl hl.1 (Nat.le_of_ble_eq_true rfl) ⟨(Nat.zero_le _), (Nat.zero_le _)⟩ dX4_untake_3 rfl (fun r _ H locs hw hP hD hS => ?_)
  have hw : r = mkR c sa tk x (0 : Int32) := hw
  subst hw
  exact q_iret (()) hx hb hr hlocks hK hP hD hS (rfl) (rfl) dX4_untake_6

set_option maxHeartbeats 8000000 in
set_option maxRecDepth 100000 in
theorem k4_buildRows (l : Launch) (D : va_G) (cI cZ cL : ClassId) (o : Nat → Nat) (N : Nat) (tn : Nat) (tr : Nat → Int32) (sp : Nat → Int32) (wh : Nat → Int64) (ow : Nat → Int64) (b : Nat → Nat) (rw : Nat → Int32) (nm : Nat → Int32) (bf : Nat → Int32) (fe : Nat → Int32) (d : Nat → Nat) (rx : Nat → Int32) (nn : Nat → Int32) (bg : Nat → Int32) (fx : Nat → Int32) (a : Nat → Nat) (c : Nat) (fr : Nat → Int32) (tt : Nat → Int32) (sa : Nat → Int32) (tk : Nat → Int32) (i : Nat → Nat) (op : Nat → Int32) (sl : Nat → Int32) (oi : Nat → Int32) (nd : Nat → Int32) (lp : Nat → Int32) (tl : Nat → Int32) (g : Nat → Nat) (go : Nat → Int32) (gt : Nat → Int32) (oo : Nat → Nat) (ox : Nat → Nat) (hc : c ≤ 160) (hN : N ≤ 24) (hfr : ∀ j, j < c → vp_in (fr j) N) (htt : ∀ j, j < c → vp_in (tt j) N) : McV l D (tY cI cZ cL) yX4_buildRows wsX4_buildRows 3 87 [.ref (o 0)] ([wO o (a 0) (b 0) (d 0) (i 0) (g 0) N tn, wT cI (o 1) 160 tr, wT cI (o 2) N sp, wU cL (o 3) N wh, wU cL (o 4) N ow, wS cI b (a 0) (a 1) (a 2) N rw nm bf fe, wT cI (b 1) (N + 1) (nF oo), wS cI d (a 0) (a 2) (a 1) N rx nn bg fx, wT cI (d 1) (N + 1) (nF ox), wA cI cZ a c fr tt sa tk, wI cI cZ i op sl oi nd lp tl, wG cI g go gt]) (fun (u : uT × uT) => rowsOK (c) (sa) (fr) (tt) u.1.1 u.1.2.1 ∧ rowsOK (c) (sa) (tt) (fr) u.2.1 u.2.2.1) (fun (u : uT × uT) => [wO o (a 0) (b 0) (d 0) (i 0) (g 0) N tn, wT cI (o 1) 160 tr, wT cI (o 2) N sp, wU cL (o 3) N wh, wU cL (o 4) N ow, wS cI b (a 0) (a 1) (a 2) N u.1.2.1 u.1.2.2.1 u.1.2.2.2.1 u.1.2.2.2.2, wT cI (b 1) (N + 1) (nF u.1.1), wS cI d (a 0) (a 2) (a 1) N u.2.2.1 u.2.2.2.1 u.2.2.2.2.1 u.2.2.2.2.2, wT cI (d 1) (N + 1) (nF u.2.1), wA cI cZ a c fr tt sa tk, wI cI cZ i op sl oi nd lp tl, wG cI g go gt]) := by
  refine q_ofW (Qc := fun A => (va_Qv (fun (u : uT × uT) => rowsOK (c) (sa) (fr) (tt) u.1.1 u.1.2.1 ∧ rowsOK (c) (sa) (tt) (fr) u.2.1 u.2.2.1) (fun u t => mAt D (tY cI cZ cL) A ((fun (u : uT × uT) => [wO o (a 0) (b 0) (d 0) (i 0) (g 0) N tn, wT cI (o 1) 160 tr, wT cI (o 2) N sp, wU cL (o 3) N wh, wU cL (o 4) N ow, wS cI b (a 0) (a 1) (a 2) N u.1.2.1 u.1.2.2.1 u.1.2.2.2.1 u.1.2.2.2.2, wT cI (b 1) (N + 1) (nF u.1.1), wS cI d (a 0) (a 2) (a 1) N u.2.2.1 u.2.2.2.1 u.2.2.2.2.1 u.2.2.2.2.2, wT cI (d 1) (N + 1) (nF u.2.1), wA cI cZ a c fr tt sa tk, wI cI cZ i op sl oi nd lp tl, wG cI g go gt]) u) t) A)) (cc := cX4_buildRows) (maxL := 1) (ret := none) (by decide) rfl (Nat.le_of_ble_eq_true rfl) ?_
  intro pz ez sz mz bz tz cz hx hb hml hr hlocks hts hown hK hP A hD hA ls hl
  have hS : va_S A sz.heap sz.heap [] := va_S.rf
  have hl : lv_has ls 1 [(0, .ref (o 0))] := hl
  refine lv_aload_n hx hb dX4_buildRows_0 rfl (lv_at hl 0 rfl) ?_
  refine q_get (D := D) (ci := 4) (v := .ref (b 0)) (C := RX4) (T := TX4) (N := 11) hx hb hts (by decide +kernel) hown hK hP 0 0 rfl rfl rfl 2 (by decide) (hts (.fieldLink RX4 41 "OffsetRows" "outSide" "LOffsetRows$Side;") (by decide +kernel)) (fun _ h9 => h9) rfl dX4_buildRows_1 ?_
  refine q_callVv (index := 215) (n := 0) (As := []) (rest := []) (js := [5, 6, 9]) (ci := 3) ⟨hx, hb, hml, hown, hts⟩ hK hP hD hS hA (k3o_build l D cI cZ cL b N rw nm bf fe (nF oo) a c fr tt sa tk (by omega) (by omega) hfr htt) rfl (by decide) (fun _ => by simp only [List.map_cons, List.map_nil, wA_fst, wS_fst, wT_fst]) (fun (u_1 : uT) => [wO o (a 0) (b 0) (d 0) (i 0) (g 0) N tn, wT cI (o 1) 160 tr, wT cI (o 2) N sp, wU cL (o 3) N wh, wU cL (o 4) N ow, wS cI b (a 0) (a 1) (a 2) N u_1.2.1 u_1.2.2.1 u_1.2.2.2.1 u_1.2.2.2.2, wT cI (b 1) (N + 1) (nF u_1.1), wS cI d (a 0) (a 2) (a 1) N rx nn bg fx, wT cI (d 1) (N + 1) (nF ox), wA cI cZ a c fr tt sa tk, wI cI cZ i op sl oi nd lp tl, wG cI g go gt]) (fun _ => rfl) gX4_buildRows_X3_build rfl (by decide +kernel) rfl ⟨by decide, by decide⟩ rfl rfl rfl rfl hl.1 (Nat.le_of_ble_eq_true rfl) ⟨(Nat.zero_le _), (Nat.zero_le _)⟩ dX4_buildRows_4 rfl (fun u_1 H locs hw hP hD hS => ?_)
  have hpu_4 := hw
  have hP : va_P D vwCl (List.flatten [wO o (a 0) (b 0) (d 0) (i 0) (g 0) N tn, wT cI (o 1) 160 tr, wT cI (o 2) N sp, wU cL (o 3) N wh, wU cL (o 4) N ow, wS cI b (a 0) (a 1) (a 2) N u_1.2.1 u_1.2.2.1 u_1.2.2.2.1 u_1.2.2.2.2, wT cI (b 1) (N + 1) (nF u_1.1), wS cI d (a 0) (a 2) (a 1) N rx nn bg fx, wT cI (d 1) (N + 1) (nF ox), wA cI cZ a c fr tt sa tk, wI cI cZ i op sl oi nd lp tl, wG cI g go gt]) _ := hP
  have hD : va_D A (List.flatten [wO o (a 0) (b 0) (d 0) (i 0) (g 0) N tn, wT cI (o 1) 160 tr, wT cI (o 2) N sp, wU cL (o 3) N wh, wU cL (o 4) N ow, wS cI b (a 0) (a 1) (a 2) N u_1.2.1 u_1.2.2.1 u_1.2.2.2.1 u_1.2.2.2.2, wT cI (b 1) (N + 1) (nF u_1.1), wS cI d (a 0) (a 2) (a 1) N rx nn bg fx, wT cI (d 1) (N + 1) (nF ox), wA cI cZ a c fr tt sa tk, wI cI cZ i op sl oi nd lp tl, wG cI g go gt]) := hD
  refine lv_aload_n hx hb dX4_buildRows_7 rfl (lv_at hl 0 rfl) ?_
  refine q_get (D := D) (ci := 4) (v := .ref (d 0)) (C := RX4) (T := TX4) (N := 11) hx hb hts (by decide +kernel) hown hK hP 0 0 rfl rfl rfl 3 (by decide) (hts (.fieldLink RX4 45 "OffsetRows" "inSide" "LOffsetRows$Side;") (by decide +kernel)) (fun _ h9 => h9) rfl dX4_buildRows_8 ?_
  refine q_callVv (index := 215) (n := 0) (As := []) (rest := []) (js := [7, 8, 9]) (ci := 3) ⟨hx, hb, hml, hown, hts⟩ hK hP hD hS hA (k3i_build l D cI cZ cL d N rx nn bg fx (nF ox) a c fr tt sa tk (by omega) (by omega) hfr htt) rfl (by decide) (fun _ => by simp only [List.map_cons, List.map_nil, wA_fst, wS_fst, wT_fst]) (fun (u_2 : uT) => [wO o (a 0) (b 0) (d 0) (i 0) (g 0) N tn, wT cI (o 1) 160 tr, wT cI (o 2) N sp, wU cL (o 3) N wh, wU cL (o 4) N ow, wS cI b (a 0) (a 1) (a 2) N u_1.2.1 u_1.2.2.1 u_1.2.2.2.1 u_1.2.2.2.2, wT cI (b 1) (N + 1) (nF u_1.1), wS cI d (a 0) (a 2) (a 1) N u_2.2.1 u_2.2.2.1 u_2.2.2.2.1 u_2.2.2.2.2, wT cI (d 1) (N + 1) (nF u_2.1), wA cI cZ a c fr tt sa tk, wI cI cZ i op sl oi nd lp tl, wG cI g go gt]) (fun _ => rfl) gX4_buildRows_X3_build rfl (by decide +kernel) rfl ⟨by decide, by decide⟩ rfl rfl rfl rfl hl.1 (Nat.le_of_ble_eq_true rfl) ⟨(Nat.zero_le _), (Nat.zero_le _)⟩ dX4_buildRows_11 rfl (fun u_2 H locs hw hP hD hS => ?_)
  have hpu_11 := hw
  have hP : va_P D vwCl (List.flatten [wO o (a 0) (b 0) (d 0) (i 0) (g 0) N tn, wT cI (o 1) 160 tr, wT cI (o 2) N sp, wU cL (o 3) N wh, wU cL (o 4) N ow, wS cI b (a 0) (a 1) (a 2) N u_1.2.1 u_1.2.2.1 u_1.2.2.2.1 u_1.2.2.2.2, wT cI (b 1) (N + 1) (nF u_1.1), wS cI d (a 0) (a 2) (a 1) N u_2.2.1 u_2.2.2.1 u_2.2.2.2.1 u_2.2.2.2.2, wT cI (d 1) (N + 1) (nF u_2.1), wA cI cZ a c fr tt sa tk, wI cI cZ i op sl oi nd lp tl, wG cI g go gt]) _ := hP
  have hD : va_D A (List.flatten [wO o (a 0) (b 0) (d 0) (i 0) (g 0) N tn, wT cI (o 1) 160 tr, wT cI (o 2) N sp, wU cL (o 3) N wh, wU cL (o 4) N ow, wS cI b (a 0) (a 1) (a 2) N u_1.2.1 u_1.2.2.1 u_1.2.2.2.1 u_1.2.2.2.2, wT cI (b 1) (N + 1) (nF u_1.1), wS cI d (a 0) (a 2) (a 1) N u_2.2.1 u_2.2.2.1 u_2.2.2.2.1 u_2.2.2.2.2, wT cI (d 1) (N + 1) (nF u_2.1), wA cI cZ a c fr tt sa tk, wI cI cZ i op sl oi nd lp tl, wG cI g go gt]) := hD
  exact q_vret ((u_1, u_2)) hx hb hr hlocks hK hP hD hS (⟨hpu_4, hpu_11⟩) (rfl) dX4_buildRows_14

set_option maxHeartbeats 8000000 in
set_option maxRecDepth 100000 in
theorem k4_buildAnew (l : Launch) (D : va_G) (cI cZ cL : ClassId) (o : Nat → Nat) (N : Nat) (tn : Nat) (tr : Nat → Int32) (sp : Nat → Int32) (wh : Nat → Int64) (ow : Nat → Int64) (b : Nat → Nat) (rw : Nat → Int32) (nm : Nat → Int32) (bf : Nat → Int32) (fe : Nat → Int32) (d : Nat → Nat) (rx : Nat → Int32) (nn : Nat → Int32) (bg : Nat → Int32) (fx : Nat → Int32) (a : Nat → Nat) (c : Nat) (fr : Nat → Int32) (tt : Nat → Int32) (sa : Nat → Int32) (tk : Nat → Int32) (i : Nat → Nat) (op : Nat → Int32) (sl : Nat → Int32) (oi : Nat → Int32) (nd : Nat → Int32) (lp : Nat → Int32) (tl : Nat → Int32) (g : Nat → Nat) (go : Nat → Int32) (gt : Nat → Int32) (oo : Nat → Nat) (ox : Nat → Nat) (hc : c ≤ 160) (hN : N ≤ 24) (hfr : ∀ j, j < c → vp_in (fr j) N) (htt : ∀ j, j < c → vp_in (tt j) N) : McI l D (tY cI cZ cL) yX4_buildAnew wsX4_buildAnew 4 107 [.ref (o 0)] ([wO o (a 0) (b 0) (d 0) (i 0) (g 0) N tn, wT cI (o 1) 160 tr, wT cI (o 2) N sp, wU cL (o 3) N wh, wU cL (o 4) N ow, wS cI b (a 0) (a 1) (a 2) N rw nm bf fe, wT cI (b 1) (N + 1) (nF oo), wS cI d (a 0) (a 2) (a 1) N rx nn bg fx, wT cI (d 1) (N + 1) (nF ox), wA cI cZ a c fr tt sa tk, wI cI cZ i op sl oi nd lp tl, wG cI g go gt]) (fun r (u : uT × uT) => r = nI (cN c (fun a => !(decide (sa a = sv tk a)))) ∧ rowsOK (c) (stS tk sa c) (fr) (tt) u.1.1 u.1.2.1 ∧ rowsOK (c) (stS tk sa c) (tt) (fr) u.2.1 u.2.2.1) (fun (u : uT × uT) => [wO o (a 0) (b 0) (d 0) (i 0) (g 0) N tn, wT cI (o 1) 160 tr, wT cI (o 2) N sp, wU cL (o 3) N wh, wU cL (o 4) N ow, wS cI b (a 0) (a 1) (a 2) N u.1.2.1 u.1.2.2.1 u.1.2.2.2.1 u.1.2.2.2.2, wT cI (b 1) (N + 1) (nF u.1.1), wS cI d (a 0) (a 2) (a 1) N u.2.2.1 u.2.2.2.1 u.2.2.2.2.1 u.2.2.2.2.2, wT cI (d 1) (N + 1) (nF u.2.1), wA cI cZ a c fr tt (stS tk sa c) tk, wI cI cZ i op (stl sl) oi nd lp tl, wG cI g go gt]) := by
  refine q_ofW (Qc := fun A => (va_Qi (fun r (u : uT × uT) => r = nI (cN c (fun a => !(decide (sa a = sv tk a)))) ∧ rowsOK (c) (stS tk sa c) (fr) (tt) u.1.1 u.1.2.1 ∧ rowsOK (c) (stS tk sa c) (tt) (fr) u.2.1 u.2.2.1) (fun u t => mAt D (tY cI cZ cL) A ((fun (u : uT × uT) => [wO o (a 0) (b 0) (d 0) (i 0) (g 0) N tn, wT cI (o 1) 160 tr, wT cI (o 2) N sp, wU cL (o 3) N wh, wU cL (o 4) N ow, wS cI b (a 0) (a 1) (a 2) N u.1.2.1 u.1.2.2.1 u.1.2.2.2.1 u.1.2.2.2.2, wT cI (b 1) (N + 1) (nF u.1.1), wS cI d (a 0) (a 2) (a 1) N u.2.2.1 u.2.2.2.1 u.2.2.2.2.1 u.2.2.2.2.2, wT cI (d 1) (N + 1) (nF u.2.1), wA cI cZ a c fr tt (stS tk sa c) tk, wI cI cZ i op (stl sl) oi nd lp tl, wG cI g go gt]) u) t) A)) (cc := cX4_buildAnew) (maxL := 2) (ret := (some .int)) (by decide) rfl (Nat.le_of_ble_eq_true rfl) ?_
  intro pz ez sz mz bz tz cz hx hb hml hr hlocks hts hown hK hP A hD hA ls hl
  have hS : va_S A sz.heap sz.heap [] := va_S.rf
  have hl : lv_has ls 2 [(0, .ref (o 0))] := hl
  refine lv_aload_n hx hb dX4_buildAnew_0 rfl (lv_at hl 0 rfl) ?_
  refine q_get (D := D) (ci := 4) (v := .ref (a 0)) (C := RX4) (T := TX4) (N := 11) hx hb hts (by decide +kernel) hown hK hP 0 0 rfl rfl rfl 1 (by decide) (hts (.fieldLink RX4 25 "OffsetRows" "arcs" "LOffsetRows$ArcList;") (by decide +kernel)) (fun _ h9 => h9) rfl dX4_buildAnew_1 ?_
  refine q_callVi (index := 212) (n := 0) (As := []) (rest := []) (js := [9]) (ci := 0) ⟨hx, hb, hml, hown, hts⟩ hK hP hD hS hA (k0_settle l D cI cZ cL a c fr tt sa tk (by omega)) rfl (by decide) (fun _ => by simp only [List.map_cons, List.map_nil, wA_fst]) (fun (_ : Unit) => [wO o (a 0) (b 0) (d 0) (i 0) (g 0) N tn, wT cI (o 1) 160 tr, wT cI (o 2) N sp, wU cL (o 3) N wh, wU cL (o 4) N ow, wS cI b (a 0) (a 1) (a 2) N rw nm bf fe, wT cI (b 1) (N + 1) (nF oo), wS cI d (a 0) (a 2) (a 1) N rx nn bg fx, wT cI (d 1) (N + 1) (nF ox), wA cI cZ a c fr tt (stS tk sa c) tk, wI cI cZ i op sl oi nd lp tl, wG cI g go gt]) (fun _ => rfl) gX4_buildAnew_X0_settle rfl (by decide +kernel) rfl ⟨by decide, by decide⟩ rfl rfl rfl rfl hl.1 (Nat.le_of_ble_eq_true rfl) ⟨(Nat.zero_le _), (Nat.zero_le _)⟩ dX4_buildAnew_4 rfl (fun r _ H locs hw hP hD hS => ?_)
  have hw : r = nI (cN c (fun a => !(decide (sa a = sv tk a)))) := hw
  subst hw
  refine lv_istore_n (lv' := [(1, .int (nI (cN c (fun a => !(decide (sa a = sv tk a)))))), (0, .ref (o 0))]) hx hb dX4_buildAnew_7 rfl hl (by decide) rfl (fun ls hl => ?_)
  refine lv_aload_n hx hb dX4_buildAnew_8 rfl (lv_at hl 1 rfl) ?_
  refine q_callVv (index := 101) (n := 0) (As := []) (rest := []) (js := [0, 1, 2, 3, 4, 5, 6, 7, 8, 9, 10, 11]) (ci := 4) ⟨hx, hb, hml, hown, hts⟩ hK hP hD hS hA (k4_buildRows l D cI cZ cL o N tn tr sp wh ow b rw nm bf fe d rx nn bg fx a c fr tt (stS tk sa c) tk i op sl oi nd lp tl g go gt oo ox (by omega) (by omega) hfr htt) rfl (by decide) (fun _ => by simp only [List.map_cons, List.map_nil, wA_fst, wG_fst, wI_fst, wO_fst, wS_fst, wT_fst, wU_fst]) (fun (u_1 : uT × uT) => [wO o (a 0) (b 0) (d 0) (i 0) (g 0) N tn, wT cI (o 1) 160 tr, wT cI (o 2) N sp, wU cL (o 3) N wh, wU cL (o 4) N ow, wS cI b (a 0) (a 1) (a 2) N u_1.1.2.1 u_1.1.2.2.1 u_1.1.2.2.2.1 u_1.1.2.2.2.2, wT cI (b 1) (N + 1) (nF u_1.1.1), wS cI d (a 0) (a 2) (a 1) N u_1.2.2.1 u_1.2.2.2.1 u_1.2.2.2.2.1 u_1.2.2.2.2.2, wT cI (d 1) (N + 1) (nF u_1.2.1), wA cI cZ a c fr tt (stS tk sa c) tk, wI cI cZ i op sl oi nd lp tl, wG cI g go gt]) (fun _ => rfl) gX4_buildAnew_X4_buildRows rfl (by decide +kernel) rfl ⟨by decide, by decide⟩ rfl rfl rfl rfl hl.1 (Nat.le_of_ble_eq_true rfl) ⟨(Nat.zero_le _), (Nat.zero_le _)⟩ dX4_buildAnew_9 rfl (fun u_1 H locs hw hP hD hS => ?_)
  have hpu_9 := hw
  have hP : va_P D vwCl (List.flatten [wO o (a 0) (b 0) (d 0) (i 0) (g 0) N tn, wT cI (o 1) 160 tr, wT cI (o 2) N sp, wU cL (o 3) N wh, wU cL (o 4) N ow, wS cI b (a 0) (a 1) (a 2) N u_1.1.2.1 u_1.1.2.2.1 u_1.1.2.2.2.1 u_1.1.2.2.2.2, wT cI (b 1) (N + 1) (nF u_1.1.1), wS cI d (a 0) (a 2) (a 1) N u_1.2.2.1 u_1.2.2.2.1 u_1.2.2.2.2.1 u_1.2.2.2.2.2, wT cI (d 1) (N + 1) (nF u_1.2.1), wA cI cZ a c fr tt (stS tk sa c) tk, wI cI cZ i op sl oi nd lp tl, wG cI g go gt]) _ := hP
  have hD : va_D A (List.flatten [wO o (a 0) (b 0) (d 0) (i 0) (g 0) N tn, wT cI (o 1) 160 tr, wT cI (o 2) N sp, wU cL (o 3) N wh, wU cL (o 4) N ow, wS cI b (a 0) (a 1) (a 2) N u_1.1.2.1 u_1.1.2.2.1 u_1.1.2.2.2.1 u_1.1.2.2.2.2, wT cI (b 1) (N + 1) (nF u_1.1.1), wS cI d (a 0) (a 2) (a 1) N u_1.2.2.1 u_1.2.2.2.1 u_1.2.2.2.2.1 u_1.2.2.2.2.2, wT cI (d 1) (N + 1) (nF u_1.2.1), wA cI cZ a c fr tt (stS tk sa c) tk, wI cI cZ i op sl oi nd lp tl, wG cI g go gt]) := hD
  refine lv_aload_n hx hb dX4_buildAnew_12 rfl (lv_at hl 1 rfl) ?_
  refine q_get (D := D) (ci := 4) (v := .ref (i 0)) (C := RX4) (T := TX4) (N := 11) hx hb hts (by decide +kernel) hown hK hP 0 0 rfl rfl rfl 4 (by decide) (hts (.fieldLink RX4 51 "OffsetRows" "iterators" "LOffsetRows$Iterators;") (by decide +kernel)) (fun _ h9 => h9) rfl dX4_buildAnew_13 ?_
  refine q_callVv (index := 201) (n := 0) (As := []) (rest := []) (js := [10]) (ci := 2) ⟨hx, hb, hml, hown, hts⟩ hK hP hD hS hA (k2_makeStale l D cI cZ cL i op sl oi nd lp tl) rfl (by decide) (fun _ => by simp only [List.map_cons, List.map_nil, wI_fst]) (fun (_ : Unit) => [wO o (a 0) (b 0) (d 0) (i 0) (g 0) N tn, wT cI (o 1) 160 tr, wT cI (o 2) N sp, wU cL (o 3) N wh, wU cL (o 4) N ow, wS cI b (a 0) (a 1) (a 2) N u_1.1.2.1 u_1.1.2.2.1 u_1.1.2.2.2.1 u_1.1.2.2.2.2, wT cI (b 1) (N + 1) (nF u_1.1.1), wS cI d (a 0) (a 2) (a 1) N u_1.2.2.1 u_1.2.2.2.1 u_1.2.2.2.2.1 u_1.2.2.2.2.2, wT cI (d 1) (N + 1) (nF u_1.2.1), wA cI cZ a c fr tt (stS tk sa c) tk, wI cI cZ i op (stl sl) oi nd lp tl, wG cI g go gt]) (fun _ => rfl) gX4_buildAnew_X2_makeStale rfl (by decide +kernel) rfl ⟨by decide, by decide⟩ rfl rfl rfl rfl hl.1 (Nat.le_of_ble_eq_true rfl) ⟨(Nat.zero_le _), (Nat.zero_le _)⟩ dX4_buildAnew_16 rfl (fun _ H locs hw hP hD hS => ?_)
  refine lv_iload_n hx hb dX4_buildAnew_19 rfl (lv_at hl 0 rfl) ?_
  exact q_iret (u_1) hx hb hr hlocks hK hP hD hS (⟨rfl, hpu_9⟩) (rfl) dX4_buildAnew_20

set_option maxHeartbeats 8000000 in
set_option maxRecDepth 100000 in
theorem k4_merge (l : Launch) (D : va_G) (cI cZ cL : ClassId) (o : Nat → Nat) (N : Nat) (tn : Nat) (tr : Nat → Int32) (sp : Nat → Int32) (wh : Nat → Int64) (ow : Nat → Int64) (b : Nat → Nat) (rw : Nat → Int32) (nm : Nat → Int32) (bf : Nat → Int32) (fe : Nat → Int32) (d : Nat → Nat) (rx : Nat → Int32) (nn : Nat → Int32) (bg : Nat → Int32) (fx : Nat → Int32) (a : Nat → Nat) (c : Nat) (fr : Nat → Int32) (tt : Nat → Int32) (sa : Nat → Int32) (tk : Nat → Int32) (i : Nat → Nat) (op : Nat → Int32) (sl : Nat → Int32) (oi : Nat → Int32) (nd : Nat → Int32) (lp : Nat → Int32) (tl : Nat → Int32) (g : Nat → Nat) (go : Nat → Int32) (gt : Nat → Int32) (oo : Nat → Nat) (ox : Nat → Nat) (hc : c ≤ 160) (hN : N ≤ 24) (hfr : ∀ j, j < c → vp_in (fr j) N) (htt : ∀ j, j < c → vp_in (tt j) N) : McI l D (tY cI cZ cL) yX4_merge wsX4_merge 5 128 [.ref (o 0)] ([wO o (a 0) (b 0) (d 0) (i 0) (g 0) N tn, wT cI (o 1) 160 tr, wT cI (o 2) N sp, wU cL (o 3) N wh, wU cL (o 4) N ow, wS cI b (a 0) (a 1) (a 2) N rw nm bf fe, wT cI (b 1) (N + 1) (nF oo), wS cI d (a 0) (a 2) (a 1) N rx nn bg fx, wT cI (d 1) (N + 1) (nF ox), wA cI cZ a c fr tt sa tk, wI cI cZ i op sl oi nd lp tl, wG cI g go gt]) (fun r (u : uT × uT) => r = nI (cN c (fun a => !(decide (sa a = sv tk a)))) ∧ rowsOK (c) (stS tk sa c) (fr) (tt) u.1.1 u.1.2.1 ∧ rowsOK (c) (stS tk sa c) (tt) (fr) u.2.1 u.2.2.1) (fun (u : uT × uT) => [wO o (a 0) (b 0) (d 0) (i 0) (g 0) N tn, wT cI (o 1) 160 tr, wT cI (o 2) N sp, wU cL (o 3) N wh, wU cL (o 4) N ow, wS cI b (a 0) (a 1) (a 2) N u.1.2.1 u.1.2.2.1 u.1.2.2.2.1 u.1.2.2.2.2, wT cI (b 1) (N + 1) (nF u.1.1), wS cI d (a 0) (a 2) (a 1) N u.2.2.1 u.2.2.2.1 u.2.2.2.2.1 u.2.2.2.2.2, wT cI (d 1) (N + 1) (nF u.2.1), wA cI cZ a c fr tt (stS tk sa c) tk, wI cI cZ i op (stl sl) oi nd lp tl, wG cI g go gt]) := by
  refine q_ofW (Qc := fun A => (va_Qi (fun r (u : uT × uT) => r = nI (cN c (fun a => !(decide (sa a = sv tk a)))) ∧ rowsOK (c) (stS tk sa c) (fr) (tt) u.1.1 u.1.2.1 ∧ rowsOK (c) (stS tk sa c) (tt) (fr) u.2.1 u.2.2.1) (fun u t => mAt D (tY cI cZ cL) A ((fun (u : uT × uT) => [wO o (a 0) (b 0) (d 0) (i 0) (g 0) N tn, wT cI (o 1) 160 tr, wT cI (o 2) N sp, wU cL (o 3) N wh, wU cL (o 4) N ow, wS cI b (a 0) (a 1) (a 2) N u.1.2.1 u.1.2.2.1 u.1.2.2.2.1 u.1.2.2.2.2, wT cI (b 1) (N + 1) (nF u.1.1), wS cI d (a 0) (a 2) (a 1) N u.2.2.1 u.2.2.2.1 u.2.2.2.2.1 u.2.2.2.2.2, wT cI (d 1) (N + 1) (nF u.2.1), wA cI cZ a c fr tt (stS tk sa c) tk, wI cI cZ i op (stl sl) oi nd lp tl, wG cI g go gt]) u) t) A)) (cc := cX4_merge) (maxL := 1) (ret := (some .int)) (by decide) rfl (Nat.le_of_ble_eq_true rfl) ?_
  intro pz ez sz mz bz tz cz hx hb hml hr hlocks hts hown hK hP A hD hA ls hl
  have hS : va_S A sz.heap sz.heap [] := va_S.rf
  have hl : lv_has ls 1 [(0, .ref (o 0))] := hl
  refine lv_aload_n hx hb dX4_merge_0 rfl (lv_at hl 0 rfl) ?_
  refine q_callVi (index := 90) (n := 0) (As := []) (rest := []) (js := [0, 1, 2, 3, 4, 5, 6, 7, 8, 9, 10, 11]) (ci := 4) ⟨hx, hb, hml, hown, hts⟩ hK hP hD hS hA (k4_buildAnew l D cI cZ cL o N tn tr sp wh ow b rw nm bf fe d rx nn bg fx a c fr tt sa tk i op sl oi nd lp tl g go gt oo ox (by omega) (by omega) hfr htt) rfl (by decide) (fun _ => by simp only [List.map_cons, List.map_nil, wA_fst, wG_fst, wI_fst, wO_fst, wS_fst, wT_fst, wU_fst]) (fun (u_1 : uT × uT) => [wO o (a 0) (b 0) (d 0) (i 0) (g 0) N tn, wT cI (o 1) 160 tr, wT cI (o 2) N sp, wU cL (o 3) N wh, wU cL (o 4) N ow, wS cI b (a 0) (a 1) (a 2) N u_1.1.2.1 u_1.1.2.2.1 u_1.1.2.2.2.1 u_1.1.2.2.2.2, wT cI (b 1) (N + 1) (nF u_1.1.1), wS cI d (a 0) (a 2) (a 1) N u_1.2.2.1 u_1.2.2.2.1 u_1.2.2.2.2.1 u_1.2.2.2.2.2, wT cI (d 1) (N + 1) (nF u_1.2.1), wA cI cZ a c fr tt (stS tk sa c) tk, wI cI cZ i op (stl sl) oi nd lp tl, wG cI g go gt]) (fun _ => rfl) gX4_merge_X4_buildAnew rfl (by decide +kernel) rfl ⟨by decide, by decide⟩ rfl rfl rfl rfl hl.1 (Nat.le_of_ble_eq_true rfl) ⟨(Nat.zero_le _), (Nat.zero_le _)⟩ dX4_merge_1 rfl (fun r u_1 H locs hw hP hD hS => ?_)
  have hpu_1 := hw.2
  have hw : r = nI (cN c (fun a => !(decide (sa a = sv tk a)))) := hw.1
  subst hw
  have hP : va_P D vwCl (List.flatten [wO o (a 0) (b 0) (d 0) (i 0) (g 0) N tn, wT cI (o 1) 160 tr, wT cI (o 2) N sp, wU cL (o 3) N wh, wU cL (o 4) N ow, wS cI b (a 0) (a 1) (a 2) N u_1.1.2.1 u_1.1.2.2.1 u_1.1.2.2.2.1 u_1.1.2.2.2.2, wT cI (b 1) (N + 1) (nF u_1.1.1), wS cI d (a 0) (a 2) (a 1) N u_1.2.2.1 u_1.2.2.2.1 u_1.2.2.2.2.1 u_1.2.2.2.2.2, wT cI (d 1) (N + 1) (nF u_1.2.1), wA cI cZ a c fr tt (stS tk sa c) tk, wI cI cZ i op (stl sl) oi nd lp tl, wG cI g go gt]) _ := hP
  have hD : va_D A (List.flatten [wO o (a 0) (b 0) (d 0) (i 0) (g 0) N tn, wT cI (o 1) 160 tr, wT cI (o 2) N sp, wU cL (o 3) N wh, wU cL (o 4) N ow, wS cI b (a 0) (a 1) (a 2) N u_1.1.2.1 u_1.1.2.2.1 u_1.1.2.2.2.1 u_1.1.2.2.2.2, wT cI (b 1) (N + 1) (nF u_1.1.1), wS cI d (a 0) (a 2) (a 1) N u_1.2.2.1 u_1.2.2.2.1 u_1.2.2.2.2.1 u_1.2.2.2.2.2, wT cI (d 1) (N + 1) (nF u_1.2.1), wA cI cZ a c fr tt (stS tk sa c) tk, wI cI cZ i op (stl sl) oi nd lp tl, wG cI g go gt]) := hD
  exact q_iret (u_1) hx hb hr hlocks hK hP hD hS (⟨rfl, hpu_1⟩) (rfl) dX4_merge_4

set_option maxHeartbeats 8000000 in
set_option maxRecDepth 100000 in
theorem k4_pack (l : Launch) (D : va_G) (cI cZ cL : ClassId) (o : Nat → Nat) (N : Nat) (tn : Nat) (tr : Nat → Int32) (sp : Nat → Int32) (wh : Nat → Int64) (ow : Nat → Int64) (b : Nat → Nat) (rw : Nat → Int32) (nm : Nat → Int32) (bf : Nat → Int32) (fe : Nat → Int32) (d : Nat → Nat) (rx : Nat → Int32) (nn : Nat → Int32) (bg : Nat → Int32) (fx : Nat → Int32) (a : Nat → Nat) (c : Nat) (fr : Nat → Int32) (tt : Nat → Int32) (sa : Nat → Int32) (tk : Nat → Int32) (i : Nat → Nat) (op : Nat → Int32) (sl : Nat → Int32) (oi : Nat → Int32) (nd : Nat → Int32) (lp : Nat → Int32) (tl : Nat → Int32) (g : Nat → Nat) (go : Nat → Int32) (gt : Nat → Int32) (oo : Nat → Nat) (ox : Nat → Nat) (hc : c ≤ 160) (hN : N ≤ 24) (hfr : ∀ j, j < c → vp_in (fr j) N) (htt : ∀ j, j < c → vp_in (tt j) N) : McI l D (tY cI cZ cL) yX4_pack wsX4_pack 5 128 [.ref (o 0)] ([wO o (a 0) (b 0) (d 0) (i 0) (g 0) N tn, wT cI (o 1) 160 tr, wT cI (o 2) N sp, wU cL (o 3) N wh, wU cL (o 4) N ow, wS cI b (a 0) (a 1) (a 2) N rw nm bf fe, wT cI (b 1) (N + 1) (nF oo), wS cI d (a 0) (a 2) (a 1) N rx nn bg fx, wT cI (d 1) (N + 1) (nF ox), wA cI cZ a c fr tt sa tk, wI cI cZ i op sl oi nd lp tl, wG cI g go gt]) (fun r (u : uT × uT) => r = nI (cN c (nlB (stS tk sa c))) ∧ rowsOK (cN c (nlB (stS tk sa c))) (pkG (nlB (stS tk sa c)) (stS tk sa c) (stS tk sa c) c) (pkG (nlB (stS tk sa c)) fr fr c) (pkG (nlB (stS tk sa c)) tt tt c) u.1.1 u.1.2.1 ∧ rowsOK (cN c (nlB (stS tk sa c))) (pkG (nlB (stS tk sa c)) (stS tk sa c) (stS tk sa c) c) (pkG (nlB (stS tk sa c)) tt tt c) (pkG (nlB (stS tk sa c)) fr fr c) u.2.1 u.2.2.1) (fun (u : uT × uT) => [wO o (a 0) (b 0) (d 0) (i 0) (g 0) N c, wT cI (o 1) 160 (pfx (trV (nlB (stS tk sa c))) tr c), wT cI (o 2) N sp, wU cL (o 3) N wh, wU cL (o 4) N ow, wS cI b (a 0) (a 1) (a 2) N u.1.2.1 u.1.2.2.1 u.1.2.2.2.1 u.1.2.2.2.2, wT cI (b 1) (N + 1) (nF u.1.1), wS cI d (a 0) (a 2) (a 1) N u.2.2.1 u.2.2.2.1 u.2.2.2.2.1 u.2.2.2.2.2, wT cI (d 1) (N + 1) (nF u.2.1), wA cI cZ a (cN c (nlB (stS tk sa c))) (pkG (nlB (stS tk sa c)) fr fr c) (pkG (nlB (stS tk sa c)) tt tt c) (pkG (nlB (stS tk sa c)) (stS tk sa c) (stS tk sa c) c) (pkG (nlB (stS tk sa c)) (fun _ => 0) tk c), wI cI cZ i op (stl sl) oi nd lp tl, wG cI g go gt]) := by
  refine q_ofW (Qc := fun A => (va_Qi (fun r (u : uT × uT) => r = nI (cN c (nlB (stS tk sa c))) ∧ rowsOK (cN c (nlB (stS tk sa c))) (pkG (nlB (stS tk sa c)) (stS tk sa c) (stS tk sa c) c) (pkG (nlB (stS tk sa c)) fr fr c) (pkG (nlB (stS tk sa c)) tt tt c) u.1.1 u.1.2.1 ∧ rowsOK (cN c (nlB (stS tk sa c))) (pkG (nlB (stS tk sa c)) (stS tk sa c) (stS tk sa c) c) (pkG (nlB (stS tk sa c)) tt tt c) (pkG (nlB (stS tk sa c)) fr fr c) u.2.1 u.2.2.1) (fun u t => mAt D (tY cI cZ cL) A ((fun (u : uT × uT) => [wO o (a 0) (b 0) (d 0) (i 0) (g 0) N c, wT cI (o 1) 160 (pfx (trV (nlB (stS tk sa c))) tr c), wT cI (o 2) N sp, wU cL (o 3) N wh, wU cL (o 4) N ow, wS cI b (a 0) (a 1) (a 2) N u.1.2.1 u.1.2.2.1 u.1.2.2.2.1 u.1.2.2.2.2, wT cI (b 1) (N + 1) (nF u.1.1), wS cI d (a 0) (a 2) (a 1) N u.2.2.1 u.2.2.2.1 u.2.2.2.2.1 u.2.2.2.2.2, wT cI (d 1) (N + 1) (nF u.2.1), wA cI cZ a (cN c (nlB (stS tk sa c))) (pkG (nlB (stS tk sa c)) fr fr c) (pkG (nlB (stS tk sa c)) tt tt c) (pkG (nlB (stS tk sa c)) (stS tk sa c) (stS tk sa c) c) (pkG (nlB (stS tk sa c)) (fun _ => 0) tk c), wI cI cZ i op (stl sl) oi nd lp tl, wG cI g go gt]) u) t) A)) (cc := cX4_pack) (maxL := 1) (ret := (some .int)) (by decide) rfl (Nat.le_of_ble_eq_true rfl) ?_
  intro pz ez sz mz bz tz cz hx hb hml hr hlocks hts hown hK hP A hD hA ls hl
  have hS : va_S A sz.heap sz.heap [] := va_S.rf
  have hl : lv_has ls 1 [(0, .ref (o 0))] := hl
  refine lv_aload_n hx hb dX4_pack_0 rfl (lv_at hl 0 rfl) ?_
  refine q_callVi (index := 90) (n := 0) (As := []) (rest := []) (js := [0, 1, 2, 3, 4, 5, 6, 7, 8, 9, 10, 11]) (ci := 4) ⟨hx, hb, hml, hown, hts⟩ hK hP hD hS hA (k4_buildAnew l D cI cZ cL o N tn tr sp wh ow b rw nm bf fe d rx nn bg fx a c fr tt sa tk i op sl oi nd lp tl g go gt oo ox (by omega) (by omega) hfr htt) rfl (by decide) (fun _ => by simp only [List.map_cons, List.map_nil, wA_fst, wG_fst, wI_fst, wO_fst, wS_fst, wT_fst, wU_fst]) (fun (u_1 : uT × uT) => [wO o (a 0) (b 0) (d 0) (i 0) (g 0) N tn, wT cI (o 1) 160 tr, wT cI (o 2) N sp, wU cL (o 3) N wh, wU cL (o 4) N ow, wS cI b (a 0) (a 1) (a 2) N u_1.1.2.1 u_1.1.2.2.1 u_1.1.2.2.2.1 u_1.1.2.2.2.2, wT cI (b 1) (N + 1) (nF u_1.1.1), wS cI d (a 0) (a 2) (a 1) N u_1.2.2.1 u_1.2.2.2.1 u_1.2.2.2.2.1 u_1.2.2.2.2.2, wT cI (d 1) (N + 1) (nF u_1.2.1), wA cI cZ a c fr tt (stS tk sa c) tk, wI cI cZ i op (stl sl) oi nd lp tl, wG cI g go gt]) (fun _ => rfl) gX4_pack_X4_buildAnew rfl (by decide +kernel) rfl ⟨by decide, by decide⟩ rfl rfl rfl rfl hl.1 (Nat.le_of_ble_eq_true rfl) ⟨(Nat.zero_le _), (Nat.zero_le _)⟩ dX4_pack_1 rfl (fun r u_1 H locs hw hP hD hS => ?_)
  have hpu_1 := hw.2
  have hw : r = nI (cN c (fun a => !(decide (sa a = sv tk a)))) := hw.1
  subst hw
  have hP : va_P D vwCl (List.flatten [wO o (a 0) (b 0) (d 0) (i 0) (g 0) N tn, wT cI (o 1) 160 tr, wT cI (o 2) N sp, wU cL (o 3) N wh, wU cL (o 4) N ow, wS cI b (a 0) (a 1) (a 2) N u_1.1.2.1 u_1.1.2.2.1 u_1.1.2.2.2.1 u_1.1.2.2.2.2, wT cI (b 1) (N + 1) (nF u_1.1.1), wS cI d (a 0) (a 2) (a 1) N u_1.2.2.1 u_1.2.2.2.1 u_1.2.2.2.2.1 u_1.2.2.2.2.2, wT cI (d 1) (N + 1) (nF u_1.2.1), wA cI cZ a c fr tt (stS tk sa c) tk, wI cI cZ i op (stl sl) oi nd lp tl, wG cI g go gt]) _ := hP
  have hD : va_D A (List.flatten [wO o (a 0) (b 0) (d 0) (i 0) (g 0) N tn, wT cI (o 1) 160 tr, wT cI (o 2) N sp, wU cL (o 3) N wh, wU cL (o 4) N ow, wS cI b (a 0) (a 1) (a 2) N u_1.1.2.1 u_1.1.2.2.1 u_1.1.2.2.2.1 u_1.1.2.2.2.2, wT cI (b 1) (N + 1) (nF u_1.1.1), wS cI d (a 0) (a 2) (a 1) N u_1.2.2.1 u_1.2.2.2.1 u_1.2.2.2.2.1 u_1.2.2.2.2.2, wT cI (d 1) (N + 1) (nF u_1.2.1), wA cI cZ a c fr tt (stS tk sa c) tk, wI cI cZ i op (stl sl) oi nd lp tl, wG cI g go gt]) := hD
  refine lv_pop hx hb dX4_pack_4 rfl ?_
  refine lv_aload_n hx hb dX4_pack_5 rfl (lv_at hl 0 rfl) ?_
  refine lv_aload_n hx hb dX4_pack_6 rfl (lv_at hl 0 rfl) ?_
  refine q_get (D := D) (ci := 4) (v := .ref (a 0)) (C := RX4) (T := TX4) (N := 11) hx hb hts (by decide +kernel) hown hK hP 0 0 rfl rfl rfl 1 (by decide) (hts (.fieldLink RX4 25 "OffsetRows" "arcs" "LOffsetRows$ArcList;") (by decide +kernel)) (fun _ h9 => h9) rfl dX4_pack_7 ?_
  refine q_get (D := D) (ci := 0) (v := .int (nI c)) (C := RX0) (T := TX0) (N := 5) hx hb hts (by decide +kernel) hown hK hP 9 0 rfl rfl rfl 4 (by decide) (hts (.fieldLink RX4 94 "OffsetRows$ArcList" "count" "I") (by decide +kernel)) (fun _ h9 => h9) rfl dX4_pack_10 ?_
  refine q_put (D := D) (ci := 4) (v := .int (nI c)) (ty := .int) (C := RX4) (T := TX4) (N := 11) hx hb hts (by decide +kernel) tyX4 tyX4_ok nmX4 hown hK hP hD hS 0 0 rfl rfl rfl 7 (by decide) (hts (.fieldLink RX4 65 "OffsetRows" "turnedNumbers" "I") (by decide +kernel)) (fun _ h9 => h9) rfl (by decide +kernel) rfl rfl (Nat.le_of_ble_eq_true rfl) dX4_pack_13 (wO_s_tn (g9 := c)) (Fs' := [wO o (a 0) (b 0) (d 0) (i 0) (g 0) N c, wT cI (o 1) 160 tr, wT cI (o 2) N sp, wU cL (o 3) N wh, wU cL (o 4) N ow, wS cI b (a 0) (a 1) (a 2) N u_1.1.2.1 u_1.1.2.2.1 u_1.1.2.2.2.1 u_1.1.2.2.2.2, wT cI (b 1) (N + 1) (nF u_1.1.1), wS cI d (a 0) (a 2) (a 1) N u_1.2.2.1 u_1.2.2.2.1 u_1.2.2.2.2.1 u_1.2.2.2.2.2, wT cI (d 1) (N + 1) (nF u_1.2.1), wA cI cZ a c fr tt (stS tk sa c) tk, wI cI cZ i op (stl sl) oi nd lp tl, wG cI g go gt]) rfl (fun H locs hP hD hS => ?_)
  refine lv_aload_n hx hb dX4_pack_16 rfl (lv_at hl 0 rfl) ?_
  refine q_get (D := D) (ci := 4) (v := .ref (a 0)) (C := RX4) (T := TX4) (N := 11) hx hb hts (by decide +kernel) hown hK hP 0 0 rfl rfl rfl 1 (by decide) (hts (.fieldLink RX4 25 "OffsetRows" "arcs" "LOffsetRows$ArcList;") (by decide +kernel)) (fun _ h9 => h9) rfl dX4_pack_17 ?_
  refine lv_aload_n hx hb dX4_pack_20 rfl (lv_at hl 0 rfl) ?_
  refine q_get (D := D) (ci := 4) (v := .ref (o 1)) (C := RX4) (T := TX4) (N := 11) hx hb hts (by decide +kernel) hown hK hP 0 0 rfl rfl rfl 6 (by decide) (hts (.fieldLink RX4 62 "OffsetRows" "turnRow" "[I") (by decide +kernel)) (fun _ h9 => h9) rfl dX4_pack_21 ?_
  refine q_callVv (index := 97) (n := 1) (As := [.ref (o 1)]) (rest := []) (js := [9, 1]) (ci := 0) ⟨hx, hb, hml, hown, hts⟩ hK hP hD hS hA (k0_renumber l D cI cZ cL a c fr tt (stS tk sa c) tk (o 1) tr (by omega)) rfl (by decide) (fun _ => by simp only [List.map_cons, List.map_nil, wA_fst, wT_fst]) (fun (_ : Unit) => [wO o (a 0) (b 0) (d 0) (i 0) (g 0) N c, wT cI (o 1) 160 (pfx (trV (nlB (stS tk sa c))) tr c), wT cI (o 2) N sp, wU cL (o 3) N wh, wU cL (o 4) N ow, wS cI b (a 0) (a 1) (a 2) N u_1.1.2.1 u_1.1.2.2.1 u_1.1.2.2.2.1 u_1.1.2.2.2.2, wT cI (b 1) (N + 1) (nF u_1.1.1), wS cI d (a 0) (a 2) (a 1) N u_1.2.2.1 u_1.2.2.2.1 u_1.2.2.2.2.1 u_1.2.2.2.2.2, wT cI (d 1) (N + 1) (nF u_1.2.1), wA cI cZ a (cN c (nlB (stS tk sa c))) (pkG (nlB (stS tk sa c)) fr fr c) (pkG (nlB (stS tk sa c)) tt tt c) (pkG (nlB (stS tk sa c)) (stS tk sa c) (stS tk sa c) c) (pkG (nlB (stS tk sa c)) (fun _ => 0) tk c), wI cI cZ i op (stl sl) oi nd lp tl, wG cI g go gt]) (fun _ => rfl) gX4_pack_X0_renumber rfl (by decide +kernel) rfl ⟨by decide, by decide⟩ rfl rfl rfl rfl hl.1 (Nat.le_of_ble_eq_true rfl) ⟨(Nat.zero_le _), (Nat.zero_le _)⟩ dX4_pack_24 rfl (fun _ H locs hw hP hD hS => ?_)
  refine lv_aload_n hx hb dX4_pack_27 rfl (lv_at hl 0 rfl) ?_
  refine q_callVv (index := 101) (n := 0) (As := []) (rest := []) (js := [0, 1, 2, 3, 4, 5, 6, 7, 8, 9, 10, 11]) (ci := 4) ⟨hx, hb, hml, hown, hts⟩ hK hP hD hS hA (k4_buildRows l D cI cZ cL o N c (pfx (trV (nlB (stS tk sa c))) tr c) sp wh ow b u_1.1.2.1 u_1.1.2.2.1 u_1.1.2.2.2.1 u_1.1.2.2.2.2 d u_1.2.2.1 u_1.2.2.2.1 u_1.2.2.2.2.1 u_1.2.2.2.2.2 a (cN c (nlB (stS tk sa c))) (pkG (nlB (stS tk sa c)) fr fr c) (pkG (nlB (stS tk sa c)) tt tt c) (pkG (nlB (stS tk sa c)) (stS tk sa c) (stS tk sa c) c) (pkG (nlB (stS tk sa c)) (fun _ => 0) tk c) i op (stl sl) oi nd lp tl g go gt u_1.1.1 u_1.2.1 (Nat.le_trans (cN_le c _) hc) (by omega) (pkG_in hfr) (pkG_in htt)) rfl (by decide) (fun _ => by simp only [List.map_cons, List.map_nil, wA_fst, wG_fst, wI_fst, wO_fst, wS_fst, wT_fst, wU_fst]) (fun (u_2 : uT × uT) => [wO o (a 0) (b 0) (d 0) (i 0) (g 0) N c, wT cI (o 1) 160 (pfx (trV (nlB (stS tk sa c))) tr c), wT cI (o 2) N sp, wU cL (o 3) N wh, wU cL (o 4) N ow, wS cI b (a 0) (a 1) (a 2) N u_2.1.2.1 u_2.1.2.2.1 u_2.1.2.2.2.1 u_2.1.2.2.2.2, wT cI (b 1) (N + 1) (nF u_2.1.1), wS cI d (a 0) (a 2) (a 1) N u_2.2.2.1 u_2.2.2.2.1 u_2.2.2.2.2.1 u_2.2.2.2.2.2, wT cI (d 1) (N + 1) (nF u_2.2.1), wA cI cZ a (cN c (nlB (stS tk sa c))) (pkG (nlB (stS tk sa c)) fr fr c) (pkG (nlB (stS tk sa c)) tt tt c) (pkG (nlB (stS tk sa c)) (stS tk sa c) (stS tk sa c) c) (pkG (nlB (stS tk sa c)) (fun _ => 0) tk c), wI cI cZ i op (stl sl) oi nd lp tl, wG cI g go gt]) (fun _ => rfl) gX4_pack_X4_buildRows rfl (by decide +kernel) rfl ⟨by decide, by decide⟩ rfl rfl rfl rfl hl.1 (Nat.le_of_ble_eq_true rfl) ⟨(Nat.zero_le _), (Nat.zero_le _)⟩ dX4_pack_28 rfl (fun u_2 H locs hw hP hD hS => ?_)
  have hpu_28 := hw
  have hP : va_P D vwCl (List.flatten [wO o (a 0) (b 0) (d 0) (i 0) (g 0) N c, wT cI (o 1) 160 (pfx (trV (nlB (stS tk sa c))) tr c), wT cI (o 2) N sp, wU cL (o 3) N wh, wU cL (o 4) N ow, wS cI b (a 0) (a 1) (a 2) N u_2.1.2.1 u_2.1.2.2.1 u_2.1.2.2.2.1 u_2.1.2.2.2.2, wT cI (b 1) (N + 1) (nF u_2.1.1), wS cI d (a 0) (a 2) (a 1) N u_2.2.2.1 u_2.2.2.2.1 u_2.2.2.2.2.1 u_2.2.2.2.2.2, wT cI (d 1) (N + 1) (nF u_2.2.1), wA cI cZ a (cN c (nlB (stS tk sa c))) (pkG (nlB (stS tk sa c)) fr fr c) (pkG (nlB (stS tk sa c)) tt tt c) (pkG (nlB (stS tk sa c)) (stS tk sa c) (stS tk sa c) c) (pkG (nlB (stS tk sa c)) (fun _ => 0) tk c), wI cI cZ i op (stl sl) oi nd lp tl, wG cI g go gt]) _ := hP
  have hD : va_D A (List.flatten [wO o (a 0) (b 0) (d 0) (i 0) (g 0) N c, wT cI (o 1) 160 (pfx (trV (nlB (stS tk sa c))) tr c), wT cI (o 2) N sp, wU cL (o 3) N wh, wU cL (o 4) N ow, wS cI b (a 0) (a 1) (a 2) N u_2.1.2.1 u_2.1.2.2.1 u_2.1.2.2.2.1 u_2.1.2.2.2.2, wT cI (b 1) (N + 1) (nF u_2.1.1), wS cI d (a 0) (a 2) (a 1) N u_2.2.2.1 u_2.2.2.2.1 u_2.2.2.2.2.1 u_2.2.2.2.2.2, wT cI (d 1) (N + 1) (nF u_2.2.1), wA cI cZ a (cN c (nlB (stS tk sa c))) (pkG (nlB (stS tk sa c)) fr fr c) (pkG (nlB (stS tk sa c)) tt tt c) (pkG (nlB (stS tk sa c)) (stS tk sa c) (stS tk sa c) c) (pkG (nlB (stS tk sa c)) (fun _ => 0) tk c), wI cI cZ i op (stl sl) oi nd lp tl, wG cI g go gt]) := hD
  refine lv_aload_n hx hb dX4_pack_31 rfl (lv_at hl 0 rfl) ?_
  refine q_get (D := D) (ci := 4) (v := .ref (a 0)) (C := RX4) (T := TX4) (N := 11) hx hb hts (by decide +kernel) hown hK hP 0 0 rfl rfl rfl 1 (by decide) (hts (.fieldLink RX4 25 "OffsetRows" "arcs" "LOffsetRows$ArcList;") (by decide +kernel)) (fun _ h9 => h9) rfl dX4_pack_32 ?_
  refine q_get (D := D) (ci := 0) (v := .int (nI (cN c (nlB (stS tk sa c))))) (C := RX0) (T := TX0) (N := 5) hx hb hts (by decide +kernel) hown hK hP 9 0 rfl rfl rfl 4 (by decide) (hts (.fieldLink RX4 94 "OffsetRows$ArcList" "count" "I") (by decide +kernel)) (fun _ h9 => h9) rfl dX4_pack_35 ?_
  exact q_iret (u_2) hx hb hr hlocks hK hP hD hS (⟨rfl, hpu_28⟩) (rfl) dX4_pack_38

set_option maxHeartbeats 8000000 in
set_option maxRecDepth 100000 in
theorem k4_turned (l : Launch) (D : va_G) (cI cZ cL : ClassId) (o : Nat → Nat) (N : Nat) (tn : Nat) (tr : Nat → Int32) (sp : Nat → Int32) (wh : Nat → Int64) (ow : Nat → Int64) (b : Nat → Nat) (rw : Nat → Int32) (nm : Nat → Int32) (bf : Nat → Int32) (fe : Nat → Int32) (d : Nat → Nat) (rx : Nat → Int32) (nn : Nat → Int32) (bg : Nat → Int32) (fx : Nat → Int32) (a : Nat → Nat) (c : Nat) (fr : Nat → Int32) (tt : Nat → Int32) (sa : Nat → Int32) (tk : Nat → Int32) (i : Nat → Nat) (op : Nat → Int32) (sl : Nat → Int32) (oi : Nat → Int32) (nd : Nat → Int32) (lp : Nat → Int32) (tl : Nat → Int32) (g : Nat → Nat) (go : Nat → Int32) (gt : Nat → Int32) (oo : Nat → Nat) (ox : Nat → Nat) (x : Int32) (htn : tn ≤ 160) : McI l D (tY cI cZ cL) yX4_turned wsX4_turned 0 0 [.ref (o 0), .int x] ([wO o (a 0) (b 0) (d 0) (i 0) (g 0) N tn, wT cI (o 1) 160 tr, wT cI (o 2) N sp, wU cL (o 3) N wh, wU cL (o 4) N ow, wS cI b (a 0) (a 1) (a 2) N rw nm bf fe, wT cI (b 1) (N + 1) (nF oo), wS cI d (a 0) (a 2) (a 1) N rx nn bg fx, wT cI (d 1) (N + 1) (nF ox), wA cI cZ a c fr tt sa tk, wI cI cZ i op sl oi nd lp tl, wG cI g go gt]) (fun r (_ : Unit) => r = tdR tn tr x) (fun (_ : Unit) => [wO o (a 0) (b 0) (d 0) (i 0) (g 0) N tn, wT cI (o 1) 160 tr, wT cI (o 2) N sp, wU cL (o 3) N wh, wU cL (o 4) N ow, wS cI b (a 0) (a 1) (a 2) N rw nm bf fe, wT cI (b 1) (N + 1) (nF oo), wS cI d (a 0) (a 2) (a 1) N rx nn bg fx, wT cI (d 1) (N + 1) (nF ox), wA cI cZ a c fr tt sa tk, wI cI cZ i op sl oi nd lp tl, wG cI g go gt]) := by
  refine q_ofW (Qc := fun A => (va_Qi (fun r (_ : Unit) => r = tdR tn tr x) (fun u t => mAt D (tY cI cZ cL) A ((fun (_ : Unit) => [wO o (a 0) (b 0) (d 0) (i 0) (g 0) N tn, wT cI (o 1) 160 tr, wT cI (o 2) N sp, wU cL (o 3) N wh, wU cL (o 4) N ow, wS cI b (a 0) (a 1) (a 2) N rw nm bf fe, wT cI (b 1) (N + 1) (nF oo), wS cI d (a 0) (a 2) (a 1) N rx nn bg fx, wT cI (d 1) (N + 1) (nF ox), wA cI cZ a c fr tt sa tk, wI cI cZ i op sl oi nd lp tl, wG cI g go gt]) u) t) A)) (cc := cX4_turned) (maxL := 2) (ret := (some .int)) (by decide) rfl (Nat.le_of_ble_eq_true rfl) ?_
  intro pz ez sz mz bz tz cz hx hb hml hr hlocks hts hown hK hP A hD hA ls hl
  have hS : va_S A sz.heap sz.heap [] := va_S.rf
  have hl : lv_has ls 2 [(0, .ref (o 0)), (1, .int x)] := hl
  refine lv_iload_n hx hb dX4_turned_0 rfl (lv_at hl 1 rfl) ?_
  refine lv_if_lt (tgt := 12) hx hb dX4_turned_1 (by decide) (fun c_1 => ?_) (fun c_1 => ?_)
  ·
    refine lv_bipush (v := (-2)) hx hb dX4_turned_12 (by decide) ?_
    exact q_iret (()) hx hb hr hlocks hK hP hD hS (by simp [tdR, hasB, c_1]) (rfl) dX4_turned_14
  ·
    refine lv_iload_n hx hb dX4_turned_4 rfl (lv_at hl 1 rfl) ?_
    refine lv_aload_n hx hb dX4_turned_5 rfl (lv_at hl 0 rfl) ?_
    refine q_get (D := D) (ci := 4) (v := .int (nI tn)) (C := RX4) (T := TX4) (N := 11) hx hb hts (by decide +kernel) hown hK hP 0 0 rfl rfl rfl 7 (by decide) (hts (.fieldLink RX4 65 "OffsetRows" "turnedNumbers" "I") (by decide +kernel)) (fun _ h9 => h9) rfl dX4_turned_6 ?_
    refine lv_icmp_lt (tgt := 15) hx hb dX4_turned_9 (by decide) (fun c_9 => ?_) (fun c_9 => ?_)
    ·
      have h_9 := k2_nle c_9
      refine lv_aload_n hx hb dX4_turned_15 rfl (lv_at hl 0 rfl) ?_
      refine q_get (D := D) (ci := 4) (v := .ref (o 1)) (C := RX4) (T := TX4) (N := 11) hx hb hts (by decide +kernel) hown hK hP 0 0 rfl rfl rfl 6 (by decide) (hts (.fieldLink RX4 62 "OffsetRows" "turnRow" "[I") (by decide +kernel)) (fun _ h9 => h9) rfl dX4_turned_16 ?_
      refine lv_iload_n hx hb dX4_turned_19 rfl (lv_at hl 1 rfl) ?_
      refine q_iald hx hb hK hP 1 0 0 rfl (f := tr) rfl rfl (k := x.toNatClampNeg) rfl (hasB_in (c := tn) (by simp [hasB, c_1, k2_nle c_9]) htn (by decide)) dX4_turned_20 ?_
      exact q_iret (()) hx hb hr hlocks hK hP hD hS (by simp [tdR, hasB, c_1, c_9, h_9]) (rfl) dX4_turned_21
    ·
      have h_9 := k2_le c_9
      refine lv_bipush (v := (-2)) hx hb dX4_turned_12 (by decide) ?_
      exact q_iret (()) hx hb hr hlocks hK hP hD hS (by simp [tdR, hasB, c_1, c_9, h_9]) (rfl) dX4_turned_14

set_option maxHeartbeats 8000000 in
set_option maxRecDepth 100000 in
theorem k4_offset0 (l : Launch) (D : va_G) (cI cZ cL : ClassId) (o : Nat → Nat) (N : Nat) (tn : Nat) (tr : Nat → Int32) (sp : Nat → Int32) (wh : Nat → Int64) (ow : Nat → Int64) (b : Nat → Nat) (rw : Nat → Int32) (nm : Nat → Int32) (bf : Nat → Int32) (fe : Nat → Int32) (d : Nat → Nat) (rx : Nat → Int32) (nn : Nat → Int32) (bg : Nat → Int32) (fx : Nat → Int32) (a : Nat → Nat) (c : Nat) (fr : Nat → Int32) (tt : Nat → Int32) (sa : Nat → Int32) (tk : Nat → Int32) (i : Nat → Nat) (op : Nat → Int32) (sl : Nat → Int32) (oi : Nat → Int32) (nd : Nat → Int32) (lp : Nat → Int32) (tl : Nat → Int32) (g : Nat → Nat) (go : Nat → Int32) (gt : Nat → Int32) (oo : Nat → Nat) (ox : Nat → Nat) (x : Int32) (z : Int32) (hN : N ≤ 24) (hz0 : z = 0) : McI l D (tY cI cZ cL) yX4_offset wsX4_offset 1 21 [.ref (o 0), .int x, .int z] ([wO o (a 0) (b 0) (d 0) (i 0) (g 0) N tn, wT cI (o 1) 160 tr, wT cI (o 2) N sp, wU cL (o 3) N wh, wU cL (o 4) N ow, wS cI b (a 0) (a 1) (a 2) N rw nm bf fe, wT cI (b 1) (N + 1) (nF oo), wS cI d (a 0) (a 2) (a 1) N rx nn bg fx, wT cI (d 1) (N + 1) (nF ox), wA cI cZ a c fr tt sa tk, wI cI cZ i op sl oi nd lp tl, wG cI g go gt]) (fun r (_ : Unit) => r = ofC N oo x) (fun (_ : Unit) => [wO o (a 0) (b 0) (d 0) (i 0) (g 0) N tn, wT cI (o 1) 160 tr, wT cI (o 2) N sp, wU cL (o 3) N wh, wU cL (o 4) N ow, wS cI b (a 0) (a 1) (a 2) N rw nm bf fe, wT cI (b 1) (N + 1) (nF oo), wS cI d (a 0) (a 2) (a 1) N rx nn bg fx, wT cI (d 1) (N + 1) (nF ox), wA cI cZ a c fr tt sa tk, wI cI cZ i op sl oi nd lp tl, wG cI g go gt]) := by
  refine q_ofW (Qc := fun A => (va_Qi (fun r (_ : Unit) => r = ofC N oo x) (fun u t => mAt D (tY cI cZ cL) A ((fun (_ : Unit) => [wO o (a 0) (b 0) (d 0) (i 0) (g 0) N tn, wT cI (o 1) 160 tr, wT cI (o 2) N sp, wU cL (o 3) N wh, wU cL (o 4) N ow, wS cI b (a 0) (a 1) (a 2) N rw nm bf fe, wT cI (b 1) (N + 1) (nF oo), wS cI d (a 0) (a 2) (a 1) N rx nn bg fx, wT cI (d 1) (N + 1) (nF ox), wA cI cZ a c fr tt sa tk, wI cI cZ i op sl oi nd lp tl, wG cI g go gt]) u) t) A)) (cc := cX4_offset) (maxL := 3) (ret := (some .int)) (by decide) rfl (Nat.le_of_ble_eq_true rfl) ?_
  intro pz ez sz mz bz tz cz hx hb hml hr hlocks hts hown hK hP A hD hA ls hl
  have hS : va_S A sz.heap sz.heap [] := va_S.rf
  have hl : lv_has ls 3 [(0, .ref (o 0)), (1, .int x), (2, .int z)] := hl
  refine lv_iload_n hx hb dX4_offset_0 rfl (lv_at hl 1 rfl) ?_
  refine lv_aload_n hx hb dX4_offset_1 rfl (lv_at hl 0 rfl) ?_
  refine q_get (D := D) (ci := 4) (v := .int (nI N)) (C := RX4) (T := TX4) (N := 11) hx hb hts (by decide +kernel) hown hK hP 0 0 rfl rfl rfl 0 (by decide) (hts (.fieldLink RX4 18 "OffsetRows" "nodes" "I") (by decide +kernel)) (fun _ h9 => h9) rfl dX4_offset_2 ?_
  refine lv_icmp_eq (tgt := 19) hx hb dX4_offset_5 (by decide) (fun c_5 => ?_) (fun c_5 => ?_)
  ·
    have hl : lv_has ls 3 [(0, .ref (o 0)), (1, .int (nI N)), (2, .int z)] := by rw [← c_5]; exact hl
    have hxc : x.toNatClampNeg = N := by rw [c_5]; exact nI_clamp (by omega)
    refine lv_aload_n hx hb dX4_offset_19 rfl (lv_at hl 0 rfl) ?_
    refine lv_iload_n hx hb dX4_offset_20 rfl (lv_at hl 2 rfl) ?_
    refine q_callVr (index := 108) (n := 1) (As := [.int z]) (rest := []) (js := [0, 1, 2, 3, 4, 5, 6, 7, 8, 9, 10, 11]) (ci := 4) ⟨hx, hb, hml, hown, hts⟩ hK hP hD hS hA (k4_side0 l D cI cZ cL o N tn tr sp wh ow b rw nm bf fe d rx nn bg fx a c fr tt sa tk i op sl oi nd lp tl g go gt oo ox z hz0) rfl (by decide) (by simp only [List.map_cons, List.map_nil, wA_fst, wG_fst, wI_fst, wO_fst, wS_fst, wT_fst, wU_fst]) ([wO o (a 0) (b 0) (d 0) (i 0) (g 0) N tn, wT cI (o 1) 160 tr, wT cI (o 2) N sp, wU cL (o 3) N wh, wU cL (o 4) N ow, wS cI b (a 0) (a 1) (a 2) N rw nm bf fe, wT cI (b 1) (N + 1) (nF oo), wS cI d (a 0) (a 2) (a 1) N rx nn bg fx, wT cI (d 1) (N + 1) (nF ox), wA cI cZ a c fr tt sa tk, wI cI cZ i op sl oi nd lp tl, wG cI g go gt]) rfl gX4_offset_X4_side rfl (by decide +kernel) rfl ⟨by decide, by decide⟩ rfl rfl rfl rfl hl.1 (Nat.le_of_ble_eq_true rfl) ⟨(Nat.zero_le _), (Nat.zero_le _)⟩ dX4_offset_21 rfl (fun H locs hP hD hS => ?_)
    refine q_get (D := D) (ci := 3) (v := .ref (b 1)) (C := RX3) (T := TX3) (N := 8) hx hb hts (by decide +kernel) hown hK hP 5 0 rfl rfl rfl 3 (by decide) (hts (.fieldLink RX4 112 "OffsetRows$Side" "offsets" "[I") (by decide +kernel)) (fun _ h9 => h9) rfl dX4_offset_24 ?_
    refine lv_iload_n hx hb dX4_offset_27 rfl (lv_at hl 1 rfl) ?_
    refine q_iald hx hb hK hP 6 0 0 rfl (f := nF oo) rfl rfl (k := N) (nI_clamp (n := N) (by omega)) (vp_in_nI (show N < N + 1 from by omega) (by omega)) dX4_offset_28 ?_
    exact q_iret (()) hx hb hr hlocks hK hP hD hS (by rw [ofC, if_pos (Or.inl c_5), hxc]; rfl) (rfl) dX4_offset_29
  ·
    refine lv_aload_n hx hb dX4_offset_8 rfl (lv_at hl 0 rfl) ?_
    refine lv_iload_n hx hb dX4_offset_9 rfl (lv_at hl 1 rfl) ?_
    refine q_callVi (index := 78) (n := 1) (As := [.int x]) (rest := []) (js := [0, 1, 2, 3, 4, 5, 6, 7, 8, 9, 10, 11]) (ci := 4) ⟨hx, hb, hml, hown, hts⟩ hK hP hD hS hA (k4_isNode l D cI cZ cL o N tn tr sp wh ow b rw nm bf fe d rx nn bg fx a c fr tt sa tk i op sl oi nd lp tl g go gt oo ox x) rfl (by decide) (fun _ => by simp only [List.map_cons, List.map_nil, wA_fst, wG_fst, wI_fst, wO_fst, wS_fst, wT_fst, wU_fst]) (fun (_ : Unit) => [wO o (a 0) (b 0) (d 0) (i 0) (g 0) N tn, wT cI (o 1) 160 tr, wT cI (o 2) N sp, wU cL (o 3) N wh, wU cL (o 4) N ow, wS cI b (a 0) (a 1) (a 2) N rw nm bf fe, wT cI (b 1) (N + 1) (nF oo), wS cI d (a 0) (a 2) (a 1) N rx nn bg fx, wT cI (d 1) (N + 1) (nF ox), wA cI cZ a c fr tt sa tk, wI cI cZ i op sl oi nd lp tl, wG cI g go gt]) (fun _ => rfl) gX4_offset_X4_isNode rfl (by decide +kernel) rfl ⟨by decide, by decide⟩ rfl rfl rfl rfl hl.1 (Nat.le_of_ble_eq_true rfl) ⟨(Nat.zero_le _), (Nat.zero_le _)⟩ dX4_offset_10 rfl (fun r _ H locs hw hP hD hS => ?_)
    have hw : r = bI (hasB N x) := hw
    subst hw
    refine lv_if_ne (tgt := 19) hx hb dX4_offset_13 (by decide) (fun c_13 => ?_) (fun c_13 => ?_)
    ·
      have n_13 : (hasB N x) = true := bI_n.mp c_13
      obtain ⟨v, hv, hxv⟩ := hasB_of n_13 (by omega)
      have hl : lv_has ls 3 [(0, .ref (o 0)), (1, .int (nI v)), (2, .int z)] := by rw [← hxv]; exact hl
      have hxc : x.toNatClampNeg = v := by rw [hxv]; exact nI_clamp (by omega)
      refine lv_aload_n hx hb dX4_offset_19 rfl (lv_at hl 0 rfl) ?_
      refine lv_iload_n hx hb dX4_offset_20 rfl (lv_at hl 2 rfl) ?_
      refine q_callVr (index := 108) (n := 1) (As := [.int z]) (rest := []) (js := [0, 1, 2, 3, 4, 5, 6, 7, 8, 9, 10, 11]) (ci := 4) ⟨hx, hb, hml, hown, hts⟩ hK hP hD hS hA (k4_side0 l D cI cZ cL o N tn tr sp wh ow b rw nm bf fe d rx nn bg fx a c fr tt sa tk i op sl oi nd lp tl g go gt oo ox z hz0) rfl (by decide) (by simp only [List.map_cons, List.map_nil, wA_fst, wG_fst, wI_fst, wO_fst, wS_fst, wT_fst, wU_fst]) ([wO o (a 0) (b 0) (d 0) (i 0) (g 0) N tn, wT cI (o 1) 160 tr, wT cI (o 2) N sp, wU cL (o 3) N wh, wU cL (o 4) N ow, wS cI b (a 0) (a 1) (a 2) N rw nm bf fe, wT cI (b 1) (N + 1) (nF oo), wS cI d (a 0) (a 2) (a 1) N rx nn bg fx, wT cI (d 1) (N + 1) (nF ox), wA cI cZ a c fr tt sa tk, wI cI cZ i op sl oi nd lp tl, wG cI g go gt]) rfl gX4_offset_X4_side rfl (by decide +kernel) rfl ⟨by decide, by decide⟩ rfl rfl rfl rfl hl.1 (Nat.le_of_ble_eq_true rfl) ⟨(Nat.zero_le _), (Nat.zero_le _)⟩ dX4_offset_21 rfl (fun H locs hP hD hS => ?_)
      refine q_get (D := D) (ci := 3) (v := .ref (b 1)) (C := RX3) (T := TX3) (N := 8) hx hb hts (by decide +kernel) hown hK hP 5 0 rfl rfl rfl 3 (by decide) (hts (.fieldLink RX4 112 "OffsetRows$Side" "offsets" "[I") (by decide +kernel)) (fun _ h9 => h9) rfl dX4_offset_24 ?_
      refine lv_iload_n hx hb dX4_offset_27 rfl (lv_at hl 1 rfl) ?_
      refine q_iald hx hb hK hP 6 0 0 rfl (f := nF oo) rfl rfl (k := v) (nI_clamp (n := v) (by omega)) (vp_in_nI (show v < N + 1 from by omega) (by omega)) dX4_offset_28 ?_
      exact q_iret (()) hx hb hr hlocks hK hP hD hS (by rw [ofC, if_pos (Or.inr n_13), hxc]; rfl) (rfl) dX4_offset_29
    ·
      have n_13 : (hasB N x) = false := bI_0.mp c_13
      refine lv_bipush (v := (-2)) hx hb dX4_offset_16 (by decide) ?_
      exact q_iret (()) hx hb hr hlocks hK hP hD hS (by simp [ofC, c_5, n_13]) (rfl) dX4_offset_18

set_option maxHeartbeats 8000000 in
set_option maxRecDepth 100000 in
theorem k4_degree0 (l : Launch) (D : va_G) (cI cZ cL : ClassId) (o : Nat → Nat) (N : Nat) (tn : Nat) (tr : Nat → Int32) (sp : Nat → Int32) (wh : Nat → Int64) (ow : Nat → Int64) (b : Nat → Nat) (rw : Nat → Int32) (nm : Nat → Int32) (bf : Nat → Int32) (fe : Nat → Int32) (d : Nat → Nat) (rx : Nat → Int32) (nn : Nat → Int32) (bg : Nat → Int32) (fx : Nat → Int32) (a : Nat → Nat) (c : Nat) (fr : Nat → Int32) (tt : Nat → Int32) (sa : Nat → Int32) (tk : Nat → Int32) (i : Nat → Nat) (op : Nat → Int32) (sl : Nat → Int32) (oi : Nat → Int32) (nd : Nat → Int32) (lp : Nat → Int32) (tl : Nat → Int32) (g : Nat → Nat) (go : Nat → Int32) (gt : Nat → Int32) (oo : Nat → Nat) (ox : Nat → Nat) (x : Int32) (z : Int32) (hc : c ≤ 160) (hN : N ≤ 24) (hz0 : z = 0) (hm : ∀ v, v < N → oo v ≤ oo (v + 1) ∧ oo (v + 1) ≤ 160) : McI l D (tY cI cZ cL) yX4_degree wsX4_degree 4 90 [.ref (o 0), .int x, .int z] ([wO o (a 0) (b 0) (d 0) (i 0) (g 0) N tn, wT cI (o 1) 160 tr, wT cI (o 2) N sp, wU cL (o 3) N wh, wU cL (o 4) N ow, wS cI b (a 0) (a 1) (a 2) N rw nm bf fe, wT cI (b 1) (N + 1) (nF oo), wS cI d (a 0) (a 2) (a 1) N rx nn bg fx, wT cI (d 1) (N + 1) (nF ox), wA cI cZ a c fr tt sa tk, wI cI cZ i op sl oi nd lp tl, wG cI g go gt]) (fun r (_ : Unit) => r = dcR N c sa tk fr rw oo x) (fun (_ : Unit) => [wO o (a 0) (b 0) (d 0) (i 0) (g 0) N tn, wT cI (o 1) 160 tr, wT cI (o 2) N sp, wU cL (o 3) N wh, wU cL (o 4) N ow, wS cI b (a 0) (a 1) (a 2) N rw nm bf fe, wT cI (b 1) (N + 1) (nF oo), wS cI d (a 0) (a 2) (a 1) N rx nn bg fx, wT cI (d 1) (N + 1) (nF ox), wA cI cZ a c fr tt sa tk, wI cI cZ i op sl oi nd lp tl, wG cI g go gt]) := by
  refine q_ofW (Qc := fun A => (va_Qi (fun r (_ : Unit) => r = dcR N c sa tk fr rw oo x) (fun u t => mAt D (tY cI cZ cL) A ((fun (_ : Unit) => [wO o (a 0) (b 0) (d 0) (i 0) (g 0) N tn, wT cI (o 1) 160 tr, wT cI (o 2) N sp, wU cL (o 3) N wh, wU cL (o 4) N ow, wS cI b (a 0) (a 1) (a 2) N rw nm bf fe, wT cI (b 1) (N + 1) (nF oo), wS cI d (a 0) (a 2) (a 1) N rx nn bg fx, wT cI (d 1) (N + 1) (nF ox), wA cI cZ a c fr tt sa tk, wI cI cZ i op sl oi nd lp tl, wG cI g go gt]) u) t) A)) (cc := cX4_degree) (maxL := 3) (ret := (some .int)) (by decide) rfl (Nat.le_of_ble_eq_true rfl) ?_
  intro pz ez sz mz bz tz cz hx hb hml hr hlocks hts hown hK hP A hD hA ls hl
  have hS : va_S A sz.heap sz.heap [] := va_S.rf
  have hl : lv_has ls 3 [(0, .ref (o 0)), (1, .int x), (2, .int z)] := hl
  refine lv_aload_n hx hb dX4_degree_0 rfl (lv_at hl 0 rfl) ?_
  refine lv_iload_n hx hb dX4_degree_1 rfl (lv_at hl 1 rfl) ?_
  refine q_callVi (index := 78) (n := 1) (As := [.int x]) (rest := []) (js := [0, 1, 2, 3, 4, 5, 6, 7, 8, 9, 10, 11]) (ci := 4) ⟨hx, hb, hml, hown, hts⟩ hK hP hD hS hA (k4_isNode l D cI cZ cL o N tn tr sp wh ow b rw nm bf fe d rx nn bg fx a c fr tt sa tk i op sl oi nd lp tl g go gt oo ox x) rfl (by decide) (fun _ => by simp only [List.map_cons, List.map_nil, wA_fst, wG_fst, wI_fst, wO_fst, wS_fst, wT_fst, wU_fst]) (fun (_ : Unit) => [wO o (a 0) (b 0) (d 0) (i 0) (g 0) N tn, wT cI (o 1) 160 tr, wT cI (o 2) N sp, wU cL (o 3) N wh, wU cL (o 4) N ow, wS cI b (a 0) (a 1) (a 2) N rw nm bf fe, wT cI (b 1) (N + 1) (nF oo), wS cI d (a 0) (a 2) (a 1) N rx nn bg fx, wT cI (d 1) (N + 1) (nF ox), wA cI cZ a c fr tt sa tk, wI cI cZ i op sl oi nd lp tl, wG cI g go gt]) (fun _ => rfl) gX4_degree_X4_isNode rfl (by decide +kernel) rfl ⟨by decide, by decide⟩ rfl rfl rfl rfl hl.1 (Nat.le_of_ble_eq_true rfl) ⟨(Nat.zero_le _), (Nat.zero_le _)⟩ dX4_degree_2 rfl (fun r _ H locs hw hP hD hS => ?_)
  have hw : r = bI (hasB N x) := hw
  subst hw
  refine lv_if_ne (tgt := 11) hx hb dX4_degree_5 (by decide) (fun c_5 => ?_) (fun c_5 => ?_)
  ·
    have n_5 : (hasB N x) = true := bI_n.mp c_5
    obtain ⟨v, hv, hxv⟩ := hasB_of n_5 (by omega)
    have hl : lv_has ls 3 [(0, .ref (o 0)), (1, .int (nI v)), (2, .int z)] := by rw [← hxv]; exact hl
    have hxc : x.toNatClampNeg = v := by rw [hxv]; exact nI_clamp (by omega)
    refine lv_aload_n hx hb dX4_degree_11 rfl (lv_at hl 0 rfl) ?_
    refine lv_iload_n hx hb dX4_degree_12 rfl (lv_at hl 2 rfl) ?_
    refine q_callVr (index := 108) (n := 1) (As := [.int z]) (rest := []) (js := [0, 1, 2, 3, 4, 5, 6, 7, 8, 9, 10, 11]) (ci := 4) ⟨hx, hb, hml, hown, hts⟩ hK hP hD hS hA (k4_side0 l D cI cZ cL o N tn tr sp wh ow b rw nm bf fe d rx nn bg fx a c fr tt sa tk i op sl oi nd lp tl g go gt oo ox z hz0) rfl (by decide) (by simp only [List.map_cons, List.map_nil, wA_fst, wG_fst, wI_fst, wO_fst, wS_fst, wT_fst, wU_fst]) ([wO o (a 0) (b 0) (d 0) (i 0) (g 0) N tn, wT cI (o 1) 160 tr, wT cI (o 2) N sp, wU cL (o 3) N wh, wU cL (o 4) N ow, wS cI b (a 0) (a 1) (a 2) N rw nm bf fe, wT cI (b 1) (N + 1) (nF oo), wS cI d (a 0) (a 2) (a 1) N rx nn bg fx, wT cI (d 1) (N + 1) (nF ox), wA cI cZ a c fr tt sa tk, wI cI cZ i op sl oi nd lp tl, wG cI g go gt]) rfl gX4_degree_X4_side rfl (by decide +kernel) rfl ⟨by decide, by decide⟩ rfl rfl rfl rfl hl.1 (Nat.le_of_ble_eq_true rfl) ⟨(Nat.zero_le _), (Nat.zero_le _)⟩ dX4_degree_13 rfl (fun H locs hP hD hS => ?_)
    refine lv_iload_n hx hb dX4_degree_16 rfl (lv_at hl 1 rfl) ?_
    refine q_callVi (index := 125) (n := 1) (As := [.int (nI v)]) (rest := []) (js := [5, 6, 9]) (ci := 3) ⟨hx, hb, hml, hown, hts⟩ hK hP hD hS hA (k3o_countLive l D cI cZ cL b N rw nm bf fe a c fr tt sa tk oo v (by omega) (by omega) (by omega) (hm v hv).1 (hm v hv).2) rfl (by decide) (fun _ => by simp only [List.map_cons, List.map_nil, wA_fst, wS_fst, wT_fst]) (fun (_ : Unit) => [wO o (a 0) (b 0) (d 0) (i 0) (g 0) N tn, wT cI (o 1) 160 tr, wT cI (o 2) N sp, wU cL (o 3) N wh, wU cL (o 4) N ow, wS cI b (a 0) (a 1) (a 2) N rw nm bf fe, wT cI (b 1) (N + 1) (nF oo), wS cI d (a 0) (a 2) (a 1) N rx nn bg fx, wT cI (d 1) (N + 1) (nF ox), wA cI cZ a c fr tt sa tk, wI cI cZ i op sl oi nd lp tl, wG cI g go gt]) (fun _ => rfl) gX4_degree_X3_countLive rfl (by decide +kernel) rfl ⟨by decide, by decide⟩ rfl rfl rfl rfl hl.1 (Nat.le_of_ble_eq_true rfl) ⟨(Nat.zero_le _), (Nat.zero_le _)⟩ dX4_degree_17 rfl (fun r _ H locs hw hP hD hS => ?_)
    have hw : r = nI (cN (plN c oo v) (atL c sa tk fr rw oo v)) := hw
    subst hw
    exact q_iret (()) hx hb hr hlocks hK hP hD hS (by simp [dcR, n_5, hxc]) (rfl) dX4_degree_20
  ·
    have n_5 : (hasB N x) = false := bI_0.mp c_5
    refine lv_bipush (v := (-2)) hx hb dX4_degree_8 (by decide) ?_
    exact q_iret (()) hx hb hr hlocks hK hP hD hS (by simp [dcR, n_5]) (rfl) dX4_degree_10

set_option maxHeartbeats 8000000 in
set_option maxRecDepth 100000 in
theorem k4_live0 (l : Launch) (D : va_G) (cI cZ cL : ClassId) (o : Nat → Nat) (N : Nat) (tn : Nat) (tr : Nat → Int32) (sp : Nat → Int32) (wh : Nat → Int64) (ow : Nat → Int64) (b : Nat → Nat) (rw : Nat → Int32) (nm : Nat → Int32) (bf : Nat → Int32) (fe : Nat → Int32) (d : Nat → Nat) (rx : Nat → Int32) (nn : Nat → Int32) (bg : Nat → Int32) (fx : Nat → Int32) (a : Nat → Nat) (c : Nat) (fr : Nat → Int32) (tt : Nat → Int32) (sa : Nat → Int32) (tk : Nat → Int32) (i : Nat → Nat) (op : Nat → Int32) (sl : Nat → Int32) (oi : Nat → Int32) (nd : Nat → Int32) (lp : Nat → Int32) (tl : Nat → Int32) (g : Nat → Nat) (go : Nat → Int32) (gt : Nat → Int32) (oo : Nat → Nat) (ox : Nat → Nat) (x : Int32) (z : Int32) (k : Int32) (hc : c ≤ 160) (hN : N ≤ 24) (hz0 : z = 0) (hm : ∀ v, v < N → oo v ≤ oo (v + 1) ∧ oo (v + 1) ≤ 160) : McI l D (tY cI cZ cL) yX4_live wsX4_live 4 92 [.ref (o 0), .int x, .int z, .int k] ([wO o (a 0) (b 0) (d 0) (i 0) (g 0) N tn, wT cI (o 1) 160 tr, wT cI (o 2) N sp, wU cL (o 3) N wh, wU cL (o 4) N ow, wS cI b (a 0) (a 1) (a 2) N rw nm bf fe, wT cI (b 1) (N + 1) (nF oo), wS cI d (a 0) (a 2) (a 1) N rx nn bg fx, wT cI (d 1) (N + 1) (nF ox), wA cI cZ a c fr tt sa tk, wI cI cZ i op sl oi nd lp tl, wG cI g go gt]) (fun r (_ : Unit) => r = lvC N c sa tk fr rw oo x k) (fun (_ : Unit) => [wO o (a 0) (b 0) (d 0) (i 0) (g 0) N tn, wT cI (o 1) 160 tr, wT cI (o 2) N sp, wU cL (o 3) N wh, wU cL (o 4) N ow, wS cI b (a 0) (a 1) (a 2) N rw nm bf fe, wT cI (b 1) (N + 1) (nF oo), wS cI d (a 0) (a 2) (a 1) N rx nn bg fx, wT cI (d 1) (N + 1) (nF ox), wA cI cZ a c fr tt sa tk, wI cI cZ i op sl oi nd lp tl, wG cI g go gt]) := by
  refine q_ofW (Qc := fun A => (va_Qi (fun r (_ : Unit) => r = lvC N c sa tk fr rw oo x k) (fun u t => mAt D (tY cI cZ cL) A ((fun (_ : Unit) => [wO o (a 0) (b 0) (d 0) (i 0) (g 0) N tn, wT cI (o 1) 160 tr, wT cI (o 2) N sp, wU cL (o 3) N wh, wU cL (o 4) N ow, wS cI b (a 0) (a 1) (a 2) N rw nm bf fe, wT cI (b 1) (N + 1) (nF oo), wS cI d (a 0) (a 2) (a 1) N rx nn bg fx, wT cI (d 1) (N + 1) (nF ox), wA cI cZ a c fr tt sa tk, wI cI cZ i op sl oi nd lp tl, wG cI g go gt]) u) t) A)) (cc := cX4_live) (maxL := 4) (ret := (some .int)) (by decide) rfl (Nat.le_of_ble_eq_true rfl) ?_
  intro pz ez sz mz bz tz cz hx hb hml hr hlocks hts hown hK hP A hD hA ls hl
  have hS : va_S A sz.heap sz.heap [] := va_S.rf
  have hl : lv_has ls 4 [(0, .ref (o 0)), (1, .int x), (2, .int z), (3, .int k)] := hl
  refine lv_aload_n hx hb dX4_live_0 rfl (lv_at hl 0 rfl) ?_
  refine lv_iload_n hx hb dX4_live_1 rfl (lv_at hl 1 rfl) ?_
  refine q_callVi (index := 78) (n := 1) (As := [.int x]) (rest := []) (js := [0, 1, 2, 3, 4, 5, 6, 7, 8, 9, 10, 11]) (ci := 4) ⟨hx, hb, hml, hown, hts⟩ hK hP hD hS hA (k4_isNode l D cI cZ cL o N tn tr sp wh ow b rw nm bf fe d rx nn bg fx a c fr tt sa tk i op sl oi nd lp tl g go gt oo ox x) rfl (by decide) (fun _ => by simp only [List.map_cons, List.map_nil, wA_fst, wG_fst, wI_fst, wO_fst, wS_fst, wT_fst, wU_fst]) (fun (_ : Unit) => [wO o (a 0) (b 0) (d 0) (i 0) (g 0) N tn, wT cI (o 1) 160 tr, wT cI (o 2) N sp, wU cL (o 3) N wh, wU cL (o 4) N ow, wS cI b (a 0) (a 1) (a 2) N rw nm bf fe, wT cI (b 1) (N + 1) (nF oo), wS cI d (a 0) (a 2) (a 1) N rx nn bg fx, wT cI (d 1) (N + 1) (nF ox), wA cI cZ a c fr tt sa tk, wI cI cZ i op sl oi nd lp tl, wG cI g go gt]) (fun _ => rfl) gX4_live_X4_isNode rfl (by decide +kernel) rfl ⟨by decide, by decide⟩ rfl rfl rfl rfl hl.1 (Nat.le_of_ble_eq_true rfl) ⟨(Nat.zero_le _), (Nat.zero_le _)⟩ dX4_live_2 rfl (fun r _ H locs hw hP hD hS => ?_)
  have hw : r = bI (hasB N x) := hw
  subst hw
  refine lv_if_ne (tgt := 11) hx hb dX4_live_5 (by decide) (fun c_5 => ?_) (fun c_5 => ?_)
  ·
    have n_5 : (hasB N x) = true := bI_n.mp c_5
    obtain ⟨v, hv, hxv⟩ := hasB_of n_5 (by omega)
    have hl : lv_has ls 4 [(0, .ref (o 0)), (1, .int (nI v)), (2, .int z), (3, .int k)] := by rw [← hxv]; exact hl
    have hxc : x.toNatClampNeg = v := by rw [hxv]; exact nI_clamp (by omega)
    refine lv_iload_n hx hb dX4_live_11 rfl (lv_at hl 3 rfl) ?_
    refine lv_if_ge (tgt := 18) hx hb dX4_live_12 (by decide) (fun c_12 => ?_) (fun c_12 => ?_)
    ·
      obtain ⟨kn, hkn, hkq⟩ := nI_of (k2_nlt c_12)
      have hl : lv_has ls 4 [(0, .ref (o 0)), (1, .int (nI v)), (2, .int z), (3, .int (nI kn))] := by rw [← hkq]; exact hl
      have hkc : k.toNatClampNeg = kn := by rw [hkq]; exact nI_clamp hkn
      have hk0 : ¬ k < 0 := k2_nlt c_12
      refine lv_aload_n hx hb dX4_live_18 rfl (lv_at hl 0 rfl) ?_
      refine lv_iload_n hx hb dX4_live_19 rfl (lv_at hl 2 rfl) ?_
      refine q_callVr (index := 108) (n := 1) (As := [.int z]) (rest := []) (js := [0, 1, 2, 3, 4, 5, 6, 7, 8, 9, 10, 11]) (ci := 4) ⟨hx, hb, hml, hown, hts⟩ hK hP hD hS hA (k4_side0 l D cI cZ cL o N tn tr sp wh ow b rw nm bf fe d rx nn bg fx a c fr tt sa tk i op sl oi nd lp tl g go gt oo ox z hz0) rfl (by decide) (by simp only [List.map_cons, List.map_nil, wA_fst, wG_fst, wI_fst, wO_fst, wS_fst, wT_fst, wU_fst]) ([wO o (a 0) (b 0) (d 0) (i 0) (g 0) N tn, wT cI (o 1) 160 tr, wT cI (o 2) N sp, wU cL (o 3) N wh, wU cL (o 4) N ow, wS cI b (a 0) (a 1) (a 2) N rw nm bf fe, wT cI (b 1) (N + 1) (nF oo), wS cI d (a 0) (a 2) (a 1) N rx nn bg fx, wT cI (d 1) (N + 1) (nF ox), wA cI cZ a c fr tt sa tk, wI cI cZ i op sl oi nd lp tl, wG cI g go gt]) rfl gX4_live_X4_side rfl (by decide +kernel) rfl ⟨by decide, by decide⟩ rfl rfl rfl rfl hl.1 (Nat.le_of_ble_eq_true rfl) ⟨(Nat.zero_le _), (Nat.zero_le _)⟩ dX4_live_20 rfl (fun H locs hP hD hS => ?_)
      refine lv_iload_n hx hb dX4_live_23 rfl (lv_at hl 1 rfl) ?_
      refine lv_iload_n hx hb dX4_live_24 rfl (lv_at hl 3 rfl) ?_
      refine q_callVi (index := 129) (n := 2) (As := [.int (nI v), .int (nI kn)]) (rest := []) (js := [5, 6, 9]) (ci := 3) ⟨hx, hb, hml, hown, hts⟩ hK hP hD hS hA (k3o_liveArc l D cI cZ cL b N rw nm bf fe a c fr tt sa tk oo v kn (by omega) (by omega) (by omega) (hm v hv).1 (hm v hv).2 hkn) rfl (by decide) (fun _ => by simp only [List.map_cons, List.map_nil, wA_fst, wS_fst, wT_fst]) (fun (_ : Unit) => [wO o (a 0) (b 0) (d 0) (i 0) (g 0) N tn, wT cI (o 1) 160 tr, wT cI (o 2) N sp, wU cL (o 3) N wh, wU cL (o 4) N ow, wS cI b (a 0) (a 1) (a 2) N rw nm bf fe, wT cI (b 1) (N + 1) (nF oo), wS cI d (a 0) (a 2) (a 1) N rx nn bg fx, wT cI (d 1) (N + 1) (nF ox), wA cI cZ a c fr tt sa tk, wI cI cZ i op sl oi nd lp tl, wG cI g go gt]) (fun _ => rfl) gX4_live_X3_liveArc rfl (by decide +kernel) rfl ⟨by decide, by decide⟩ rfl rfl rfl rfl hl.1 (Nat.le_of_ble_eq_true rfl) ⟨(Nat.zero_le _), (Nat.zero_le _)⟩ dX4_live_25 rfl (fun r _ H locs hw hP hD hS => ?_)
      have hw : r = laR c sa tk fr rw oo v kn := hw
      subst hw
      exact q_iret (()) hx hb hr hlocks hK hP hD hS (by rw [lvC, if_pos n_5, if_neg hk0, hxc, hkc]) (rfl) dX4_live_28
    ·
      refine lv_bipush (v := (-3)) hx hb dX4_live_15 (by decide) ?_
      exact q_iret (()) hx hb hr hlocks hK hP hD hS (by rw [lvC, if_pos n_5, if_pos (k2_lt c_12)]) (rfl) dX4_live_17
  ·
    have n_5 : (hasB N x) = false := bI_0.mp c_5
    refine lv_bipush (v := (-2)) hx hb dX4_live_8 (by decide) ?_
    exact q_iret (()) hx hb hr hlocks hK hP hD hS (by simp [lvC, n_5]) (rfl) dX4_live_10

set_option maxHeartbeats 8000000 in
set_option maxRecDepth 100000 in
theorem k4_next0 (l : Launch) (D : va_G) (cI cZ cL : ClassId) (o : Nat → Nat) (N : Nat) (tn : Nat) (tr : Nat → Int32) (sp : Nat → Int32) (wh : Nat → Int64) (ow : Nat → Int64) (b : Nat → Nat) (rw : Nat → Int32) (nm : Nat → Int32) (bf : Nat → Int32) (fe : Nat → Int32) (d : Nat → Nat) (rx : Nat → Int32) (nn : Nat → Int32) (bg : Nat → Int32) (fx : Nat → Int32) (a : Nat → Nat) (c : Nat) (fr : Nat → Int32) (tt : Nat → Int32) (sa : Nat → Int32) (tk : Nat → Int32) (i : Nat → Nat) (op : Nat → Int32) (sl : Nat → Int32) (oi : Nat → Int32) (nd : Nat → Int32) (lp : Nat → Int32) (tl : Nat → Int32) (g : Nat → Nat) (go : Nat → Int32) (gt : Nat → Int32) (oo : Nat → Nat) (ox : Nat → Nat) (x : Int32) (v : Nat) (q : Nat) (hc : c ≤ 160) (hN : N ≤ 24) (hz0 : oi x.toNatClampNeg = 0) (hnx : itB op x = true → sl x.toNatClampNeg = 0 → nd x.toNatClampNeg = nI v ∧ v < N ∧ lp x.toNatClampNeg + 1 = nI q ∧ q ≤ plN c oo v ∧ oo v ≤ oo (v + 1) ∧ oo (v + 1) ≤ 160) : McI l D (tY cI cZ cL) yX4_next wsX4_next 4 90 [.ref (o 0), .int x] ([wO o (a 0) (b 0) (d 0) (i 0) (g 0) N tn, wT cI (o 1) 160 tr, wT cI (o 2) N sp, wU cL (o 3) N wh, wU cL (o 4) N ow, wS cI b (a 0) (a 1) (a 2) N rw nm bf fe, wT cI (b 1) (N + 1) (nF oo), wS cI d (a 0) (a 2) (a 1) N rx nn bg fx, wT cI (d 1) (N + 1) (nF ox), wA cI cZ a c fr tt sa tk, wI cI cZ i op sl oi nd lp tl, wG cI g go gt]) (fun r (_ : Unit) => r = ncR c sa tk fr rw oo op sl v q x) (fun (_ : Unit) => [wO o (a 0) (b 0) (d 0) (i 0) (g 0) N tn, wT cI (o 1) 160 tr, wT cI (o 2) N sp, wU cL (o 3) N wh, wU cL (o 4) N ow, wS cI b (a 0) (a 1) (a 2) N rw nm bf fe, wT cI (b 1) (N + 1) (nF oo), wS cI d (a 0) (a 2) (a 1) N rx nn bg fx, wT cI (d 1) (N + 1) (nF ox), wA cI cZ a c fr tt sa tk, wI cI cZ i op sl oi nd (ncF (ncB c sa tk fr rw oo op sl v q x) lp x (lpR c sa tk fr rw oo v q)) (ncF (ncB c sa tk fr rw oo op sl v q x) tl x (tl x.toNatClampNeg + 1)), wG cI g go gt]) := by
  refine q_ofW (Qc := fun A => (va_Qi (fun r (_ : Unit) => r = ncR c sa tk fr rw oo op sl v q x) (fun u t => mAt D (tY cI cZ cL) A ((fun (_ : Unit) => [wO o (a 0) (b 0) (d 0) (i 0) (g 0) N tn, wT cI (o 1) 160 tr, wT cI (o 2) N sp, wU cL (o 3) N wh, wU cL (o 4) N ow, wS cI b (a 0) (a 1) (a 2) N rw nm bf fe, wT cI (b 1) (N + 1) (nF oo), wS cI d (a 0) (a 2) (a 1) N rx nn bg fx, wT cI (d 1) (N + 1) (nF ox), wA cI cZ a c fr tt sa tk, wI cI cZ i op sl oi nd (ncF (ncB c sa tk fr rw oo op sl v q x) lp x (lpR c sa tk fr rw oo v q)) (ncF (ncB c sa tk fr rw oo op sl v q x) tl x (tl x.toNatClampNeg + 1)), wG cI g go gt]) u) t) A)) (cc := cX4_next) (maxL := 5) (ret := (some .int)) (by decide) rfl (Nat.le_of_ble_eq_true rfl) ?_
  intro pz ez sz mz bz tz cz hx hb hml hr hlocks hts hown hK hP A hD hA ls hl
  have hS : va_S A sz.heap sz.heap [] := va_S.rf
  have hl : lv_has ls 5 [(0, .ref (o 0)), (1, .int x)] := hl
  refine lv_aload_n hx hb dX4_next_0 rfl (lv_at hl 0 rfl) ?_
  refine q_get (D := D) (ci := 4) (v := .ref (i 0)) (C := RX4) (T := TX4) (N := 11) hx hb hts (by decide +kernel) hown hK hP 0 0 rfl rfl rfl 4 (by decide) (hts (.fieldLink RX4 51 "OffsetRows" "iterators" "LOffsetRows$Iterators;") (by decide +kernel)) (fun _ h9 => h9) rfl dX4_next_1 ?_
  refine lv_iload_n hx hb dX4_next_4 rfl (lv_at hl 1 rfl) ?_
  refine q_callVi (index := 162) (n := 1) (As := [.int x]) (rest := []) (js := [10]) (ci := 2) ⟨hx, hb, hml, hown, hts⟩ hK hP hD hS hA (k2_has l D cI cZ cL i op sl oi nd lp tl x) rfl (by decide) (fun _ => by simp only [List.map_cons, List.map_nil, wI_fst]) (fun (_ : Unit) => [wO o (a 0) (b 0) (d 0) (i 0) (g 0) N tn, wT cI (o 1) 160 tr, wT cI (o 2) N sp, wU cL (o 3) N wh, wU cL (o 4) N ow, wS cI b (a 0) (a 1) (a 2) N rw nm bf fe, wT cI (b 1) (N + 1) (nF oo), wS cI d (a 0) (a 2) (a 1) N rx nn bg fx, wT cI (d 1) (N + 1) (nF ox), wA cI cZ a c fr tt sa tk, wI cI cZ i op sl oi nd lp tl, wG cI g go gt]) (fun _ => rfl) gX4_next_X2_has rfl (by decide +kernel) rfl ⟨by decide, by decide⟩ rfl rfl rfl rfl hl.1 (Nat.le_of_ble_eq_true rfl) ⟨(Nat.zero_le _), (Nat.zero_le _)⟩ dX4_next_5 rfl (fun r _ H locs hw hP hD hS => ?_)
  have hw : r = bI (itB op x) := hw
  subst hw
  refine lv_if_ne (tgt := 14) hx hb dX4_next_8 (by decide) (fun c_8 => ?_) (fun c_8 => ?_)
  ·
    have n_8 : (itB op x) = true := bI_n.mp c_8
    refine lv_aload_n hx hb dX4_next_14 rfl (lv_at hl 0 rfl) ?_
    refine q_get (D := D) (ci := 4) (v := .ref (i 0)) (C := RX4) (T := TX4) (N := 11) hx hb hts (by decide +kernel) hown hK hP 0 0 rfl rfl rfl 4 (by decide) (hts (.fieldLink RX4 51 "OffsetRows" "iterators" "LOffsetRows$Iterators;") (by decide +kernel)) (fun _ h9 => h9) rfl dX4_next_15 ?_
    refine q_get (D := D) (ci := 2) (v := .ref (i 2)) (C := RX2) (T := TX2) (N := 6) hx hb hts (by decide +kernel) hown hK hP 10 0 rfl rfl rfl 1 (by decide) (hts (.fieldLink RX4 163 "OffsetRows$Iterators" "isStale" "[Z") (by decide +kernel)) (fun _ h9 => h9) rfl dX4_next_18 ?_
    refine lv_iload_n hx hb dX4_next_21 rfl (lv_at hl 1 rfl) ?_
    refine q_zald hx hb hK hP 10 2 1 rfl (f := sl) rfl rfl (k := x.toNatClampNeg) rfl (hasB_in (c := 8) (by simp [itB] at n_8; exact n_8.1) (Nat.le_refl 8) (by decide)) dX4_next_22 ?_
    refine lv_if_eq (tgt := 29) hx hb dX4_next_23 (by decide) (fun c_23 => ?_) (fun c_23 => ?_)
    ·
      obtain ⟨hnv, hv, hlq, hq, hm1, hm2⟩ := hnx n_8 c_23
      refine lv_aload_n hx hb dX4_next_29 rfl (lv_at hl 0 rfl) ?_
      refine q_get (D := D) (ci := 4) (v := .ref (i 0)) (C := RX4) (T := TX4) (N := 11) hx hb hts (by decide +kernel) hown hK hP 0 0 rfl rfl rfl 4 (by decide) (hts (.fieldLink RX4 51 "OffsetRows" "iterators" "LOffsetRows$Iterators;") (by decide +kernel)) (fun _ h9 => h9) rfl dX4_next_30 ?_
      refine q_get (D := D) (ci := 2) (v := .ref (i 4)) (C := RX2) (T := TX2) (N := 6) hx hb hts (by decide +kernel) hown hK hP 10 0 rfl rfl rfl 3 (by decide) (hts (.fieldLink RX4 166 "OffsetRows$Iterators" "node" "[I") (by decide +kernel)) (fun _ h9 => h9) rfl dX4_next_33 ?_
      refine lv_iload_n hx hb dX4_next_36 rfl (lv_at hl 1 rfl) ?_
      refine q_iald hx hb hK hP 10 4 0 rfl (f := nd) rfl rfl (k := x.toNatClampNeg) rfl (hasB_in (c := 8) (by simp [itB] at n_8; exact n_8.1) (Nat.le_refl 8) (by decide)) dX4_next_37 ?_
      refine q_top (z := nI v) (hnv) ?_
      refine lv_istore_n (lv' := [(2, .int (nI v)), (0, .ref (o 0)), (1, .int x)]) hx hb dX4_next_38 rfl hl (by decide) rfl (fun ls hl => ?_)
      refine lv_aload_n hx hb dX4_next_39 rfl (lv_at hl 1 rfl) ?_
      refine lv_aload_n hx hb dX4_next_40 rfl (lv_at hl 1 rfl) ?_
      refine q_get (D := D) (ci := 4) (v := .ref (i 0)) (C := RX4) (T := TX4) (N := 11) hx hb hts (by decide +kernel) hown hK hP 0 0 rfl rfl rfl 4 (by decide) (hts (.fieldLink RX4 51 "OffsetRows" "iterators" "LOffsetRows$Iterators;") (by decide +kernel)) (fun _ h9 => h9) rfl dX4_next_41 ?_
      refine q_get (D := D) (ci := 2) (v := .ref (i 3)) (C := RX2) (T := TX2) (N := 6) hx hb hts (by decide +kernel) hown hK hP 10 0 rfl rfl rfl 2 (by decide) (hts (.fieldLink RX4 169 "OffsetRows$Iterators" "ofIn" "[Z") (by decide +kernel)) (fun _ h9 => h9) rfl dX4_next_44 ?_
      refine lv_iload_n hx hb dX4_next_47 rfl (lv_at hl 2 rfl) ?_
      refine q_zald hx hb hK hP 10 3 1 rfl (f := oi) rfl rfl (k := x.toNatClampNeg) rfl (hasB_in (c := 8) (by simp [itB] at n_8; exact n_8.1) (Nat.le_refl 8) (by decide)) dX4_next_48 ?_
      refine q_callVr (index := 108) (n := 1) (As := [.int (oi x.toNatClampNeg)]) (rest := []) (js := [0, 1, 2, 3, 4, 5, 6, 7, 8, 9, 10, 11]) (ci := 4) ⟨hx, hb, hml, hown, hts⟩ hK hP hD hS hA (k4_side0 l D cI cZ cL o N tn tr sp wh ow b rw nm bf fe d rx nn bg fx a c fr tt sa tk i op sl oi nd lp tl g go gt oo ox (oi x.toNatClampNeg) hz0) rfl (by decide) (by simp only [List.map_cons, List.map_nil, wA_fst, wG_fst, wI_fst, wO_fst, wS_fst, wT_fst, wU_fst]) ([wO o (a 0) (b 0) (d 0) (i 0) (g 0) N tn, wT cI (o 1) 160 tr, wT cI (o 2) N sp, wU cL (o 3) N wh, wU cL (o 4) N ow, wS cI b (a 0) (a 1) (a 2) N rw nm bf fe, wT cI (b 1) (N + 1) (nF oo), wS cI d (a 0) (a 2) (a 1) N rx nn bg fx, wT cI (d 1) (N + 1) (nF ox), wA cI cZ a c fr tt sa tk, wI cI cZ i op sl oi nd lp tl, wG cI g go gt]) rfl gX4_next_X4_side rfl (by decide +kernel) rfl ⟨by decide, by decide⟩ rfl rfl rfl rfl hl.1 (Nat.le_of_ble_eq_true rfl) ⟨(Nat.zero_le _), (Nat.zero_le _)⟩ dX4_next_49 rfl (fun H locs hP hD hS => ?_)
      refine lv_astore_n (lv' := [(3, .ref (b 0)), (2, .int (nI v)), (0, .ref (o 0)), (1, .int x)]) hx hb dX4_next_52 rfl hl (by decide) rfl (fun ls hl => ?_)
      refine lv_aload_n hx hb dX4_next_53 rfl (lv_at hl 0 rfl) ?_
      refine lv_iload_n hx hb dX4_next_54 rfl (lv_at hl 1 rfl) ?_
      refine lv_aload_n hx hb dX4_next_55 rfl (lv_at hl 2 rfl) ?_
      refine q_get (D := D) (ci := 4) (v := .ref (i 0)) (C := RX4) (T := TX4) (N := 11) hx hb hts (by decide +kernel) hown hK hP 0 0 rfl rfl rfl 4 (by decide) (hts (.fieldLink RX4 51 "OffsetRows" "iterators" "LOffsetRows$Iterators;") (by decide +kernel)) (fun _ h9 => h9) rfl dX4_next_56 ?_
      refine q_get (D := D) (ci := 2) (v := .ref (i 5)) (C := RX2) (T := TX2) (N := 6) hx hb hts (by decide +kernel) hown hK hP 10 0 rfl rfl rfl 4 (by decide) (hts (.fieldLink RX4 172 "OffsetRows$Iterators" "lastPlace" "[I") (by decide +kernel)) (fun _ h9 => h9) rfl dX4_next_59 ?_
      refine lv_iload_n hx hb dX4_next_62 rfl (lv_at hl 3 rfl) ?_
      refine q_iald hx hb hK hP 10 5 0 rfl (f := lp) rfl rfl (k := x.toNatClampNeg) rfl (hasB_in (c := 8) (by simp [itB] at n_8; exact n_8.1) (Nat.le_refl 8) (by decide)) dX4_next_63 ?_
      refine lv_iconst (v := (1 : Int32)) hx hb dX4_next_64 (by decide) ?_
      refine q_iadd (z := nI q) hx hb dX4_next_65 (hlq) ?_
      refine q_callVi (index := 175) (n := 2) (As := [.int (nI v), .int (nI q)]) (rest := []) (js := [5, 6, 9]) (ci := 3) ⟨hx, hb, hml, hown, hts⟩ hK hP hD hS hA (k3o_livePlaceFrom l D cI cZ cL b N rw nm bf fe a c fr tt sa tk oo v q (by omega) (by omega) hv hm1 hm2 hq) rfl (by decide) (fun _ => by simp only [List.map_cons, List.map_nil, wA_fst, wS_fst, wT_fst]) (fun (_ : Unit) => [wO o (a 0) (b 0) (d 0) (i 0) (g 0) N tn, wT cI (o 1) 160 tr, wT cI (o 2) N sp, wU cL (o 3) N wh, wU cL (o 4) N ow, wS cI b (a 0) (a 1) (a 2) N rw nm bf fe, wT cI (b 1) (N + 1) (nF oo), wS cI d (a 0) (a 2) (a 1) N rx nn bg fx, wT cI (d 1) (N + 1) (nF ox), wA cI cZ a c fr tt sa tk, wI cI cZ i op sl oi nd lp tl, wG cI g go gt]) (fun _ => rfl) gX4_next_X3_livePlaceFrom rfl (by decide +kernel) rfl ⟨by decide, by decide⟩ rfl rfl rfl rfl hl.1 (Nat.le_of_ble_eq_true rfl) ⟨(Nat.zero_le _), (Nat.zero_le _)⟩ dX4_next_66 rfl (fun r _ H locs hw hP hD hS => ?_)
      have hw : r = lpR c sa tk fr rw oo v q := hw
      subst hw
      refine lv_istore (lv' := [(4, .int (lpR c sa tk fr rw oo v q)), (3, .ref (b 0)), (2, .int (nI v)), (0, .ref (o 0)), (1, .int x)]) hx hb dX4_next_69 hl (by decide) rfl (fun ls hl => ?_)
      refine lv_iload hx hb dX4_next_71 (lv_at hl 0 rfl) ?_
      refine lv_iconst (v := (-1)) hx hb dX4_next_73 (by decide) ?_
      refine lv_icmp_ne (tgt := 79) hx hb dX4_next_74 (by decide) (fun c_74 => ?_) (fun c_74 => ?_)
      ·
        obtain ⟨p, hp1, hp2, hp4⟩ := lpR_in c_74
        have hl : lv_has ls 5 [(4, .int (nI p)), (3, .ref (b 0)), (2, .int (nI v)), (0, .ref (o 0)), (1, .int x)] := by rw [← hp4]; exact hl
        have hpc : (lpR c sa tk fr rw oo v q).toNatClampNeg = p := by rw [hp4]; unfold plN at hp2; exact nI_clamp (by omega)
        have hp9 : p ≤ 1000 := by unfold plN at hp2; omega
        refine lv_aload_n hx hb dX4_next_79 rfl (lv_at hl 3 rfl) ?_
        refine q_get (D := D) (ci := 4) (v := .ref (i 0)) (C := RX4) (T := TX4) (N := 11) hx hb hts (by decide +kernel) hown hK hP 0 0 rfl rfl rfl 4 (by decide) (hts (.fieldLink RX4 51 "OffsetRows" "iterators" "LOffsetRows$Iterators;") (by decide +kernel)) (fun _ h9 => h9) rfl dX4_next_80 ?_
        refine lv_iload_n hx hb dX4_next_83 rfl (lv_at hl 4 rfl) ?_
        refine lv_iload hx hb dX4_next_84 (lv_at hl 0 rfl) ?_
        refine q_callVv (index := 178) (n := 2) (As := [.int x, .int (nI p)]) (rest := []) (js := [10]) (ci := 2) ⟨hx, hb, hml, hown, hts⟩ hK hP hD hS hA (k2_moveTo l D cI cZ cL i op sl oi nd lp tl x (nI p) (hasB_in (c := 8) (by simp [itB] at n_8; exact n_8.1) (Nat.le_refl 8) (by decide))) rfl (by decide) (fun _ => by simp only [List.map_cons, List.map_nil, wI_fst]) (fun (_ : Unit) => [wO o (a 0) (b 0) (d 0) (i 0) (g 0) N tn, wT cI (o 1) 160 tr, wT cI (o 2) N sp, wU cL (o 3) N wh, wU cL (o 4) N ow, wS cI b (a 0) (a 1) (a 2) N rw nm bf fe, wT cI (b 1) (N + 1) (nF oo), wS cI d (a 0) (a 2) (a 1) N rx nn bg fx, wT cI (d 1) (N + 1) (nF ox), wA cI cZ a c fr tt sa tk, wI cI cZ i op sl oi nd (upd lp x.toNatClampNeg (nI p)) (upd tl x.toNatClampNeg (tl x.toNatClampNeg + 1)), wG cI g go gt]) (fun _ => rfl) gX4_next_X2_moveTo rfl (by decide +kernel) rfl ⟨by decide, by decide⟩ rfl rfl rfl rfl hl.1 (Nat.le_of_ble_eq_true rfl) ⟨(Nat.zero_le _), (Nat.zero_le _)⟩ dX4_next_86 rfl (fun _ H locs hw hP hD hS => ?_)
        refine lv_aload_n hx hb dX4_next_89 rfl (lv_at hl 1 rfl) ?_
        refine lv_iload_n hx hb dX4_next_90 rfl (lv_at hl 2 rfl) ?_
        refine lv_iload hx hb dX4_next_91 (lv_at hl 0 rfl) ?_
        refine q_callVi (index := 182) (n := 2) (As := [.int (nI v), .int (nI p)]) (rest := []) (js := [5, 6, 9]) (ci := 3) ⟨hx, hb, hml, hown, hts⟩ hK hP hD hS hA (k3o_arcAt l D cI cZ cL b N rw nm bf fe a c fr tt sa tk oo v p (by omega) (by omega) hv hm1 hm2 hp9) rfl (by decide) (fun _ => by simp only [List.map_cons, List.map_nil, wA_fst, wS_fst, wT_fst]) (fun (_ : Unit) => [wO o (a 0) (b 0) (d 0) (i 0) (g 0) N tn, wT cI (o 1) 160 tr, wT cI (o 2) N sp, wU cL (o 3) N wh, wU cL (o 4) N ow, wS cI b (a 0) (a 1) (a 2) N rw nm bf fe, wT cI (b 1) (N + 1) (nF oo), wS cI d (a 0) (a 2) (a 1) N rx nn bg fx, wT cI (d 1) (N + 1) (nF ox), wA cI cZ a c fr tt sa tk, wI cI cZ i op sl oi nd (upd lp x.toNatClampNeg (nI p)) (upd tl x.toNatClampNeg (tl x.toNatClampNeg + 1)), wG cI g go gt]) (fun _ => rfl) gX4_next_X3_arcAt rfl (by decide +kernel) rfl ⟨by decide, by decide⟩ rfl rfl rfl rfl hl.1 (Nat.le_of_ble_eq_true rfl) ⟨(Nat.zero_le _), (Nat.zero_le _)⟩ dX4_next_93 rfl (fun r _ H locs hw hP hD hS => ?_)
        have hw : r = atV c sa fr rw oo v p := hw
        subst hw
        exact q_iret (()) hx hb hr hlocks hK hP hD hS (by rw [ncR, if_pos n_8, if_pos c_23, if_neg c_74, hpc]) (by rw [show ncB c sa tk fr rw oo op sl v q x = true by simp [ncB, n_8, c_23, c_74], hp4]; rfl) dX4_next_96
      ·
        refine lv_iconst (v := (-1)) hx hb dX4_next_77 (by decide) ?_
        exact q_iret (()) hx hb hr hlocks hK hP hD hS (by simp [ncR, n_8, c_23, c_74]) (by simp [ncF, ncB, c_74]) dX4_next_78
    ·
      refine lv_bipush (v := (-4)) hx hb dX4_next_26 (by decide) ?_
      exact q_iret (()) hx hb hr hlocks hK hP hD hS (by simp [ncR, n_8, c_23]) (by simp [ncF, ncB, c_23]) dX4_next_28
  ·
    have n_8 : (itB op x) = false := bI_0.mp c_8
    refine lv_bipush (v := (-2)) hx hb dX4_next_11 (by decide) ?_
    exact q_iret (()) hx hb hr hlocks hK hP hD hS (by simp [ncR, n_8]) (by simp [ncF, ncB, n_8]) dX4_next_13

set_option maxHeartbeats 8000000 in
set_option maxRecDepth 100000 in
theorem k4_offset1 (l : Launch) (D : va_G) (cI cZ cL : ClassId) (o : Nat → Nat) (N : Nat) (tn : Nat) (tr : Nat → Int32) (sp : Nat → Int32) (wh : Nat → Int64) (ow : Nat → Int64) (b : Nat → Nat) (rw : Nat → Int32) (nm : Nat → Int32) (bf : Nat → Int32) (fe : Nat → Int32) (d : Nat → Nat) (rx : Nat → Int32) (nn : Nat → Int32) (bg : Nat → Int32) (fx : Nat → Int32) (a : Nat → Nat) (c : Nat) (fr : Nat → Int32) (tt : Nat → Int32) (sa : Nat → Int32) (tk : Nat → Int32) (i : Nat → Nat) (op : Nat → Int32) (sl : Nat → Int32) (oi : Nat → Int32) (nd : Nat → Int32) (lp : Nat → Int32) (tl : Nat → Int32) (g : Nat → Nat) (go : Nat → Int32) (gt : Nat → Int32) (oo : Nat → Nat) (ox : Nat → Nat) (x : Int32) (z : Int32) (hN : N ≤ 24) (hz0 : ¬ z = 0) : McI l D (tY cI cZ cL) yX4_offset wsX4_offset 1 21 [.ref (o 0), .int x, .int z] ([wO o (a 0) (b 0) (d 0) (i 0) (g 0) N tn, wT cI (o 1) 160 tr, wT cI (o 2) N sp, wU cL (o 3) N wh, wU cL (o 4) N ow, wS cI b (a 0) (a 1) (a 2) N rw nm bf fe, wT cI (b 1) (N + 1) (nF oo), wS cI d (a 0) (a 2) (a 1) N rx nn bg fx, wT cI (d 1) (N + 1) (nF ox), wA cI cZ a c fr tt sa tk, wI cI cZ i op sl oi nd lp tl, wG cI g go gt]) (fun r (_ : Unit) => r = ofC N ox x) (fun (_ : Unit) => [wO o (a 0) (b 0) (d 0) (i 0) (g 0) N tn, wT cI (o 1) 160 tr, wT cI (o 2) N sp, wU cL (o 3) N wh, wU cL (o 4) N ow, wS cI b (a 0) (a 1) (a 2) N rw nm bf fe, wT cI (b 1) (N + 1) (nF oo), wS cI d (a 0) (a 2) (a 1) N rx nn bg fx, wT cI (d 1) (N + 1) (nF ox), wA cI cZ a c fr tt sa tk, wI cI cZ i op sl oi nd lp tl, wG cI g go gt]) := by
  refine q_ofW (Qc := fun A => (va_Qi (fun r (_ : Unit) => r = ofC N ox x) (fun u t => mAt D (tY cI cZ cL) A ((fun (_ : Unit) => [wO o (a 0) (b 0) (d 0) (i 0) (g 0) N tn, wT cI (o 1) 160 tr, wT cI (o 2) N sp, wU cL (o 3) N wh, wU cL (o 4) N ow, wS cI b (a 0) (a 1) (a 2) N rw nm bf fe, wT cI (b 1) (N + 1) (nF oo), wS cI d (a 0) (a 2) (a 1) N rx nn bg fx, wT cI (d 1) (N + 1) (nF ox), wA cI cZ a c fr tt sa tk, wI cI cZ i op sl oi nd lp tl, wG cI g go gt]) u) t) A)) (cc := cX4_offset) (maxL := 3) (ret := (some .int)) (by decide) rfl (Nat.le_of_ble_eq_true rfl) ?_
  intro pz ez sz mz bz tz cz hx hb hml hr hlocks hts hown hK hP A hD hA ls hl
  have hS : va_S A sz.heap sz.heap [] := va_S.rf
  have hl : lv_has ls 3 [(0, .ref (o 0)), (1, .int x), (2, .int z)] := hl
  refine lv_iload_n hx hb dX4_offset_0 rfl (lv_at hl 1 rfl) ?_
  refine lv_aload_n hx hb dX4_offset_1 rfl (lv_at hl 0 rfl) ?_
  refine q_get (D := D) (ci := 4) (v := .int (nI N)) (C := RX4) (T := TX4) (N := 11) hx hb hts (by decide +kernel) hown hK hP 0 0 rfl rfl rfl 0 (by decide) (hts (.fieldLink RX4 18 "OffsetRows" "nodes" "I") (by decide +kernel)) (fun _ h9 => h9) rfl dX4_offset_2 ?_
  refine lv_icmp_eq (tgt := 19) hx hb dX4_offset_5 (by decide) (fun c_5 => ?_) (fun c_5 => ?_)
  ·
    have hl : lv_has ls 3 [(0, .ref (o 0)), (1, .int (nI N)), (2, .int z)] := by rw [← c_5]; exact hl
    have hxc : x.toNatClampNeg = N := by rw [c_5]; exact nI_clamp (by omega)
    refine lv_aload_n hx hb dX4_offset_19 rfl (lv_at hl 0 rfl) ?_
    refine lv_iload_n hx hb dX4_offset_20 rfl (lv_at hl 2 rfl) ?_
    refine q_callVr (index := 108) (n := 1) (As := [.int z]) (rest := []) (js := [0, 1, 2, 3, 4, 5, 6, 7, 8, 9, 10, 11]) (ci := 4) ⟨hx, hb, hml, hown, hts⟩ hK hP hD hS hA (k4_side1 l D cI cZ cL o N tn tr sp wh ow b rw nm bf fe d rx nn bg fx a c fr tt sa tk i op sl oi nd lp tl g go gt oo ox z hz0) rfl (by decide) (by simp only [List.map_cons, List.map_nil, wA_fst, wG_fst, wI_fst, wO_fst, wS_fst, wT_fst, wU_fst]) ([wO o (a 0) (b 0) (d 0) (i 0) (g 0) N tn, wT cI (o 1) 160 tr, wT cI (o 2) N sp, wU cL (o 3) N wh, wU cL (o 4) N ow, wS cI b (a 0) (a 1) (a 2) N rw nm bf fe, wT cI (b 1) (N + 1) (nF oo), wS cI d (a 0) (a 2) (a 1) N rx nn bg fx, wT cI (d 1) (N + 1) (nF ox), wA cI cZ a c fr tt sa tk, wI cI cZ i op sl oi nd lp tl, wG cI g go gt]) rfl gX4_offset_X4_side rfl (by decide +kernel) rfl ⟨by decide, by decide⟩ rfl rfl rfl rfl hl.1 (Nat.le_of_ble_eq_true rfl) ⟨(Nat.zero_le _), (Nat.zero_le _)⟩ dX4_offset_21 rfl (fun H locs hP hD hS => ?_)
    refine q_get (D := D) (ci := 3) (v := .ref (d 1)) (C := RX3) (T := TX3) (N := 8) hx hb hts (by decide +kernel) hown hK hP 7 0 rfl rfl rfl 3 (by decide) (hts (.fieldLink RX4 112 "OffsetRows$Side" "offsets" "[I") (by decide +kernel)) (fun _ h9 => h9) rfl dX4_offset_24 ?_
    refine lv_iload_n hx hb dX4_offset_27 rfl (lv_at hl 1 rfl) ?_
    refine q_iald hx hb hK hP 8 0 0 rfl (f := nF ox) rfl rfl (k := N) (nI_clamp (n := N) (by omega)) (vp_in_nI (show N < N + 1 from by omega) (by omega)) dX4_offset_28 ?_
    exact q_iret (()) hx hb hr hlocks hK hP hD hS (by rw [ofC, if_pos (Or.inl c_5), hxc]; rfl) (rfl) dX4_offset_29
  ·
    refine lv_aload_n hx hb dX4_offset_8 rfl (lv_at hl 0 rfl) ?_
    refine lv_iload_n hx hb dX4_offset_9 rfl (lv_at hl 1 rfl) ?_
    refine q_callVi (index := 78) (n := 1) (As := [.int x]) (rest := []) (js := [0, 1, 2, 3, 4, 5, 6, 7, 8, 9, 10, 11]) (ci := 4) ⟨hx, hb, hml, hown, hts⟩ hK hP hD hS hA (k4_isNode l D cI cZ cL o N tn tr sp wh ow b rw nm bf fe d rx nn bg fx a c fr tt sa tk i op sl oi nd lp tl g go gt oo ox x) rfl (by decide) (fun _ => by simp only [List.map_cons, List.map_nil, wA_fst, wG_fst, wI_fst, wO_fst, wS_fst, wT_fst, wU_fst]) (fun (_ : Unit) => [wO o (a 0) (b 0) (d 0) (i 0) (g 0) N tn, wT cI (o 1) 160 tr, wT cI (o 2) N sp, wU cL (o 3) N wh, wU cL (o 4) N ow, wS cI b (a 0) (a 1) (a 2) N rw nm bf fe, wT cI (b 1) (N + 1) (nF oo), wS cI d (a 0) (a 2) (a 1) N rx nn bg fx, wT cI (d 1) (N + 1) (nF ox), wA cI cZ a c fr tt sa tk, wI cI cZ i op sl oi nd lp tl, wG cI g go gt]) (fun _ => rfl) gX4_offset_X4_isNode rfl (by decide +kernel) rfl ⟨by decide, by decide⟩ rfl rfl rfl rfl hl.1 (Nat.le_of_ble_eq_true rfl) ⟨(Nat.zero_le _), (Nat.zero_le _)⟩ dX4_offset_10 rfl (fun r _ H locs hw hP hD hS => ?_)
    have hw : r = bI (hasB N x) := hw
    subst hw
    refine lv_if_ne (tgt := 19) hx hb dX4_offset_13 (by decide) (fun c_13 => ?_) (fun c_13 => ?_)
    ·
      have n_13 : (hasB N x) = true := bI_n.mp c_13
      obtain ⟨v, hv, hxv⟩ := hasB_of n_13 (by omega)
      have hl : lv_has ls 3 [(0, .ref (o 0)), (1, .int (nI v)), (2, .int z)] := by rw [← hxv]; exact hl
      have hxc : x.toNatClampNeg = v := by rw [hxv]; exact nI_clamp (by omega)
      refine lv_aload_n hx hb dX4_offset_19 rfl (lv_at hl 0 rfl) ?_
      refine lv_iload_n hx hb dX4_offset_20 rfl (lv_at hl 2 rfl) ?_
      refine q_callVr (index := 108) (n := 1) (As := [.int z]) (rest := []) (js := [0, 1, 2, 3, 4, 5, 6, 7, 8, 9, 10, 11]) (ci := 4) ⟨hx, hb, hml, hown, hts⟩ hK hP hD hS hA (k4_side1 l D cI cZ cL o N tn tr sp wh ow b rw nm bf fe d rx nn bg fx a c fr tt sa tk i op sl oi nd lp tl g go gt oo ox z hz0) rfl (by decide) (by simp only [List.map_cons, List.map_nil, wA_fst, wG_fst, wI_fst, wO_fst, wS_fst, wT_fst, wU_fst]) ([wO o (a 0) (b 0) (d 0) (i 0) (g 0) N tn, wT cI (o 1) 160 tr, wT cI (o 2) N sp, wU cL (o 3) N wh, wU cL (o 4) N ow, wS cI b (a 0) (a 1) (a 2) N rw nm bf fe, wT cI (b 1) (N + 1) (nF oo), wS cI d (a 0) (a 2) (a 1) N rx nn bg fx, wT cI (d 1) (N + 1) (nF ox), wA cI cZ a c fr tt sa tk, wI cI cZ i op sl oi nd lp tl, wG cI g go gt]) rfl gX4_offset_X4_side rfl (by decide +kernel) rfl ⟨by decide, by decide⟩ rfl rfl rfl rfl hl.1 (Nat.le_of_ble_eq_true rfl) ⟨(Nat.zero_le _), (Nat.zero_le _)⟩ dX4_offset_21 rfl (fun H locs hP hD hS => ?_)
      refine q_get (D := D) (ci := 3) (v := .ref (d 1)) (C := RX3) (T := TX3) (N := 8) hx hb hts (by decide +kernel) hown hK hP 7 0 rfl rfl rfl 3 (by decide) (hts (.fieldLink RX4 112 "OffsetRows$Side" "offsets" "[I") (by decide +kernel)) (fun _ h9 => h9) rfl dX4_offset_24 ?_
      refine lv_iload_n hx hb dX4_offset_27 rfl (lv_at hl 1 rfl) ?_
      refine q_iald hx hb hK hP 8 0 0 rfl (f := nF ox) rfl rfl (k := v) (nI_clamp (n := v) (by omega)) (vp_in_nI (show v < N + 1 from by omega) (by omega)) dX4_offset_28 ?_
      exact q_iret (()) hx hb hr hlocks hK hP hD hS (by rw [ofC, if_pos (Or.inr n_13), hxc]; rfl) (rfl) dX4_offset_29
    ·
      have n_13 : (hasB N x) = false := bI_0.mp c_13
      refine lv_bipush (v := (-2)) hx hb dX4_offset_16 (by decide) ?_
      exact q_iret (()) hx hb hr hlocks hK hP hD hS (by simp [ofC, c_5, n_13]) (rfl) dX4_offset_18

set_option maxHeartbeats 8000000 in
set_option maxRecDepth 100000 in
theorem k4_degree1 (l : Launch) (D : va_G) (cI cZ cL : ClassId) (o : Nat → Nat) (N : Nat) (tn : Nat) (tr : Nat → Int32) (sp : Nat → Int32) (wh : Nat → Int64) (ow : Nat → Int64) (b : Nat → Nat) (rw : Nat → Int32) (nm : Nat → Int32) (bf : Nat → Int32) (fe : Nat → Int32) (d : Nat → Nat) (rx : Nat → Int32) (nn : Nat → Int32) (bg : Nat → Int32) (fx : Nat → Int32) (a : Nat → Nat) (c : Nat) (fr : Nat → Int32) (tt : Nat → Int32) (sa : Nat → Int32) (tk : Nat → Int32) (i : Nat → Nat) (op : Nat → Int32) (sl : Nat → Int32) (oi : Nat → Int32) (nd : Nat → Int32) (lp : Nat → Int32) (tl : Nat → Int32) (g : Nat → Nat) (go : Nat → Int32) (gt : Nat → Int32) (oo : Nat → Nat) (ox : Nat → Nat) (x : Int32) (z : Int32) (hc : c ≤ 160) (hN : N ≤ 24) (hz0 : ¬ z = 0) (hm : ∀ v, v < N → ox v ≤ ox (v + 1) ∧ ox (v + 1) ≤ 160) : McI l D (tY cI cZ cL) yX4_degree wsX4_degree 4 90 [.ref (o 0), .int x, .int z] ([wO o (a 0) (b 0) (d 0) (i 0) (g 0) N tn, wT cI (o 1) 160 tr, wT cI (o 2) N sp, wU cL (o 3) N wh, wU cL (o 4) N ow, wS cI b (a 0) (a 1) (a 2) N rw nm bf fe, wT cI (b 1) (N + 1) (nF oo), wS cI d (a 0) (a 2) (a 1) N rx nn bg fx, wT cI (d 1) (N + 1) (nF ox), wA cI cZ a c fr tt sa tk, wI cI cZ i op sl oi nd lp tl, wG cI g go gt]) (fun r (_ : Unit) => r = dcR N c sa tk tt rx ox x) (fun (_ : Unit) => [wO o (a 0) (b 0) (d 0) (i 0) (g 0) N tn, wT cI (o 1) 160 tr, wT cI (o 2) N sp, wU cL (o 3) N wh, wU cL (o 4) N ow, wS cI b (a 0) (a 1) (a 2) N rw nm bf fe, wT cI (b 1) (N + 1) (nF oo), wS cI d (a 0) (a 2) (a 1) N rx nn bg fx, wT cI (d 1) (N + 1) (nF ox), wA cI cZ a c fr tt sa tk, wI cI cZ i op sl oi nd lp tl, wG cI g go gt]) := by
  refine q_ofW (Qc := fun A => (va_Qi (fun r (_ : Unit) => r = dcR N c sa tk tt rx ox x) (fun u t => mAt D (tY cI cZ cL) A ((fun (_ : Unit) => [wO o (a 0) (b 0) (d 0) (i 0) (g 0) N tn, wT cI (o 1) 160 tr, wT cI (o 2) N sp, wU cL (o 3) N wh, wU cL (o 4) N ow, wS cI b (a 0) (a 1) (a 2) N rw nm bf fe, wT cI (b 1) (N + 1) (nF oo), wS cI d (a 0) (a 2) (a 1) N rx nn bg fx, wT cI (d 1) (N + 1) (nF ox), wA cI cZ a c fr tt sa tk, wI cI cZ i op sl oi nd lp tl, wG cI g go gt]) u) t) A)) (cc := cX4_degree) (maxL := 3) (ret := (some .int)) (by decide) rfl (Nat.le_of_ble_eq_true rfl) ?_
  intro pz ez sz mz bz tz cz hx hb hml hr hlocks hts hown hK hP A hD hA ls hl
  have hS : va_S A sz.heap sz.heap [] := va_S.rf
  have hl : lv_has ls 3 [(0, .ref (o 0)), (1, .int x), (2, .int z)] := hl
  refine lv_aload_n hx hb dX4_degree_0 rfl (lv_at hl 0 rfl) ?_
  refine lv_iload_n hx hb dX4_degree_1 rfl (lv_at hl 1 rfl) ?_
  refine q_callVi (index := 78) (n := 1) (As := [.int x]) (rest := []) (js := [0, 1, 2, 3, 4, 5, 6, 7, 8, 9, 10, 11]) (ci := 4) ⟨hx, hb, hml, hown, hts⟩ hK hP hD hS hA (k4_isNode l D cI cZ cL o N tn tr sp wh ow b rw nm bf fe d rx nn bg fx a c fr tt sa tk i op sl oi nd lp tl g go gt oo ox x) rfl (by decide) (fun _ => by simp only [List.map_cons, List.map_nil, wA_fst, wG_fst, wI_fst, wO_fst, wS_fst, wT_fst, wU_fst]) (fun (_ : Unit) => [wO o (a 0) (b 0) (d 0) (i 0) (g 0) N tn, wT cI (o 1) 160 tr, wT cI (o 2) N sp, wU cL (o 3) N wh, wU cL (o 4) N ow, wS cI b (a 0) (a 1) (a 2) N rw nm bf fe, wT cI (b 1) (N + 1) (nF oo), wS cI d (a 0) (a 2) (a 1) N rx nn bg fx, wT cI (d 1) (N + 1) (nF ox), wA cI cZ a c fr tt sa tk, wI cI cZ i op sl oi nd lp tl, wG cI g go gt]) (fun _ => rfl) gX4_degree_X4_isNode rfl (by decide +kernel) rfl ⟨by decide, by decide⟩ rfl rfl rfl rfl hl.1 (Nat.le_of_ble_eq_true rfl) ⟨(Nat.zero_le _), (Nat.zero_le _)⟩ dX4_degree_2 rfl (fun r _ H locs hw hP hD hS => ?_)
  have hw : r = bI (hasB N x) := hw
  subst hw
  refine lv_if_ne (tgt := 11) hx hb dX4_degree_5 (by decide) (fun c_5 => ?_) (fun c_5 => ?_)
  ·
    have n_5 : (hasB N x) = true := bI_n.mp c_5
    obtain ⟨v, hv, hxv⟩ := hasB_of n_5 (by omega)
    have hl : lv_has ls 3 [(0, .ref (o 0)), (1, .int (nI v)), (2, .int z)] := by rw [← hxv]; exact hl
    have hxc : x.toNatClampNeg = v := by rw [hxv]; exact nI_clamp (by omega)
    refine lv_aload_n hx hb dX4_degree_11 rfl (lv_at hl 0 rfl) ?_
    refine lv_iload_n hx hb dX4_degree_12 rfl (lv_at hl 2 rfl) ?_
    refine q_callVr (index := 108) (n := 1) (As := [.int z]) (rest := []) (js := [0, 1, 2, 3, 4, 5, 6, 7, 8, 9, 10, 11]) (ci := 4) ⟨hx, hb, hml, hown, hts⟩ hK hP hD hS hA (k4_side1 l D cI cZ cL o N tn tr sp wh ow b rw nm bf fe d rx nn bg fx a c fr tt sa tk i op sl oi nd lp tl g go gt oo ox z hz0) rfl (by decide) (by simp only [List.map_cons, List.map_nil, wA_fst, wG_fst, wI_fst, wO_fst, wS_fst, wT_fst, wU_fst]) ([wO o (a 0) (b 0) (d 0) (i 0) (g 0) N tn, wT cI (o 1) 160 tr, wT cI (o 2) N sp, wU cL (o 3) N wh, wU cL (o 4) N ow, wS cI b (a 0) (a 1) (a 2) N rw nm bf fe, wT cI (b 1) (N + 1) (nF oo), wS cI d (a 0) (a 2) (a 1) N rx nn bg fx, wT cI (d 1) (N + 1) (nF ox), wA cI cZ a c fr tt sa tk, wI cI cZ i op sl oi nd lp tl, wG cI g go gt]) rfl gX4_degree_X4_side rfl (by decide +kernel) rfl ⟨by decide, by decide⟩ rfl rfl rfl rfl hl.1 (Nat.le_of_ble_eq_true rfl) ⟨(Nat.zero_le _), (Nat.zero_le _)⟩ dX4_degree_13 rfl (fun H locs hP hD hS => ?_)
    refine lv_iload_n hx hb dX4_degree_16 rfl (lv_at hl 1 rfl) ?_
    refine q_callVi (index := 125) (n := 1) (As := [.int (nI v)]) (rest := []) (js := [7, 8, 9]) (ci := 3) ⟨hx, hb, hml, hown, hts⟩ hK hP hD hS hA (k3i_countLive l D cI cZ cL d N rx nn bg fx a c fr tt sa tk ox v (by omega) (by omega) (by omega) (hm v hv).1 (hm v hv).2) rfl (by decide) (fun _ => by simp only [List.map_cons, List.map_nil, wA_fst, wS_fst, wT_fst]) (fun (_ : Unit) => [wO o (a 0) (b 0) (d 0) (i 0) (g 0) N tn, wT cI (o 1) 160 tr, wT cI (o 2) N sp, wU cL (o 3) N wh, wU cL (o 4) N ow, wS cI b (a 0) (a 1) (a 2) N rw nm bf fe, wT cI (b 1) (N + 1) (nF oo), wS cI d (a 0) (a 2) (a 1) N rx nn bg fx, wT cI (d 1) (N + 1) (nF ox), wA cI cZ a c fr tt sa tk, wI cI cZ i op sl oi nd lp tl, wG cI g go gt]) (fun _ => rfl) gX4_degree_X3_countLive rfl (by decide +kernel) rfl ⟨by decide, by decide⟩ rfl rfl rfl rfl hl.1 (Nat.le_of_ble_eq_true rfl) ⟨(Nat.zero_le _), (Nat.zero_le _)⟩ dX4_degree_17 rfl (fun r _ H locs hw hP hD hS => ?_)
    have hw : r = nI (cN (plN c ox v) (atL c sa tk tt rx ox v)) := hw
    subst hw
    exact q_iret (()) hx hb hr hlocks hK hP hD hS (by simp [dcR, n_5, hxc]) (rfl) dX4_degree_20
  ·
    have n_5 : (hasB N x) = false := bI_0.mp c_5
    refine lv_bipush (v := (-2)) hx hb dX4_degree_8 (by decide) ?_
    exact q_iret (()) hx hb hr hlocks hK hP hD hS (by simp [dcR, n_5]) (rfl) dX4_degree_10

set_option maxHeartbeats 8000000 in
set_option maxRecDepth 100000 in
theorem k4_live1 (l : Launch) (D : va_G) (cI cZ cL : ClassId) (o : Nat → Nat) (N : Nat) (tn : Nat) (tr : Nat → Int32) (sp : Nat → Int32) (wh : Nat → Int64) (ow : Nat → Int64) (b : Nat → Nat) (rw : Nat → Int32) (nm : Nat → Int32) (bf : Nat → Int32) (fe : Nat → Int32) (d : Nat → Nat) (rx : Nat → Int32) (nn : Nat → Int32) (bg : Nat → Int32) (fx : Nat → Int32) (a : Nat → Nat) (c : Nat) (fr : Nat → Int32) (tt : Nat → Int32) (sa : Nat → Int32) (tk : Nat → Int32) (i : Nat → Nat) (op : Nat → Int32) (sl : Nat → Int32) (oi : Nat → Int32) (nd : Nat → Int32) (lp : Nat → Int32) (tl : Nat → Int32) (g : Nat → Nat) (go : Nat → Int32) (gt : Nat → Int32) (oo : Nat → Nat) (ox : Nat → Nat) (x : Int32) (z : Int32) (k : Int32) (hc : c ≤ 160) (hN : N ≤ 24) (hz0 : ¬ z = 0) (hm : ∀ v, v < N → ox v ≤ ox (v + 1) ∧ ox (v + 1) ≤ 160) : McI l D (tY cI cZ cL) yX4_live wsX4_live 4 92 [.ref (o 0), .int x, .int z, .int k] ([wO o (a 0) (b 0) (d 0) (i 0) (g 0) N tn, wT cI (o 1) 160 tr, wT cI (o 2) N sp, wU cL (o 3) N wh, wU cL (o 4) N ow, wS cI b (a 0) (a 1) (a 2) N rw nm bf fe, wT cI (b 1) (N + 1) (nF oo), wS cI d (a 0) (a 2) (a 1) N rx nn bg fx, wT cI (d 1) (N + 1) (nF ox), wA cI cZ a c fr tt sa tk, wI cI cZ i op sl oi nd lp tl, wG cI g go gt]) (fun r (_ : Unit) => r = lvC N c sa tk tt rx ox x k) (fun (_ : Unit) => [wO o (a 0) (b 0) (d 0) (i 0) (g 0) N tn, wT cI (o 1) 160 tr, wT cI (o 2) N sp, wU cL (o 3) N wh, wU cL (o 4) N ow, wS cI b (a 0) (a 1) (a 2) N rw nm bf fe, wT cI (b 1) (N + 1) (nF oo), wS cI d (a 0) (a 2) (a 1) N rx nn bg fx, wT cI (d 1) (N + 1) (nF ox), wA cI cZ a c fr tt sa tk, wI cI cZ i op sl oi nd lp tl, wG cI g go gt]) := by
  refine q_ofW (Qc := fun A => (va_Qi (fun r (_ : Unit) => r = lvC N c sa tk tt rx ox x k) (fun u t => mAt D (tY cI cZ cL) A ((fun (_ : Unit) => [wO o (a 0) (b 0) (d 0) (i 0) (g 0) N tn, wT cI (o 1) 160 tr, wT cI (o 2) N sp, wU cL (o 3) N wh, wU cL (o 4) N ow, wS cI b (a 0) (a 1) (a 2) N rw nm bf fe, wT cI (b 1) (N + 1) (nF oo), wS cI d (a 0) (a 2) (a 1) N rx nn bg fx, wT cI (d 1) (N + 1) (nF ox), wA cI cZ a c fr tt sa tk, wI cI cZ i op sl oi nd lp tl, wG cI g go gt]) u) t) A)) (cc := cX4_live) (maxL := 4) (ret := (some .int)) (by decide) rfl (Nat.le_of_ble_eq_true rfl) ?_
  intro pz ez sz mz bz tz cz hx hb hml hr hlocks hts hown hK hP A hD hA ls hl
  have hS : va_S A sz.heap sz.heap [] := va_S.rf
  have hl : lv_has ls 4 [(0, .ref (o 0)), (1, .int x), (2, .int z), (3, .int k)] := hl
  refine lv_aload_n hx hb dX4_live_0 rfl (lv_at hl 0 rfl) ?_
  refine lv_iload_n hx hb dX4_live_1 rfl (lv_at hl 1 rfl) ?_
  refine q_callVi (index := 78) (n := 1) (As := [.int x]) (rest := []) (js := [0, 1, 2, 3, 4, 5, 6, 7, 8, 9, 10, 11]) (ci := 4) ⟨hx, hb, hml, hown, hts⟩ hK hP hD hS hA (k4_isNode l D cI cZ cL o N tn tr sp wh ow b rw nm bf fe d rx nn bg fx a c fr tt sa tk i op sl oi nd lp tl g go gt oo ox x) rfl (by decide) (fun _ => by simp only [List.map_cons, List.map_nil, wA_fst, wG_fst, wI_fst, wO_fst, wS_fst, wT_fst, wU_fst]) (fun (_ : Unit) => [wO o (a 0) (b 0) (d 0) (i 0) (g 0) N tn, wT cI (o 1) 160 tr, wT cI (o 2) N sp, wU cL (o 3) N wh, wU cL (o 4) N ow, wS cI b (a 0) (a 1) (a 2) N rw nm bf fe, wT cI (b 1) (N + 1) (nF oo), wS cI d (a 0) (a 2) (a 1) N rx nn bg fx, wT cI (d 1) (N + 1) (nF ox), wA cI cZ a c fr tt sa tk, wI cI cZ i op sl oi nd lp tl, wG cI g go gt]) (fun _ => rfl) gX4_live_X4_isNode rfl (by decide +kernel) rfl ⟨by decide, by decide⟩ rfl rfl rfl rfl hl.1 (Nat.le_of_ble_eq_true rfl) ⟨(Nat.zero_le _), (Nat.zero_le _)⟩ dX4_live_2 rfl (fun r _ H locs hw hP hD hS => ?_)
  have hw : r = bI (hasB N x) := hw
  subst hw
  refine lv_if_ne (tgt := 11) hx hb dX4_live_5 (by decide) (fun c_5 => ?_) (fun c_5 => ?_)
  ·
    have n_5 : (hasB N x) = true := bI_n.mp c_5
    obtain ⟨v, hv, hxv⟩ := hasB_of n_5 (by omega)
    have hl : lv_has ls 4 [(0, .ref (o 0)), (1, .int (nI v)), (2, .int z), (3, .int k)] := by rw [← hxv]; exact hl
    have hxc : x.toNatClampNeg = v := by rw [hxv]; exact nI_clamp (by omega)
    refine lv_iload_n hx hb dX4_live_11 rfl (lv_at hl 3 rfl) ?_
    refine lv_if_ge (tgt := 18) hx hb dX4_live_12 (by decide) (fun c_12 => ?_) (fun c_12 => ?_)
    ·
      obtain ⟨kn, hkn, hkq⟩ := nI_of (k2_nlt c_12)
      have hl : lv_has ls 4 [(0, .ref (o 0)), (1, .int (nI v)), (2, .int z), (3, .int (nI kn))] := by rw [← hkq]; exact hl
      have hkc : k.toNatClampNeg = kn := by rw [hkq]; exact nI_clamp hkn
      have hk0 : ¬ k < 0 := k2_nlt c_12
      refine lv_aload_n hx hb dX4_live_18 rfl (lv_at hl 0 rfl) ?_
      refine lv_iload_n hx hb dX4_live_19 rfl (lv_at hl 2 rfl) ?_
      refine q_callVr (index := 108) (n := 1) (As := [.int z]) (rest := []) (js := [0, 1, 2, 3, 4, 5, 6, 7, 8, 9, 10, 11]) (ci := 4) ⟨hx, hb, hml, hown, hts⟩ hK hP hD hS hA (k4_side1 l D cI cZ cL o N tn tr sp wh ow b rw nm bf fe d rx nn bg fx a c fr tt sa tk i op sl oi nd lp tl g go gt oo ox z hz0) rfl (by decide) (by simp only [List.map_cons, List.map_nil, wA_fst, wG_fst, wI_fst, wO_fst, wS_fst, wT_fst, wU_fst]) ([wO o (a 0) (b 0) (d 0) (i 0) (g 0) N tn, wT cI (o 1) 160 tr, wT cI (o 2) N sp, wU cL (o 3) N wh, wU cL (o 4) N ow, wS cI b (a 0) (a 1) (a 2) N rw nm bf fe, wT cI (b 1) (N + 1) (nF oo), wS cI d (a 0) (a 2) (a 1) N rx nn bg fx, wT cI (d 1) (N + 1) (nF ox), wA cI cZ a c fr tt sa tk, wI cI cZ i op sl oi nd lp tl, wG cI g go gt]) rfl gX4_live_X4_side rfl (by decide +kernel) rfl ⟨by decide, by decide⟩ rfl rfl rfl rfl hl.1 (Nat.le_of_ble_eq_true rfl) ⟨(Nat.zero_le _), (Nat.zero_le _)⟩ dX4_live_20 rfl (fun H locs hP hD hS => ?_)
      refine lv_iload_n hx hb dX4_live_23 rfl (lv_at hl 1 rfl) ?_
      refine lv_iload_n hx hb dX4_live_24 rfl (lv_at hl 3 rfl) ?_
      refine q_callVi (index := 129) (n := 2) (As := [.int (nI v), .int (nI kn)]) (rest := []) (js := [7, 8, 9]) (ci := 3) ⟨hx, hb, hml, hown, hts⟩ hK hP hD hS hA (k3i_liveArc l D cI cZ cL d N rx nn bg fx a c fr tt sa tk ox v kn (by omega) (by omega) (by omega) (hm v hv).1 (hm v hv).2 hkn) rfl (by decide) (fun _ => by simp only [List.map_cons, List.map_nil, wA_fst, wS_fst, wT_fst]) (fun (_ : Unit) => [wO o (a 0) (b 0) (d 0) (i 0) (g 0) N tn, wT cI (o 1) 160 tr, wT cI (o 2) N sp, wU cL (o 3) N wh, wU cL (o 4) N ow, wS cI b (a 0) (a 1) (a 2) N rw nm bf fe, wT cI (b 1) (N + 1) (nF oo), wS cI d (a 0) (a 2) (a 1) N rx nn bg fx, wT cI (d 1) (N + 1) (nF ox), wA cI cZ a c fr tt sa tk, wI cI cZ i op sl oi nd lp tl, wG cI g go gt]) (fun _ => rfl) gX4_live_X3_liveArc rfl (by decide +kernel) rfl ⟨by decide, by decide⟩ rfl rfl rfl rfl hl.1 (Nat.le_of_ble_eq_true rfl) ⟨(Nat.zero_le _), (Nat.zero_le _)⟩ dX4_live_25 rfl (fun r _ H locs hw hP hD hS => ?_)
      have hw : r = laR c sa tk tt rx ox v kn := hw
      subst hw
      exact q_iret (()) hx hb hr hlocks hK hP hD hS (by rw [lvC, if_pos n_5, if_neg hk0, hxc, hkc]) (rfl) dX4_live_28
    ·
      refine lv_bipush (v := (-3)) hx hb dX4_live_15 (by decide) ?_
      exact q_iret (()) hx hb hr hlocks hK hP hD hS (by rw [lvC, if_pos n_5, if_pos (k2_lt c_12)]) (rfl) dX4_live_17
  ·
    have n_5 : (hasB N x) = false := bI_0.mp c_5
    refine lv_bipush (v := (-2)) hx hb dX4_live_8 (by decide) ?_
    exact q_iret (()) hx hb hr hlocks hK hP hD hS (by simp [lvC, n_5]) (rfl) dX4_live_10

set_option maxHeartbeats 8000000 in
set_option maxRecDepth 100000 in
theorem k4_next1 (l : Launch) (D : va_G) (cI cZ cL : ClassId) (o : Nat → Nat) (N : Nat) (tn : Nat) (tr : Nat → Int32) (sp : Nat → Int32) (wh : Nat → Int64) (ow : Nat → Int64) (b : Nat → Nat) (rw : Nat → Int32) (nm : Nat → Int32) (bf : Nat → Int32) (fe : Nat → Int32) (d : Nat → Nat) (rx : Nat → Int32) (nn : Nat → Int32) (bg : Nat → Int32) (fx : Nat → Int32) (a : Nat → Nat) (c : Nat) (fr : Nat → Int32) (tt : Nat → Int32) (sa : Nat → Int32) (tk : Nat → Int32) (i : Nat → Nat) (op : Nat → Int32) (sl : Nat → Int32) (oi : Nat → Int32) (nd : Nat → Int32) (lp : Nat → Int32) (tl : Nat → Int32) (g : Nat → Nat) (go : Nat → Int32) (gt : Nat → Int32) (oo : Nat → Nat) (ox : Nat → Nat) (x : Int32) (v : Nat) (q : Nat) (hc : c ≤ 160) (hN : N ≤ 24) (hz0 : ¬ oi x.toNatClampNeg = 0) (hnx : itB op x = true → sl x.toNatClampNeg = 0 → nd x.toNatClampNeg = nI v ∧ v < N ∧ lp x.toNatClampNeg + 1 = nI q ∧ q ≤ plN c ox v ∧ ox v ≤ ox (v + 1) ∧ ox (v + 1) ≤ 160) : McI l D (tY cI cZ cL) yX4_next wsX4_next 4 90 [.ref (o 0), .int x] ([wO o (a 0) (b 0) (d 0) (i 0) (g 0) N tn, wT cI (o 1) 160 tr, wT cI (o 2) N sp, wU cL (o 3) N wh, wU cL (o 4) N ow, wS cI b (a 0) (a 1) (a 2) N rw nm bf fe, wT cI (b 1) (N + 1) (nF oo), wS cI d (a 0) (a 2) (a 1) N rx nn bg fx, wT cI (d 1) (N + 1) (nF ox), wA cI cZ a c fr tt sa tk, wI cI cZ i op sl oi nd lp tl, wG cI g go gt]) (fun r (_ : Unit) => r = ncR c sa tk tt rx ox op sl v q x) (fun (_ : Unit) => [wO o (a 0) (b 0) (d 0) (i 0) (g 0) N tn, wT cI (o 1) 160 tr, wT cI (o 2) N sp, wU cL (o 3) N wh, wU cL (o 4) N ow, wS cI b (a 0) (a 1) (a 2) N rw nm bf fe, wT cI (b 1) (N + 1) (nF oo), wS cI d (a 0) (a 2) (a 1) N rx nn bg fx, wT cI (d 1) (N + 1) (nF ox), wA cI cZ a c fr tt sa tk, wI cI cZ i op sl oi nd (ncF (ncB c sa tk tt rx ox op sl v q x) lp x (lpR c sa tk tt rx ox v q)) (ncF (ncB c sa tk tt rx ox op sl v q x) tl x (tl x.toNatClampNeg + 1)), wG cI g go gt]) := by
  refine q_ofW (Qc := fun A => (va_Qi (fun r (_ : Unit) => r = ncR c sa tk tt rx ox op sl v q x) (fun u t => mAt D (tY cI cZ cL) A ((fun (_ : Unit) => [wO o (a 0) (b 0) (d 0) (i 0) (g 0) N tn, wT cI (o 1) 160 tr, wT cI (o 2) N sp, wU cL (o 3) N wh, wU cL (o 4) N ow, wS cI b (a 0) (a 1) (a 2) N rw nm bf fe, wT cI (b 1) (N + 1) (nF oo), wS cI d (a 0) (a 2) (a 1) N rx nn bg fx, wT cI (d 1) (N + 1) (nF ox), wA cI cZ a c fr tt sa tk, wI cI cZ i op sl oi nd (ncF (ncB c sa tk tt rx ox op sl v q x) lp x (lpR c sa tk tt rx ox v q)) (ncF (ncB c sa tk tt rx ox op sl v q x) tl x (tl x.toNatClampNeg + 1)), wG cI g go gt]) u) t) A)) (cc := cX4_next) (maxL := 5) (ret := (some .int)) (by decide) rfl (Nat.le_of_ble_eq_true rfl) ?_
  intro pz ez sz mz bz tz cz hx hb hml hr hlocks hts hown hK hP A hD hA ls hl
  have hS : va_S A sz.heap sz.heap [] := va_S.rf
  have hl : lv_has ls 5 [(0, .ref (o 0)), (1, .int x)] := hl
  refine lv_aload_n hx hb dX4_next_0 rfl (lv_at hl 0 rfl) ?_
  refine q_get (D := D) (ci := 4) (v := .ref (i 0)) (C := RX4) (T := TX4) (N := 11) hx hb hts (by decide +kernel) hown hK hP 0 0 rfl rfl rfl 4 (by decide) (hts (.fieldLink RX4 51 "OffsetRows" "iterators" "LOffsetRows$Iterators;") (by decide +kernel)) (fun _ h9 => h9) rfl dX4_next_1 ?_
  refine lv_iload_n hx hb dX4_next_4 rfl (lv_at hl 1 rfl) ?_
  refine q_callVi (index := 162) (n := 1) (As := [.int x]) (rest := []) (js := [10]) (ci := 2) ⟨hx, hb, hml, hown, hts⟩ hK hP hD hS hA (k2_has l D cI cZ cL i op sl oi nd lp tl x) rfl (by decide) (fun _ => by simp only [List.map_cons, List.map_nil, wI_fst]) (fun (_ : Unit) => [wO o (a 0) (b 0) (d 0) (i 0) (g 0) N tn, wT cI (o 1) 160 tr, wT cI (o 2) N sp, wU cL (o 3) N wh, wU cL (o 4) N ow, wS cI b (a 0) (a 1) (a 2) N rw nm bf fe, wT cI (b 1) (N + 1) (nF oo), wS cI d (a 0) (a 2) (a 1) N rx nn bg fx, wT cI (d 1) (N + 1) (nF ox), wA cI cZ a c fr tt sa tk, wI cI cZ i op sl oi nd lp tl, wG cI g go gt]) (fun _ => rfl) gX4_next_X2_has rfl (by decide +kernel) rfl ⟨by decide, by decide⟩ rfl rfl rfl rfl hl.1 (Nat.le_of_ble_eq_true rfl) ⟨(Nat.zero_le _), (Nat.zero_le _)⟩ dX4_next_5 rfl (fun r _ H locs hw hP hD hS => ?_)
  have hw : r = bI (itB op x) := hw
  subst hw
  refine lv_if_ne (tgt := 14) hx hb dX4_next_8 (by decide) (fun c_8 => ?_) (fun c_8 => ?_)
  ·
    have n_8 : (itB op x) = true := bI_n.mp c_8
    refine lv_aload_n hx hb dX4_next_14 rfl (lv_at hl 0 rfl) ?_
    refine q_get (D := D) (ci := 4) (v := .ref (i 0)) (C := RX4) (T := TX4) (N := 11) hx hb hts (by decide +kernel) hown hK hP 0 0 rfl rfl rfl 4 (by decide) (hts (.fieldLink RX4 51 "OffsetRows" "iterators" "LOffsetRows$Iterators;") (by decide +kernel)) (fun _ h9 => h9) rfl dX4_next_15 ?_
    refine q_get (D := D) (ci := 2) (v := .ref (i 2)) (C := RX2) (T := TX2) (N := 6) hx hb hts (by decide +kernel) hown hK hP 10 0 rfl rfl rfl 1 (by decide) (hts (.fieldLink RX4 163 "OffsetRows$Iterators" "isStale" "[Z") (by decide +kernel)) (fun _ h9 => h9) rfl dX4_next_18 ?_
    refine lv_iload_n hx hb dX4_next_21 rfl (lv_at hl 1 rfl) ?_
    refine q_zald hx hb hK hP 10 2 1 rfl (f := sl) rfl rfl (k := x.toNatClampNeg) rfl (hasB_in (c := 8) (by simp [itB] at n_8; exact n_8.1) (Nat.le_refl 8) (by decide)) dX4_next_22 ?_
    refine lv_if_eq (tgt := 29) hx hb dX4_next_23 (by decide) (fun c_23 => ?_) (fun c_23 => ?_)
    ·
      obtain ⟨hnv, hv, hlq, hq, hm1, hm2⟩ := hnx n_8 c_23
      refine lv_aload_n hx hb dX4_next_29 rfl (lv_at hl 0 rfl) ?_
      refine q_get (D := D) (ci := 4) (v := .ref (i 0)) (C := RX4) (T := TX4) (N := 11) hx hb hts (by decide +kernel) hown hK hP 0 0 rfl rfl rfl 4 (by decide) (hts (.fieldLink RX4 51 "OffsetRows" "iterators" "LOffsetRows$Iterators;") (by decide +kernel)) (fun _ h9 => h9) rfl dX4_next_30 ?_
      refine q_get (D := D) (ci := 2) (v := .ref (i 4)) (C := RX2) (T := TX2) (N := 6) hx hb hts (by decide +kernel) hown hK hP 10 0 rfl rfl rfl 3 (by decide) (hts (.fieldLink RX4 166 "OffsetRows$Iterators" "node" "[I") (by decide +kernel)) (fun _ h9 => h9) rfl dX4_next_33 ?_
      refine lv_iload_n hx hb dX4_next_36 rfl (lv_at hl 1 rfl) ?_
      refine q_iald hx hb hK hP 10 4 0 rfl (f := nd) rfl rfl (k := x.toNatClampNeg) rfl (hasB_in (c := 8) (by simp [itB] at n_8; exact n_8.1) (Nat.le_refl 8) (by decide)) dX4_next_37 ?_
      refine q_top (z := nI v) (hnv) ?_
      refine lv_istore_n (lv' := [(2, .int (nI v)), (0, .ref (o 0)), (1, .int x)]) hx hb dX4_next_38 rfl hl (by decide) rfl (fun ls hl => ?_)
      refine lv_aload_n hx hb dX4_next_39 rfl (lv_at hl 1 rfl) ?_
      refine lv_aload_n hx hb dX4_next_40 rfl (lv_at hl 1 rfl) ?_
      refine q_get (D := D) (ci := 4) (v := .ref (i 0)) (C := RX4) (T := TX4) (N := 11) hx hb hts (by decide +kernel) hown hK hP 0 0 rfl rfl rfl 4 (by decide) (hts (.fieldLink RX4 51 "OffsetRows" "iterators" "LOffsetRows$Iterators;") (by decide +kernel)) (fun _ h9 => h9) rfl dX4_next_41 ?_
      refine q_get (D := D) (ci := 2) (v := .ref (i 3)) (C := RX2) (T := TX2) (N := 6) hx hb hts (by decide +kernel) hown hK hP 10 0 rfl rfl rfl 2 (by decide) (hts (.fieldLink RX4 169 "OffsetRows$Iterators" "ofIn" "[Z") (by decide +kernel)) (fun _ h9 => h9) rfl dX4_next_44 ?_
      refine lv_iload_n hx hb dX4_next_47 rfl (lv_at hl 2 rfl) ?_
      refine q_zald hx hb hK hP 10 3 1 rfl (f := oi) rfl rfl (k := x.toNatClampNeg) rfl (hasB_in (c := 8) (by simp [itB] at n_8; exact n_8.1) (Nat.le_refl 8) (by decide)) dX4_next_48 ?_
      refine q_callVr (index := 108) (n := 1) (As := [.int (oi x.toNatClampNeg)]) (rest := []) (js := [0, 1, 2, 3, 4, 5, 6, 7, 8, 9, 10, 11]) (ci := 4) ⟨hx, hb, hml, hown, hts⟩ hK hP hD hS hA (k4_side1 l D cI cZ cL o N tn tr sp wh ow b rw nm bf fe d rx nn bg fx a c fr tt sa tk i op sl oi nd lp tl g go gt oo ox (oi x.toNatClampNeg) hz0) rfl (by decide) (by simp only [List.map_cons, List.map_nil, wA_fst, wG_fst, wI_fst, wO_fst, wS_fst, wT_fst, wU_fst]) ([wO o (a 0) (b 0) (d 0) (i 0) (g 0) N tn, wT cI (o 1) 160 tr, wT cI (o 2) N sp, wU cL (o 3) N wh, wU cL (o 4) N ow, wS cI b (a 0) (a 1) (a 2) N rw nm bf fe, wT cI (b 1) (N + 1) (nF oo), wS cI d (a 0) (a 2) (a 1) N rx nn bg fx, wT cI (d 1) (N + 1) (nF ox), wA cI cZ a c fr tt sa tk, wI cI cZ i op sl oi nd lp tl, wG cI g go gt]) rfl gX4_next_X4_side rfl (by decide +kernel) rfl ⟨by decide, by decide⟩ rfl rfl rfl rfl hl.1 (Nat.le_of_ble_eq_true rfl) ⟨(Nat.zero_le _), (Nat.zero_le _)⟩ dX4_next_49 rfl (fun H locs hP hD hS => ?_)
      refine lv_astore_n (lv' := [(3, .ref (d 0)), (2, .int (nI v)), (0, .ref (o 0)), (1, .int x)]) hx hb dX4_next_52 rfl hl (by decide) rfl (fun ls hl => ?_)
      refine lv_aload_n hx hb dX4_next_53 rfl (lv_at hl 0 rfl) ?_
      refine lv_iload_n hx hb dX4_next_54 rfl (lv_at hl 1 rfl) ?_
      refine lv_aload_n hx hb dX4_next_55 rfl (lv_at hl 2 rfl) ?_
      refine q_get (D := D) (ci := 4) (v := .ref (i 0)) (C := RX4) (T := TX4) (N := 11) hx hb hts (by decide +kernel) hown hK hP 0 0 rfl rfl rfl 4 (by decide) (hts (.fieldLink RX4 51 "OffsetRows" "iterators" "LOffsetRows$Iterators;") (by decide +kernel)) (fun _ h9 => h9) rfl dX4_next_56 ?_
      refine q_get (D := D) (ci := 2) (v := .ref (i 5)) (C := RX2) (T := TX2) (N := 6) hx hb hts (by decide +kernel) hown hK hP 10 0 rfl rfl rfl 4 (by decide) (hts (.fieldLink RX4 172 "OffsetRows$Iterators" "lastPlace" "[I") (by decide +kernel)) (fun _ h9 => h9) rfl dX4_next_59 ?_
      refine lv_iload_n hx hb dX4_next_62 rfl (lv_at hl 3 rfl) ?_
      refine q_iald hx hb hK hP 10 5 0 rfl (f := lp) rfl rfl (k := x.toNatClampNeg) rfl (hasB_in (c := 8) (by simp [itB] at n_8; exact n_8.1) (Nat.le_refl 8) (by decide)) dX4_next_63 ?_
      refine lv_iconst (v := (1 : Int32)) hx hb dX4_next_64 (by decide) ?_
      refine q_iadd (z := nI q) hx hb dX4_next_65 (hlq) ?_
      refine q_callVi (index := 175) (n := 2) (As := [.int (nI v), .int (nI q)]) (rest := []) (js := [7, 8, 9]) (ci := 3) ⟨hx, hb, hml, hown, hts⟩ hK hP hD hS hA (k3i_livePlaceFrom l D cI cZ cL d N rx nn bg fx a c fr tt sa tk ox v q (by omega) (by omega) hv hm1 hm2 hq) rfl (by decide) (fun _ => by simp only [List.map_cons, List.map_nil, wA_fst, wS_fst, wT_fst]) (fun (_ : Unit) => [wO o (a 0) (b 0) (d 0) (i 0) (g 0) N tn, wT cI (o 1) 160 tr, wT cI (o 2) N sp, wU cL (o 3) N wh, wU cL (o 4) N ow, wS cI b (a 0) (a 1) (a 2) N rw nm bf fe, wT cI (b 1) (N + 1) (nF oo), wS cI d (a 0) (a 2) (a 1) N rx nn bg fx, wT cI (d 1) (N + 1) (nF ox), wA cI cZ a c fr tt sa tk, wI cI cZ i op sl oi nd lp tl, wG cI g go gt]) (fun _ => rfl) gX4_next_X3_livePlaceFrom rfl (by decide +kernel) rfl ⟨by decide, by decide⟩ rfl rfl rfl rfl hl.1 (Nat.le_of_ble_eq_true rfl) ⟨(Nat.zero_le _), (Nat.zero_le _)⟩ dX4_next_66 rfl (fun r _ H locs hw hP hD hS => ?_)
      have hw : r = lpR c sa tk tt rx ox v q := hw
      subst hw
      refine lv_istore (lv' := [(4, .int (lpR c sa tk tt rx ox v q)), (3, .ref (d 0)), (2, .int (nI v)), (0, .ref (o 0)), (1, .int x)]) hx hb dX4_next_69 hl (by decide) rfl (fun ls hl => ?_)
      refine lv_iload hx hb dX4_next_71 (lv_at hl 0 rfl) ?_
      refine lv_iconst (v := (-1)) hx hb dX4_next_73 (by decide) ?_
      refine lv_icmp_ne (tgt := 79) hx hb dX4_next_74 (by decide) (fun c_74 => ?_) (fun c_74 => ?_)
      ·
        obtain ⟨p, hp1, hp2, hp4⟩ := lpR_in c_74
        have hl : lv_has ls 5 [(4, .int (nI p)), (3, .ref (d 0)), (2, .int (nI v)), (0, .ref (o 0)), (1, .int x)] := by rw [← hp4]; exact hl
        have hpc : (lpR c sa tk tt rx ox v q).toNatClampNeg = p := by rw [hp4]; unfold plN at hp2; exact nI_clamp (by omega)
        have hp9 : p ≤ 1000 := by unfold plN at hp2; omega
        refine lv_aload_n hx hb dX4_next_79 rfl (lv_at hl 3 rfl) ?_
        refine q_get (D := D) (ci := 4) (v := .ref (i 0)) (C := RX4) (T := TX4) (N := 11) hx hb hts (by decide +kernel) hown hK hP 0 0 rfl rfl rfl 4 (by decide) (hts (.fieldLink RX4 51 "OffsetRows" "iterators" "LOffsetRows$Iterators;") (by decide +kernel)) (fun _ h9 => h9) rfl dX4_next_80 ?_
        refine lv_iload_n hx hb dX4_next_83 rfl (lv_at hl 4 rfl) ?_
        refine lv_iload hx hb dX4_next_84 (lv_at hl 0 rfl) ?_
        refine q_callVv (index := 178) (n := 2) (As := [.int x, .int (nI p)]) (rest := []) (js := [10]) (ci := 2) ⟨hx, hb, hml, hown, hts⟩ hK hP hD hS hA (k2_moveTo l D cI cZ cL i op sl oi nd lp tl x (nI p) (hasB_in (c := 8) (by simp [itB] at n_8; exact n_8.1) (Nat.le_refl 8) (by decide))) rfl (by decide) (fun _ => by simp only [List.map_cons, List.map_nil, wI_fst]) (fun (_ : Unit) => [wO o (a 0) (b 0) (d 0) (i 0) (g 0) N tn, wT cI (o 1) 160 tr, wT cI (o 2) N sp, wU cL (o 3) N wh, wU cL (o 4) N ow, wS cI b (a 0) (a 1) (a 2) N rw nm bf fe, wT cI (b 1) (N + 1) (nF oo), wS cI d (a 0) (a 2) (a 1) N rx nn bg fx, wT cI (d 1) (N + 1) (nF ox), wA cI cZ a c fr tt sa tk, wI cI cZ i op sl oi nd (upd lp x.toNatClampNeg (nI p)) (upd tl x.toNatClampNeg (tl x.toNatClampNeg + 1)), wG cI g go gt]) (fun _ => rfl) gX4_next_X2_moveTo rfl (by decide +kernel) rfl ⟨by decide, by decide⟩ rfl rfl rfl rfl hl.1 (Nat.le_of_ble_eq_true rfl) ⟨(Nat.zero_le _), (Nat.zero_le _)⟩ dX4_next_86 rfl (fun _ H locs hw hP hD hS => ?_)
        refine lv_aload_n hx hb dX4_next_89 rfl (lv_at hl 1 rfl) ?_
        refine lv_iload_n hx hb dX4_next_90 rfl (lv_at hl 2 rfl) ?_
        refine lv_iload hx hb dX4_next_91 (lv_at hl 0 rfl) ?_
        refine q_callVi (index := 182) (n := 2) (As := [.int (nI v), .int (nI p)]) (rest := []) (js := [7, 8, 9]) (ci := 3) ⟨hx, hb, hml, hown, hts⟩ hK hP hD hS hA (k3i_arcAt l D cI cZ cL d N rx nn bg fx a c fr tt sa tk ox v p (by omega) (by omega) hv hm1 hm2 hp9) rfl (by decide) (fun _ => by simp only [List.map_cons, List.map_nil, wA_fst, wS_fst, wT_fst]) (fun (_ : Unit) => [wO o (a 0) (b 0) (d 0) (i 0) (g 0) N tn, wT cI (o 1) 160 tr, wT cI (o 2) N sp, wU cL (o 3) N wh, wU cL (o 4) N ow, wS cI b (a 0) (a 1) (a 2) N rw nm bf fe, wT cI (b 1) (N + 1) (nF oo), wS cI d (a 0) (a 2) (a 1) N rx nn bg fx, wT cI (d 1) (N + 1) (nF ox), wA cI cZ a c fr tt sa tk, wI cI cZ i op sl oi nd (upd lp x.toNatClampNeg (nI p)) (upd tl x.toNatClampNeg (tl x.toNatClampNeg + 1)), wG cI g go gt]) (fun _ => rfl) gX4_next_X3_arcAt rfl (by decide +kernel) rfl ⟨by decide, by decide⟩ rfl rfl rfl rfl hl.1 (Nat.le_of_ble_eq_true rfl) ⟨(Nat.zero_le _), (Nat.zero_le _)⟩ dX4_next_93 rfl (fun r _ H locs hw hP hD hS => ?_)
        have hw : r = atV c sa tt rx ox v p := hw
        subst hw
        exact q_iret (()) hx hb hr hlocks hK hP hD hS (by rw [ncR, if_pos n_8, if_pos c_23, if_neg c_74, hpc]) (by rw [show ncB c sa tk tt rx ox op sl v q x = true by simp [ncB, n_8, c_23, c_74], hp4]; rfl) dX4_next_96
      ·
        refine lv_iconst (v := (-1)) hx hb dX4_next_77 (by decide) ?_
        exact q_iret (()) hx hb hr hlocks hK hP hD hS (by simp [ncR, n_8, c_23, c_74]) (by simp [ncF, ncB, c_74]) dX4_next_78
    ·
      refine lv_bipush (v := (-4)) hx hb dX4_next_26 (by decide) ?_
      exact q_iret (()) hx hb hr hlocks hK hP hD hS (by simp [ncR, n_8, c_23]) (by simp [ncF, ncB, c_23]) dX4_next_28
  ·
    have n_8 : (itB op x) = false := bI_0.mp c_8
    refine lv_bipush (v := (-2)) hx hb dX4_next_11 (by decide) ?_
    exact q_iret (()) hx hb hr hlocks hK hP hD hS (by simp [ncR, n_8]) (by simp [ncF, ncB, n_8]) dX4_next_13

set_option maxHeartbeats 8000000 in
set_option maxRecDepth 100000 in
theorem k4_told (l : Launch) (D : va_G) (cI cZ cL : ClassId) (o : Nat → Nat) (N : Nat) (tn : Nat) (tr : Nat → Int32) (sp : Nat → Int32) (wh : Nat → Int64) (ow : Nat → Int64) (b : Nat → Nat) (rw : Nat → Int32) (nm : Nat → Int32) (bf : Nat → Int32) (fe : Nat → Int32) (d : Nat → Nat) (rx : Nat → Int32) (nn : Nat → Int32) (bg : Nat → Int32) (fx : Nat → Int32) (a : Nat → Nat) (c : Nat) (fr : Nat → Int32) (tt : Nat → Int32) (sa : Nat → Int32) (tk : Nat → Int32) (i : Nat → Nat) (op : Nat → Int32) (sl : Nat → Int32) (oi : Nat → Int32) (nd : Nat → Int32) (lp : Nat → Int32) (tl : Nat → Int32) (g : Nat → Nat) (go : Nat → Int32) (gt : Nat → Int32) (oo : Nat → Nat) (ox : Nat → Nat) (x : Int32) (y : Int32) (hc : c ≤ 160) : McI l D (tY cI cZ cL) yX4_told wsX4_told 1 21 [.ref (o 0), .int x, .int y] ([wO o (a 0) (b 0) (d 0) (i 0) (g 0) N tn, wT cI (o 1) 160 tr, wT cI (o 2) N sp, wU cL (o 3) N wh, wU cL (o 4) N ow, wS cI b (a 0) (a 1) (a 2) N rw nm bf fe, wT cI (b 1) (N + 1) (nF oo), wS cI d (a 0) (a 2) (a 1) N rx nn bg fx, wT cI (d 1) (N + 1) (nF ox), wA cI cZ a c fr tt sa tk, wI cI cZ i op sl oi nd lp tl, wG cI g go gt]) (fun r (_ : Unit) => r = toR c fr tt sa tk x y) (fun (_ : Unit) => [wO o (a 0) (b 0) (d 0) (i 0) (g 0) N tn, wT cI (o 1) 160 tr, wT cI (o 2) N sp, wU cL (o 3) N wh, wU cL (o 4) N ow, wS cI b (a 0) (a 1) (a 2) N rw nm bf fe, wT cI (b 1) (N + 1) (nF oo), wS cI d (a 0) (a 2) (a 1) N rx nn bg fx, wT cI (d 1) (N + 1) (nF ox), wA cI cZ a c fr tt sa tk, wI cI cZ i op sl oi nd lp tl, wG cI g go gt]) := by
  refine q_ofW (Qc := fun A => (va_Qi (fun r (_ : Unit) => r = toR c fr tt sa tk x y) (fun u t => mAt D (tY cI cZ cL) A ((fun (_ : Unit) => [wO o (a 0) (b 0) (d 0) (i 0) (g 0) N tn, wT cI (o 1) 160 tr, wT cI (o 2) N sp, wU cL (o 3) N wh, wU cL (o 4) N ow, wS cI b (a 0) (a 1) (a 2) N rw nm bf fe, wT cI (b 1) (N + 1) (nF oo), wS cI d (a 0) (a 2) (a 1) N rx nn bg fx, wT cI (d 1) (N + 1) (nF ox), wA cI cZ a c fr tt sa tk, wI cI cZ i op sl oi nd lp tl, wG cI g go gt]) u) t) A)) (cc := cX4_told) (maxL := 3) (ret := (some .int)) (by decide) rfl (Nat.le_of_ble_eq_true rfl) ?_
  intro pz ez sz mz bz tz cz hx hb hml hr hlocks hts hown hK hP A hD hA ls hl
  have hS : va_S A sz.heap sz.heap [] := va_S.rf
  have hl : lv_has ls 3 [(0, .ref (o 0)), (1, .int x), (2, .int y)] := hl
  refine lv_aload_n hx hb dX4_told_0 rfl (lv_at hl 0 rfl) ?_
  refine q_get (D := D) (ci := 4) (v := .ref (a 0)) (C := RX4) (T := TX4) (N := 11) hx hb hts (by decide +kernel) hown hK hP 0 0 rfl rfl rfl 1 (by decide) (hts (.fieldLink RX4 25 "OffsetRows" "arcs" "LOffsetRows$ArcList;") (by decide +kernel)) (fun _ h9 => h9) rfl dX4_told_1 ?_
  refine lv_iload_n hx hb dX4_told_4 rfl (lv_at hl 1 rfl) ?_
  refine q_callVi (index := 115) (n := 1) (As := [.int x]) (rest := []) (js := [9]) (ci := 0) ⟨hx, hb, hml, hown, hts⟩ hK hP hD hS hA (k0_has l D cI cZ cL a c fr tt sa tk x (by omega)) rfl (by decide) (fun _ => by simp only [List.map_cons, List.map_nil, wA_fst]) (fun (_ : Unit) => [wO o (a 0) (b 0) (d 0) (i 0) (g 0) N tn, wT cI (o 1) 160 tr, wT cI (o 2) N sp, wU cL (o 3) N wh, wU cL (o 4) N ow, wS cI b (a 0) (a 1) (a 2) N rw nm bf fe, wT cI (b 1) (N + 1) (nF oo), wS cI d (a 0) (a 2) (a 1) N rx nn bg fx, wT cI (d 1) (N + 1) (nF ox), wA cI cZ a c fr tt sa tk, wI cI cZ i op sl oi nd lp tl, wG cI g go gt]) (fun _ => rfl) gX4_told_X0_has rfl (by decide +kernel) rfl ⟨by decide, by decide⟩ rfl rfl rfl rfl hl.1 (Nat.le_of_ble_eq_true rfl) ⟨(Nat.zero_le _), (Nat.zero_le _)⟩ dX4_told_5 rfl (fun r _ H locs hw hP hD hS => ?_)
  have hw : r = bI (hasB c x) := hw
  subst hw
  refine lv_if_ne (tgt := 14) hx hb dX4_told_8 (by decide) (fun c_8 => ?_) (fun c_8 => ?_)
  ·
    have n_8 : (hasB c x) = true := bI_n.mp c_8
    refine lv_iload_n hx hb dX4_told_14 rfl (lv_at hl 2 rfl) ?_
    rcases sw5 y with h_sw | h_sw | h_sw | h_sw | h_sw | h_sw
    ·
      subst h_sw
      refine lv_tableIn (off := 33) (tgt := 48) hx hb dX4_told_15 (by decide) (by decide) rfl (by decide) ?_
      refine lv_aload_n hx hb dX4_told_48 rfl (lv_at hl 0 rfl) ?_
      refine q_get (D := D) (ci := 4) (v := .ref (a 0)) (C := RX4) (T := TX4) (N := 11) hx hb hts (by decide +kernel) hown hK hP 0 0 rfl rfl rfl 1 (by decide) (hts (.fieldLink RX4 25 "OffsetRows" "arcs" "LOffsetRows$ArcList;") (by decide +kernel)) (fun _ h9 => h9) rfl dX4_told_49 ?_
      refine q_get (D := D) (ci := 0) (v := .ref (a 1)) (C := RX0) (T := TX0) (N := 5) hx hb hts (by decide +kernel) hown hK hP 9 0 rfl rfl rfl 0 (by decide) (hts (.fieldLink RX4 31 "OffsetRows$ArcList" "from" "[I") (by decide +kernel)) (fun _ h9 => h9) rfl dX4_told_52 ?_
      refine lv_iload_n hx hb dX4_told_55 rfl (lv_at hl 1 rfl) ?_
      refine q_iald hx hb hK hP 9 1 0 rfl (f := fr) rfl rfl (k := x.toNatClampNeg) rfl (hasB_in n_8 hc (by decide)) dX4_told_56 ?_
      exact q_iret (()) hx hb hr hlocks hK hP hD hS (by simp [toR, n_8]) (rfl) dX4_told_57
    ·
      subst h_sw
      refine lv_tableIn (off := 43) (tgt := 58) hx hb dX4_told_15 (by decide) (by decide) rfl (by decide) ?_
      refine lv_aload_n hx hb dX4_told_58 rfl (lv_at hl 0 rfl) ?_
      refine q_get (D := D) (ci := 4) (v := .ref (a 0)) (C := RX4) (T := TX4) (N := 11) hx hb hts (by decide +kernel) hown hK hP 0 0 rfl rfl rfl 1 (by decide) (hts (.fieldLink RX4 25 "OffsetRows" "arcs" "LOffsetRows$ArcList;") (by decide +kernel)) (fun _ h9 => h9) rfl dX4_told_59 ?_
      refine q_get (D := D) (ci := 0) (v := .ref (a 2)) (C := RX0) (T := TX0) (N := 5) hx hb hts (by decide +kernel) hown hK hP 9 0 rfl rfl rfl 1 (by decide) (hts (.fieldLink RX4 35 "OffsetRows$ArcList" "to" "[I") (by decide +kernel)) (fun _ h9 => h9) rfl dX4_told_62 ?_
      refine lv_iload_n hx hb dX4_told_65 rfl (lv_at hl 1 rfl) ?_
      refine q_iald hx hb hK hP 9 2 0 rfl (f := tt) rfl rfl (k := x.toNatClampNeg) rfl (hasB_in n_8 hc (by decide)) dX4_told_66 ?_
      exact q_iret (()) hx hb hr hlocks hK hP hD hS (by simp [toR, n_8]) (rfl) dX4_told_67
    ·
      subst h_sw
      refine lv_tableIn (off := 53) (tgt := 68) hx hb dX4_told_15 (by decide) (by decide) rfl (by decide) ?_
      refine lv_aload_n hx hb dX4_told_68 rfl (lv_at hl 0 rfl) ?_
      refine q_get (D := D) (ci := 4) (v := .ref (a 0)) (C := RX4) (T := TX4) (N := 11) hx hb hts (by decide +kernel) hown hK hP 0 0 rfl rfl rfl 1 (by decide) (hts (.fieldLink RX4 25 "OffsetRows" "arcs" "LOffsetRows$ArcList;") (by decide +kernel)) (fun _ h9 => h9) rfl dX4_told_69 ?_
      refine q_get (D := D) (ci := 0) (v := .ref (a 3)) (C := RX0) (T := TX0) (N := 5) hx hb hts (by decide +kernel) hown hK hP 9 0 rfl rfl rfl 2 (by decide) (hts (.fieldLink RX4 118 "OffsetRows$ArcList" "state" "[I") (by decide +kernel)) (fun _ h9 => h9) rfl dX4_told_72 ?_
      refine lv_iload_n hx hb dX4_told_75 rfl (lv_at hl 1 rfl) ?_
      refine q_iald hx hb hK hP 9 3 0 rfl (f := sa) rfl rfl (k := x.toNatClampNeg) rfl (hasB_in n_8 hc (by decide)) dX4_told_76 ?_
      refine lv_iconst (v := (1 : Int32)) hx hb dX4_told_77 (by decide) ?_
      refine lv_icmp_ne (tgt := 85) hx hb dX4_told_78 (by decide) (fun c_78 => ?_) (fun c_78 => ?_)
      ·
        refine lv_iconst (v := (0 : Int32)) hx hb dX4_told_85 (by decide) ?_
        exact q_iret (()) hx hb hr hlocks hK hP hD hS (by simp [toR, n_8, c_78]) (rfl) dX4_told_86
      ·
        refine lv_iconst (v := (1 : Int32)) hx hb dX4_told_81 (by decide) ?_
        refine lv_goto (tgt := 86) hx hb dX4_told_82 (by decide) ?_
        exact q_iret (()) hx hb hr hlocks hK hP hD hS (by simp [toR, n_8, c_78]) (rfl) dX4_told_86
    ·
      subst h_sw
      refine lv_tableIn (off := 72) (tgt := 87) hx hb dX4_told_15 (by decide) (by decide) rfl (by decide) ?_
      refine lv_aload_n hx hb dX4_told_87 rfl (lv_at hl 0 rfl) ?_
      refine q_get (D := D) (ci := 4) (v := .ref (a 0)) (C := RX4) (T := TX4) (N := 11) hx hb hts (by decide +kernel) hown hK hP 0 0 rfl rfl rfl 1 (by decide) (hts (.fieldLink RX4 25 "OffsetRows" "arcs" "LOffsetRows$ArcList;") (by decide +kernel)) (fun _ h9 => h9) rfl dX4_told_88 ?_
      refine q_get (D := D) (ci := 0) (v := .ref (a 4)) (C := RX0) (T := TX0) (N := 5) hx hb hts (by decide +kernel) hown hK hP 9 0 rfl rfl rfl 3 (by decide) (hts (.fieldLink RX4 121 "OffsetRows$ArcList" "taken" "[Z") (by decide +kernel)) (fun _ h9 => h9) rfl dX4_told_91 ?_
      refine lv_iload_n hx hb dX4_told_94 rfl (lv_at hl 1 rfl) ?_
      refine q_zald hx hb hK hP 9 4 1 rfl (f := tk) rfl rfl (k := x.toNatClampNeg) rfl (hasB_in n_8 hc (by decide)) dX4_told_95 ?_
      refine lv_if_eq (tgt := 103) hx hb dX4_told_96 (by decide) (fun c_96 => ?_) (fun c_96 => ?_)
      ·
        refine lv_iconst (v := (0 : Int32)) hx hb dX4_told_103 (by decide) ?_
        exact q_iret (()) hx hb hr hlocks hK hP hD hS (by simp [toR, n_8, c_96]) (rfl) dX4_told_104
      ·
        refine lv_iconst (v := (1 : Int32)) hx hb dX4_told_99 (by decide) ?_
        refine lv_goto (tgt := 104) hx hb dX4_told_100 (by decide) ?_
        exact q_iret (()) hx hb hr hlocks hK hP hD hS (by simp [toR, n_8, c_96]) (rfl) dX4_told_104
    ·
      subst h_sw
      refine lv_tableIn (off := 90) (tgt := 105) hx hb dX4_told_15 (by decide) (by decide) rfl (by decide) ?_
      refine lv_aload_n hx hb dX4_told_105 rfl (lv_at hl 0 rfl) ?_
      refine q_get (D := D) (ci := 4) (v := .ref (a 0)) (C := RX4) (T := TX4) (N := 11) hx hb hts (by decide +kernel) hown hK hP 0 0 rfl rfl rfl 1 (by decide) (hts (.fieldLink RX4 25 "OffsetRows" "arcs" "LOffsetRows$ArcList;") (by decide +kernel)) (fun _ h9 => h9) rfl dX4_told_106 ?_
      refine q_get (D := D) (ci := 0) (v := .ref (a 3)) (C := RX0) (T := TX0) (N := 5) hx hb hts (by decide +kernel) hown hK hP 9 0 rfl rfl rfl 2 (by decide) (hts (.fieldLink RX4 118 "OffsetRows$ArcList" "state" "[I") (by decide +kernel)) (fun _ h9 => h9) rfl dX4_told_109 ?_
      refine lv_iload_n hx hb dX4_told_112 rfl (lv_at hl 1 rfl) ?_
      refine q_iald hx hb hK hP 9 3 0 rfl (f := sa) rfl rfl (k := x.toNatClampNeg) rfl (hasB_in n_8 hc (by decide)) dX4_told_113 ?_
      refine lv_iconst (v := (2 : Int32)) hx hb dX4_told_114 (by decide) ?_
      refine lv_icmp_ne (tgt := 122) hx hb dX4_told_115 (by decide) (fun c_115 => ?_) (fun c_115 => ?_)
      ·
        refine lv_iconst (v := (0 : Int32)) hx hb dX4_told_122 (by decide) ?_
        exact q_iret (()) hx hb hr hlocks hK hP hD hS (by simp [toR, n_8, c_115]) (rfl) dX4_told_123
      ·
        refine lv_iconst (v := (1 : Int32)) hx hb dX4_told_118 (by decide) ?_
        refine lv_goto (tgt := 123) hx hb dX4_told_119 (by decide) ?_
        exact q_iret (()) hx hb hr hlocks hK hP hD hS (by simp [toR, n_8, c_115]) (rfl) dX4_told_123
    ·
      have h_0 : ¬ y = 0 := by intro h9; subst h9; revert h_sw; decide
      have h_1 : ¬ y = 1 := by intro h9; subst h9; revert h_sw; decide
      have h_2 : ¬ y = 2 := by intro h9; subst h9; revert h_sw; decide
      have h_3 : ¬ y = 3 := by intro h9; subst h9; revert h_sw; decide
      have h_4 : ¬ y = 4 := by intro h9; subst h9; revert h_sw; decide
      refine lv_tableOut (tgt := 124) hx hb dX4_told_15 h_sw (by decide) ?_
      refine lv_bipush (v := (-3)) hx hb dX4_told_124 (by decide) ?_
      exact q_iret (()) hx hb hr hlocks hK hP hD hS (by simp [toR, n_8, h_0, h_1, h_2, h_3, h_4]) (rfl) dX4_told_126
  ·
    have n_8 : (hasB c x) = false := bI_0.mp c_8
    refine lv_bipush (v := (-2)) hx hb dX4_told_11 (by decide) ?_
    exact q_iret (()) hx hb hr hlocks hK hP hD hS (by simp [toR, n_8]) (rfl) dX4_told_13

set_option maxHeartbeats 8000000 in
set_option maxRecDepth 100000 in
theorem k4_between (l : Launch) (D : va_G) (cI cZ cL : ClassId) (o : Nat → Nat) (N : Nat) (tn : Nat) (tr : Nat → Int32) (sp : Nat → Int32) (wh : Nat → Int64) (ow : Nat → Int64) (b : Nat → Nat) (rw : Nat → Int32) (nm : Nat → Int32) (bf : Nat → Int32) (fe : Nat → Int32) (d : Nat → Nat) (rx : Nat → Int32) (nn : Nat → Int32) (bg : Nat → Int32) (fx : Nat → Int32) (a : Nat → Nat) (c : Nat) (fr : Nat → Int32) (tt : Nat → Int32) (sa : Nat → Int32) (tk : Nat → Int32) (i : Nat → Nat) (op : Nat → Int32) (sl : Nat → Int32) (oi : Nat → Int32) (nd : Nat → Int32) (lp : Nat → Int32) (tl : Nat → Int32) (g : Nat → Nat) (go : Nat → Int32) (gt : Nat → Int32) (oo : Nat → Nat) (ox : Nat → Nat) (x : Int32) (y : Int32) (hc : c ≤ 160) : McI l D (tY cI cZ cL) yX4_between wsX4_between 3 66 [.ref (o 0), .int x, .int y] ([wO o (a 0) (b 0) (d 0) (i 0) (g 0) N tn, wT cI (o 1) 160 tr, wT cI (o 2) N sp, wU cL (o 3) N wh, wU cL (o 4) N ow, wS cI b (a 0) (a 1) (a 2) N rw nm bf fe, wT cI (b 1) (N + 1) (nF oo), wS cI d (a 0) (a 2) (a 1) N rx nn bg fx, wT cI (d 1) (N + 1) (nF ox), wA cI cZ a c fr tt sa tk, wI cI cZ i op sl oi nd lp tl, wG cI g go gt]) (fun r (_ : Unit) => r = bwR N c fr tt sa tk x y) (fun (_ : Unit) => [wO o (a 0) (b 0) (d 0) (i 0) (g 0) N tn, wT cI (o 1) 160 tr, wT cI (o 2) N sp, wU cL (o 3) N wh, wU cL (o 4) N ow, wS cI b (a 0) (a 1) (a 2) N rw nm bf fe, wT cI (b 1) (N + 1) (nF oo), wS cI d (a 0) (a 2) (a 1) N rx nn bg fx, wT cI (d 1) (N + 1) (nF ox), wA cI cZ a c fr tt sa tk, wI cI cZ i op sl oi nd lp tl, wG cI g go gt]) := by
  refine q_ofW (Qc := fun A => (va_Qi (fun r (_ : Unit) => r = bwR N c fr tt sa tk x y) (fun u t => mAt D (tY cI cZ cL) A ((fun (_ : Unit) => [wO o (a 0) (b 0) (d 0) (i 0) (g 0) N tn, wT cI (o 1) 160 tr, wT cI (o 2) N sp, wU cL (o 3) N wh, wU cL (o 4) N ow, wS cI b (a 0) (a 1) (a 2) N rw nm bf fe, wT cI (b 1) (N + 1) (nF oo), wS cI d (a 0) (a 2) (a 1) N rx nn bg fx, wT cI (d 1) (N + 1) (nF ox), wA cI cZ a c fr tt sa tk, wI cI cZ i op sl oi nd lp tl, wG cI g go gt]) u) t) A)) (cc := cX4_between) (maxL := 3) (ret := (some .int)) (by decide) rfl (Nat.le_of_ble_eq_true rfl) ?_
  intro pz ez sz mz bz tz cz hx hb hml hr hlocks hts hown hK hP A hD hA ls hl
  have hS : va_S A sz.heap sz.heap [] := va_S.rf
  have hl : lv_has ls 3 [(0, .ref (o 0)), (1, .int x), (2, .int y)] := hl
  refine lv_aload_n hx hb dX4_between_0 rfl (lv_at hl 0 rfl) ?_
  refine lv_iload_n hx hb dX4_between_1 rfl (lv_at hl 1 rfl) ?_
  refine q_callVi (index := 78) (n := 1) (As := [.int x]) (rest := []) (js := [0, 1, 2, 3, 4, 5, 6, 7, 8, 9, 10, 11]) (ci := 4) ⟨hx, hb, hml, hown, hts⟩ hK hP hD hS hA (k4_isNode l D cI cZ cL o N tn tr sp wh ow b rw nm bf fe d rx nn bg fx a c fr tt sa tk i op sl oi nd lp tl g go gt oo ox x) rfl (by decide) (fun _ => by simp only [List.map_cons, List.map_nil, wA_fst, wG_fst, wI_fst, wO_fst, wS_fst, wT_fst, wU_fst]) (fun (_ : Unit) => [wO o (a 0) (b 0) (d 0) (i 0) (g 0) N tn, wT cI (o 1) 160 tr, wT cI (o 2) N sp, wU cL (o 3) N wh, wU cL (o 4) N ow, wS cI b (a 0) (a 1) (a 2) N rw nm bf fe, wT cI (b 1) (N + 1) (nF oo), wS cI d (a 0) (a 2) (a 1) N rx nn bg fx, wT cI (d 1) (N + 1) (nF ox), wA cI cZ a c fr tt sa tk, wI cI cZ i op sl oi nd lp tl, wG cI g go gt]) (fun _ => rfl) gX4_between_X4_isNode rfl (by decide +kernel) rfl ⟨by decide, by decide⟩ rfl rfl rfl rfl hl.1 (Nat.le_of_ble_eq_true rfl) ⟨(Nat.zero_le _), (Nat.zero_le _)⟩ dX4_between_2 rfl (fun r _ H locs hw hP hD hS => ?_)
  have hw : r = bI (hasB N x) := hw
  subst hw
  refine lv_if_eq (tgt := 16) hx hb dX4_between_5 (by decide) (fun c_5 => ?_) (fun c_5 => ?_)
  ·
    have n_5 : (hasB N x) = false := bI_0.mp c_5
    refine lv_bipush (v := (-2)) hx hb dX4_between_16 (by decide) ?_
    exact q_iret (()) hx hb hr hlocks hK hP hD hS (by simp [bwR, arB, n_5]) (rfl) dX4_between_18
  ·
    have n_5 : (hasB N x) = true := bI_n.mp c_5
    refine lv_aload_n hx hb dX4_between_8 rfl (lv_at hl 0 rfl) ?_
    refine lv_iload_n hx hb dX4_between_9 rfl (lv_at hl 2 rfl) ?_
    refine q_callVi (index := 78) (n := 1) (As := [.int y]) (rest := []) (js := [0, 1, 2, 3, 4, 5, 6, 7, 8, 9, 10, 11]) (ci := 4) ⟨hx, hb, hml, hown, hts⟩ hK hP hD hS hA (k4_isNode l D cI cZ cL o N tn tr sp wh ow b rw nm bf fe d rx nn bg fx a c fr tt sa tk i op sl oi nd lp tl g go gt oo ox y) rfl (by decide) (fun _ => by simp only [List.map_cons, List.map_nil, wA_fst, wG_fst, wI_fst, wO_fst, wS_fst, wT_fst, wU_fst]) (fun (_ : Unit) => [wO o (a 0) (b 0) (d 0) (i 0) (g 0) N tn, wT cI (o 1) 160 tr, wT cI (o 2) N sp, wU cL (o 3) N wh, wU cL (o 4) N ow, wS cI b (a 0) (a 1) (a 2) N rw nm bf fe, wT cI (b 1) (N + 1) (nF oo), wS cI d (a 0) (a 2) (a 1) N rx nn bg fx, wT cI (d 1) (N + 1) (nF ox), wA cI cZ a c fr tt sa tk, wI cI cZ i op sl oi nd lp tl, wG cI g go gt]) (fun _ => rfl) gX4_between_X4_isNode rfl (by decide +kernel) rfl ⟨by decide, by decide⟩ rfl rfl rfl rfl hl.1 (Nat.le_of_ble_eq_true rfl) ⟨(Nat.zero_le _), (Nat.zero_le _)⟩ dX4_between_10 rfl (fun r _ H locs hw hP hD hS => ?_)
    have hw : r = bI (hasB N y) := hw
    subst hw
    refine lv_if_ne (tgt := 19) hx hb dX4_between_13 (by decide) (fun c_13 => ?_) (fun c_13 => ?_)
    ·
      have n_13 : (hasB N y) = true := bI_n.mp c_13
      refine lv_aload_n hx hb dX4_between_19 rfl (lv_at hl 0 rfl) ?_
      refine q_get (D := D) (ci := 4) (v := .ref (a 0)) (C := RX4) (T := TX4) (N := 11) hx hb hts (by decide +kernel) hown hK hP 0 0 rfl rfl rfl 1 (by decide) (hts (.fieldLink RX4 25 "OffsetRows" "arcs" "LOffsetRows$ArcList;") (by decide +kernel)) (fun _ h9 => h9) rfl dX4_between_20 ?_
      refine lv_iload_n hx hb dX4_between_23 rfl (lv_at hl 1 rfl) ?_
      refine lv_iload_n hx hb dX4_between_24 rfl (lv_at hl 2 rfl) ?_
      refine q_callVi (index := 132) (n := 2) (As := [.int x, .int y]) (rest := []) (js := [9]) (ci := 0) ⟨hx, hb, hml, hown, hts⟩ hK hP hD hS hA (k0_countLiveBetween l D cI cZ cL a c fr tt sa tk x y (by omega)) rfl (by decide) (fun _ => by simp only [List.map_cons, List.map_nil, wA_fst]) (fun (_ : Unit) => [wO o (a 0) (b 0) (d 0) (i 0) (g 0) N tn, wT cI (o 1) 160 tr, wT cI (o 2) N sp, wU cL (o 3) N wh, wU cL (o 4) N ow, wS cI b (a 0) (a 1) (a 2) N rw nm bf fe, wT cI (b 1) (N + 1) (nF oo), wS cI d (a 0) (a 2) (a 1) N rx nn bg fx, wT cI (d 1) (N + 1) (nF ox), wA cI cZ a c fr tt sa tk, wI cI cZ i op sl oi nd lp tl, wG cI g go gt]) (fun _ => rfl) gX4_between_X0_countLiveBetween rfl (by decide +kernel) rfl ⟨by decide, by decide⟩ rfl rfl rfl rfl hl.1 (Nat.le_of_ble_eq_true rfl) ⟨(Nat.zero_le _), (Nat.zero_le _)⟩ dX4_between_25 rfl (fun r _ H locs hw hP hD hS => ?_)
      have hw : r = nI (cN c (fun a => lvB sa tk a && (decide (fr a = x) && decide (tt a = y)))) := hw
      subst hw
      refine q_top (z := nI (cN c (bwB fr tt sa tk x y))) (rfl) ?_
      exact q_iret (()) hx hb hr hlocks hK hP hD hS (by simp [bwR, arB, n_5, n_13]) (rfl) dX4_between_28
    ·
      have n_13 : (hasB N y) = false := bI_0.mp c_13
      refine lv_bipush (v := (-2)) hx hb dX4_between_16 (by decide) ?_
      exact q_iret (()) hx hb hr hlocks hK hP hD hS (by simp [bwR, arB, n_5, n_13]) (rfl) dX4_between_18

set_option maxHeartbeats 8000000 in
set_option maxRecDepth 100000 in
theorem k4_stepOnFrom (l : Launch) (D : va_G) (cI cZ cL : ClassId) (o : Nat → Nat) (N : Nat) (tn : Nat) (tr : Nat → Int32) (sp : Nat → Int32) (wh : Nat → Int64) (ow : Nat → Int64) (b : Nat → Nat) (rw : Nat → Int32) (nm : Nat → Int32) (bf : Nat → Int32) (fe : Nat → Int32) (d : Nat → Nat) (rx : Nat → Int32) (nn : Nat → Int32) (bg : Nat → Int32) (fx : Nat → Int32) (a : Nat → Nat) (c : Nat) (fr : Nat → Int32) (tt : Nat → Int32) (sa : Nat → Int32) (tk : Nat → Int32) (i : Nat → Nat) (op : Nat → Int32) (sl : Nat → Int32) (oi : Nat → Int32) (nd : Nat → Int32) (lp : Nat → Int32) (tl : Nat → Int32) (g : Nat → Nat) (go : Nat → Int32) (gt : Nat → Int32) (oo : Nat → Nat) (ox : Nat → Nat) (n : Nat) (hc : c ≤ 160) (hN : N ≤ 24) (hfr : ∀ j, j < c → vp_in (fr j) N) (htt : ∀ j, j < c → vp_in (tt j) N) (hn : n ≤ 100) : McV l D (tY cI cZ cL) yX4_stepOnFrom wsX4_stepOnFrom 2 42 [.ref (o 0), .int (nI n)] ([wO o (a 0) (b 0) (d 0) (i 0) (g 0) N tn, wT cI (o 1) 160 tr, wT cI (o 2) N sp, wU cL (o 3) N wh, wU cL (o 4) N ow, wS cI b (a 0) (a 1) (a 2) N rw nm bf fe, wT cI (b 1) (N + 1) (nF oo), wS cI d (a 0) (a 2) (a 1) N rx nn bg fx, wT cI (d 1) (N + 1) (nF ox), wA cI cZ a c fr tt sa tk, wI cI cZ i op sl oi nd lp tl, wG cI g go gt]) (fun (_ : Unit) => True) (fun (_ : Unit) => [wO o (a 0) (b 0) (d 0) (i 0) (g 0) N tn, wT cI (o 1) 160 tr, wT cI (o 2) N (nrI fr tt sa tk n c sp), wU cL (o 3) N wh, wU cL (o 4) N ow, wS cI b (a 0) (a 1) (a 2) N rw nm bf fe, wT cI (b 1) (N + 1) (nF oo), wS cI d (a 0) (a 2) (a 1) N rx nn bg fx, wT cI (d 1) (N + 1) (nF ox), wA cI cZ a c fr tt sa tk, wI cI cZ i op sl oi nd lp tl, wG cI g go gt]) := by
  refine q_ofW (Qc := fun A => (va_Qv (fun (_ : Unit) => True) (fun u t => mAt D (tY cI cZ cL) A ((fun (_ : Unit) => [wO o (a 0) (b 0) (d 0) (i 0) (g 0) N tn, wT cI (o 1) 160 tr, wT cI (o 2) N (nrI fr tt sa tk n c sp), wU cL (o 3) N wh, wU cL (o 4) N ow, wS cI b (a 0) (a 1) (a 2) N rw nm bf fe, wT cI (b 1) (N + 1) (nF oo), wS cI d (a 0) (a 2) (a 1) N rx nn bg fx, wT cI (d 1) (N + 1) (nF ox), wA cI cZ a c fr tt sa tk, wI cI cZ i op sl oi nd lp tl, wG cI g go gt]) u) t) A)) (cc := cX4_stepOnFrom) (maxL := 4) (ret := none) (by decide) rfl (Nat.le_of_ble_eq_true rfl) ?_
  intro pz ez sz mz bz tz cz hx hb hml hr hlocks hts hown hK hP A hD hA ls hl
  have hS : va_S A sz.heap sz.heap [] := va_S.rf
  have hl : lv_has ls 4 [(0, .ref (o 0)), (1, .int (nI n))] := hl
  refine lv_iconst (v := (0 : Int32)) hx hb dX4_stepOnFrom_0 (by decide) ?_
  refine lv_istore_n (lv' := [(2, .int (0 : Int32)), (0, .ref (o 0)), (1, .int (nI n))]) hx hb dX4_stepOnFrom_1 rfl hl (by decide) rfl (fun ls hl => ?_)
  have loop_2 : ∀ (k_2 j : Nat), j ≤ c → c < j + k_2 → ∀ (H : Heap) (locs : List Loc), va_P D vwCl (List.flatten [wO o (a 0) (b 0) (d 0) (i 0) (g 0) N tn, wT cI (o 1) 160 tr, wT cI (o 2) N (nrI fr tt sa tk n j sp), wU cL (o 3) N wh, wU cL (o 4) N ow, wS cI b (a 0) (a 1) (a 2) N rw nm bf fe, wT cI (b 1) (N + 1) (nF oo), wS cI d (a 0) (a 2) (a 1) N rx nn bg fx, wT cI (d 1) (N + 1) (nF ox), wA cI cZ a c fr tt sa tk, wI cI cZ i op sl oi nd lp tl, wG cI g go gt]) H → va_D A (List.flatten [wO o (a 0) (b 0) (d 0) (i 0) (g 0) N tn, wT cI (o 1) 160 tr, wT cI (o 2) N (nrI fr tt sa tk n j sp), wU cL (o 3) N wh, wU cL (o 4) N ow, wS cI b (a 0) (a 1) (a 2) N rw nm bf fe, wT cI (b 1) (N + 1) (nF oo), wS cI d (a 0) (a 2) (a 1) N rx nn bg fx, wT cI (d 1) (N + 1) (nF ox), wA cI cZ a c fr tt sa tk, wI cI cZ i op sl oi nd lp tl, wG cI g go gt]) → va_S A sz.heap H locs → ∀ (ls : Array Slot), lv_has ls 4 [(2, .int (nI j)), (0, .ref (o 0)), (1, .int (nI n))] → W pz l ez (rM 2 42) sz mz [.ref (o 0), .int (nI n)].toArray bz tz cz H locs 0 0 (MQ bz (va_Qv (fun (_ : Unit) => True) (fun u t => mAt D (tY cI cZ cL) A ((fun (_ : Unit) => [wO o (a 0) (b 0) (d 0) (i 0) (g 0) N tn, wT cI (o 1) 160 tr, wT cI (o 2) N (nrI fr tt sa tk n c sp), wU cL (o 3) N wh, wU cL (o 4) N ow, wS cI b (a 0) (a 1) (a 2) N rw nm bf fe, wT cI (b 1) (N + 1) (nF oo), wS cI d (a 0) (a 2) (a 1) N rx nn bg fx, wT cI (d 1) (N + 1) (nF ox), wA cI cZ a c fr tt sa tk, wI cI cZ i op sl oi nd lp tl, wG cI g go gt]) u) t) A) [.ref (o 0), .int (nI n)].toArray sz 0 0 A) (F0 mz 2 ls [])  := by
    intro k_2
    induction k_2 with
    | zero => intro j hi_2 hk_2; exact absurd hk_2 (by omega)
    | succ k_2 ih_2 =>
      intro j hi_2 hk_2 H locs hP hD hS ls hl
      refine lv_iload_n hx hb dX4_stepOnFrom_2 rfl (lv_at hl 0 rfl) ?_
      refine lv_aload_n hx hb dX4_stepOnFrom_3 rfl (lv_at hl 1 rfl) ?_
      refine q_get (D := D) (ci := 4) (v := .ref (a 0)) (C := RX4) (T := TX4) (N := 11) hx hb hts (by decide +kernel) hown hK hP 0 0 rfl rfl rfl 1 (by decide) (hts (.fieldLink RX4 25 "OffsetRows" "arcs" "LOffsetRows$ArcList;") (by decide +kernel)) (fun _ h9 => h9) rfl dX4_stepOnFrom_4 ?_
      refine q_get (D := D) (ci := 0) (v := .int (nI c)) (C := RX0) (T := TX0) (N := 5) hx hb hts (by decide +kernel) hown hK hP 9 0 rfl rfl rfl 4 (by decide) (hts (.fieldLink RX4 94 "OffsetRows$ArcList" "count" "I") (by decide +kernel)) (fun _ h9 => h9) rfl dX4_stepOnFrom_7 ?_
      refine lv_icmp_ge (tgt := 77) hx hb dX4_stepOnFrom_10 (by decide) (fun c_10 => ?_) (fun c_10 => ?_)
      ·
        have n_10 : c ≤ j := (nI_leI (a := c) (b := j) (by omega) (by omega)).mp c_10
        exact q_vret (()) hx hb hr hlocks hK hP hD hS (trivial) (by rw [show j = c by omega]) dX4_stepOnFrom_77
      ·
        have n_10 : ¬ c ≤ j := fun h9 => c_10 ((nI_leI (a := c) (b := j) (by omega) (by omega)).mpr h9)
        refine lv_aload_n hx hb dX4_stepOnFrom_13 rfl (lv_at hl 1 rfl) ?_
        refine q_get (D := D) (ci := 4) (v := .ref (a 0)) (C := RX4) (T := TX4) (N := 11) hx hb hts (by decide +kernel) hown hK hP 0 0 rfl rfl rfl 1 (by decide) (hts (.fieldLink RX4 25 "OffsetRows" "arcs" "LOffsetRows$ArcList;") (by decide +kernel)) (fun _ h9 => h9) rfl dX4_stepOnFrom_14 ?_
        refine q_get (D := D) (ci := 0) (v := .ref (a 2)) (C := RX0) (T := TX0) (N := 5) hx hb hts (by decide +kernel) hown hK hP 9 0 rfl rfl rfl 1 (by decide) (hts (.fieldLink RX4 35 "OffsetRows$ArcList" "to" "[I") (by decide +kernel)) (fun _ h9 => h9) rfl dX4_stepOnFrom_17 ?_
        refine lv_iload_n hx hb dX4_stepOnFrom_20 rfl (lv_at hl 0 rfl) ?_
        refine q_iald hx hb hK hP 9 2 0 rfl (f := tt) rfl rfl (k := j) (nI_clamp (n := j) (by omega)) (vp_in_nI (show j < 160 from by omega) (by omega)) dX4_stepOnFrom_21 ?_
        refine lv_istore_n (lv' := [(3, .int (tt j)), (2, .int (nI j)), (0, .ref (o 0)), (1, .int (nI n))]) hx hb dX4_stepOnFrom_22 rfl hl (by decide) rfl (fun ls hl => ?_)
        refine lv_aload_n hx hb dX4_stepOnFrom_23 rfl (lv_at hl 2 rfl) ?_
        refine q_get (D := D) (ci := 4) (v := .ref (a 0)) (C := RX4) (T := TX4) (N := 11) hx hb hts (by decide +kernel) hown hK hP 0 0 rfl rfl rfl 1 (by decide) (hts (.fieldLink RX4 25 "OffsetRows" "arcs" "LOffsetRows$ArcList;") (by decide +kernel)) (fun _ h9 => h9) rfl dX4_stepOnFrom_24 ?_
        refine lv_iload_n hx hb dX4_stepOnFrom_27 rfl (lv_at hl 1 rfl) ?_
        refine q_callVi (index := 230) (n := 1) (As := [.int (nI j)]) (rest := []) (js := [9]) (ci := 0) ⟨hx, hb, hml, hown, hts⟩ hK hP hD hS hA (k0_isLive l D cI cZ cL a c fr tt sa tk (nI j) (by omega)) rfl (by decide) (fun _ => by simp only [List.map_cons, List.map_nil, wA_fst]) (fun (_ : Unit) => [wO o (a 0) (b 0) (d 0) (i 0) (g 0) N tn, wT cI (o 1) 160 tr, wT cI (o 2) N (nrI fr tt sa tk n j sp), wU cL (o 3) N wh, wU cL (o 4) N ow, wS cI b (a 0) (a 1) (a 2) N rw nm bf fe, wT cI (b 1) (N + 1) (nF oo), wS cI d (a 0) (a 2) (a 1) N rx nn bg fx, wT cI (d 1) (N + 1) (nF ox), wA cI cZ a c fr tt sa tk, wI cI cZ i op sl oi nd lp tl, wG cI g go gt]) (fun _ => rfl) gX4_stepOnFrom_X0_isLive rfl (by decide +kernel) rfl ⟨by decide, by decide⟩ rfl rfl rfl rfl hl.1 (Nat.le_of_ble_eq_true rfl) ⟨(Nat.zero_le _), (Nat.zero_le _)⟩ dX4_stepOnFrom_28 rfl (fun r _ H locs hw hP hD hS => ?_)
        have hw : r = bI (isLv c sa tk (nI j)) := hw
        subst hw
        refine q_top (z := bI (lvB sa tk j)) (by rw [isLv_nI (by omega) (by omega)]) ?_
        refine lv_if_eq (tgt := 71) hx hb dX4_stepOnFrom_31 (by decide) (fun c_31 => ?_) (fun c_31 => ?_)
        ·
          have n_31 : (lvB sa tk j) = false := bI_0.mp c_31
          refine lv_iinc (v := nI (j + 1)) (lv' := [(2, .int (nI (j + 1))), (3, .int (tt j)), (0, .ref (o 0)), (1, .int (nI n))]) hx hb dX4_stepOnFrom_71 hl (k := 1) rfl (nI_add j 1) (by decide) rfl (fun ls hl => ?_)
          refine lv_goto (tgt := 2) hx hb dX4_stepOnFrom_74 (by decide) ?_
          have hl : lv_has ls 4 [(2, .int (nI (j + 1))), (0, .ref (o 0)), (1, .int (nI n))] := lv_sub hl [0, 2, 3] rfl
          have hq0 : nrI fr tt sa tk n j sp = nrI fr tt sa tk n (j + 1) sp := by simp [nrI, c_10, n_10, n_31]
          have hP : va_P D vwCl (List.flatten [wO o (a 0) (b 0) (d 0) (i 0) (g 0) N tn, wT cI (o 1) 160 tr, wT cI (o 2) N (nrI fr tt sa tk n (j + 1) sp), wU cL (o 3) N wh, wU cL (o 4) N ow, wS cI b (a 0) (a 1) (a 2) N rw nm bf fe, wT cI (b 1) (N + 1) (nF oo), wS cI d (a 0) (a 2) (a 1) N rx nn bg fx, wT cI (d 1) (N + 1) (nF ox), wA cI cZ a c fr tt sa tk, wI cI cZ i op sl oi nd lp tl, wG cI g go gt]) _ := wCast hP (by rw [← hq0])
          have hD : va_D A (List.flatten [wO o (a 0) (b 0) (d 0) (i 0) (g 0) N tn, wT cI (o 1) 160 tr, wT cI (o 2) N (nrI fr tt sa tk n (j + 1) sp), wU cL (o 3) N wh, wU cL (o 4) N ow, wS cI b (a 0) (a 1) (a 2) N rw nm bf fe, wT cI (b 1) (N + 1) (nF oo), wS cI d (a 0) (a 2) (a 1) N rx nn bg fx, wT cI (d 1) (N + 1) (nF ox), wA cI cZ a c fr tt sa tk, wI cI cZ i op sl oi nd lp tl, wG cI g go gt]) := dCast hD (by rw [← hq0])
          exact ih_2 (j + 1) (by omega) (by omega) _ _ hP hD hS _ hl
        ·
          have n_31 : (lvB sa tk j) = true := bI_n.mp c_31
          refine lv_aload_n hx hb dX4_stepOnFrom_34 rfl (lv_at hl 2 rfl) ?_
          refine q_get (D := D) (ci := 4) (v := .ref (o 2)) (C := RX4) (T := TX4) (N := 11) hx hb hts (by decide +kernel) hown hK hP 0 0 rfl rfl rfl 8 (by decide) (hts (.fieldLink RX4 68 "OffsetRows" "steps" "[I") (by decide +kernel)) (fun _ h9 => h9) rfl dX4_stepOnFrom_35 ?_
          refine lv_aload_n hx hb dX4_stepOnFrom_38 rfl (lv_at hl 2 rfl) ?_
          refine q_get (D := D) (ci := 4) (v := .ref (a 0)) (C := RX4) (T := TX4) (N := 11) hx hb hts (by decide +kernel) hown hK hP 0 0 rfl rfl rfl 1 (by decide) (hts (.fieldLink RX4 25 "OffsetRows" "arcs" "LOffsetRows$ArcList;") (by decide +kernel)) (fun _ h9 => h9) rfl dX4_stepOnFrom_39 ?_
          refine q_get (D := D) (ci := 0) (v := .ref (a 1)) (C := RX0) (T := TX0) (N := 5) hx hb hts (by decide +kernel) hown hK hP 9 0 rfl rfl rfl 0 (by decide) (hts (.fieldLink RX4 31 "OffsetRows$ArcList" "from" "[I") (by decide +kernel)) (fun _ h9 => h9) rfl dX4_stepOnFrom_42 ?_
          refine lv_iload_n hx hb dX4_stepOnFrom_45 rfl (lv_at hl 1 rfl) ?_
          refine q_iald hx hb hK hP 9 1 0 rfl (f := fr) rfl rfl (k := j) (nI_clamp (n := j) (by omega)) (vp_in_nI (show j < 160 from by omega) (by omega)) dX4_stepOnFrom_46 ?_
          refine q_iald hx hb hK hP 2 0 0 rfl (f := nrI fr tt sa tk n j sp) rfl rfl (k := (fr j).toNatClampNeg) rfl (hfr j (by omega)) dX4_stepOnFrom_47 ?_
          refine lv_iload_n hx hb dX4_stepOnFrom_48 rfl (lv_at hl 3 rfl) ?_
          refine lv_icmp_ne (tgt := 71) hx hb dX4_stepOnFrom_49 (by decide) (fun c_49 => ?_) (fun c_49 => ?_)
          ·
            refine lv_iinc (v := nI (j + 1)) (lv' := [(2, .int (nI (j + 1))), (3, .int (tt j)), (0, .ref (o 0)), (1, .int (nI n))]) hx hb dX4_stepOnFrom_71 hl (k := 1) rfl (nI_add j 1) (by decide) rfl (fun ls hl => ?_)
            refine lv_goto (tgt := 2) hx hb dX4_stepOnFrom_74 (by decide) ?_
            have hl : lv_has ls 4 [(2, .int (nI (j + 1))), (0, .ref (o 0)), (1, .int (nI n))] := lv_sub hl [0, 2, 3] rfl
            have hq0 : nrI fr tt sa tk n j sp = nrI fr tt sa tk n (j + 1) sp := by simp [nrI, c_10, n_10, n_31, c_49]
            have hP : va_P D vwCl (List.flatten [wO o (a 0) (b 0) (d 0) (i 0) (g 0) N tn, wT cI (o 1) 160 tr, wT cI (o 2) N (nrI fr tt sa tk n (j + 1) sp), wU cL (o 3) N wh, wU cL (o 4) N ow, wS cI b (a 0) (a 1) (a 2) N rw nm bf fe, wT cI (b 1) (N + 1) (nF oo), wS cI d (a 0) (a 2) (a 1) N rx nn bg fx, wT cI (d 1) (N + 1) (nF ox), wA cI cZ a c fr tt sa tk, wI cI cZ i op sl oi nd lp tl, wG cI g go gt]) _ := wCast hP (by rw [← hq0])
            have hD : va_D A (List.flatten [wO o (a 0) (b 0) (d 0) (i 0) (g 0) N tn, wT cI (o 1) 160 tr, wT cI (o 2) N (nrI fr tt sa tk n (j + 1) sp), wU cL (o 3) N wh, wU cL (o 4) N ow, wS cI b (a 0) (a 1) (a 2) N rw nm bf fe, wT cI (b 1) (N + 1) (nF oo), wS cI d (a 0) (a 2) (a 1) N rx nn bg fx, wT cI (d 1) (N + 1) (nF ox), wA cI cZ a c fr tt sa tk, wI cI cZ i op sl oi nd lp tl, wG cI g go gt]) := dCast hD (by rw [← hq0])
            exact ih_2 (j + 1) (by omega) (by omega) _ _ hP hD hS _ hl
          ·
            refine lv_aload_n hx hb dX4_stepOnFrom_52 rfl (lv_at hl 2 rfl) ?_
            refine q_get (D := D) (ci := 4) (v := .ref (o 2)) (C := RX4) (T := TX4) (N := 11) hx hb hts (by decide +kernel) hown hK hP 0 0 rfl rfl rfl 8 (by decide) (hts (.fieldLink RX4 68 "OffsetRows" "steps" "[I") (by decide +kernel)) (fun _ h9 => h9) rfl dX4_stepOnFrom_53 ?_
            refine lv_iload_n hx hb dX4_stepOnFrom_56 rfl (lv_at hl 0 rfl) ?_
            refine q_iald hx hb hK hP 2 0 0 rfl (f := nrI fr tt sa tk n j sp) rfl rfl (k := (tt j).toNatClampNeg) rfl (htt j (by omega)) dX4_stepOnFrom_57 ?_
            refine lv_iconst (v := (-1)) hx hb dX4_stepOnFrom_58 (by decide) ?_
            refine lv_icmp_ne (tgt := 71) hx hb dX4_stepOnFrom_59 (by decide) (fun c_59 => ?_) (fun c_59 => ?_)
            ·
              refine lv_iinc (v := nI (j + 1)) (lv' := [(2, .int (nI (j + 1))), (3, .int (tt j)), (0, .ref (o 0)), (1, .int (nI n))]) hx hb dX4_stepOnFrom_71 hl (k := 1) rfl (nI_add j 1) (by decide) rfl (fun ls hl => ?_)
              refine lv_goto (tgt := 2) hx hb dX4_stepOnFrom_74 (by decide) ?_
              have hl : lv_has ls 4 [(2, .int (nI (j + 1))), (0, .ref (o 0)), (1, .int (nI n))] := lv_sub hl [0, 2, 3] rfl
              have hq0 : nrI fr tt sa tk n j sp = nrI fr tt sa tk n (j + 1) sp := by simp [nrI, c_10, n_10, n_31, c_49, c_59]
              have hP : va_P D vwCl (List.flatten [wO o (a 0) (b 0) (d 0) (i 0) (g 0) N tn, wT cI (o 1) 160 tr, wT cI (o 2) N (nrI fr tt sa tk n (j + 1) sp), wU cL (o 3) N wh, wU cL (o 4) N ow, wS cI b (a 0) (a 1) (a 2) N rw nm bf fe, wT cI (b 1) (N + 1) (nF oo), wS cI d (a 0) (a 2) (a 1) N rx nn bg fx, wT cI (d 1) (N + 1) (nF ox), wA cI cZ a c fr tt sa tk, wI cI cZ i op sl oi nd lp tl, wG cI g go gt]) _ := wCast hP (by rw [← hq0])
              have hD : va_D A (List.flatten [wO o (a 0) (b 0) (d 0) (i 0) (g 0) N tn, wT cI (o 1) 160 tr, wT cI (o 2) N (nrI fr tt sa tk n (j + 1) sp), wU cL (o 3) N wh, wU cL (o 4) N ow, wS cI b (a 0) (a 1) (a 2) N rw nm bf fe, wT cI (b 1) (N + 1) (nF oo), wS cI d (a 0) (a 2) (a 1) N rx nn bg fx, wT cI (d 1) (N + 1) (nF ox), wA cI cZ a c fr tt sa tk, wI cI cZ i op sl oi nd lp tl, wG cI g go gt]) := dCast hD (by rw [← hq0])
              exact ih_2 (j + 1) (by omega) (by omega) _ _ hP hD hS _ hl
            ·
              refine lv_aload_n hx hb dX4_stepOnFrom_62 rfl (lv_at hl 2 rfl) ?_
              refine q_get (D := D) (ci := 4) (v := .ref (o 2)) (C := RX4) (T := TX4) (N := 11) hx hb hts (by decide +kernel) hown hK hP 0 0 rfl rfl rfl 8 (by decide) (hts (.fieldLink RX4 68 "OffsetRows" "steps" "[I") (by decide +kernel)) (fun _ h9 => h9) rfl dX4_stepOnFrom_63 ?_
              refine lv_iload_n hx hb dX4_stepOnFrom_66 rfl (lv_at hl 0 rfl) ?_
              refine lv_iload_n hx hb dX4_stepOnFrom_67 rfl (lv_at hl 3 rfl) ?_
              refine lv_iconst (v := (1 : Int32)) hx hb dX4_stepOnFrom_68 (by decide) ?_
              refine q_iadd (z := nI (n + 1)) hx hb dX4_stepOnFrom_69 (nI_add n 1) ?_
              refine q_iast hx hb hK hP hD hS 2 0 0 rfl (f := nrI fr tt sa tk n j sp) rfl rfl (k := (tt j).toNatClampNeg) rfl (htt j (by omega)) dX4_stepOnFrom_70 wT_s_tr (Fs' := [wO o (a 0) (b 0) (d 0) (i 0) (g 0) N tn, wT cI (o 1) 160 tr, wT cI (o 2) N (upd (nrI fr tt sa tk n j sp) ((tt j).toNatClampNeg) (nI (n + 1))), wU cL (o 3) N wh, wU cL (o 4) N ow, wS cI b (a 0) (a 1) (a 2) N rw nm bf fe, wT cI (b 1) (N + 1) (nF oo), wS cI d (a 0) (a 2) (a 1) N rx nn bg fx, wT cI (d 1) (N + 1) (nF ox), wA cI cZ a c fr tt sa tk, wI cI cZ i op sl oi nd lp tl, wG cI g go gt]) rfl (fun H locs hP hD hS => ?_)
              refine lv_iinc (v := nI (j + 1)) (lv' := [(2, .int (nI (j + 1))), (3, .int (tt j)), (0, .ref (o 0)), (1, .int (nI n))]) hx hb dX4_stepOnFrom_71 hl (k := 1) rfl (nI_add j 1) (by decide) rfl (fun ls hl => ?_)
              refine lv_goto (tgt := 2) hx hb dX4_stepOnFrom_74 (by decide) ?_
              have hl : lv_has ls 4 [(2, .int (nI (j + 1))), (0, .ref (o 0)), (1, .int (nI n))] := lv_sub hl [0, 2, 3] rfl
              have hq0 : upd (nrI fr tt sa tk n j sp) ((tt j).toNatClampNeg) (nI (n + 1)) = nrI fr tt sa tk n (j + 1) sp := by simp [nrI, c_10, n_10, n_31, c_49, c_59]
              have hP : va_P D vwCl (List.flatten [wO o (a 0) (b 0) (d 0) (i 0) (g 0) N tn, wT cI (o 1) 160 tr, wT cI (o 2) N (nrI fr tt sa tk n (j + 1) sp), wU cL (o 3) N wh, wU cL (o 4) N ow, wS cI b (a 0) (a 1) (a 2) N rw nm bf fe, wT cI (b 1) (N + 1) (nF oo), wS cI d (a 0) (a 2) (a 1) N rx nn bg fx, wT cI (d 1) (N + 1) (nF ox), wA cI cZ a c fr tt sa tk, wI cI cZ i op sl oi nd lp tl, wG cI g go gt]) _ := wCast hP (by rw [← hq0])
              have hD : va_D A (List.flatten [wO o (a 0) (b 0) (d 0) (i 0) (g 0) N tn, wT cI (o 1) 160 tr, wT cI (o 2) N (nrI fr tt sa tk n (j + 1) sp), wU cL (o 3) N wh, wU cL (o 4) N ow, wS cI b (a 0) (a 1) (a 2) N rw nm bf fe, wT cI (b 1) (N + 1) (nF oo), wS cI d (a 0) (a 2) (a 1) N rx nn bg fx, wT cI (d 1) (N + 1) (nF ox), wA cI cZ a c fr tt sa tk, wI cI cZ i op sl oi nd lp tl, wG cI g go gt]) := dCast hD (by rw [← hq0])
              exact ih_2 (j + 1) (by omega) (by omega) _ _ hP hD hS _ hl
  have hl : lv_has ls 4 [(2, .int (nI 0)), (0, .ref (o 0)), (1, .int (nI n))] := lv_sub hl [0, 1, 2] rfl
  have hq0 : sp = nrI fr tt sa tk n 0 sp := rfl
  have hP : va_P D vwCl (List.flatten [wO o (a 0) (b 0) (d 0) (i 0) (g 0) N tn, wT cI (o 1) 160 tr, wT cI (o 2) N (nrI fr tt sa tk n 0 sp), wU cL (o 3) N wh, wU cL (o 4) N ow, wS cI b (a 0) (a 1) (a 2) N rw nm bf fe, wT cI (b 1) (N + 1) (nF oo), wS cI d (a 0) (a 2) (a 1) N rx nn bg fx, wT cI (d 1) (N + 1) (nF ox), wA cI cZ a c fr tt sa tk, wI cI cZ i op sl oi nd lp tl, wG cI g go gt]) _ := wCast hP (by rw [← hq0])
  have hD : va_D A (List.flatten [wO o (a 0) (b 0) (d 0) (i 0) (g 0) N tn, wT cI (o 1) 160 tr, wT cI (o 2) N (nrI fr tt sa tk n 0 sp), wU cL (o 3) N wh, wU cL (o 4) N ow, wS cI b (a 0) (a 1) (a 2) N rw nm bf fe, wT cI (b 1) (N + 1) (nF oo), wS cI d (a 0) (a 2) (a 1) N rx nn bg fx, wT cI (d 1) (N + 1) (nF ox), wA cI cZ a c fr tt sa tk, wI cI cZ i op sl oi nd lp tl, wG cI g go gt]) := dCast hD (by rw [← hq0])
  exact loop_2 (c + 1) 0 (by omega) (by omega) _ _ hP hD hS _ hl

set_option maxHeartbeats 8000000 in
set_option maxRecDepth 100000 in
theorem k4_near (l : Launch) (D : va_G) (cI cZ cL : ClassId) (o : Nat → Nat) (N : Nat) (tn : Nat) (tr : Nat → Int32) (sp : Nat → Int32) (wh : Nat → Int64) (ow : Nat → Int64) (b : Nat → Nat) (rw : Nat → Int32) (nm : Nat → Int32) (bf : Nat → Int32) (fe : Nat → Int32) (d : Nat → Nat) (rx : Nat → Int32) (nn : Nat → Int32) (bg : Nat → Int32) (fx : Nat → Int32) (a : Nat → Nat) (c : Nat) (fr : Nat → Int32) (tt : Nat → Int32) (sa : Nat → Int32) (tk : Nat → Int32) (i : Nat → Nat) (op : Nat → Int32) (sl : Nat → Int32) (oi : Nat → Int32) (nd : Nat → Int32) (lp : Nat → Int32) (tl : Nat → Int32) (g : Nat → Nat) (go : Nat → Int32) (gt : Nat → Int32) (oo : Nat → Nat) (ox : Nat → Nat) (x : Int32) (y : Int32) (hc : c ≤ 160) (hN : N ≤ 24) (hfr : ∀ j, j < c → vp_in (fr j) N) (htt : ∀ j, j < c → vp_in (tt j) N) : McI l D (tY cI cZ cL) yX4_near wsX4_near 3 65 [.ref (o 0), .int x, .int y] ([wO o (a 0) (b 0) (d 0) (i 0) (g 0) N tn, wT cI (o 1) 160 tr, wT cI (o 2) N sp, wU cL (o 3) N wh, wU cL (o 4) N ow, wS cI b (a 0) (a 1) (a 2) N rw nm bf fe, wT cI (b 1) (N + 1) (nF oo), wS cI d (a 0) (a 2) (a 1) N rx nn bg fx, wT cI (d 1) (N + 1) (nF ox), wA cI cZ a c fr tt sa tk, wI cI cZ i op sl oi nd lp tl, wG cI g go gt]) (fun r (u : Nat → Int32) => r = crR N c fr tt sa tk sp x y ∧ True) (fun (u : Nat → Int32) => [wO o (a 0) (b 0) (d 0) (i 0) (g 0) N tn, wT cI (o 1) 160 tr, wT cI (o 2) N u, wU cL (o 3) N wh, wU cL (o 4) N ow, wS cI b (a 0) (a 1) (a 2) N rw nm bf fe, wT cI (b 1) (N + 1) (nF oo), wS cI d (a 0) (a 2) (a 1) N rx nn bg fx, wT cI (d 1) (N + 1) (nF ox), wA cI cZ a c fr tt sa tk, wI cI cZ i op sl oi nd lp tl, wG cI g go gt]) := by
  refine q_ofW (Qc := fun A => (va_Qi (fun r (u : Nat → Int32) => r = crR N c fr tt sa tk sp x y ∧ True) (fun u t => mAt D (tY cI cZ cL) A ((fun (u : Nat → Int32) => [wO o (a 0) (b 0) (d 0) (i 0) (g 0) N tn, wT cI (o 1) 160 tr, wT cI (o 2) N u, wU cL (o 3) N wh, wU cL (o 4) N ow, wS cI b (a 0) (a 1) (a 2) N rw nm bf fe, wT cI (b 1) (N + 1) (nF oo), wS cI d (a 0) (a 2) (a 1) N rx nn bg fx, wT cI (d 1) (N + 1) (nF ox), wA cI cZ a c fr tt sa tk, wI cI cZ i op sl oi nd lp tl, wG cI g go gt]) u) t) A)) (cc := cX4_near) (maxL := 4) (ret := (some .int)) (by decide) rfl (Nat.le_of_ble_eq_true rfl) ?_
  intro pz ez sz mz bz tz cz hx hb hml hr hlocks hts hown hK hP A hD hA ls hl
  have hS : va_S A sz.heap sz.heap [] := va_S.rf
  have hl : lv_has ls 4 [(0, .ref (o 0)), (1, .int x), (2, .int y)] := hl
  refine lv_aload_n hx hb dX4_near_0 rfl (lv_at hl 0 rfl) ?_
  refine lv_iload_n hx hb dX4_near_1 rfl (lv_at hl 1 rfl) ?_
  refine q_callVi (index := 78) (n := 1) (As := [.int x]) (rest := []) (js := [0, 1, 2, 3, 4, 5, 6, 7, 8, 9, 10, 11]) (ci := 4) ⟨hx, hb, hml, hown, hts⟩ hK hP hD hS hA (k4_isNode l D cI cZ cL o N tn tr sp wh ow b rw nm bf fe d rx nn bg fx a c fr tt sa tk i op sl oi nd lp tl g go gt oo ox x) rfl (by decide) (fun _ => by simp only [List.map_cons, List.map_nil, wA_fst, wG_fst, wI_fst, wO_fst, wS_fst, wT_fst, wU_fst]) (fun (_ : Unit) => [wO o (a 0) (b 0) (d 0) (i 0) (g 0) N tn, wT cI (o 1) 160 tr, wT cI (o 2) N sp, wU cL (o 3) N wh, wU cL (o 4) N ow, wS cI b (a 0) (a 1) (a 2) N rw nm bf fe, wT cI (b 1) (N + 1) (nF oo), wS cI d (a 0) (a 2) (a 1) N rx nn bg fx, wT cI (d 1) (N + 1) (nF ox), wA cI cZ a c fr tt sa tk, wI cI cZ i op sl oi nd lp tl, wG cI g go gt]) (fun _ => rfl) gX4_near_X4_isNode rfl (by decide +kernel) rfl ⟨by decide, by decide⟩ rfl rfl rfl rfl hl.1 (Nat.le_of_ble_eq_true rfl) ⟨(Nat.zero_le _), (Nat.zero_le _)⟩ dX4_near_2 rfl (fun r _ H locs hw hP hD hS => ?_)
  have hw : r = bI (hasB N x) := hw
  subst hw
  refine lv_if_eq (tgt := 16) hx hb dX4_near_5 (by decide) (fun c_5 => ?_) (fun c_5 => ?_)
  ·
    have n_5 : (hasB N x) = false := bI_0.mp c_5
    refine lv_bipush (v := (-2)) hx hb dX4_near_16 (by decide) ?_
    exact q_iret (sp) hx hb hr hlocks hK hP hD hS (⟨by simp [crR, arB, n_5], trivial⟩) (rfl) dX4_near_18
  ·
    have n_5 : (hasB N x) = true := bI_n.mp c_5
    refine lv_aload_n hx hb dX4_near_8 rfl (lv_at hl 0 rfl) ?_
    refine lv_iload_n hx hb dX4_near_9 rfl (lv_at hl 2 rfl) ?_
    refine q_callVi (index := 78) (n := 1) (As := [.int y]) (rest := []) (js := [0, 1, 2, 3, 4, 5, 6, 7, 8, 9, 10, 11]) (ci := 4) ⟨hx, hb, hml, hown, hts⟩ hK hP hD hS hA (k4_isNode l D cI cZ cL o N tn tr sp wh ow b rw nm bf fe d rx nn bg fx a c fr tt sa tk i op sl oi nd lp tl g go gt oo ox y) rfl (by decide) (fun _ => by simp only [List.map_cons, List.map_nil, wA_fst, wG_fst, wI_fst, wO_fst, wS_fst, wT_fst, wU_fst]) (fun (_ : Unit) => [wO o (a 0) (b 0) (d 0) (i 0) (g 0) N tn, wT cI (o 1) 160 tr, wT cI (o 2) N sp, wU cL (o 3) N wh, wU cL (o 4) N ow, wS cI b (a 0) (a 1) (a 2) N rw nm bf fe, wT cI (b 1) (N + 1) (nF oo), wS cI d (a 0) (a 2) (a 1) N rx nn bg fx, wT cI (d 1) (N + 1) (nF ox), wA cI cZ a c fr tt sa tk, wI cI cZ i op sl oi nd lp tl, wG cI g go gt]) (fun _ => rfl) gX4_near_X4_isNode rfl (by decide +kernel) rfl ⟨by decide, by decide⟩ rfl rfl rfl rfl hl.1 (Nat.le_of_ble_eq_true rfl) ⟨(Nat.zero_le _), (Nat.zero_le _)⟩ dX4_near_10 rfl (fun r _ H locs hw hP hD hS => ?_)
    have hw : r = bI (hasB N y) := hw
    subst hw
    refine lv_if_ne (tgt := 19) hx hb dX4_near_13 (by decide) (fun c_13 => ?_) (fun c_13 => ?_)
    ·
      have n_13 : (hasB N y) = true := bI_n.mp c_13
      refine lv_aload_n hx hb dX4_near_19 rfl (lv_at hl 0 rfl) ?_
      refine q_get (D := D) (ci := 4) (v := .ref (o 2)) (C := RX4) (T := TX4) (N := 11) hx hb hts (by decide +kernel) hown hK hP 0 0 rfl rfl rfl 8 (by decide) (hts (.fieldLink RX4 68 "OffsetRows" "steps" "[I") (by decide +kernel)) (fun _ h9 => h9) rfl dX4_near_20 ?_
      refine lv_iconst (v := (-1)) hx hb dX4_near_23 (by decide) ?_
      refine q_callSv (index := 135) (n := 2) (As := [.ref (o 2), .int (-1 : Int32)]) (rest := []) (js := [2]) ⟨hx, hb, hml, hown, hts⟩ hK hP hD hS hA (kJ_filli l D cI cZ cL (o 2) N sp (-1 : Int32) (by omega)) rfl (by decide) (fun _ => by simp only [List.map_cons, List.map_nil, wT_fst]) (fun (_ : Unit) => [wO o (a 0) (b 0) (d 0) (i 0) (g 0) N tn, wT cI (o 1) 160 tr, wT cI (o 2) N (pfx (fun _ => (-1 : Int32)) sp N), wU cL (o 3) N wh, wU cL (o 4) N ow, wS cI b (a 0) (a 1) (a 2) N rw nm bf fe, wT cI (b 1) (N + 1) (nF oo), wS cI d (a 0) (a 2) (a 1) N rx nn bg fx, wT cI (d 1) (N + 1) (nF ox), wA cI cZ a c fr tt sa tk, wI cI cZ i op sl oi nd lp tl, wG cI g go gt]) (fun _ => rfl) gX4_near_J7_fill_53178 rfl (by decide +kernel) rfl ⟨by decide, by decide⟩ hl.1 (Nat.le_of_ble_eq_true rfl) ⟨(Nat.zero_le _), (Nat.zero_le _)⟩ dX4_near_24 rfl (fun _ H locs hw hP hD hS => ?_)
      refine lv_aload_n hx hb dX4_near_27 rfl (lv_at hl 0 rfl) ?_
      refine q_get (D := D) (ci := 4) (v := .ref (o 2)) (C := RX4) (T := TX4) (N := 11) hx hb hts (by decide +kernel) hown hK hP 0 0 rfl rfl rfl 8 (by decide) (hts (.fieldLink RX4 68 "OffsetRows" "steps" "[I") (by decide +kernel)) (fun _ h9 => h9) rfl dX4_near_28 ?_
      refine lv_iload_n hx hb dX4_near_31 rfl (lv_at hl 1 rfl) ?_
      refine lv_iconst (v := (0 : Int32)) hx hb dX4_near_32 (by decide) ?_
      refine q_iast hx hb hK hP hD hS 2 0 0 rfl (f := pfx (fun _ => (-1 : Int32)) sp N) rfl rfl (k := x.toNatClampNeg) rfl (hasB_in n_5 (Nat.le_refl N) (by omega)) dX4_near_33 wT_s_tr (Fs' := [wO o (a 0) (b 0) (d 0) (i 0) (g 0) N tn, wT cI (o 1) 160 tr, wT cI (o 2) N (upd (pfx (fun _ => (-1 : Int32)) sp N) x.toNatClampNeg (0 : Int32)), wU cL (o 3) N wh, wU cL (o 4) N ow, wS cI b (a 0) (a 1) (a 2) N rw nm bf fe, wT cI (b 1) (N + 1) (nF oo), wS cI d (a 0) (a 2) (a 1) N rx nn bg fx, wT cI (d 1) (N + 1) (nF ox), wA cI cZ a c fr tt sa tk, wI cI cZ i op sl oi nd lp tl, wG cI g go gt]) rfl (fun H locs hP hD hS => ?_)
      refine lv_iconst (v := (0 : Int32)) hx hb dX4_near_34 (by decide) ?_
      refine lv_istore_n (lv' := [(3, .int (0 : Int32)), (0, .ref (o 0)), (1, .int x), (2, .int y)]) hx hb dX4_near_35 rfl hl (by decide) rfl (fun ls hl => ?_)
      have loop_36 : ∀ (k_36 n : Nat), n ≤ N → N < n + k_36 → ∀ (H : Heap) (locs : List Loc), va_P D vwCl (List.flatten [wO o (a 0) (b 0) (d 0) (i 0) (g 0) N tn, wT cI (o 1) 160 tr, wT cI (o 2) N (nrO c fr tt sa tk n (cr0 N sp x)), wU cL (o 3) N wh, wU cL (o 4) N ow, wS cI b (a 0) (a 1) (a 2) N rw nm bf fe, wT cI (b 1) (N + 1) (nF oo), wS cI d (a 0) (a 2) (a 1) N rx nn bg fx, wT cI (d 1) (N + 1) (nF ox), wA cI cZ a c fr tt sa tk, wI cI cZ i op sl oi nd lp tl, wG cI g go gt]) H → va_D A (List.flatten [wO o (a 0) (b 0) (d 0) (i 0) (g 0) N tn, wT cI (o 1) 160 tr, wT cI (o 2) N (nrO c fr tt sa tk n (cr0 N sp x)), wU cL (o 3) N wh, wU cL (o 4) N ow, wS cI b (a 0) (a 1) (a 2) N rw nm bf fe, wT cI (b 1) (N + 1) (nF oo), wS cI d (a 0) (a 2) (a 1) N rx nn bg fx, wT cI (d 1) (N + 1) (nF ox), wA cI cZ a c fr tt sa tk, wI cI cZ i op sl oi nd lp tl, wG cI g go gt]) → va_S A sz.heap H locs → ∀ (ls : Array Slot), lv_has ls 4 [(3, .int (nI n)), (0, .ref (o 0)), (1, .int x), (2, .int y)] → W pz l ez (rM 3 65) sz mz [.ref (o 0), .int x, .int y].toArray bz tz cz H locs 0 0 (MQ bz (va_Qi (fun r (u : Nat → Int32) => r = crR N c fr tt sa tk sp x y ∧ True) (fun u t => mAt D (tY cI cZ cL) A ((fun (u : Nat → Int32) => [wO o (a 0) (b 0) (d 0) (i 0) (g 0) N tn, wT cI (o 1) 160 tr, wT cI (o 2) N u, wU cL (o 3) N wh, wU cL (o 4) N ow, wS cI b (a 0) (a 1) (a 2) N rw nm bf fe, wT cI (b 1) (N + 1) (nF oo), wS cI d (a 0) (a 2) (a 1) N rx nn bg fx, wT cI (d 1) (N + 1) (nF ox), wA cI cZ a c fr tt sa tk, wI cI cZ i op sl oi nd lp tl, wG cI g go gt]) u) t) A) [.ref (o 0), .int x, .int y].toArray sz 0 0 A) (F0 mz 36 ls [])  := by
        intro k_36
        induction k_36 with
        | zero => intro n hi_36 hk_36; exact absurd hk_36 (by omega)
        | succ k_36 ih_36 =>
          intro n hi_36 hk_36 H locs hP hD hS ls hl
          refine lv_iload_n hx hb dX4_near_36 rfl (lv_at hl 0 rfl) ?_
          refine lv_aload_n hx hb dX4_near_37 rfl (lv_at hl 1 rfl) ?_
          refine q_get (D := D) (ci := 4) (v := .int (nI N)) (C := RX4) (T := TX4) (N := 11) hx hb hts (by decide +kernel) hown hK hP 0 0 rfl rfl rfl 0 (by decide) (hts (.fieldLink RX4 18 "OffsetRows" "nodes" "I") (by decide +kernel)) (fun _ h9 => h9) rfl dX4_near_38 ?_
          refine lv_icmp_ge (tgt := 65) hx hb dX4_near_41 (by decide) (fun c_41 => ?_) (fun c_41 => ?_)
          ·
            have n_41 : N ≤ n := (nI_leI (a := N) (b := n) (by omega) (by omega)).mp c_41
            refine lv_aload_n hx hb dX4_near_65 rfl (lv_at hl 1 rfl) ?_
            refine q_get (D := D) (ci := 4) (v := .ref (o 2)) (C := RX4) (T := TX4) (N := 11) hx hb hts (by decide +kernel) hown hK hP 0 0 rfl rfl rfl 8 (by decide) (hts (.fieldLink RX4 68 "OffsetRows" "steps" "[I") (by decide +kernel)) (fun _ h9 => h9) rfl dX4_near_66 ?_
            refine lv_iload_n hx hb dX4_near_69 rfl (lv_at hl 3 rfl) ?_
            refine q_iald hx hb hK hP 2 0 0 rfl (f := nrO c fr tt sa tk n (cr0 N sp x)) rfl rfl (k := y.toNatClampNeg) rfl (hasB_in n_13 (Nat.le_refl N) (by omega)) dX4_near_70 ?_
            exact q_iret (nrO c fr tt sa tk n (cr0 N sp x)) hx hb hr hlocks hK hP hD hS (⟨by rw [crR, if_pos (by simp [arB, n_5, n_13]), show n = N by omega], trivial⟩) (rfl) dX4_near_71
          ·
            have n_41 : ¬ N ≤ n := fun h9 => c_41 ((nI_leI (a := N) (b := n) (by omega) (by omega)).mpr h9)
            refine lv_aload_n hx hb dX4_near_44 rfl (lv_at hl 1 rfl) ?_
            refine q_get (D := D) (ci := 4) (v := .ref (o 2)) (C := RX4) (T := TX4) (N := 11) hx hb hts (by decide +kernel) hown hK hP 0 0 rfl rfl rfl 8 (by decide) (hts (.fieldLink RX4 68 "OffsetRows" "steps" "[I") (by decide +kernel)) (fun _ h9 => h9) rfl dX4_near_45 ?_
            refine lv_iload_n hx hb dX4_near_48 rfl (lv_at hl 3 rfl) ?_
            refine q_iald hx hb hK hP 2 0 0 rfl (f := nrO c fr tt sa tk n (cr0 N sp x)) rfl rfl (k := y.toNatClampNeg) rfl (hasB_in n_13 (Nat.le_refl N) (by omega)) dX4_near_49 ?_
            refine lv_iconst (v := (-1)) hx hb dX4_near_50 (by decide) ?_
            refine lv_icmp_ne (tgt := 65) hx hb dX4_near_51 (by decide) (fun c_51 => ?_) (fun c_51 => ?_)
            ·
              refine lv_aload_n hx hb dX4_near_65 rfl (lv_at hl 1 rfl) ?_
              refine q_get (D := D) (ci := 4) (v := .ref (o 2)) (C := RX4) (T := TX4) (N := 11) hx hb hts (by decide +kernel) hown hK hP 0 0 rfl rfl rfl 8 (by decide) (hts (.fieldLink RX4 68 "OffsetRows" "steps" "[I") (by decide +kernel)) (fun _ h9 => h9) rfl dX4_near_66 ?_
              refine lv_iload_n hx hb dX4_near_69 rfl (lv_at hl 3 rfl) ?_
              refine q_iald hx hb hK hP 2 0 0 rfl (f := nrO c fr tt sa tk n (cr0 N sp x)) rfl rfl (k := y.toNatClampNeg) rfl (hasB_in n_13 (Nat.le_refl N) (by omega)) dX4_near_70 ?_
              exact q_iret (nrO c fr tt sa tk n (cr0 N sp x)) hx hb hr hlocks hK hP hD hS (⟨by rw [crR, if_pos (by simp [arB, n_5, n_13])]; exact (nrO_stay (by omega) c_51).symm, trivial⟩) (rfl) dX4_near_71
            ·
              refine lv_aload_n hx hb dX4_near_54 rfl (lv_at hl 1 rfl) ?_
              refine lv_iload_n hx hb dX4_near_55 rfl (lv_at hl 0 rfl) ?_
              refine q_callVv (index := 141) (n := 1) (As := [.int (nI n)]) (rest := []) (js := [0, 1, 2, 3, 4, 5, 6, 7, 8, 9, 10, 11]) (ci := 4) ⟨hx, hb, hml, hown, hts⟩ hK hP hD hS hA (k4_stepOnFrom l D cI cZ cL o N tn tr (nrO c fr tt sa tk n (cr0 N sp x)) wh ow b rw nm bf fe d rx nn bg fx a c fr tt sa tk i op sl oi nd lp tl g go gt oo ox n (by omega) (by omega) hfr htt (by omega)) rfl (by decide) (fun _ => by simp only [List.map_cons, List.map_nil, wA_fst, wG_fst, wI_fst, wO_fst, wS_fst, wT_fst, wU_fst]) (fun (_ : Unit) => [wO o (a 0) (b 0) (d 0) (i 0) (g 0) N tn, wT cI (o 1) 160 tr, wT cI (o 2) N (nrI fr tt sa tk n c (nrO c fr tt sa tk n (cr0 N sp x))), wU cL (o 3) N wh, wU cL (o 4) N ow, wS cI b (a 0) (a 1) (a 2) N rw nm bf fe, wT cI (b 1) (N + 1) (nF oo), wS cI d (a 0) (a 2) (a 1) N rx nn bg fx, wT cI (d 1) (N + 1) (nF ox), wA cI cZ a c fr tt sa tk, wI cI cZ i op sl oi nd lp tl, wG cI g go gt]) (fun _ => rfl) gX4_near_X4_stepOnFrom rfl (by decide +kernel) rfl ⟨by decide, by decide⟩ rfl rfl rfl rfl hl.1 (Nat.le_of_ble_eq_true rfl) ⟨(Nat.zero_le _), (Nat.zero_le _)⟩ dX4_near_56 rfl (fun _ H locs hw hP hD hS => ?_)
              refine lv_iinc (v := nI (n + 1)) (lv' := [(3, .int (nI (n + 1))), (0, .ref (o 0)), (1, .int x), (2, .int y)]) hx hb dX4_near_59 hl (k := 0) rfl (nI_add n 1) (by decide) rfl (fun ls hl => ?_)
              refine lv_goto (tgt := 36) hx hb dX4_near_62 (by decide) ?_
              have hl : lv_has ls 4 [(3, .int (nI (n + 1))), (0, .ref (o 0)), (1, .int x), (2, .int y)] := lv_sub hl [0, 1, 2, 3] rfl
              have hq0 : nrI fr tt sa tk n c (nrO c fr tt sa tk n (cr0 N sp x)) = nrO c fr tt sa tk (n + 1) (cr0 N sp x) := rfl
              have hP : va_P D vwCl (List.flatten [wO o (a 0) (b 0) (d 0) (i 0) (g 0) N tn, wT cI (o 1) 160 tr, wT cI (o 2) N (nrO c fr tt sa tk (n + 1) (cr0 N sp x)), wU cL (o 3) N wh, wU cL (o 4) N ow, wS cI b (a 0) (a 1) (a 2) N rw nm bf fe, wT cI (b 1) (N + 1) (nF oo), wS cI d (a 0) (a 2) (a 1) N rx nn bg fx, wT cI (d 1) (N + 1) (nF ox), wA cI cZ a c fr tt sa tk, wI cI cZ i op sl oi nd lp tl, wG cI g go gt]) _ := wCast hP (by rw [← hq0])
              have hD : va_D A (List.flatten [wO o (a 0) (b 0) (d 0) (i 0) (g 0) N tn, wT cI (o 1) 160 tr, wT cI (o 2) N (nrO c fr tt sa tk (n + 1) (cr0 N sp x)), wU cL (o 3) N wh, wU cL (o 4) N ow, wS cI b (a 0) (a 1) (a 2) N rw nm bf fe, wT cI (b 1) (N + 1) (nF oo), wS cI d (a 0) (a 2) (a 1) N rx nn bg fx, wT cI (d 1) (N + 1) (nF ox), wA cI cZ a c fr tt sa tk, wI cI cZ i op sl oi nd lp tl, wG cI g go gt]) := dCast hD (by rw [← hq0])
              exact ih_36 (n + 1) (by omega) (by omega) _ _ hP hD hS _ hl
      have hl : lv_has ls 4 [(3, .int (nI 0)), (0, .ref (o 0)), (1, .int x), (2, .int y)] := lv_sub hl [0, 1, 2, 3] rfl
      have hq0 : upd (pfx (fun _ => (-1 : Int32)) sp N) x.toNatClampNeg (0 : Int32) = nrO c fr tt sa tk 0 (cr0 N sp x) := rfl
      have hP : va_P D vwCl (List.flatten [wO o (a 0) (b 0) (d 0) (i 0) (g 0) N tn, wT cI (o 1) 160 tr, wT cI (o 2) N (nrO c fr tt sa tk 0 (cr0 N sp x)), wU cL (o 3) N wh, wU cL (o 4) N ow, wS cI b (a 0) (a 1) (a 2) N rw nm bf fe, wT cI (b 1) (N + 1) (nF oo), wS cI d (a 0) (a 2) (a 1) N rx nn bg fx, wT cI (d 1) (N + 1) (nF ox), wA cI cZ a c fr tt sa tk, wI cI cZ i op sl oi nd lp tl, wG cI g go gt]) _ := wCast hP (by rw [← hq0])
      have hD : va_D A (List.flatten [wO o (a 0) (b 0) (d 0) (i 0) (g 0) N tn, wT cI (o 1) 160 tr, wT cI (o 2) N (nrO c fr tt sa tk 0 (cr0 N sp x)), wU cL (o 3) N wh, wU cL (o 4) N ow, wS cI b (a 0) (a 1) (a 2) N rw nm bf fe, wT cI (b 1) (N + 1) (nF oo), wS cI d (a 0) (a 2) (a 1) N rx nn bg fx, wT cI (d 1) (N + 1) (nF ox), wA cI cZ a c fr tt sa tk, wI cI cZ i op sl oi nd lp tl, wG cI g go gt]) := dCast hD (by rw [← hq0])
      exact loop_36 (N + 1) 0 (by omega) (by omega) _ _ hP hD hS _ hl
    ·
      have n_13 : (hasB N y) = false := bI_0.mp c_13
      refine lv_bipush (v := (-2)) hx hb dX4_near_16 (by decide) ?_
      exact q_iret (sp) hx hb hr hlocks hK hP hD hS (⟨by simp [crR, arB, n_5, n_13], trivial⟩) (rfl) dX4_near_18

set_option maxHeartbeats 8000000 in
set_option maxRecDepth 100000 in
theorem k4_lengthenWays (l : Launch) (D : va_G) (cI cZ cL : ClassId) (o : Nat → Nat) (N : Nat) (tn : Nat) (tr : Nat → Int32) (sp : Nat → Int32) (wh : Nat → Int64) (ow : Nat → Int64) (b : Nat → Nat) (rw : Nat → Int32) (nm : Nat → Int32) (bf : Nat → Int32) (fe : Nat → Int32) (d : Nat → Nat) (rx : Nat → Int32) (nn : Nat → Int32) (bg : Nat → Int32) (fx : Nat → Int32) (a : Nat → Nat) (c : Nat) (fr : Nat → Int32) (tt : Nat → Int32) (sa : Nat → Int32) (tk : Nat → Int32) (i : Nat → Nat) (op : Nat → Int32) (sl : Nat → Int32) (oi : Nat → Int32) (nd : Nat → Int32) (lp : Nat → Int32) (tl : Nat → Int32) (g : Nat → Nat) (go : Nat → Int32) (gt : Nat → Int32) (oo : Nat → Nat) (ox : Nat → Nat) (hc : c ≤ 160) (hN : N ≤ 24) (hfr : ∀ j, j < c → vp_in (fr j) N) (htt : ∀ j, j < c → vp_in (tt j) N) : McV l D (tY cI cZ cL) yX4_lengthenWays wsX4_lengthenWays 2 42 [.ref (o 0)] ([wO o (a 0) (b 0) (d 0) (i 0) (g 0) N tn, wT cI (o 1) 160 tr, wT cI (o 2) N sp, wU cL (o 3) N wh, wU cL (o 4) N ow, wS cI b (a 0) (a 1) (a 2) N rw nm bf fe, wT cI (b 1) (N + 1) (nF oo), wS cI d (a 0) (a 2) (a 1) N rx nn bg fx, wT cI (d 1) (N + 1) (nF ox), wA cI cZ a c fr tt sa tk, wI cI cZ i op sl oi nd lp tl, wG cI g go gt]) (fun (_ : Unit) => True) (fun (_ : Unit) => [wO o (a 0) (b 0) (d 0) (i 0) (g 0) N tn, wT cI (o 1) 160 tr, wT cI (o 2) N sp, wU cL (o 3) N (va_cpy (wcI fr tt sa tk wh c (pfx (fun _ => (0 : Int64)) ow N)) wh 0 0 N), wU cL (o 4) N (wcI fr tt sa tk wh c (pfx (fun _ => (0 : Int64)) ow N)), wS cI b (a 0) (a 1) (a 2) N rw nm bf fe, wT cI (b 1) (N + 1) (nF oo), wS cI d (a 0) (a 2) (a 1) N rx nn bg fx, wT cI (d 1) (N + 1) (nF ox), wA cI cZ a c fr tt sa tk, wI cI cZ i op sl oi nd lp tl, wG cI g go gt]) := by
  refine q_ofW (Qc := fun A => (va_Qv (fun (_ : Unit) => True) (fun u t => mAt D (tY cI cZ cL) A ((fun (_ : Unit) => [wO o (a 0) (b 0) (d 0) (i 0) (g 0) N tn, wT cI (o 1) 160 tr, wT cI (o 2) N sp, wU cL (o 3) N (va_cpy (wcI fr tt sa tk wh c (pfx (fun _ => (0 : Int64)) ow N)) wh 0 0 N), wU cL (o 4) N (wcI fr tt sa tk wh c (pfx (fun _ => (0 : Int64)) ow N)), wS cI b (a 0) (a 1) (a 2) N rw nm bf fe, wT cI (b 1) (N + 1) (nF oo), wS cI d (a 0) (a 2) (a 1) N rx nn bg fx, wT cI (d 1) (N + 1) (nF ox), wA cI cZ a c fr tt sa tk, wI cI cZ i op sl oi nd lp tl, wG cI g go gt]) u) t) A)) (cc := cX4_lengthenWays) (maxL := 2) (ret := none) (by decide) rfl (Nat.le_of_ble_eq_true rfl) ?_
  intro pz ez sz mz bz tz cz hx hb hml hr hlocks hts hown hK hP A hD hA ls hl
  have hS : va_S A sz.heap sz.heap [] := va_S.rf
  have hl : lv_has ls 2 [(0, .ref (o 0))] := hl
  refine lv_aload_n hx hb dX4_lengthenWays_0 rfl (lv_at hl 0 rfl) ?_
  refine q_get (D := D) (ci := 4) (v := .ref (o 4)) (C := RX4) (T := TX4) (N := 11) hx hb hts (by decide +kernel) hown hK hP 0 0 rfl rfl rfl 10 (by decide) (hts (.fieldLink RX4 75 "OffsetRows" "waysOnward" "[J") (by decide +kernel)) (fun _ h9 => h9) rfl dX4_lengthenWays_1 ?_
  refine lv_lconst (v := 0) hx hb dX4_lengthenWays_4 (by decide) ?_
  refine q_callSv (index := 149) (n := 2) (As := [.ref (o 4), .long (0 : Int64)]) (rest := []) (js := [4]) ⟨hx, hb, hml, hown, hts⟩ hK hP hD hS hA (kJ_fill_l l D cI cZ cL (o 4) N ow (0 : Int64) (by omega)) rfl (by decide) (fun _ => by simp only [List.map_cons, List.map_nil, wU_fst]) (fun (_ : Unit) => [wO o (a 0) (b 0) (d 0) (i 0) (g 0) N tn, wT cI (o 1) 160 tr, wT cI (o 2) N sp, wU cL (o 3) N wh, wU cL (o 4) N (pfx (fun _ => (0 : Int64)) ow N), wS cI b (a 0) (a 1) (a 2) N rw nm bf fe, wT cI (b 1) (N + 1) (nF oo), wS cI d (a 0) (a 2) (a 1) N rx nn bg fx, wT cI (d 1) (N + 1) (nF ox), wA cI cZ a c fr tt sa tk, wI cI cZ i op sl oi nd lp tl, wG cI g go gt]) (fun _ => rfl) gX4_lengthenWays_J7_fill_d0a16 rfl (by decide +kernel) rfl ⟨by decide, by decide⟩ hl.1 (Nat.le_of_ble_eq_true rfl) ⟨(Nat.zero_le _), (Nat.zero_le _)⟩ dX4_lengthenWays_5 rfl (fun _ H locs hw hP hD hS => ?_)
  refine lv_iconst (v := (0 : Int32)) hx hb dX4_lengthenWays_8 (by decide) ?_
  refine lv_istore_n (lv' := [(1, .int (0 : Int32)), (0, .ref (o 0))]) hx hb dX4_lengthenWays_9 rfl hl (by decide) rfl (fun ls hl => ?_)
  have loop_10 : ∀ (k_10 j : Nat), j ≤ c → c < j + k_10 → ∀ (H : Heap) (locs : List Loc), va_P D vwCl (List.flatten [wO o (a 0) (b 0) (d 0) (i 0) (g 0) N tn, wT cI (o 1) 160 tr, wT cI (o 2) N sp, wU cL (o 3) N wh, wU cL (o 4) N (wcI fr tt sa tk wh j (pfx (fun _ => (0 : Int64)) ow N)), wS cI b (a 0) (a 1) (a 2) N rw nm bf fe, wT cI (b 1) (N + 1) (nF oo), wS cI d (a 0) (a 2) (a 1) N rx nn bg fx, wT cI (d 1) (N + 1) (nF ox), wA cI cZ a c fr tt sa tk, wI cI cZ i op sl oi nd lp tl, wG cI g go gt]) H → va_D A (List.flatten [wO o (a 0) (b 0) (d 0) (i 0) (g 0) N tn, wT cI (o 1) 160 tr, wT cI (o 2) N sp, wU cL (o 3) N wh, wU cL (o 4) N (wcI fr tt sa tk wh j (pfx (fun _ => (0 : Int64)) ow N)), wS cI b (a 0) (a 1) (a 2) N rw nm bf fe, wT cI (b 1) (N + 1) (nF oo), wS cI d (a 0) (a 2) (a 1) N rx nn bg fx, wT cI (d 1) (N + 1) (nF ox), wA cI cZ a c fr tt sa tk, wI cI cZ i op sl oi nd lp tl, wG cI g go gt]) → va_S A sz.heap H locs → ∀ (ls : Array Slot), lv_has ls 2 [(1, .int (nI j)), (0, .ref (o 0))] → W pz l ez (rM 2 42) sz mz [.ref (o 0)].toArray bz tz cz H locs 0 0 (MQ bz (va_Qv (fun (_ : Unit) => True) (fun u t => mAt D (tY cI cZ cL) A ((fun (_ : Unit) => [wO o (a 0) (b 0) (d 0) (i 0) (g 0) N tn, wT cI (o 1) 160 tr, wT cI (o 2) N sp, wU cL (o 3) N (va_cpy (wcI fr tt sa tk wh c (pfx (fun _ => (0 : Int64)) ow N)) wh 0 0 N), wU cL (o 4) N (wcI fr tt sa tk wh c (pfx (fun _ => (0 : Int64)) ow N)), wS cI b (a 0) (a 1) (a 2) N rw nm bf fe, wT cI (b 1) (N + 1) (nF oo), wS cI d (a 0) (a 2) (a 1) N rx nn bg fx, wT cI (d 1) (N + 1) (nF ox), wA cI cZ a c fr tt sa tk, wI cI cZ i op sl oi nd lp tl, wG cI g go gt]) u) t) A) [.ref (o 0)].toArray sz 0 0 A) (F0 mz 10 ls [])  := by
    intro k_10
    induction k_10 with
    | zero => intro j hi_10 hk_10; exact absurd hk_10 (by omega)
    | succ k_10 ih_10 =>
      intro j hi_10 hk_10 H locs hP hD hS ls hl
      refine lv_iload_n hx hb dX4_lengthenWays_10 rfl (lv_at hl 0 rfl) ?_
      refine lv_aload_n hx hb dX4_lengthenWays_11 rfl (lv_at hl 1 rfl) ?_
      refine q_get (D := D) (ci := 4) (v := .ref (a 0)) (C := RX4) (T := TX4) (N := 11) hx hb hts (by decide +kernel) hown hK hP 0 0 rfl rfl rfl 1 (by decide) (hts (.fieldLink RX4 25 "OffsetRows" "arcs" "LOffsetRows$ArcList;") (by decide +kernel)) (fun _ h9 => h9) rfl dX4_lengthenWays_12 ?_
      refine q_get (D := D) (ci := 0) (v := .int (nI c)) (C := RX0) (T := TX0) (N := 5) hx hb hts (by decide +kernel) hown hK hP 9 0 rfl rfl rfl 4 (by decide) (hts (.fieldLink RX4 94 "OffsetRows$ArcList" "count" "I") (by decide +kernel)) (fun _ h9 => h9) rfl dX4_lengthenWays_15 ?_
      refine lv_icmp_ge (tgt := 69) hx hb dX4_lengthenWays_18 (by decide) (fun c_18 => ?_) (fun c_18 => ?_)
      ·
        have n_18 : c ≤ j := (nI_leI (a := c) (b := j) (by omega) (by omega)).mp c_18
        refine lv_aload_n hx hb dX4_lengthenWays_69 rfl (lv_at hl 1 rfl) ?_
        refine q_get (D := D) (ci := 4) (v := .ref (o 4)) (C := RX4) (T := TX4) (N := 11) hx hb hts (by decide +kernel) hown hK hP 0 0 rfl rfl rfl 10 (by decide) (hts (.fieldLink RX4 75 "OffsetRows" "waysOnward" "[J") (by decide +kernel)) (fun _ h9 => h9) rfl dX4_lengthenWays_70 ?_
        refine lv_iconst (v := (0 : Int32)) hx hb dX4_lengthenWays_73 (by decide) ?_
        refine lv_aload_n hx hb dX4_lengthenWays_74 rfl (lv_at hl 1 rfl) ?_
        refine q_get (D := D) (ci := 4) (v := .ref (o 3)) (C := RX4) (T := TX4) (N := 11) hx hb hts (by decide +kernel) hown hK hP 0 0 rfl rfl rfl 9 (by decide) (hts (.fieldLink RX4 71 "OffsetRows" "waysHere" "[J") (by decide +kernel)) (fun _ h9 => h9) rfl dX4_lengthenWays_75 ?_
        refine lv_iconst (v := (0 : Int32)) hx hb dX4_lengthenWays_78 (by decide) ?_
        refine lv_aload_n hx hb dX4_lengthenWays_79 rfl (lv_at hl 1 rfl) ?_
        refine q_get (D := D) (ci := 4) (v := .int (nI N)) (C := RX4) (T := TX4) (N := 11) hx hb hts (by decide +kernel) hown hK hP 0 0 rfl rfl rfl 0 (by decide) (hts (.fieldLink RX4 18 "OffsetRows" "nodes" "I") (by decide +kernel)) (fun _ h9 => h9) rfl dX4_lengthenWays_80 ?_
        refine q_copyl hx hb (hml.trans hl.1.symm) hown (hts (.methodLink RX4 233 arraycopyName) (by decide +kernel)) (hts (.native arraycopyName) (by decide +kernel)) (hts (.static arraycopyName) (by decide +kernel)) (hts (.initialized "java/lang/System") (by decide +kernel)) hK hP hD hS 4 0 3 0 2 rfl rfl rfl rfl rfl (k := N) (nI_clamp (n := N) (by omega)) (nI_pos (by omega)) (Nat.le_refl _) (Nat.le_refl _) (by decide) (by decide) dX4_lengthenWays_83 wU_s_tr (Fs' := [wO o (a 0) (b 0) (d 0) (i 0) (g 0) N tn, wT cI (o 1) 160 tr, wT cI (o 2) N sp, wU cL (o 3) N (va_cpy (wcI fr tt sa tk wh j (pfx (fun _ => (0 : Int64)) ow N)) (wh) 0 0 N), wU cL (o 4) N (wcI fr tt sa tk wh j (pfx (fun _ => (0 : Int64)) ow N)), wS cI b (a 0) (a 1) (a 2) N rw nm bf fe, wT cI (b 1) (N + 1) (nF oo), wS cI d (a 0) (a 2) (a 1) N rx nn bg fx, wT cI (d 1) (N + 1) (nF ox), wA cI cZ a c fr tt sa tk, wI cI cZ i op sl oi nd lp tl, wG cI g go gt]) rfl (fun H locs hP hD hS => ?_)
        exact q_vret (()) hx hb hr hlocks hK hP hD hS (trivial) (by rw [show j = c by omega]) dX4_lengthenWays_86
      ·
        have n_18 : ¬ c ≤ j := fun h9 => c_18 ((nI_leI (a := c) (b := j) (by omega) (by omega)).mpr h9)
        refine lv_aload_n hx hb dX4_lengthenWays_21 rfl (lv_at hl 1 rfl) ?_
        refine q_get (D := D) (ci := 4) (v := .ref (a 0)) (C := RX4) (T := TX4) (N := 11) hx hb hts (by decide +kernel) hown hK hP 0 0 rfl rfl rfl 1 (by decide) (hts (.fieldLink RX4 25 "OffsetRows" "arcs" "LOffsetRows$ArcList;") (by decide +kernel)) (fun _ h9 => h9) rfl dX4_lengthenWays_22 ?_
        refine lv_iload_n hx hb dX4_lengthenWays_25 rfl (lv_at hl 0 rfl) ?_
        refine q_callVi (index := 230) (n := 1) (As := [.int (nI j)]) (rest := []) (js := [9]) (ci := 0) ⟨hx, hb, hml, hown, hts⟩ hK hP hD hS hA (k0_isLive l D cI cZ cL a c fr tt sa tk (nI j) (by omega)) rfl (by decide) (fun _ => by simp only [List.map_cons, List.map_nil, wA_fst]) (fun (_ : Unit) => [wO o (a 0) (b 0) (d 0) (i 0) (g 0) N tn, wT cI (o 1) 160 tr, wT cI (o 2) N sp, wU cL (o 3) N wh, wU cL (o 4) N (wcI fr tt sa tk wh j (pfx (fun _ => (0 : Int64)) ow N)), wS cI b (a 0) (a 1) (a 2) N rw nm bf fe, wT cI (b 1) (N + 1) (nF oo), wS cI d (a 0) (a 2) (a 1) N rx nn bg fx, wT cI (d 1) (N + 1) (nF ox), wA cI cZ a c fr tt sa tk, wI cI cZ i op sl oi nd lp tl, wG cI g go gt]) (fun _ => rfl) gX4_lengthenWays_X0_isLive rfl (by decide +kernel) rfl ⟨by decide, by decide⟩ rfl rfl rfl rfl hl.1 (Nat.le_of_ble_eq_true rfl) ⟨(Nat.zero_le _), (Nat.zero_le _)⟩ dX4_lengthenWays_26 rfl (fun r _ H locs hw hP hD hS => ?_)
        have hw : r = bI (isLv c sa tk (nI j)) := hw
        subst hw
        refine q_top (z := bI (lvB sa tk j)) (by rw [isLv_nI (by omega) (by omega)]) ?_
        refine lv_if_eq (tgt := 63) hx hb dX4_lengthenWays_29 (by decide) (fun c_29 => ?_) (fun c_29 => ?_)
        ·
          have n_29 : (lvB sa tk j) = false := bI_0.mp c_29
          refine lv_iinc (v := nI (j + 1)) (lv' := [(1, .int (nI (j + 1))), (0, .ref (o 0))]) hx hb dX4_lengthenWays_63 hl (k := 0) rfl (nI_add j 1) (by decide) rfl (fun ls hl => ?_)
          refine lv_goto (tgt := 10) hx hb dX4_lengthenWays_66 (by decide) ?_
          have hl : lv_has ls 2 [(1, .int (nI (j + 1))), (0, .ref (o 0))] := lv_sub hl [0, 1] rfl
          have hq0 : wcI fr tt sa tk wh j (pfx (fun _ => (0 : Int64)) ow N) = wcI fr tt sa tk wh (j + 1) (pfx (fun _ => (0 : Int64)) ow N) := by simp [wcI, c_18, n_18, n_29]
          have hP : va_P D vwCl (List.flatten [wO o (a 0) (b 0) (d 0) (i 0) (g 0) N tn, wT cI (o 1) 160 tr, wT cI (o 2) N sp, wU cL (o 3) N wh, wU cL (o 4) N (wcI fr tt sa tk wh (j + 1) (pfx (fun _ => (0 : Int64)) ow N)), wS cI b (a 0) (a 1) (a 2) N rw nm bf fe, wT cI (b 1) (N + 1) (nF oo), wS cI d (a 0) (a 2) (a 1) N rx nn bg fx, wT cI (d 1) (N + 1) (nF ox), wA cI cZ a c fr tt sa tk, wI cI cZ i op sl oi nd lp tl, wG cI g go gt]) _ := wCast hP (by rw [← hq0])
          have hD : va_D A (List.flatten [wO o (a 0) (b 0) (d 0) (i 0) (g 0) N tn, wT cI (o 1) 160 tr, wT cI (o 2) N sp, wU cL (o 3) N wh, wU cL (o 4) N (wcI fr tt sa tk wh (j + 1) (pfx (fun _ => (0 : Int64)) ow N)), wS cI b (a 0) (a 1) (a 2) N rw nm bf fe, wT cI (b 1) (N + 1) (nF oo), wS cI d (a 0) (a 2) (a 1) N rx nn bg fx, wT cI (d 1) (N + 1) (nF ox), wA cI cZ a c fr tt sa tk, wI cI cZ i op sl oi nd lp tl, wG cI g go gt]) := dCast hD (by rw [← hq0])
          exact ih_10 (j + 1) (by omega) (by omega) _ _ hP hD hS _ hl
        ·
          have n_29 : (lvB sa tk j) = true := bI_n.mp c_29
          refine lv_aload_n hx hb dX4_lengthenWays_32 rfl (lv_at hl 1 rfl) ?_
          refine q_get (D := D) (ci := 4) (v := .ref (o 4)) (C := RX4) (T := TX4) (N := 11) hx hb hts (by decide +kernel) hown hK hP 0 0 rfl rfl rfl 10 (by decide) (hts (.fieldLink RX4 75 "OffsetRows" "waysOnward" "[J") (by decide +kernel)) (fun _ h9 => h9) rfl dX4_lengthenWays_33 ?_
          refine lv_aload_n hx hb dX4_lengthenWays_36 rfl (lv_at hl 1 rfl) ?_
          refine q_get (D := D) (ci := 4) (v := .ref (a 0)) (C := RX4) (T := TX4) (N := 11) hx hb hts (by decide +kernel) hown hK hP 0 0 rfl rfl rfl 1 (by decide) (hts (.fieldLink RX4 25 "OffsetRows" "arcs" "LOffsetRows$ArcList;") (by decide +kernel)) (fun _ h9 => h9) rfl dX4_lengthenWays_37 ?_
          refine q_get (D := D) (ci := 0) (v := .ref (a 2)) (C := RX0) (T := TX0) (N := 5) hx hb hts (by decide +kernel) hown hK hP 9 0 rfl rfl rfl 1 (by decide) (hts (.fieldLink RX4 35 "OffsetRows$ArcList" "to" "[I") (by decide +kernel)) (fun _ h9 => h9) rfl dX4_lengthenWays_40 ?_
          refine lv_iload_n hx hb dX4_lengthenWays_43 rfl (lv_at hl 0 rfl) ?_
          refine q_iald hx hb hK hP 9 2 0 rfl (f := tt) rfl rfl (k := j) (nI_clamp (n := j) (by omega)) (vp_in_nI (show j < 160 from by omega) (by omega)) dX4_lengthenWays_44 ?_
          refine lv_dup2_11 hx hb dX4_lengthenWays_45 rfl rfl ?_
          refine q_lald hx hb hK hP 4 0 2 rfl (f := wcI fr tt sa tk wh j (pfx (fun _ => (0 : Int64)) ow N)) rfl rfl (k := (tt j).toNatClampNeg) rfl (htt j (by omega)) dX4_lengthenWays_46 ?_
          refine lv_aload_n hx hb dX4_lengthenWays_47 rfl (lv_at hl 1 rfl) ?_
          refine q_get (D := D) (ci := 4) (v := .ref (o 3)) (C := RX4) (T := TX4) (N := 11) hx hb hts (by decide +kernel) hown hK hP 0 0 rfl rfl rfl 9 (by decide) (hts (.fieldLink RX4 71 "OffsetRows" "waysHere" "[J") (by decide +kernel)) (fun _ h9 => h9) rfl dX4_lengthenWays_48 ?_
          refine lv_aload_n hx hb dX4_lengthenWays_51 rfl (lv_at hl 1 rfl) ?_
          refine q_get (D := D) (ci := 4) (v := .ref (a 0)) (C := RX4) (T := TX4) (N := 11) hx hb hts (by decide +kernel) hown hK hP 0 0 rfl rfl rfl 1 (by decide) (hts (.fieldLink RX4 25 "OffsetRows" "arcs" "LOffsetRows$ArcList;") (by decide +kernel)) (fun _ h9 => h9) rfl dX4_lengthenWays_52 ?_
          refine q_get (D := D) (ci := 0) (v := .ref (a 1)) (C := RX0) (T := TX0) (N := 5) hx hb hts (by decide +kernel) hown hK hP 9 0 rfl rfl rfl 0 (by decide) (hts (.fieldLink RX4 31 "OffsetRows$ArcList" "from" "[I") (by decide +kernel)) (fun _ h9 => h9) rfl dX4_lengthenWays_55 ?_
          refine lv_iload_n hx hb dX4_lengthenWays_58 rfl (lv_at hl 0 rfl) ?_
          refine q_iald hx hb hK hP 9 1 0 rfl (f := fr) rfl rfl (k := j) (nI_clamp (n := j) (by omega)) (vp_in_nI (show j < 160 from by omega) (by omega)) dX4_lengthenWays_59 ?_
          refine q_lald hx hb hK hP 3 0 2 rfl (f := wh) rfl rfl (k := (fr j).toNatClampNeg) rfl (hfr j (by omega)) dX4_lengthenWays_60 ?_
          refine lv_ladd hx hb dX4_lengthenWays_61 ?_
          refine q_last hx hb hK hP hD hS 4 0 2 rfl (f := wcI fr tt sa tk wh j (pfx (fun _ => (0 : Int64)) ow N)) rfl rfl (k := (tt j).toNatClampNeg) rfl (htt j (by omega)) dX4_lengthenWays_62 wU_s_tr (Fs' := [wO o (a 0) (b 0) (d 0) (i 0) (g 0) N tn, wT cI (o 1) 160 tr, wT cI (o 2) N sp, wU cL (o 3) N wh, wU cL (o 4) N (vp_updL (wcI fr tt sa tk wh j (pfx (fun _ => (0 : Int64)) ow N)) ((tt j).toNatClampNeg) (((wcI fr tt sa tk wh j (pfx (fun _ => (0 : Int64)) ow N)) ((tt j).toNatClampNeg)) + (wh ((fr j).toNatClampNeg)))), wS cI b (a 0) (a 1) (a 2) N rw nm bf fe, wT cI (b 1) (N + 1) (nF oo), wS cI d (a 0) (a 2) (a 1) N rx nn bg fx, wT cI (d 1) (N + 1) (nF ox), wA cI cZ a c fr tt sa tk, wI cI cZ i op sl oi nd lp tl, wG cI g go gt]) rfl (fun H locs hP hD hS => ?_)
          refine lv_iinc (v := nI (j + 1)) (lv' := [(1, .int (nI (j + 1))), (0, .ref (o 0))]) hx hb dX4_lengthenWays_63 hl (k := 0) rfl (nI_add j 1) (by decide) rfl (fun ls hl => ?_)
          refine lv_goto (tgt := 10) hx hb dX4_lengthenWays_66 (by decide) ?_
          have hl : lv_has ls 2 [(1, .int (nI (j + 1))), (0, .ref (o 0))] := lv_sub hl [0, 1] rfl
          have hq0 : vp_updL (wcI fr tt sa tk wh j (pfx (fun _ => (0 : Int64)) ow N)) ((tt j).toNatClampNeg) (((wcI fr tt sa tk wh j (pfx (fun _ => (0 : Int64)) ow N)) ((tt j).toNatClampNeg)) + (wh ((fr j).toNatClampNeg))) = wcI fr tt sa tk wh (j + 1) (pfx (fun _ => (0 : Int64)) ow N) := by simp [wcI, c_18, n_18, n_29]
          have hP : va_P D vwCl (List.flatten [wO o (a 0) (b 0) (d 0) (i 0) (g 0) N tn, wT cI (o 1) 160 tr, wT cI (o 2) N sp, wU cL (o 3) N wh, wU cL (o 4) N (wcI fr tt sa tk wh (j + 1) (pfx (fun _ => (0 : Int64)) ow N)), wS cI b (a 0) (a 1) (a 2) N rw nm bf fe, wT cI (b 1) (N + 1) (nF oo), wS cI d (a 0) (a 2) (a 1) N rx nn bg fx, wT cI (d 1) (N + 1) (nF ox), wA cI cZ a c fr tt sa tk, wI cI cZ i op sl oi nd lp tl, wG cI g go gt]) _ := wCast hP (by rw [← hq0])
          have hD : va_D A (List.flatten [wO o (a 0) (b 0) (d 0) (i 0) (g 0) N tn, wT cI (o 1) 160 tr, wT cI (o 2) N sp, wU cL (o 3) N wh, wU cL (o 4) N (wcI fr tt sa tk wh (j + 1) (pfx (fun _ => (0 : Int64)) ow N)), wS cI b (a 0) (a 1) (a 2) N rw nm bf fe, wT cI (b 1) (N + 1) (nF oo), wS cI d (a 0) (a 2) (a 1) N rx nn bg fx, wT cI (d 1) (N + 1) (nF ox), wA cI cZ a c fr tt sa tk, wI cI cZ i op sl oi nd lp tl, wG cI g go gt]) := dCast hD (by rw [← hq0])
          exact ih_10 (j + 1) (by omega) (by omega) _ _ hP hD hS _ hl
  have hl : lv_has ls 2 [(1, .int (nI 0)), (0, .ref (o 0))] := lv_sub hl [0, 1] rfl
  have hq0 : pfx (fun _ => (0 : Int64)) ow N = wcI fr tt sa tk wh 0 (pfx (fun _ => (0 : Int64)) ow N) := rfl
  have hP : va_P D vwCl (List.flatten [wO o (a 0) (b 0) (d 0) (i 0) (g 0) N tn, wT cI (o 1) 160 tr, wT cI (o 2) N sp, wU cL (o 3) N wh, wU cL (o 4) N (wcI fr tt sa tk wh 0 (pfx (fun _ => (0 : Int64)) ow N)), wS cI b (a 0) (a 1) (a 2) N rw nm bf fe, wT cI (b 1) (N + 1) (nF oo), wS cI d (a 0) (a 2) (a 1) N rx nn bg fx, wT cI (d 1) (N + 1) (nF ox), wA cI cZ a c fr tt sa tk, wI cI cZ i op sl oi nd lp tl, wG cI g go gt]) _ := wCast hP (by rw [← hq0])
  have hD : va_D A (List.flatten [wO o (a 0) (b 0) (d 0) (i 0) (g 0) N tn, wT cI (o 1) 160 tr, wT cI (o 2) N sp, wU cL (o 3) N wh, wU cL (o 4) N (wcI fr tt sa tk wh 0 (pfx (fun _ => (0 : Int64)) ow N)), wS cI b (a 0) (a 1) (a 2) N rw nm bf fe, wT cI (b 1) (N + 1) (nF oo), wS cI d (a 0) (a 2) (a 1) N rx nn bg fx, wT cI (d 1) (N + 1) (nF ox), wA cI cZ a c fr tt sa tk, wI cI cZ i op sl oi nd lp tl, wG cI g go gt]) := dCast hD (by rw [← hq0])
  exact loop_10 (c + 1) 0 (by omega) (by omega) _ _ hP hD hS _ hl

set_option maxHeartbeats 8000000 in
set_option maxRecDepth 100000 in
theorem k4_ways (l : Launch) (D : va_G) (cI cZ cL : ClassId) (o : Nat → Nat) (N : Nat) (tn : Nat) (tr : Nat → Int32) (sp : Nat → Int32) (wh : Nat → Int64) (ow : Nat → Int64) (b : Nat → Nat) (rw : Nat → Int32) (nm : Nat → Int32) (bf : Nat → Int32) (fe : Nat → Int32) (d : Nat → Nat) (rx : Nat → Int32) (nn : Nat → Int32) (bg : Nat → Int32) (fx : Nat → Int32) (a : Nat → Nat) (c : Nat) (fr : Nat → Int32) (tt : Nat → Int32) (sa : Nat → Int32) (tk : Nat → Int32) (i : Nat → Nat) (op : Nat → Int32) (sl : Nat → Int32) (oi : Nat → Int32) (nd : Nat → Int32) (lp : Nat → Int32) (tl : Nat → Int32) (g : Nat → Nat) (go : Nat → Int32) (gt : Nat → Int32) (oo : Nat → Nat) (ox : Nat → Nat) (x : Int32) (y : Int32) (k : Int32) (hc : c ≤ 160) (hN : N ≤ 24) (hfr : ∀ j, j < c → vp_in (fr j) N) (htt : ∀ j, j < c → vp_in (tt j) N) : McL l D (tY cI cZ cL) yX4_ways wsX4_ways 3 63 [.ref (o 0), .int x, .int y, .int k] ([wO o (a 0) (b 0) (d 0) (i 0) (g 0) N tn, wT cI (o 1) 160 tr, wT cI (o 2) N sp, wU cL (o 3) N wh, wU cL (o 4) N ow, wS cI b (a 0) (a 1) (a 2) N rw nm bf fe, wT cI (b 1) (N + 1) (nF oo), wS cI d (a 0) (a 2) (a 1) N rx nn bg fx, wT cI (d 1) (N + 1) (nF ox), wA cI cZ a c fr tt sa tk, wI cI cZ i op sl oi nd lp tl, wG cI g go gt]) (fun r (u : (Nat → Int64) × (Nat → Int64)) => r = wcR N c fr tt sa tk wh ow x y k ∧ True) (fun (u : (Nat → Int64) × (Nat → Int64)) => [wO o (a 0) (b 0) (d 0) (i 0) (g 0) N tn, wT cI (o 1) 160 tr, wT cI (o 2) N sp, wU cL (o 3) N u.1, wU cL (o 4) N u.2, wS cI b (a 0) (a 1) (a 2) N rw nm bf fe, wT cI (b 1) (N + 1) (nF oo), wS cI d (a 0) (a 2) (a 1) N rx nn bg fx, wT cI (d 1) (N + 1) (nF ox), wA cI cZ a c fr tt sa tk, wI cI cZ i op sl oi nd lp tl, wG cI g go gt]) := by
  refine q_ofW (Qc := fun A => (va_Ql (fun r (u : (Nat → Int64) × (Nat → Int64)) => r = wcR N c fr tt sa tk wh ow x y k ∧ True) (fun u t => mAt D (tY cI cZ cL) A ((fun (u : (Nat → Int64) × (Nat → Int64)) => [wO o (a 0) (b 0) (d 0) (i 0) (g 0) N tn, wT cI (o 1) 160 tr, wT cI (o 2) N sp, wU cL (o 3) N u.1, wU cL (o 4) N u.2, wS cI b (a 0) (a 1) (a 2) N rw nm bf fe, wT cI (b 1) (N + 1) (nF oo), wS cI d (a 0) (a 2) (a 1) N rx nn bg fx, wT cI (d 1) (N + 1) (nF ox), wA cI cZ a c fr tt sa tk, wI cI cZ i op sl oi nd lp tl, wG cI g go gt]) u) t) A)) (cc := cX4_ways) (maxL := 5) (ret := (some .long)) (by decide) rfl (Nat.le_of_ble_eq_true rfl) ?_
  intro pz ez sz mz bz tz cz hx hb hml hr hlocks hts hown hK hP A hD hA ls hl
  have hS : va_S A sz.heap sz.heap [] := va_S.rf
  have hl : lv_has ls 5 [(0, .ref (o 0)), (1, .int x), (2, .int y), (3, .int k)] := hl
  refine lv_aload_n hx hb dX4_ways_0 rfl (lv_at hl 0 rfl) ?_
  refine lv_iload_n hx hb dX4_ways_1 rfl (lv_at hl 1 rfl) ?_
  refine q_callVi (index := 78) (n := 1) (As := [.int x]) (rest := []) (js := [0, 1, 2, 3, 4, 5, 6, 7, 8, 9, 10, 11]) (ci := 4) ⟨hx, hb, hml, hown, hts⟩ hK hP hD hS hA (k4_isNode l D cI cZ cL o N tn tr sp wh ow b rw nm bf fe d rx nn bg fx a c fr tt sa tk i op sl oi nd lp tl g go gt oo ox x) rfl (by decide) (fun _ => by simp only [List.map_cons, List.map_nil, wA_fst, wG_fst, wI_fst, wO_fst, wS_fst, wT_fst, wU_fst]) (fun (_ : Unit) => [wO o (a 0) (b 0) (d 0) (i 0) (g 0) N tn, wT cI (o 1) 160 tr, wT cI (o 2) N sp, wU cL (o 3) N wh, wU cL (o 4) N ow, wS cI b (a 0) (a 1) (a 2) N rw nm bf fe, wT cI (b 1) (N + 1) (nF oo), wS cI d (a 0) (a 2) (a 1) N rx nn bg fx, wT cI (d 1) (N + 1) (nF ox), wA cI cZ a c fr tt sa tk, wI cI cZ i op sl oi nd lp tl, wG cI g go gt]) (fun _ => rfl) gX4_ways_X4_isNode rfl (by decide +kernel) rfl ⟨by decide, by decide⟩ rfl rfl rfl rfl hl.1 (Nat.le_of_ble_eq_true rfl) ⟨(Nat.zero_le _), (Nat.zero_le _)⟩ dX4_ways_2 rfl (fun r _ H locs hw hP hD hS => ?_)
  have hw : r = bI (hasB N x) := hw
  subst hw
  refine lv_if_eq (tgt := 16) hx hb dX4_ways_5 (by decide) (fun c_5 => ?_) (fun c_5 => ?_)
  ·
    have n_5 : (hasB N x) = false := bI_0.mp c_5
    refine lv_ldc2 (v := -2) hx hb hown (hts (.constantLong RX4 145 (-2)) (by decide +kernel)) dX4_ways_16 ?_
    exact q_lret ((wh, ow)) hx hb hr hlocks hK hP hD hS (⟨by simp [wcR, wyB, arB, n_5], trivial⟩) (rfl) dX4_ways_19
  ·
    have n_5 : (hasB N x) = true := bI_n.mp c_5
    refine lv_aload_n hx hb dX4_ways_8 rfl (lv_at hl 0 rfl) ?_
    refine lv_iload_n hx hb dX4_ways_9 rfl (lv_at hl 2 rfl) ?_
    refine q_callVi (index := 78) (n := 1) (As := [.int y]) (rest := []) (js := [0, 1, 2, 3, 4, 5, 6, 7, 8, 9, 10, 11]) (ci := 4) ⟨hx, hb, hml, hown, hts⟩ hK hP hD hS hA (k4_isNode l D cI cZ cL o N tn tr sp wh ow b rw nm bf fe d rx nn bg fx a c fr tt sa tk i op sl oi nd lp tl g go gt oo ox y) rfl (by decide) (fun _ => by simp only [List.map_cons, List.map_nil, wA_fst, wG_fst, wI_fst, wO_fst, wS_fst, wT_fst, wU_fst]) (fun (_ : Unit) => [wO o (a 0) (b 0) (d 0) (i 0) (g 0) N tn, wT cI (o 1) 160 tr, wT cI (o 2) N sp, wU cL (o 3) N wh, wU cL (o 4) N ow, wS cI b (a 0) (a 1) (a 2) N rw nm bf fe, wT cI (b 1) (N + 1) (nF oo), wS cI d (a 0) (a 2) (a 1) N rx nn bg fx, wT cI (d 1) (N + 1) (nF ox), wA cI cZ a c fr tt sa tk, wI cI cZ i op sl oi nd lp tl, wG cI g go gt]) (fun _ => rfl) gX4_ways_X4_isNode rfl (by decide +kernel) rfl ⟨by decide, by decide⟩ rfl rfl rfl rfl hl.1 (Nat.le_of_ble_eq_true rfl) ⟨(Nat.zero_le _), (Nat.zero_le _)⟩ dX4_ways_10 rfl (fun r _ H locs hw hP hD hS => ?_)
    have hw : r = bI (hasB N y) := hw
    subst hw
    refine lv_if_ne (tgt := 20) hx hb dX4_ways_13 (by decide) (fun c_13 => ?_) (fun c_13 => ?_)
    ·
      have n_13 : (hasB N y) = true := bI_n.mp c_13
      refine lv_iload_n hx hb dX4_ways_20 rfl (lv_at hl 3 rfl) ?_
      refine lv_if_lt (tgt := 30) hx hb dX4_ways_21 (by decide) (fun c_21 => ?_) (fun c_21 => ?_)
      ·
        refine lv_ldc2 (v := -3) hx hb hown (hts (.constantLong RX4 147 (-3)) (by decide +kernel)) dX4_ways_30 ?_
        exact q_lret ((wh, ow)) hx hb hr hlocks hK hP hD hS (⟨by simp [wcR, wyB, arB, n_5, n_13, c_21], trivial⟩) (rfl) dX4_ways_33
      ·
        refine lv_iload_n hx hb dX4_ways_24 rfl (lv_at hl 3 rfl) ?_
        refine lv_bipush (v := (60 : Int32)) hx hb dX4_ways_25 (by decide) ?_
        refine lv_icmp_le (tgt := 34) hx hb dX4_ways_27 (by decide) (fun c_27 => ?_) (fun c_27 => ?_)
        ·
          obtain ⟨kn, hkn, hkq⟩ := nI_of2 (M := 60) (n := 60) (by decide) c_21 c_27
          have hl : lv_has ls 5 [(0, .ref (o 0)), (1, .int x), (2, .int y), (3, .int (nI kn))] := by rw [← hkq]; exact hl
          have hkc : k.toNatClampNeg = kn := by rw [hkq]; exact nI_clamp (by omega)
          refine lv_aload_n hx hb dX4_ways_34 rfl (lv_at hl 0 rfl) ?_
          refine q_get (D := D) (ci := 4) (v := .ref (o 3)) (C := RX4) (T := TX4) (N := 11) hx hb hts (by decide +kernel) hown hK hP 0 0 rfl rfl rfl 9 (by decide) (hts (.fieldLink RX4 71 "OffsetRows" "waysHere" "[J") (by decide +kernel)) (fun _ h9 => h9) rfl dX4_ways_35 ?_
          refine lv_lconst (v := 0) hx hb dX4_ways_38 (by decide) ?_
          refine q_callSv (index := 149) (n := 2) (As := [.ref (o 3), .long (0 : Int64)]) (rest := []) (js := [3]) ⟨hx, hb, hml, hown, hts⟩ hK hP hD hS hA (kJ_fill_l l D cI cZ cL (o 3) N wh (0 : Int64) (by omega)) rfl (by decide) (fun _ => by simp only [List.map_cons, List.map_nil, wU_fst]) (fun (_ : Unit) => [wO o (a 0) (b 0) (d 0) (i 0) (g 0) N tn, wT cI (o 1) 160 tr, wT cI (o 2) N sp, wU cL (o 3) N (pfx (fun _ => (0 : Int64)) wh N), wU cL (o 4) N ow, wS cI b (a 0) (a 1) (a 2) N rw nm bf fe, wT cI (b 1) (N + 1) (nF oo), wS cI d (a 0) (a 2) (a 1) N rx nn bg fx, wT cI (d 1) (N + 1) (nF ox), wA cI cZ a c fr tt sa tk, wI cI cZ i op sl oi nd lp tl, wG cI g go gt]) (fun _ => rfl) gX4_ways_J7_fill_d0a16 rfl (by decide +kernel) rfl ⟨by decide, by decide⟩ hl.1 (Nat.le_of_ble_eq_true rfl) ⟨(Nat.zero_le _), (Nat.zero_le _)⟩ dX4_ways_39 rfl (fun _ H locs hw hP hD hS => ?_)
          refine lv_aload_n hx hb dX4_ways_42 rfl (lv_at hl 0 rfl) ?_
          refine q_get (D := D) (ci := 4) (v := .ref (o 3)) (C := RX4) (T := TX4) (N := 11) hx hb hts (by decide +kernel) hown hK hP 0 0 rfl rfl rfl 9 (by decide) (hts (.fieldLink RX4 71 "OffsetRows" "waysHere" "[J") (by decide +kernel)) (fun _ h9 => h9) rfl dX4_ways_43 ?_
          refine lv_iload_n hx hb dX4_ways_46 rfl (lv_at hl 1 rfl) ?_
          refine lv_lconst (v := 1) hx hb dX4_ways_47 (by decide) ?_
          refine q_last hx hb hK hP hD hS 3 0 2 rfl (f := pfx (fun _ => (0 : Int64)) wh N) rfl rfl (k := x.toNatClampNeg) rfl (hasB_in n_5 (Nat.le_refl N) (by omega)) dX4_ways_48 wU_s_tr (Fs' := [wO o (a 0) (b 0) (d 0) (i 0) (g 0) N tn, wT cI (o 1) 160 tr, wT cI (o 2) N sp, wU cL (o 3) N (vp_updL (pfx (fun _ => (0 : Int64)) wh N) x.toNatClampNeg (1 : Int64)), wU cL (o 4) N ow, wS cI b (a 0) (a 1) (a 2) N rw nm bf fe, wT cI (b 1) (N + 1) (nF oo), wS cI d (a 0) (a 2) (a 1) N rx nn bg fx, wT cI (d 1) (N + 1) (nF ox), wA cI cZ a c fr tt sa tk, wI cI cZ i op sl oi nd lp tl, wG cI g go gt]) rfl (fun H locs hP hD hS => ?_)
          refine lv_iconst (v := (0 : Int32)) hx hb dX4_ways_49 (by decide) ?_
          refine lv_istore (lv' := [(4, .int (0 : Int32)), (0, .ref (o 0)), (1, .int x), (2, .int y), (3, .int (nI kn))]) hx hb dX4_ways_50 hl (by decide) rfl (fun ls hl => ?_)
          have loop_52 : ∀ (k_52 n : Nat), n ≤ kn → kn < n + k_52 → ∀ (H : Heap) (locs : List Loc), va_P D vwCl (List.flatten [wO o (a 0) (b 0) (d 0) (i 0) (g 0) N tn, wT cI (o 1) 160 tr, wT cI (o 2) N sp, wU cL (o 3) N ((wcO N c fr tt sa tk (wc0 N wh x) ow n).1), wU cL (o 4) N ((wcO N c fr tt sa tk (wc0 N wh x) ow n).2), wS cI b (a 0) (a 1) (a 2) N rw nm bf fe, wT cI (b 1) (N + 1) (nF oo), wS cI d (a 0) (a 2) (a 1) N rx nn bg fx, wT cI (d 1) (N + 1) (nF ox), wA cI cZ a c fr tt sa tk, wI cI cZ i op sl oi nd lp tl, wG cI g go gt]) H → va_D A (List.flatten [wO o (a 0) (b 0) (d 0) (i 0) (g 0) N tn, wT cI (o 1) 160 tr, wT cI (o 2) N sp, wU cL (o 3) N ((wcO N c fr tt sa tk (wc0 N wh x) ow n).1), wU cL (o 4) N ((wcO N c fr tt sa tk (wc0 N wh x) ow n).2), wS cI b (a 0) (a 1) (a 2) N rw nm bf fe, wT cI (b 1) (N + 1) (nF oo), wS cI d (a 0) (a 2) (a 1) N rx nn bg fx, wT cI (d 1) (N + 1) (nF ox), wA cI cZ a c fr tt sa tk, wI cI cZ i op sl oi nd lp tl, wG cI g go gt]) → va_S A sz.heap H locs → ∀ (ls : Array Slot), lv_has ls 5 [(4, .int (nI n)), (0, .ref (o 0)), (1, .int x), (2, .int y), (3, .int (nI kn))] → W pz l ez (rM 3 63) sz mz [.ref (o 0), .int x, .int y, .int k].toArray bz tz cz H locs 0 0 (MQ bz (va_Ql (fun r (u : (Nat → Int64) × (Nat → Int64)) => r = wcR N c fr tt sa tk wh ow x y k ∧ True) (fun u t => mAt D (tY cI cZ cL) A ((fun (u : (Nat → Int64) × (Nat → Int64)) => [wO o (a 0) (b 0) (d 0) (i 0) (g 0) N tn, wT cI (o 1) 160 tr, wT cI (o 2) N sp, wU cL (o 3) N u.1, wU cL (o 4) N u.2, wS cI b (a 0) (a 1) (a 2) N rw nm bf fe, wT cI (b 1) (N + 1) (nF oo), wS cI d (a 0) (a 2) (a 1) N rx nn bg fx, wT cI (d 1) (N + 1) (nF ox), wA cI cZ a c fr tt sa tk, wI cI cZ i op sl oi nd lp tl, wG cI g go gt]) u) t) A) [.ref (o 0), .int x, .int y, .int k].toArray sz 0 0 A) (F0 mz 52 ls [])  := by
            intro k_52
            induction k_52 with
            | zero => intro n hi_52 hk_52; exact absurd hk_52 (by omega)
            | succ k_52 ih_52 =>
              intro n hi_52 hk_52 H locs hP hD hS ls hl
              refine lv_iload hx hb dX4_ways_52 (lv_at hl 0 rfl) ?_
              refine lv_iload_n hx hb dX4_ways_54 rfl (lv_at hl 4 rfl) ?_
              refine lv_icmp_ge (tgt := 68) hx hb dX4_ways_55 (by decide) (fun c_55 => ?_) (fun c_55 => ?_)
              ·
                have n_55 : kn ≤ n := (nI_leI (a := kn) (b := n) (by omega) (by omega)).mp c_55
                refine lv_aload_n hx hb dX4_ways_68 rfl (lv_at hl 1 rfl) ?_
                refine q_get (D := D) (ci := 4) (v := .ref (o 3)) (C := RX4) (T := TX4) (N := 11) hx hb hts (by decide +kernel) hown hK hP 0 0 rfl rfl rfl 9 (by decide) (hts (.fieldLink RX4 71 "OffsetRows" "waysHere" "[J") (by decide +kernel)) (fun _ h9 => h9) rfl dX4_ways_69 ?_
                refine lv_iload_n hx hb dX4_ways_72 rfl (lv_at hl 3 rfl) ?_
                refine q_lald hx hb hK hP 3 0 2 rfl (f := (wcO N c fr tt sa tk (wc0 N wh x) ow n).1) rfl rfl (k := y.toNatClampNeg) rfl (hasB_in n_13 (Nat.le_refl N) (by omega)) dX4_ways_73 ?_
                exact q_lret ((wcO N c fr tt sa tk (wc0 N wh x) ow n)) hx hb hr hlocks hK hP hD hS (⟨by rw [wcR, if_pos (by simp [wyB, arB, n_5, n_13, c_21, c_27]), hkc, show n = kn by omega], trivial⟩) (rfl) dX4_ways_74
              ·
                have n_55 : ¬ kn ≤ n := fun h9 => c_55 ((nI_leI (a := kn) (b := n) (by omega) (by omega)).mpr h9)
                refine lv_aload_n hx hb dX4_ways_58 rfl (lv_at hl 1 rfl) ?_
                refine q_callVv (index := 152) (n := 0) (As := []) (rest := []) (js := [0, 1, 2, 3, 4, 5, 6, 7, 8, 9, 10, 11]) (ci := 4) ⟨hx, hb, hml, hown, hts⟩ hK hP hD hS hA (k4_lengthenWays l D cI cZ cL o N tn tr sp ((wcO N c fr tt sa tk (wc0 N wh x) ow n).1) ((wcO N c fr tt sa tk (wc0 N wh x) ow n).2) b rw nm bf fe d rx nn bg fx a c fr tt sa tk i op sl oi nd lp tl g go gt oo ox (by omega) (by omega) hfr htt) rfl (by decide) (fun _ => by simp only [List.map_cons, List.map_nil, wA_fst, wG_fst, wI_fst, wO_fst, wS_fst, wT_fst, wU_fst]) (fun (_ : Unit) => [wO o (a 0) (b 0) (d 0) (i 0) (g 0) N tn, wT cI (o 1) 160 tr, wT cI (o 2) N sp, wU cL (o 3) N (va_cpy (wcI fr tt sa tk ((wcO N c fr tt sa tk (wc0 N wh x) ow n).1) c (pfx (fun _ => (0 : Int64)) ((wcO N c fr tt sa tk (wc0 N wh x) ow n).2) N)) ((wcO N c fr tt sa tk (wc0 N wh x) ow n).1) 0 0 N), wU cL (o 4) N (wcI fr tt sa tk ((wcO N c fr tt sa tk (wc0 N wh x) ow n).1) c (pfx (fun _ => (0 : Int64)) ((wcO N c fr tt sa tk (wc0 N wh x) ow n).2) N)), wS cI b (a 0) (a 1) (a 2) N rw nm bf fe, wT cI (b 1) (N + 1) (nF oo), wS cI d (a 0) (a 2) (a 1) N rx nn bg fx, wT cI (d 1) (N + 1) (nF ox), wA cI cZ a c fr tt sa tk, wI cI cZ i op sl oi nd lp tl, wG cI g go gt]) (fun _ => rfl) gX4_ways_X4_lengthenWays rfl (by decide +kernel) rfl ⟨by decide, by decide⟩ rfl rfl rfl rfl hl.1 (Nat.le_of_ble_eq_true rfl) ⟨(Nat.zero_le _), (Nat.zero_le _)⟩ dX4_ways_59 rfl (fun _ H locs hw hP hD hS => ?_)
                refine lv_iinc (v := nI (n + 1)) (lv' := [(4, .int (nI (n + 1))), (0, .ref (o 0)), (1, .int x), (2, .int y), (3, .int (nI kn))]) hx hb dX4_ways_62 hl (k := 0) rfl (nI_add n 1) (by decide) rfl (fun ls hl => ?_)
                refine lv_goto (tgt := 52) hx hb dX4_ways_65 (by decide) ?_
                have hl : lv_has ls 5 [(4, .int (nI (n + 1))), (0, .ref (o 0)), (1, .int x), (2, .int y), (3, .int (nI kn))] := lv_sub hl [0, 1, 2, 3, 4] rfl
                have hq0 : va_cpy (wcI fr tt sa tk ((wcO N c fr tt sa tk (wc0 N wh x) ow n).1) c (pfx (fun _ => (0 : Int64)) ((wcO N c fr tt sa tk (wc0 N wh x) ow n).2) N)) ((wcO N c fr tt sa tk (wc0 N wh x) ow n).1) 0 0 N = (wcO N c fr tt sa tk (wc0 N wh x) ow (n + 1)).1 := rfl
                have hq1 : wcI fr tt sa tk ((wcO N c fr tt sa tk (wc0 N wh x) ow n).1) c (pfx (fun _ => (0 : Int64)) ((wcO N c fr tt sa tk (wc0 N wh x) ow n).2) N) = (wcO N c fr tt sa tk (wc0 N wh x) ow (n + 1)).2 := rfl
                have hP : va_P D vwCl (List.flatten [wO o (a 0) (b 0) (d 0) (i 0) (g 0) N tn, wT cI (o 1) 160 tr, wT cI (o 2) N sp, wU cL (o 3) N ((wcO N c fr tt sa tk (wc0 N wh x) ow (n + 1)).1), wU cL (o 4) N ((wcO N c fr tt sa tk (wc0 N wh x) ow (n + 1)).2), wS cI b (a 0) (a 1) (a 2) N rw nm bf fe, wT cI (b 1) (N + 1) (nF oo), wS cI d (a 0) (a 2) (a 1) N rx nn bg fx, wT cI (d 1) (N + 1) (nF ox), wA cI cZ a c fr tt sa tk, wI cI cZ i op sl oi nd lp tl, wG cI g go gt]) _ := wCast hP (by rw [← hq0, ← hq1])
                have hD : va_D A (List.flatten [wO o (a 0) (b 0) (d 0) (i 0) (g 0) N tn, wT cI (o 1) 160 tr, wT cI (o 2) N sp, wU cL (o 3) N ((wcO N c fr tt sa tk (wc0 N wh x) ow (n + 1)).1), wU cL (o 4) N ((wcO N c fr tt sa tk (wc0 N wh x) ow (n + 1)).2), wS cI b (a 0) (a 1) (a 2) N rw nm bf fe, wT cI (b 1) (N + 1) (nF oo), wS cI d (a 0) (a 2) (a 1) N rx nn bg fx, wT cI (d 1) (N + 1) (nF ox), wA cI cZ a c fr tt sa tk, wI cI cZ i op sl oi nd lp tl, wG cI g go gt]) := dCast hD (by rw [← hq0, ← hq1])
                exact ih_52 (n + 1) (by omega) (by omega) _ _ hP hD hS _ hl
          have hl : lv_has ls 5 [(4, .int (nI 0)), (0, .ref (o 0)), (1, .int x), (2, .int y), (3, .int (nI kn))] := lv_sub hl [0, 1, 2, 3, 4] rfl
          have hq0 : vp_updL (pfx (fun _ => (0 : Int64)) wh N) x.toNatClampNeg (1 : Int64) = (wcO N c fr tt sa tk (wc0 N wh x) ow 0).1 := rfl
          have hq1 : ow = (wcO N c fr tt sa tk (wc0 N wh x) ow 0).2 := rfl
          have hP : va_P D vwCl (List.flatten [wO o (a 0) (b 0) (d 0) (i 0) (g 0) N tn, wT cI (o 1) 160 tr, wT cI (o 2) N sp, wU cL (o 3) N ((wcO N c fr tt sa tk (wc0 N wh x) ow 0).1), wU cL (o 4) N ((wcO N c fr tt sa tk (wc0 N wh x) ow 0).2), wS cI b (a 0) (a 1) (a 2) N rw nm bf fe, wT cI (b 1) (N + 1) (nF oo), wS cI d (a 0) (a 2) (a 1) N rx nn bg fx, wT cI (d 1) (N + 1) (nF ox), wA cI cZ a c fr tt sa tk, wI cI cZ i op sl oi nd lp tl, wG cI g go gt]) _ := wCast hP (by rw [← hq0, ← hq1])
          have hD : va_D A (List.flatten [wO o (a 0) (b 0) (d 0) (i 0) (g 0) N tn, wT cI (o 1) 160 tr, wT cI (o 2) N sp, wU cL (o 3) N ((wcO N c fr tt sa tk (wc0 N wh x) ow 0).1), wU cL (o 4) N ((wcO N c fr tt sa tk (wc0 N wh x) ow 0).2), wS cI b (a 0) (a 1) (a 2) N rw nm bf fe, wT cI (b 1) (N + 1) (nF oo), wS cI d (a 0) (a 2) (a 1) N rx nn bg fx, wT cI (d 1) (N + 1) (nF ox), wA cI cZ a c fr tt sa tk, wI cI cZ i op sl oi nd lp tl, wG cI g go gt]) := dCast hD (by rw [← hq0, ← hq1])
          exact loop_52 (kn + 1) 0 (by omega) (by omega) _ _ hP hD hS _ hl
        ·
          refine lv_ldc2 (v := -3) hx hb hown (hts (.constantLong RX4 147 (-3)) (by decide +kernel)) dX4_ways_30 ?_
          exact q_lret ((wh, ow)) hx hb hr hlocks hK hP hD hS (⟨by simp [wcR, wyB, arB, n_5, n_13, c_21, c_27], trivial⟩) (rfl) dX4_ways_33
    ·
      have n_13 : (hasB N y) = false := bI_0.mp c_13
      refine lv_ldc2 (v := -2) hx hb hown (hts (.constantLong RX4 145 (-2)) (by decide +kernel)) dX4_ways_16 ?_
      exact q_lret ((wh, ow)) hx hb hr hlocks hK hP hD hS (⟨by simp [wcR, wyB, arB, n_5, n_13], trivial⟩) (rfl) dX4_ways_19

set_option maxHeartbeats 8000000 in
set_option maxRecDepth 100000 in
theorem k4_open (l : Launch) (D : va_G) (cI cZ cL : ClassId) (o : Nat → Nat) (N : Nat) (tn : Nat) (tr : Nat → Int32) (sp : Nat → Int32) (wh : Nat → Int64) (ow : Nat → Int64) (b : Nat → Nat) (rw : Nat → Int32) (nm : Nat → Int32) (bf : Nat → Int32) (fe : Nat → Int32) (d : Nat → Nat) (rx : Nat → Int32) (nn : Nat → Int32) (bg : Nat → Int32) (fx : Nat → Int32) (a : Nat → Nat) (c : Nat) (fr : Nat → Int32) (tt : Nat → Int32) (sa : Nat → Int32) (tk : Nat → Int32) (i : Nat → Nat) (op : Nat → Int32) (sl : Nat → Int32) (oi : Nat → Int32) (nd : Nat → Int32) (lp : Nat → Int32) (tl : Nat → Int32) (g : Nat → Nat) (go : Nat → Int32) (gt : Nat → Int32) (oo : Nat → Nat) (ox : Nat → Nat) (x : Int32) (z : Int32) (hz : vp_nar .boolean z = z) : McI l D (tY cI cZ cL) yX4_open wsX4_open 1 23 [.ref (o 0), .int x, .int z] ([wO o (a 0) (b 0) (d 0) (i 0) (g 0) N tn, wT cI (o 1) 160 tr, wT cI (o 2) N sp, wU cL (o 3) N wh, wU cL (o 4) N ow, wS cI b (a 0) (a 1) (a 2) N rw nm bf fe, wT cI (b 1) (N + 1) (nF oo), wS cI d (a 0) (a 2) (a 1) N rx nn bg fx, wT cI (d 1) (N + 1) (nF ox), wA cI cZ a c fr tt sa tk, wI cI cZ i op sl oi nd lp tl, wG cI g go gt]) (fun r (_ : Unit) => r = opR N op x) (fun (_ : Unit) => [wO o (a 0) (b 0) (d 0) (i 0) (g 0) N tn, wT cI (o 1) 160 tr, wT cI (o 2) N sp, wU cL (o 3) N wh, wU cL (o 4) N ow, wS cI b (a 0) (a 1) (a 2) N rw nm bf fe, wT cI (b 1) (N + 1) (nF oo), wS cI d (a 0) (a 2) (a 1) N rx nn bg fx, wT cI (d 1) (N + 1) (nF ox), wA cI cZ a c fr tt sa tk, wI cI cZ i (opF N op x op 1) (opF N op x sl 0) (opF N op x oi z) (opF N op x nd x) (opF N op x lp (-1)) (opF N op x tl 0), wG cI g go gt]) := by
  refine q_ofW (Qc := fun A => (va_Qi (fun r (_ : Unit) => r = opR N op x) (fun u t => mAt D (tY cI cZ cL) A ((fun (_ : Unit) => [wO o (a 0) (b 0) (d 0) (i 0) (g 0) N tn, wT cI (o 1) 160 tr, wT cI (o 2) N sp, wU cL (o 3) N wh, wU cL (o 4) N ow, wS cI b (a 0) (a 1) (a 2) N rw nm bf fe, wT cI (b 1) (N + 1) (nF oo), wS cI d (a 0) (a 2) (a 1) N rx nn bg fx, wT cI (d 1) (N + 1) (nF ox), wA cI cZ a c fr tt sa tk, wI cI cZ i (opF N op x op 1) (opF N op x sl 0) (opF N op x oi z) (opF N op x nd x) (opF N op x lp (-1)) (opF N op x tl 0), wG cI g go gt]) u) t) A)) (cc := cX4_open) (maxL := 4) (ret := (some .int)) (by decide) rfl (Nat.le_of_ble_eq_true rfl) ?_
  intro pz ez sz mz bz tz cz hx hb hml hr hlocks hts hown hK hP A hD hA ls hl
  have hS : va_S A sz.heap sz.heap [] := va_S.rf
  have hl : lv_has ls 4 [(0, .ref (o 0)), (1, .int x), (2, .int z)] := hl
  refine lv_aload_n hx hb dX4_open_0 rfl (lv_at hl 0 rfl) ?_
  refine lv_iload_n hx hb dX4_open_1 rfl (lv_at hl 1 rfl) ?_
  refine q_callVi (index := 78) (n := 1) (As := [.int x]) (rest := []) (js := [0, 1, 2, 3, 4, 5, 6, 7, 8, 9, 10, 11]) (ci := 4) ⟨hx, hb, hml, hown, hts⟩ hK hP hD hS hA (k4_isNode l D cI cZ cL o N tn tr sp wh ow b rw nm bf fe d rx nn bg fx a c fr tt sa tk i op sl oi nd lp tl g go gt oo ox x) rfl (by decide) (fun _ => by simp only [List.map_cons, List.map_nil, wA_fst, wG_fst, wI_fst, wO_fst, wS_fst, wT_fst, wU_fst]) (fun (_ : Unit) => [wO o (a 0) (b 0) (d 0) (i 0) (g 0) N tn, wT cI (o 1) 160 tr, wT cI (o 2) N sp, wU cL (o 3) N wh, wU cL (o 4) N ow, wS cI b (a 0) (a 1) (a 2) N rw nm bf fe, wT cI (b 1) (N + 1) (nF oo), wS cI d (a 0) (a 2) (a 1) N rx nn bg fx, wT cI (d 1) (N + 1) (nF ox), wA cI cZ a c fr tt sa tk, wI cI cZ i op sl oi nd lp tl, wG cI g go gt]) (fun _ => rfl) gX4_open_X4_isNode rfl (by decide +kernel) rfl ⟨by decide, by decide⟩ rfl rfl rfl rfl hl.1 (Nat.le_of_ble_eq_true rfl) ⟨(Nat.zero_le _), (Nat.zero_le _)⟩ dX4_open_2 rfl (fun r _ H locs hw hP hD hS => ?_)
  have hw : r = bI (hasB N x) := hw
  subst hw
  refine lv_if_ne (tgt := 11) hx hb dX4_open_5 (by decide) (fun c_5 => ?_) (fun c_5 => ?_)
  ·
    have n_5 : (hasB N x) = true := bI_n.mp c_5
    refine lv_aload_n hx hb dX4_open_11 rfl (lv_at hl 0 rfl) ?_
    refine q_get (D := D) (ci := 4) (v := .ref (i 0)) (C := RX4) (T := TX4) (N := 11) hx hb hts (by decide +kernel) hown hK hP 0 0 rfl rfl rfl 4 (by decide) (hts (.fieldLink RX4 51 "OffsetRows" "iterators" "LOffsetRows$Iterators;") (by decide +kernel)) (fun _ h9 => h9) rfl dX4_open_12 ?_
    refine q_callVi (index := 155) (n := 0) (As := []) (rest := []) (js := [10]) (ci := 2) ⟨hx, hb, hml, hown, hts⟩ hK hP hD hS hA (k2_leastFree l D cI cZ cL i op sl oi nd lp tl) rfl (by decide) (fun _ => by simp only [List.map_cons, List.map_nil, wI_fst]) (fun (_ : Unit) => [wO o (a 0) (b 0) (d 0) (i 0) (g 0) N tn, wT cI (o 1) 160 tr, wT cI (o 2) N sp, wU cL (o 3) N wh, wU cL (o 4) N ow, wS cI b (a 0) (a 1) (a 2) N rw nm bf fe, wT cI (b 1) (N + 1) (nF oo), wS cI d (a 0) (a 2) (a 1) N rx nn bg fx, wT cI (d 1) (N + 1) (nF ox), wA cI cZ a c fr tt sa tk, wI cI cZ i op sl oi nd lp tl, wG cI g go gt]) (fun _ => rfl) gX4_open_X2_leastFree rfl (by decide +kernel) rfl ⟨by decide, by decide⟩ rfl rfl rfl rfl hl.1 (Nat.le_of_ble_eq_true rfl) ⟨(Nat.zero_le _), (Nat.zero_le _)⟩ dX4_open_15 rfl (fun r _ H locs hw hP hD hS => ?_)
    have hw : r = opA op := hw
    subst hw
    refine lv_istore_n (lv' := [(3, .int (opA op)), (0, .ref (o 0)), (1, .int x), (2, .int z)]) hx hb dX4_open_18 rfl hl (by decide) rfl (fun ls hl => ?_)
    refine lv_iload_n hx hb dX4_open_19 rfl (lv_at hl 0 rfl) ?_
    refine lv_iconst (v := (-1)) hx hb dX4_open_20 (by decide) ?_
    refine lv_icmp_ne (tgt := 27) hx hb dX4_open_21 (by decide) (fun c_21 => ?_) (fun c_21 => ?_)
    ·
      refine lv_aload_n hx hb dX4_open_27 rfl (lv_at hl 1 rfl) ?_
      refine q_get (D := D) (ci := 4) (v := .ref (i 0)) (C := RX4) (T := TX4) (N := 11) hx hb hts (by decide +kernel) hown hK hP 0 0 rfl rfl rfl 4 (by decide) (hts (.fieldLink RX4 51 "OffsetRows" "iterators" "LOffsetRows$Iterators;") (by decide +kernel)) (fun _ h9 => h9) rfl dX4_open_28 ?_
      refine lv_iload_n hx hb dX4_open_31 rfl (lv_at hl 0 rfl) ?_
      refine lv_iload_n hx hb dX4_open_32 rfl (lv_at hl 2 rfl) ?_
      refine lv_iload_n hx hb dX4_open_33 rfl (lv_at hl 3 rfl) ?_
      refine q_callVv (index := 158) (n := 3) (As := [.int (opA op), .int x, .int z]) (rest := []) (js := [10]) (ci := 2) ⟨hx, hb, hml, hown, hts⟩ hK hP hD hS hA (k2_start l D cI cZ cL i op sl oi nd lp tl (opA op) x z (opA_in c_21) hz) rfl (by decide) (fun _ => by simp only [List.map_cons, List.map_nil, wI_fst]) (fun (_ : Unit) => [wO o (a 0) (b 0) (d 0) (i 0) (g 0) N tn, wT cI (o 1) 160 tr, wT cI (o 2) N sp, wU cL (o 3) N wh, wU cL (o 4) N ow, wS cI b (a 0) (a 1) (a 2) N rw nm bf fe, wT cI (b 1) (N + 1) (nF oo), wS cI d (a 0) (a 2) (a 1) N rx nn bg fx, wT cI (d 1) (N + 1) (nF ox), wA cI cZ a c fr tt sa tk, wI cI cZ i (upd op (opA op).toNatClampNeg 1) (upd sl (opA op).toNatClampNeg 0) (upd oi (opA op).toNatClampNeg z) (upd nd (opA op).toNatClampNeg x) (upd lp (opA op).toNatClampNeg (-1)) (upd tl (opA op).toNatClampNeg 0), wG cI g go gt]) (fun _ => rfl) gX4_open_X2_start rfl (by decide +kernel) rfl ⟨by decide, by decide⟩ rfl rfl rfl rfl hl.1 (Nat.le_of_ble_eq_true rfl) ⟨(Nat.zero_le _), (Nat.zero_le _)⟩ dX4_open_34 rfl (fun _ H locs hw hP hD hS => ?_)
      refine lv_iload_n hx hb dX4_open_37 rfl (lv_at hl 0 rfl) ?_
      exact q_iret (()) hx hb hr hlocks hK hP hD hS (by simp [opR, opF, n_5, c_21]) (by simp [opR, opF, n_5, c_21]) dX4_open_38
    ·
      refine lv_bipush (v := (-6)) hx hb dX4_open_24 (by decide) ?_
      exact q_iret (()) hx hb hr hlocks hK hP hD hS (by simp [opR, opF, n_5, c_21]) (by simp [opR, opF, n_5, c_21]) dX4_open_26
  ·
    have n_5 : (hasB N x) = false := bI_0.mp c_5
    refine lv_bipush (v := (-2)) hx hb dX4_open_8 (by decide) ?_
    exact q_iret (()) hx hb hr hlocks hK hP hD hS (by simp [opR, opF, n_5]) (by simp [opR, opF, n_5]) dX4_open_10

set_option maxHeartbeats 8000000 in
set_option maxRecDepth 100000 in
theorem k4_close (l : Launch) (D : va_G) (cI cZ cL : ClassId) (o : Nat → Nat) (N : Nat) (tn : Nat) (tr : Nat → Int32) (sp : Nat → Int32) (wh : Nat → Int64) (ow : Nat → Int64) (b : Nat → Nat) (rw : Nat → Int32) (nm : Nat → Int32) (bf : Nat → Int32) (fe : Nat → Int32) (d : Nat → Nat) (rx : Nat → Int32) (nn : Nat → Int32) (bg : Nat → Int32) (fx : Nat → Int32) (a : Nat → Nat) (c : Nat) (fr : Nat → Int32) (tt : Nat → Int32) (sa : Nat → Int32) (tk : Nat → Int32) (i : Nat → Nat) (op : Nat → Int32) (sl : Nat → Int32) (oi : Nat → Int32) (nd : Nat → Int32) (lp : Nat → Int32) (tl : Nat → Int32) (g : Nat → Nat) (go : Nat → Int32) (gt : Nat → Int32) (oo : Nat → Nat) (ox : Nat → Nat) (x : Int32) : McI l D (tY cI cZ cL) yX4_close wsX4_close 1 21 [.ref (o 0), .int x] ([wO o (a 0) (b 0) (d 0) (i 0) (g 0) N tn, wT cI (o 1) 160 tr, wT cI (o 2) N sp, wU cL (o 3) N wh, wU cL (o 4) N ow, wS cI b (a 0) (a 1) (a 2) N rw nm bf fe, wT cI (b 1) (N + 1) (nF oo), wS cI d (a 0) (a 2) (a 1) N rx nn bg fx, wT cI (d 1) (N + 1) (nF ox), wA cI cZ a c fr tt sa tk, wI cI cZ i op sl oi nd lp tl, wG cI g go gt]) (fun r (_ : Unit) => r = clR op tl x) (fun (_ : Unit) => [wO o (a 0) (b 0) (d 0) (i 0) (g 0) N tn, wT cI (o 1) 160 tr, wT cI (o 2) N sp, wU cL (o 3) N wh, wU cL (o 4) N ow, wS cI b (a 0) (a 1) (a 2) N rw nm bf fe, wT cI (b 1) (N + 1) (nF oo), wS cI d (a 0) (a 2) (a 1) N rx nn bg fx, wT cI (d 1) (N + 1) (nF ox), wA cI cZ a c fr tt sa tk, wI cI cZ i (clF op x) sl oi nd lp tl, wG cI g go gt]) := by
  refine q_ofW (Qc := fun A => (va_Qi (fun r (_ : Unit) => r = clR op tl x) (fun u t => mAt D (tY cI cZ cL) A ((fun (_ : Unit) => [wO o (a 0) (b 0) (d 0) (i 0) (g 0) N tn, wT cI (o 1) 160 tr, wT cI (o 2) N sp, wU cL (o 3) N wh, wU cL (o 4) N ow, wS cI b (a 0) (a 1) (a 2) N rw nm bf fe, wT cI (b 1) (N + 1) (nF oo), wS cI d (a 0) (a 2) (a 1) N rx nn bg fx, wT cI (d 1) (N + 1) (nF ox), wA cI cZ a c fr tt sa tk, wI cI cZ i (clF op x) sl oi nd lp tl, wG cI g go gt]) u) t) A)) (cc := cX4_close) (maxL := 2) (ret := (some .int)) (by decide) rfl (Nat.le_of_ble_eq_true rfl) ?_
  intro pz ez sz mz bz tz cz hx hb hml hr hlocks hts hown hK hP A hD hA ls hl
  have hS : va_S A sz.heap sz.heap [] := va_S.rf
  have hl : lv_has ls 2 [(0, .ref (o 0)), (1, .int x)] := hl
  refine lv_aload_n hx hb dX4_close_0 rfl (lv_at hl 0 rfl) ?_
  refine q_get (D := D) (ci := 4) (v := .ref (i 0)) (C := RX4) (T := TX4) (N := 11) hx hb hts (by decide +kernel) hown hK hP 0 0 rfl rfl rfl 4 (by decide) (hts (.fieldLink RX4 51 "OffsetRows" "iterators" "LOffsetRows$Iterators;") (by decide +kernel)) (fun _ h9 => h9) rfl dX4_close_1 ?_
  refine lv_iload_n hx hb dX4_close_4 rfl (lv_at hl 1 rfl) ?_
  refine q_callVi (index := 162) (n := 1) (As := [.int x]) (rest := []) (js := [10]) (ci := 2) ⟨hx, hb, hml, hown, hts⟩ hK hP hD hS hA (k2_has l D cI cZ cL i op sl oi nd lp tl x) rfl (by decide) (fun _ => by simp only [List.map_cons, List.map_nil, wI_fst]) (fun (_ : Unit) => [wO o (a 0) (b 0) (d 0) (i 0) (g 0) N tn, wT cI (o 1) 160 tr, wT cI (o 2) N sp, wU cL (o 3) N wh, wU cL (o 4) N ow, wS cI b (a 0) (a 1) (a 2) N rw nm bf fe, wT cI (b 1) (N + 1) (nF oo), wS cI d (a 0) (a 2) (a 1) N rx nn bg fx, wT cI (d 1) (N + 1) (nF ox), wA cI cZ a c fr tt sa tk, wI cI cZ i op sl oi nd lp tl, wG cI g go gt]) (fun _ => rfl) gX4_close_X2_has rfl (by decide +kernel) rfl ⟨by decide, by decide⟩ rfl rfl rfl rfl hl.1 (Nat.le_of_ble_eq_true rfl) ⟨(Nat.zero_le _), (Nat.zero_le _)⟩ dX4_close_5 rfl (fun r _ H locs hw hP hD hS => ?_)
  have hw : r = bI (itB op x) := hw
  subst hw
  refine lv_if_ne (tgt := 14) hx hb dX4_close_8 (by decide) (fun c_8 => ?_) (fun c_8 => ?_)
  ·
    have n_8 : (itB op x) = true := bI_n.mp c_8
    refine lv_aload_n hx hb dX4_close_14 rfl (lv_at hl 0 rfl) ?_
    refine q_get (D := D) (ci := 4) (v := .ref (i 0)) (C := RX4) (T := TX4) (N := 11) hx hb hts (by decide +kernel) hown hK hP 0 0 rfl rfl rfl 4 (by decide) (hts (.fieldLink RX4 51 "OffsetRows" "iterators" "LOffsetRows$Iterators;") (by decide +kernel)) (fun _ h9 => h9) rfl dX4_close_15 ?_
    refine q_get (D := D) (ci := 2) (v := .ref (i 1)) (C := RX2) (T := TX2) (N := 6) hx hb hts (by decide +kernel) hown hK hP 10 0 rfl rfl rfl 0 (by decide) (hts (.fieldLink RX4 185 "OffsetRows$Iterators" "isOpen" "[Z") (by decide +kernel)) (fun _ h9 => h9) rfl dX4_close_18 ?_
    refine lv_iload_n hx hb dX4_close_21 rfl (lv_at hl 1 rfl) ?_
    refine lv_iconst (v := (0 : Int32)) hx hb dX4_close_22 (by decide) ?_
    refine q_zast hx hb hK hP hD hS 10 1 1 rfl (f := op) rfl rfl (k := x.toNatClampNeg) rfl (hasB_in (c := 8) (by simp [itB] at n_8; exact n_8.1) (Nat.le_refl 8) (by decide)) rfl dX4_close_23 wI_s_op (Fs' := [wO o (a 0) (b 0) (d 0) (i 0) (g 0) N tn, wT cI (o 1) 160 tr, wT cI (o 2) N sp, wU cL (o 3) N wh, wU cL (o 4) N ow, wS cI b (a 0) (a 1) (a 2) N rw nm bf fe, wT cI (b 1) (N + 1) (nF oo), wS cI d (a 0) (a 2) (a 1) N rx nn bg fx, wT cI (d 1) (N + 1) (nF ox), wA cI cZ a c fr tt sa tk, wI cI cZ i (upd op x.toNatClampNeg (0 : Int32)) sl oi nd lp tl, wG cI g go gt]) rfl (fun H locs hP hD hS => ?_)
    refine lv_aload_n hx hb dX4_close_24 rfl (lv_at hl 0 rfl) ?_
    refine q_get (D := D) (ci := 4) (v := .ref (i 0)) (C := RX4) (T := TX4) (N := 11) hx hb hts (by decide +kernel) hown hK hP 0 0 rfl rfl rfl 4 (by decide) (hts (.fieldLink RX4 51 "OffsetRows" "iterators" "LOffsetRows$Iterators;") (by decide +kernel)) (fun _ h9 => h9) rfl dX4_close_25 ?_
    refine q_get (D := D) (ci := 2) (v := .ref (i 6)) (C := RX2) (T := TX2) (N := 6) hx hb hts (by decide +kernel) hown hK hP 10 0 rfl rfl rfl 5 (by decide) (hts (.fieldLink RX4 188 "OffsetRows$Iterators" "arcsTold" "[I") (by decide +kernel)) (fun _ h9 => h9) rfl dX4_close_28 ?_
    refine lv_iload_n hx hb dX4_close_31 rfl (lv_at hl 1 rfl) ?_
    refine q_iald hx hb hK hP 10 6 0 rfl (f := tl) rfl rfl (k := x.toNatClampNeg) rfl (hasB_in (c := 8) (by simp [itB] at n_8; exact n_8.1) (Nat.le_refl 8) (by decide)) dX4_close_32 ?_
    exact q_iret (()) hx hb hr hlocks hK hP hD hS (by simp [clR, clF, n_8]) (by simp [clR, clF, n_8]) dX4_close_33
  ·
    have n_8 : (itB op x) = false := bI_0.mp c_8
    refine lv_bipush (v := (-2)) hx hb dX4_close_11 (by decide) ?_
    exact q_iret (()) hx hb hr hlocks hK hP hD hS (by simp [clR, clF, n_8]) (by simp [clR, clF, n_8]) dX4_close_13

set_option maxHeartbeats 8000000 in
set_option maxRecDepth 100000 in
theorem k4_give (l : Launch) (D : va_G) (cI cZ cL : ClassId) (o : Nat → Nat) (N : Nat) (tn : Nat) (tr : Nat → Int32) (sp : Nat → Int32) (wh : Nat → Int64) (ow : Nat → Int64) (b : Nat → Nat) (rw : Nat → Int32) (nm : Nat → Int32) (bf : Nat → Int32) (fe : Nat → Int32) (d : Nat → Nat) (rx : Nat → Int32) (nn : Nat → Int32) (bg : Nat → Int32) (fx : Nat → Int32) (a : Nat → Nat) (c : Nat) (fr : Nat → Int32) (tt : Nat → Int32) (sa : Nat → Int32) (tk : Nat → Int32) (i : Nat → Nat) (op : Nat → Int32) (sl : Nat → Int32) (oi : Nat → Int32) (nd : Nat → Int32) (lp : Nat → Int32) (tl : Nat → Int32) (g : Nat → Nat) (go : Nat → Int32) (gt : Nat → Int32) (oo : Nat → Nat) (ox : Nat → Nat) (z : Int32) (k : Int32) (v : Int32) : McI l D (tY cI cZ cL) yX4_give wsX4_give 0 0 [.ref (o 0), .int z, .int k, .int v] ([wO o (a 0) (b 0) (d 0) (i 0) (g 0) N tn, wT cI (o 1) 160 tr, wT cI (o 2) N sp, wU cL (o 3) N wh, wU cL (o 4) N ow, wS cI b (a 0) (a 1) (a 2) N rw nm bf fe, wT cI (b 1) (N + 1) (nF oo), wS cI d (a 0) (a 2) (a 1) N rx nn bg fx, wT cI (d 1) (N + 1) (nF ox), wA cI cZ a c fr tt sa tk, wI cI cZ i op sl oi nd lp tl, wG cI g go gt]) (fun r (_ : Unit) => r = gwR go gt z k) (fun (_ : Unit) => [wO o (a 0) (b 0) (d 0) (i 0) (g 0) N tn, wT cI (o 1) 160 tr, wT cI (o 2) N sp, wU cL (o 3) N wh, wU cL (o 4) N ow, wS cI b (a 0) (a 1) (a 2) N rw nm bf fe, wT cI (b 1) (N + 1) (nF oo), wS cI d (a 0) (a 2) (a 1) N rx nn bg fx, wT cI (d 1) (N + 1) (nF ox), wA cI cZ a c fr tt sa tk, wI cI cZ i op sl oi nd lp tl, wG cI g (gwO go z k v) (gwT gt z k v)]) := by
  refine q_ofW (Qc := fun A => (va_Qi (fun r (_ : Unit) => r = gwR go gt z k) (fun u t => mAt D (tY cI cZ cL) A ((fun (_ : Unit) => [wO o (a 0) (b 0) (d 0) (i 0) (g 0) N tn, wT cI (o 1) 160 tr, wT cI (o 2) N sp, wU cL (o 3) N wh, wU cL (o 4) N ow, wS cI b (a 0) (a 1) (a 2) N rw nm bf fe, wT cI (b 1) (N + 1) (nF oo), wS cI d (a 0) (a 2) (a 1) N rx nn bg fx, wT cI (d 1) (N + 1) (nF ox), wA cI cZ a c fr tt sa tk, wI cI cZ i op sl oi nd lp tl, wG cI g (gwO go z k v) (gwT gt z k v)]) u) t) A)) (cc := cX4_give) (maxL := 6) (ret := (some .int)) (by decide) rfl (Nat.le_of_ble_eq_true rfl) ?_
  intro pz ez sz mz bz tz cz hx hb hml hr hlocks hts hown hK hP A hD hA ls hl
  have hS : va_S A sz.heap sz.heap [] := va_S.rf
  have hl : lv_has ls 6 [(0, .ref (o 0)), (1, .int z), (2, .int k), (3, .int v)] := hl
  refine lv_iload_n hx hb dX4_give_0 rfl (lv_at hl 1 rfl) ?_
  refine lv_if_eq (tgt := 14) hx hb dX4_give_1 (by decide) (fun c_1 => ?_) (fun c_1 => ?_)
  ·
    refine lv_aload_n hx hb dX4_give_14 rfl (lv_at hl 0 rfl) ?_
    refine q_get (D := D) (ci := 4) (v := .ref (g 0)) (C := RX4) (T := TX4) (N := 11) hx hb hts (by decide +kernel) hown hK hP 0 0 rfl rfl rfl 5 (by decide) (hts (.fieldLink RX4 58 "OffsetRows" "given" "LOffsetRows$Given;") (by decide +kernel)) (fun _ h9 => h9) rfl dX4_give_15 ?_
    refine q_get (D := D) (ci := 1) (v := .ref (g 1)) (C := RX1) (T := TX1) (N := 2) hx hb hts (by decide +kernel) hown hK hP 11 0 rfl rfl rfl 0 (by decide) (hts (.fieldLink RX4 194 "OffsetRows$Given" "offsets" "[I") (by decide +kernel)) (fun _ h9 => h9) rfl dX4_give_18 ?_
    refine lv_astore (lv' := [(4, .ref (g 1)), (0, .ref (o 0)), (1, .int z), (2, .int k), (3, .int v)]) hx hb dX4_give_21 hl (by decide) rfl (fun ls hl => ?_)
    refine lv_iload_n hx hb dX4_give_23 rfl (lv_at hl 3 rfl) ?_
    refine lv_if_lt (tgt := 34) hx hb dX4_give_24 (by decide) (fun c_24 => ?_) (fun c_24 => ?_)
    ·
      refine lv_bipush (v := (-3)) hx hb dX4_give_34 (by decide) ?_
      exact q_iret (()) hx hb hr hlocks hK hP hD hS (by simp [gwR, gwO, gwT, gwB, c_1, c_24]) (by simp [gwR, gwO, gwT, gwB, c_1, c_24]) dX4_give_36
    ·
      refine lv_iload_n hx hb dX4_give_27 rfl (lv_at hl 3 rfl) ?_
      refine lv_aload hx hb dX4_give_28 (lv_at hl 0 rfl) ?_
      refine va_alen hx hb hK (fP hP (j := 11) rfl) 1 0 rfl rfl (v := nI 25) rfl dX4_give_30 ?_
      refine lv_icmp_lt (tgt := 37) hx hb dX4_give_31 (by decide) (fun c_31 => ?_) (fun c_31 => ?_)
      ·
        have h_k : k < 25 := c_31
        refine lv_aload hx hb dX4_give_37 (lv_at hl 0 rfl) ?_
        refine lv_iload_n hx hb dX4_give_39 rfl (lv_at hl 3 rfl) ?_
        refine q_iald hx hb hK hP 11 1 0 rfl (f := go) rfl rfl (k := k.toNatClampNeg) rfl (in_lt c_24 c_31 (by decide)) dX4_give_40 ?_
        refine lv_istore (lv' := [(5, .int (go k.toNatClampNeg)), (4, .ref (g 1)), (0, .ref (o 0)), (1, .int z), (2, .int k), (3, .int v)]) hx hb dX4_give_41 hl (by decide) rfl (fun ls hl => ?_)
        refine lv_aload hx hb dX4_give_43 (lv_at hl 1 rfl) ?_
        refine lv_iload_n hx hb dX4_give_45 rfl (lv_at hl 4 rfl) ?_
        refine lv_iload_n hx hb dX4_give_46 rfl (lv_at hl 5 rfl) ?_
        refine q_iast hx hb hK hP hD hS 11 1 0 rfl (f := go) rfl rfl (k := k.toNatClampNeg) rfl (in_lt c_24 c_31 (by decide)) dX4_give_47 wG_s_go (Fs' := [wO o (a 0) (b 0) (d 0) (i 0) (g 0) N tn, wT cI (o 1) 160 tr, wT cI (o 2) N sp, wU cL (o 3) N wh, wU cL (o 4) N ow, wS cI b (a 0) (a 1) (a 2) N rw nm bf fe, wT cI (b 1) (N + 1) (nF oo), wS cI d (a 0) (a 2) (a 1) N rx nn bg fx, wT cI (d 1) (N + 1) (nF ox), wA cI cZ a c fr tt sa tk, wI cI cZ i op sl oi nd lp tl, wG cI g (upd go k.toNatClampNeg v) gt]) rfl (fun H locs hP hD hS => ?_)
        refine lv_iload hx hb dX4_give_48 (lv_at hl 0 rfl) ?_
        exact q_iret (()) hx hb hr hlocks hK hP hD hS (by simp [gwR, gwO, gwT, gwB, c_1, c_24, c_31, h_k]) (by simp [gwR, gwO, gwT, gwB, c_1, c_24, c_31, h_k]) dX4_give_50
      ·
        have h_k : ¬ k < 25 := c_31
        refine lv_bipush (v := (-3)) hx hb dX4_give_34 (by decide) ?_
        exact q_iret (()) hx hb hr hlocks hK hP hD hS (by simp [gwR, gwO, gwT, gwB, c_1, c_24, c_31, h_k]) (by simp [gwR, gwO, gwT, gwB, c_1, c_24, c_31, h_k]) dX4_give_36
  ·
    refine lv_aload_n hx hb dX4_give_4 rfl (lv_at hl 0 rfl) ?_
    refine q_get (D := D) (ci := 4) (v := .ref (g 0)) (C := RX4) (T := TX4) (N := 11) hx hb hts (by decide +kernel) hown hK hP 0 0 rfl rfl rfl 5 (by decide) (hts (.fieldLink RX4 58 "OffsetRows" "given" "LOffsetRows$Given;") (by decide +kernel)) (fun _ h9 => h9) rfl dX4_give_5 ?_
    refine q_get (D := D) (ci := 1) (v := .ref (g 2)) (C := RX1) (T := TX1) (N := 2) hx hb hts (by decide +kernel) hown hK hP 11 0 rfl rfl rfl 1 (by decide) (hts (.fieldLink RX4 191 "OffsetRows$Given" "targets" "[I") (by decide +kernel)) (fun _ h9 => h9) rfl dX4_give_8 ?_
    refine lv_goto (tgt := 21) hx hb dX4_give_11 (by decide) ?_
    refine lv_astore (lv' := [(4, .ref (g 2)), (0, .ref (o 0)), (1, .int z), (2, .int k), (3, .int v)]) hx hb dX4_give_21 hl (by decide) rfl (fun ls hl => ?_)
    refine lv_iload_n hx hb dX4_give_23 rfl (lv_at hl 3 rfl) ?_
    refine lv_if_lt (tgt := 34) hx hb dX4_give_24 (by decide) (fun c_24 => ?_) (fun c_24 => ?_)
    ·
      refine lv_bipush (v := (-3)) hx hb dX4_give_34 (by decide) ?_
      exact q_iret (()) hx hb hr hlocks hK hP hD hS (by simp [gwR, gwO, gwT, gwB, c_1, c_24]) (by simp [gwR, gwO, gwT, gwB, c_1, c_24]) dX4_give_36
    ·
      refine lv_iload_n hx hb dX4_give_27 rfl (lv_at hl 3 rfl) ?_
      refine lv_aload hx hb dX4_give_28 (lv_at hl 0 rfl) ?_
      refine va_alen hx hb hK (fP hP (j := 11) rfl) 2 0 rfl rfl (v := nI 160) rfl dX4_give_30 ?_
      refine lv_icmp_lt (tgt := 37) hx hb dX4_give_31 (by decide) (fun c_31 => ?_) (fun c_31 => ?_)
      ·
        have h_k : k < 160 := c_31
        refine lv_aload hx hb dX4_give_37 (lv_at hl 0 rfl) ?_
        refine lv_iload_n hx hb dX4_give_39 rfl (lv_at hl 3 rfl) ?_
        refine q_iald hx hb hK hP 11 2 0 rfl (f := gt) rfl rfl (k := k.toNatClampNeg) rfl (in_lt c_24 c_31 (by decide)) dX4_give_40 ?_
        refine lv_istore (lv' := [(5, .int (gt k.toNatClampNeg)), (4, .ref (g 2)), (0, .ref (o 0)), (1, .int z), (2, .int k), (3, .int v)]) hx hb dX4_give_41 hl (by decide) rfl (fun ls hl => ?_)
        refine lv_aload hx hb dX4_give_43 (lv_at hl 1 rfl) ?_
        refine lv_iload_n hx hb dX4_give_45 rfl (lv_at hl 4 rfl) ?_
        refine lv_iload_n hx hb dX4_give_46 rfl (lv_at hl 5 rfl) ?_
        refine q_iast hx hb hK hP hD hS 11 2 0 rfl (f := gt) rfl rfl (k := k.toNatClampNeg) rfl (in_lt c_24 c_31 (by decide)) dX4_give_47 wG_s_gt (Fs' := [wO o (a 0) (b 0) (d 0) (i 0) (g 0) N tn, wT cI (o 1) 160 tr, wT cI (o 2) N sp, wU cL (o 3) N wh, wU cL (o 4) N ow, wS cI b (a 0) (a 1) (a 2) N rw nm bf fe, wT cI (b 1) (N + 1) (nF oo), wS cI d (a 0) (a 2) (a 1) N rx nn bg fx, wT cI (d 1) (N + 1) (nF ox), wA cI cZ a c fr tt sa tk, wI cI cZ i op sl oi nd lp tl, wG cI g go (upd gt k.toNatClampNeg v)]) rfl (fun H locs hP hD hS => ?_)
        refine lv_iload hx hb dX4_give_48 (lv_at hl 0 rfl) ?_
        exact q_iret (()) hx hb hr hlocks hK hP hD hS (by simp [gwR, gwO, gwT, gwB, c_1, c_24, c_31, h_k]) (by simp [gwR, gwO, gwT, gwB, c_1, c_24, c_31, h_k]) dX4_give_50
      ·
        have h_k : ¬ k < 160 := c_31
        refine lv_bipush (v := (-3)) hx hb dX4_give_34 (by decide) ?_
        exact q_iret (()) hx hb hr hlocks hK hP hD hS (by simp [gwR, gwO, gwT, gwB, c_1, c_24, c_31, h_k]) (by simp [gwR, gwO, gwT, gwB, c_1, c_24, c_31, h_k]) dX4_give_36

set_option maxHeartbeats 8000000 in
set_option maxRecDepth 100000 in
theorem k4_load (l : Launch) (D : va_G) (cI cZ cL : ClassId) (o : Nat → Nat) (N : Nat) (tn : Nat) (tr : Nat → Int32) (sp : Nat → Int32) (wh : Nat → Int64) (ow : Nat → Int64) (b : Nat → Nat) (rw : Nat → Int32) (nm : Nat → Int32) (bf : Nat → Int32) (fe : Nat → Int32) (d : Nat → Nat) (rx : Nat → Int32) (nn : Nat → Int32) (bg : Nat → Int32) (fx : Nat → Int32) (a : Nat → Nat) (c : Nat) (fr : Nat → Int32) (tt : Nat → Int32) (sa : Nat → Int32) (tk : Nat → Int32) (i : Nat → Nat) (op : Nat → Int32) (sl : Nat → Int32) (oi : Nat → Int32) (nd : Nat → Int32) (lp : Nat → Int32) (tl : Nat → Int32) (g : Nat → Nat) (go : Nat → Int32) (gt : Nat → Int32) (oo : Nat → Nat) (ox : Nat → Nat) (x : Int32) (hc : c ≤ 160) (hN : N ≤ 24) (hN1 : 1 ≤ N) : McI l D (tY cI cZ cL) yX4_load wsX4_load 4 107 [.ref (o 0), .int x] ([wO o (a 0) (b 0) (d 0) (i 0) (g 0) N tn, wT cI (o 1) 160 tr, wT cI (o 2) N sp, wU cL (o 3) N wh, wU cL (o 4) N ow, wS cI b (a 0) (a 1) (a 2) N rw nm bf fe, wT cI (b 1) (N + 1) (nF oo), wS cI d (a 0) (a 2) (a 1) N rx nn bg fx, wT cI (d 1) (N + 1) (nF ox), wA cI cZ a c fr tt sa tk, wI cI cZ i op sl oi nd lp tl, wG cI g go gt]) (fun r (u : uT × uT) => r = loR N go gt x ∧ ((loB N go gt x = true → rowsOK (loC N c go gt x x.toNatClampNeg) (loF N go gt x sa (fun _ => 1)) (loF N go gt x fr (loV N go)) (loF N go gt x tt gt) u.1.1 u.1.2.1 ∧ rowsOK (loC N c go gt x x.toNatClampNeg) (loF N go gt x sa (fun _ => 1)) (loF N go gt x tt gt) (loF N go gt x fr (loV N go)) u.2.1 u.2.2.1) ∧ (loB N go gt x = false → u = ((oo, rw, nm, bf, fe), (ox, rx, nn, bg, fx))))) (fun (u : uT × uT) => [wO o (a 0) (b 0) (d 0) (i 0) (g 0) N (loC N tn go gt x 0), wT cI (o 1) 160 tr, wT cI (o 2) N sp, wU cL (o 3) N wh, wU cL (o 4) N ow, wS cI b (a 0) (a 1) (a 2) N u.1.2.1 u.1.2.2.1 u.1.2.2.2.1 u.1.2.2.2.2, wT cI (b 1) (N + 1) (nF u.1.1), wS cI d (a 0) (a 2) (a 1) N u.2.2.1 u.2.2.2.1 u.2.2.2.2.1 u.2.2.2.2.2, wT cI (d 1) (N + 1) (nF u.2.1), wA cI cZ a (loC N c go gt x x.toNatClampNeg) (loF N go gt x fr (loV N go)) (loF N go gt x tt gt) (loF N go gt x sa (fun _ => 1)) (loF N go gt x tk (fun _ => 0)), wI cI cZ i op (loS N go gt x sl) oi nd lp tl, wG cI g go gt]) := by
  refine q_ofW (Qc := fun A => (va_Qi (fun r (u : uT × uT) => r = loR N go gt x ∧ ((loB N go gt x = true → rowsOK (loC N c go gt x x.toNatClampNeg) (loF N go gt x sa (fun _ => 1)) (loF N go gt x fr (loV N go)) (loF N go gt x tt gt) u.1.1 u.1.2.1 ∧ rowsOK (loC N c go gt x x.toNatClampNeg) (loF N go gt x sa (fun _ => 1)) (loF N go gt x tt gt) (loF N go gt x fr (loV N go)) u.2.1 u.2.2.1) ∧ (loB N go gt x = false → u = ((oo, rw, nm, bf, fe), (ox, rx, nn, bg, fx))))) (fun u t => mAt D (tY cI cZ cL) A ((fun (u : uT × uT) => [wO o (a 0) (b 0) (d 0) (i 0) (g 0) N (loC N tn go gt x 0), wT cI (o 1) 160 tr, wT cI (o 2) N sp, wU cL (o 3) N wh, wU cL (o 4) N ow, wS cI b (a 0) (a 1) (a 2) N u.1.2.1 u.1.2.2.1 u.1.2.2.2.1 u.1.2.2.2.2, wT cI (b 1) (N + 1) (nF u.1.1), wS cI d (a 0) (a 2) (a 1) N u.2.2.1 u.2.2.2.1 u.2.2.2.2.1 u.2.2.2.2.2, wT cI (d 1) (N + 1) (nF u.2.1), wA cI cZ a (loC N c go gt x x.toNatClampNeg) (loF N go gt x fr (loV N go)) (loF N go gt x tt gt) (loF N go gt x sa (fun _ => 1)) (loF N go gt x tk (fun _ => 0)), wI cI cZ i op (loS N go gt x sl) oi nd lp tl, wG cI g go gt]) u) t) A)) (cc := cX4_load) (maxL := 3) (ret := (some .int)) (by decide) rfl (Nat.le_of_ble_eq_true rfl) ?_
  intro pz ez sz mz bz tz cz hx hb hml hr hlocks hts hown hK hP A hD hA ls hl
  have hS : va_S A sz.heap sz.heap [] := va_S.rf
  have hl : lv_has ls 3 [(0, .ref (o 0)), (1, .int x)] := hl
  refine lv_iload_n hx hb dX4_load_0 rfl (lv_at hl 1 rfl) ?_
  refine lv_if_lt (tgt := 11) hx hb dX4_load_1 (by decide) (fun c_1 => ?_) (fun c_1 => ?_)
  ·
    refine lv_bipush (v := (-3)) hx hb dX4_load_11 (by decide) ?_
    exact q_iret (((oo, rw, nm, bf, fe), (ox, rx, nn, bg, fx))) hx hb hr hlocks hK hP hD hS (⟨by simp [loR, c_1], by simp [loB, c_1], fun _ => rfl⟩) (by simp [loC, loF, loS, loB, c_1]) dX4_load_13
  ·
    refine lv_iload_n hx hb dX4_load_4 rfl (lv_at hl 1 rfl) ?_
    refine lv_sipush (v := (160 : Int32)) hx hb dX4_load_5 (by decide) ?_
    refine lv_icmp_le (tgt := 14) hx hb dX4_load_8 (by decide) (fun c_8 => ?_) (fun c_8 => ?_)
    ·
      obtain ⟨m, hm, hxm⟩ := nI_of2 (M := 160) (n := 160) (by decide) c_1 c_8
      have hl : lv_has ls 3 [(0, .ref (o 0)), (1, .int (nI m))] := by rw [← hxm]; exact hl
      have hxc : x.toNatClampNeg = m := by rw [hxm]; exact nI_clamp (by omega)
      refine lv_aload_n hx hb dX4_load_14 rfl (lv_at hl 0 rfl) ?_
      refine q_get (D := D) (ci := 4) (v := .ref (g 0)) (C := RX4) (T := TX4) (N := 11) hx hb hts (by decide +kernel) hown hK hP 0 0 rfl rfl rfl 5 (by decide) (hts (.fieldLink RX4 58 "OffsetRows" "given" "LOffsetRows$Given;") (by decide +kernel)) (fun _ h9 => h9) rfl dX4_load_15 ?_
      refine lv_aload_n hx hb dX4_load_18 rfl (lv_at hl 0 rfl) ?_
      refine q_get (D := D) (ci := 4) (v := .int (nI N)) (C := RX4) (T := TX4) (N := 11) hx hb hts (by decide +kernel) hown hK hP 0 0 rfl rfl rfl 0 (by decide) (hts (.fieldLink RX4 18 "OffsetRows" "nodes" "I") (by decide +kernel)) (fun _ h9 => h9) rfl dX4_load_19 ?_
      refine lv_iload_n hx hb dX4_load_22 rfl (lv_at hl 1 rfl) ?_
      refine q_callVi (index := 195) (n := 2) (As := [.int (nI N), .int (nI m)]) (rest := []) (js := [11]) (ci := 1) ⟨hx, hb, hml, hown, hts⟩ hK hP hD hS hA (k1_firstFault l D cI cZ cL g go gt N m (by omega) (by omega)) rfl (by decide) (fun _ => by simp only [List.map_cons, List.map_nil, wG_fst]) (fun (_ : Unit) => [wO o (a 0) (b 0) (d 0) (i 0) (g 0) N tn, wT cI (o 1) 160 tr, wT cI (o 2) N sp, wU cL (o 3) N wh, wU cL (o 4) N ow, wS cI b (a 0) (a 1) (a 2) N rw nm bf fe, wT cI (b 1) (N + 1) (nF oo), wS cI d (a 0) (a 2) (a 1) N rx nn bg fx, wT cI (d 1) (N + 1) (nF ox), wA cI cZ a c fr tt sa tk, wI cI cZ i op sl oi nd lp tl, wG cI g go gt]) (fun _ => rfl) gX4_load_X1_firstFault rfl (by decide +kernel) rfl ⟨by decide, by decide⟩ rfl rfl rfl rfl hl.1 (Nat.le_of_ble_eq_true rfl) ⟨(Nat.zero_le _), (Nat.zero_le _)⟩ dX4_load_23 rfl (fun r _ H locs hw hP hD hS => ?_)
      have hw : r = jdR N m go gt := hw
      subst hw
      refine lv_istore_n (lv' := [(2, .int (jdR N m go gt)), (0, .ref (o 0)), (1, .int (nI m))]) hx hb dX4_load_26 rfl hl (by decide) rfl (fun ls hl => ?_)
      refine lv_iload_n hx hb dX4_load_27 rfl (lv_at hl 0 rfl) ?_
      refine lv_if_eq (tgt := 33) hx hb dX4_load_28 (by decide) (fun c_28 => ?_) (fun c_28 => ?_)
      ·
        obtain ⟨hj1, hj2⟩ := jdR_0 hN hm c_28
        obtain ⟨g1, g2, g3, g4⟩ := gv_ok hm hj1
        have hgN : go N = nI m := jgR_N (hj1 N (Nat.le_refl N))
        have hlo : loB N go gt x = true := by simp [loB, c_1, c_8, hxc, c_28]
        refine lv_aload_n hx hb dX4_load_33 rfl (lv_at hl 1 rfl) ?_
        refine q_get (D := D) (ci := 4) (v := .ref (g 0)) (C := RX4) (T := TX4) (N := 11) hx hb hts (by decide +kernel) hown hK hP 0 0 rfl rfl rfl 5 (by decide) (hts (.fieldLink RX4 58 "OffsetRows" "given" "LOffsetRows$Given;") (by decide +kernel)) (fun _ h9 => h9) rfl dX4_load_34 ?_
        refine lv_aload_n hx hb dX4_load_37 rfl (lv_at hl 1 rfl) ?_
        refine q_get (D := D) (ci := 4) (v := .ref (a 0)) (C := RX4) (T := TX4) (N := 11) hx hb hts (by decide +kernel) hown hK hP 0 0 rfl rfl rfl 1 (by decide) (hts (.fieldLink RX4 25 "OffsetRows" "arcs" "LOffsetRows$ArcList;") (by decide +kernel)) (fun _ h9 => h9) rfl dX4_load_38 ?_
        refine lv_aload_n hx hb dX4_load_41 rfl (lv_at hl 1 rfl) ?_
        refine q_get (D := D) (ci := 4) (v := .int (nI N)) (C := RX4) (T := TX4) (N := 11) hx hb hts (by decide +kernel) hown hK hP 0 0 rfl rfl rfl 0 (by decide) (hts (.fieldLink RX4 18 "OffsetRows" "nodes" "I") (by decide +kernel)) (fun _ h9 => h9) rfl dX4_load_42 ?_
        refine q_callVv (index := 198) (n := 2) (As := [.ref (a 0), .int (nI N)]) (rest := []) (js := [11, 9]) (ci := 1) ⟨hx, hb, hml, hown, hts⟩ hK hP hD hS hA (k1_fill l D cI cZ cL g go gt a c fr tt sa tk N m (nC go) (by omega) (by omega) g1 g2 g3 g4) rfl (by decide) (fun _ => by simp only [List.map_cons, List.map_nil, wA_fst, wG_fst]) (fun (_ : Unit) => [wO o (a 0) (b 0) (d 0) (i 0) (g 0) N tn, wT cI (o 1) 160 tr, wT cI (o 2) N sp, wU cL (o 3) N wh, wU cL (o 4) N ow, wS cI b (a 0) (a 1) (a 2) N rw nm bf fe, wT cI (b 1) (N + 1) (nF oo), wS cI d (a 0) (a 2) (a 1) N rx nn bg fx, wT cI (d 1) (N + 1) (nF ox), wA cI cZ a m (pfx (loV N go) fr (m)) (pfx gt tt (m)) (pfx (fun _ => 1) sa (m)) (pfx (fun _ => 0) tk (m)), wI cI cZ i op sl oi nd lp tl, wG cI g go gt]) (fun _ => rfl) gX4_load_X1_fill rfl (by decide +kernel) rfl ⟨by decide, by decide⟩ rfl rfl rfl rfl hl.1 (Nat.le_of_ble_eq_true rfl) ⟨(Nat.zero_le _), (Nat.zero_le _)⟩ dX4_load_45 rfl (fun _ H locs hw hP hD hS => ?_)
        refine lv_aload_n hx hb dX4_load_48 rfl (lv_at hl 1 rfl) ?_
        refine q_callVv (index := 101) (n := 0) (As := []) (rest := []) (js := [0, 1, 2, 3, 4, 5, 6, 7, 8, 9, 10, 11]) (ci := 4) ⟨hx, hb, hml, hown, hts⟩ hK hP hD hS hA (k4_buildRows l D cI cZ cL o N tn tr sp wh ow b rw nm bf fe d rx nn bg fx a m (pfx (loV N go) fr (m)) (pfx gt tt (m)) (pfx (fun _ => 1) sa (m)) (pfx (fun _ => 0) tk (m)) i op sl oi nd lp tl g go gt oo ox hm (by omega) (lo_in1 hN hN1 hm hgN) (lo_in2 hN hj2)) rfl (by decide) (fun _ => by simp only [List.map_cons, List.map_nil, wA_fst, wG_fst, wI_fst, wO_fst, wS_fst, wT_fst, wU_fst]) (fun (u_1 : uT × uT) => [wO o (a 0) (b 0) (d 0) (i 0) (g 0) N tn, wT cI (o 1) 160 tr, wT cI (o 2) N sp, wU cL (o 3) N wh, wU cL (o 4) N ow, wS cI b (a 0) (a 1) (a 2) N u_1.1.2.1 u_1.1.2.2.1 u_1.1.2.2.2.1 u_1.1.2.2.2.2, wT cI (b 1) (N + 1) (nF u_1.1.1), wS cI d (a 0) (a 2) (a 1) N u_1.2.2.1 u_1.2.2.2.1 u_1.2.2.2.2.1 u_1.2.2.2.2.2, wT cI (d 1) (N + 1) (nF u_1.2.1), wA cI cZ a m (pfx (loV N go) fr (m)) (pfx gt tt (m)) (pfx (fun _ => 1) sa (m)) (pfx (fun _ => 0) tk (m)), wI cI cZ i op sl oi nd lp tl, wG cI g go gt]) (fun _ => rfl) gX4_load_X4_buildRows rfl (by decide +kernel) rfl ⟨by decide, by decide⟩ rfl rfl rfl rfl hl.1 (Nat.le_of_ble_eq_true rfl) ⟨(Nat.zero_le _), (Nat.zero_le _)⟩ dX4_load_49 rfl (fun u_1 H locs hw hP hD hS => ?_)
        have hpu_49 := hw
        have hP : va_P D vwCl (List.flatten [wO o (a 0) (b 0) (d 0) (i 0) (g 0) N tn, wT cI (o 1) 160 tr, wT cI (o 2) N sp, wU cL (o 3) N wh, wU cL (o 4) N ow, wS cI b (a 0) (a 1) (a 2) N u_1.1.2.1 u_1.1.2.2.1 u_1.1.2.2.2.1 u_1.1.2.2.2.2, wT cI (b 1) (N + 1) (nF u_1.1.1), wS cI d (a 0) (a 2) (a 1) N u_1.2.2.1 u_1.2.2.2.1 u_1.2.2.2.2.1 u_1.2.2.2.2.2, wT cI (d 1) (N + 1) (nF u_1.2.1), wA cI cZ a m (pfx (loV N go) fr (m)) (pfx gt tt (m)) (pfx (fun _ => 1) sa (m)) (pfx (fun _ => 0) tk (m)), wI cI cZ i op sl oi nd lp tl, wG cI g go gt]) _ := hP
        have hD : va_D A (List.flatten [wO o (a 0) (b 0) (d 0) (i 0) (g 0) N tn, wT cI (o 1) 160 tr, wT cI (o 2) N sp, wU cL (o 3) N wh, wU cL (o 4) N ow, wS cI b (a 0) (a 1) (a 2) N u_1.1.2.1 u_1.1.2.2.1 u_1.1.2.2.2.1 u_1.1.2.2.2.2, wT cI (b 1) (N + 1) (nF u_1.1.1), wS cI d (a 0) (a 2) (a 1) N u_1.2.2.1 u_1.2.2.2.1 u_1.2.2.2.2.1 u_1.2.2.2.2.2, wT cI (d 1) (N + 1) (nF u_1.2.1), wA cI cZ a m (pfx (loV N go) fr (m)) (pfx gt tt (m)) (pfx (fun _ => 1) sa (m)) (pfx (fun _ => 0) tk (m)), wI cI cZ i op sl oi nd lp tl, wG cI g go gt]) := hD
        refine lv_aload_n hx hb dX4_load_52 rfl (lv_at hl 1 rfl) ?_
        refine q_get (D := D) (ci := 4) (v := .ref (i 0)) (C := RX4) (T := TX4) (N := 11) hx hb hts (by decide +kernel) hown hK hP 0 0 rfl rfl rfl 4 (by decide) (hts (.fieldLink RX4 51 "OffsetRows" "iterators" "LOffsetRows$Iterators;") (by decide +kernel)) (fun _ h9 => h9) rfl dX4_load_53 ?_
        refine q_callVv (index := 201) (n := 0) (As := []) (rest := []) (js := [10]) (ci := 2) ⟨hx, hb, hml, hown, hts⟩ hK hP hD hS hA (k2_makeStale l D cI cZ cL i op sl oi nd lp tl) rfl (by decide) (fun _ => by simp only [List.map_cons, List.map_nil, wI_fst]) (fun (_ : Unit) => [wO o (a 0) (b 0) (d 0) (i 0) (g 0) N tn, wT cI (o 1) 160 tr, wT cI (o 2) N sp, wU cL (o 3) N wh, wU cL (o 4) N ow, wS cI b (a 0) (a 1) (a 2) N u_1.1.2.1 u_1.1.2.2.1 u_1.1.2.2.2.1 u_1.1.2.2.2.2, wT cI (b 1) (N + 1) (nF u_1.1.1), wS cI d (a 0) (a 2) (a 1) N u_1.2.2.1 u_1.2.2.2.1 u_1.2.2.2.2.1 u_1.2.2.2.2.2, wT cI (d 1) (N + 1) (nF u_1.2.1), wA cI cZ a m (pfx (loV N go) fr (m)) (pfx gt tt (m)) (pfx (fun _ => 1) sa (m)) (pfx (fun _ => 0) tk (m)), wI cI cZ i op (stl sl) oi nd lp tl, wG cI g go gt]) (fun _ => rfl) gX4_load_X2_makeStale rfl (by decide +kernel) rfl ⟨by decide, by decide⟩ rfl rfl rfl rfl hl.1 (Nat.le_of_ble_eq_true rfl) ⟨(Nat.zero_le _), (Nat.zero_le _)⟩ dX4_load_56 rfl (fun _ H locs hw hP hD hS => ?_)
        refine lv_aload_n hx hb dX4_load_59 rfl (lv_at hl 1 rfl) ?_
        refine lv_iconst (v := (0 : Int32)) hx hb dX4_load_60 (by decide) ?_
        refine q_put (D := D) (ci := 4) (v := .int (nI 0)) (ty := .int) (C := RX4) (T := TX4) (N := 11) hx hb hts (by decide +kernel) tyX4 tyX4_ok nmX4 hown hK hP hD hS 0 0 rfl rfl rfl 7 (by decide) (hts (.fieldLink RX4 65 "OffsetRows" "turnedNumbers" "I") (by decide +kernel)) (fun _ h9 => h9) rfl (by decide +kernel) rfl rfl (Nat.le_of_ble_eq_true rfl) dX4_load_61 (wO_s_tn (g9 := 0)) (Fs' := [wO o (a 0) (b 0) (d 0) (i 0) (g 0) N 0, wT cI (o 1) 160 tr, wT cI (o 2) N sp, wU cL (o 3) N wh, wU cL (o 4) N ow, wS cI b (a 0) (a 1) (a 2) N u_1.1.2.1 u_1.1.2.2.1 u_1.1.2.2.2.1 u_1.1.2.2.2.2, wT cI (b 1) (N + 1) (nF u_1.1.1), wS cI d (a 0) (a 2) (a 1) N u_1.2.2.1 u_1.2.2.2.1 u_1.2.2.2.2.1 u_1.2.2.2.2.2, wT cI (d 1) (N + 1) (nF u_1.2.1), wA cI cZ a m (pfx (loV N go) fr (m)) (pfx gt tt (m)) (pfx (fun _ => 1) sa (m)) (pfx (fun _ => 0) tk (m)), wI cI cZ i op (stl sl) oi nd lp tl, wG cI g go gt]) rfl (fun H locs hP hD hS => ?_)
        refine lv_iconst (v := (0 : Int32)) hx hb dX4_load_64 (by decide) ?_
        exact q_iret (u_1) hx hb hr hlocks hK hP hD hS (⟨by simp [loR, c_1, c_8, hxc, c_28], fun _ => by simpa [loC, loF, hlo, hxc] using hpu_49, fun h => by rw [hlo] at h; cases h⟩) (by simp [loC, loF, loS, hlo, hxc]) dX4_load_65
      ·
        refine lv_iload_n hx hb dX4_load_31 rfl (lv_at hl 0 rfl) ?_
        exact q_iret (((oo, rw, nm, bf, fe), (ox, rx, nn, bg, fx))) hx hb hr hlocks hK hP hD hS (⟨by simp [loR, c_1, c_8, hxc, c_28], by simp [loB, c_1, c_8, hxc, c_28], fun _ => rfl⟩) (by simp [loC, loF, loS, loB, c_1, c_8, hxc, c_28]) dX4_load_32
    ·
      refine lv_bipush (v := (-3)) hx hb dX4_load_11 (by decide) ?_
      exact q_iret (((oo, rw, nm, bf, fe), (ox, rx, nn, bg, fx))) hx hb hr hlocks hK hP hD hS (⟨by simp [loR, c_1, c_8], by simp [loB, c_1, c_8], fun _ => rfl⟩) (by simp [loC, loF, loS, loB, c_1, c_8]) dX4_load_13

set_option maxHeartbeats 8000000 in
set_option maxRecDepth 100000 in
theorem k4_about (l : Launch) (D : va_G) (cI cZ cL : ClassId) (o : Nat → Nat) (N : Nat) (tn : Nat) (tr : Nat → Int32) (sp : Nat → Int32) (wh : Nat → Int64) (ow : Nat → Int64) (b : Nat → Nat) (rw : Nat → Int32) (nm : Nat → Int32) (bf : Nat → Int32) (fe : Nat → Int32) (d : Nat → Nat) (rx : Nat → Int32) (nn : Nat → Int32) (bg : Nat → Int32) (fx : Nat → Int32) (a : Nat → Nat) (c : Nat) (fr : Nat → Int32) (tt : Nat → Int32) (sa : Nat → Int32) (tk : Nat → Int32) (i : Nat → Nat) (op : Nat → Int32) (sl : Nat → Int32) (oi : Nat → Int32) (nd : Nat → Int32) (lp : Nat → Int32) (tl : Nat → Int32) (g : Nat → Nat) (go : Nat → Int32) (gt : Nat → Int32) (oo : Nat → Nat) (ox : Nat → Nat) (x : Int32) (hc : c ≤ 160) : McI l D (tY cI cZ cL) yX4_about wsX4_about 3 64 [.ref (o 0), .int x] ([wO o (a 0) (b 0) (d 0) (i 0) (g 0) N tn, wT cI (o 1) 160 tr, wT cI (o 2) N sp, wU cL (o 3) N wh, wU cL (o 4) N ow, wS cI b (a 0) (a 1) (a 2) N rw nm bf fe, wT cI (b 1) (N + 1) (nF oo), wS cI d (a 0) (a 2) (a 1) N rx nn bg fx, wT cI (d 1) (N + 1) (nF ox), wA cI cZ a c fr tt sa tk, wI cI cZ i op sl oi nd lp tl, wG cI g go gt]) (fun r (_ : Unit) => r = abR N c sa tk op x) (fun (_ : Unit) => [wO o (a 0) (b 0) (d 0) (i 0) (g 0) N tn, wT cI (o 1) 160 tr, wT cI (o 2) N sp, wU cL (o 3) N wh, wU cL (o 4) N ow, wS cI b (a 0) (a 1) (a 2) N rw nm bf fe, wT cI (b 1) (N + 1) (nF oo), wS cI d (a 0) (a 2) (a 1) N rx nn bg fx, wT cI (d 1) (N + 1) (nF ox), wA cI cZ a c fr tt sa tk, wI cI cZ i op sl oi nd lp tl, wG cI g go gt]) := by
  refine q_ofW (Qc := fun A => (va_Qi (fun r (_ : Unit) => r = abR N c sa tk op x) (fun u t => mAt D (tY cI cZ cL) A ((fun (_ : Unit) => [wO o (a 0) (b 0) (d 0) (i 0) (g 0) N tn, wT cI (o 1) 160 tr, wT cI (o 2) N sp, wU cL (o 3) N wh, wU cL (o 4) N ow, wS cI b (a 0) (a 1) (a 2) N rw nm bf fe, wT cI (b 1) (N + 1) (nF oo), wS cI d (a 0) (a 2) (a 1) N rx nn bg fx, wT cI (d 1) (N + 1) (nF ox), wA cI cZ a c fr tt sa tk, wI cI cZ i op sl oi nd lp tl, wG cI g go gt]) u) t) A)) (cc := cX4_about) (maxL := 2) (ret := (some .int)) (by decide) rfl (Nat.le_of_ble_eq_true rfl) ?_
  intro pz ez sz mz bz tz cz hx hb hml hr hlocks hts hown hK hP A hD hA ls hl
  have hS : va_S A sz.heap sz.heap [] := va_S.rf
  have hl : lv_has ls 2 [(0, .ref (o 0)), (1, .int x)] := hl
  refine lv_iload_n hx hb dX4_about_0 rfl (lv_at hl 1 rfl) ?_
  rcases sw6 x with h_sw | h_sw | h_sw | h_sw | h_sw | h_sw | h_sw
  ·
    subst h_sw
    refine lv_tableIn (off := 39) (tgt := 40) hx hb dX4_about_1 (by decide) (by decide) rfl (by decide) ?_
    refine lv_aload_n hx hb dX4_about_40 rfl (lv_at hl 0 rfl) ?_
    refine q_get (D := D) (ci := 4) (v := .int (nI N)) (C := RX4) (T := TX4) (N := 11) hx hb hts (by decide +kernel) hown hK hP 0 0 rfl rfl rfl 0 (by decide) (hts (.fieldLink RX4 18 "OffsetRows" "nodes" "I") (by decide +kernel)) (fun _ h9 => h9) rfl dX4_about_41 ?_
    exact q_iret (()) hx hb hr hlocks hK hP hD hS (rfl) (rfl) dX4_about_44
  ·
    subst h_sw
    refine lv_tableIn (off := 44) (tgt := 45) hx hb dX4_about_1 (by decide) (by decide) rfl (by decide) ?_
    refine lv_aload_n hx hb dX4_about_45 rfl (lv_at hl 0 rfl) ?_
    refine q_get (D := D) (ci := 4) (v := .ref (a 0)) (C := RX4) (T := TX4) (N := 11) hx hb hts (by decide +kernel) hown hK hP 0 0 rfl rfl rfl 1 (by decide) (hts (.fieldLink RX4 25 "OffsetRows" "arcs" "LOffsetRows$ArcList;") (by decide +kernel)) (fun _ h9 => h9) rfl dX4_about_46 ?_
    refine q_get (D := D) (ci := 0) (v := .int (nI c)) (C := RX0) (T := TX0) (N := 5) hx hb hts (by decide +kernel) hown hK hP 9 0 rfl rfl rfl 4 (by decide) (hts (.fieldLink RX4 94 "OffsetRows$ArcList" "count" "I") (by decide +kernel)) (fun _ h9 => h9) rfl dX4_about_49 ?_
    exact q_iret (()) hx hb hr hlocks hK hP hD hS (rfl) (rfl) dX4_about_52
  ·
    subst h_sw
    refine lv_tableIn (off := 52) (tgt := 53) hx hb dX4_about_1 (by decide) (by decide) rfl (by decide) ?_
    refine lv_aload_n hx hb dX4_about_53 rfl (lv_at hl 0 rfl) ?_
    refine q_get (D := D) (ci := 4) (v := .ref (a 0)) (C := RX4) (T := TX4) (N := 11) hx hb hts (by decide +kernel) hown hK hP 0 0 rfl rfl rfl 1 (by decide) (hts (.fieldLink RX4 25 "OffsetRows" "arcs" "LOffsetRows$ArcList;") (by decide +kernel)) (fun _ h9 => h9) rfl dX4_about_54 ?_
    refine lv_iconst (v := (1 : Int32)) hx hb dX4_about_57 (by decide) ?_
    refine q_callVi (index := 204) (n := 1) (As := [.int (1 : Int32)]) (rest := []) (js := [9]) (ci := 0) ⟨hx, hb, hml, hown, hts⟩ hK hP hD hS hA (k0_countInState l D cI cZ cL a c fr tt sa tk (1 : Int32) (by omega)) rfl (by decide) (fun _ => by simp only [List.map_cons, List.map_nil, wA_fst]) (fun (_ : Unit) => [wO o (a 0) (b 0) (d 0) (i 0) (g 0) N tn, wT cI (o 1) 160 tr, wT cI (o 2) N sp, wU cL (o 3) N wh, wU cL (o 4) N ow, wS cI b (a 0) (a 1) (a 2) N rw nm bf fe, wT cI (b 1) (N + 1) (nF oo), wS cI d (a 0) (a 2) (a 1) N rx nn bg fx, wT cI (d 1) (N + 1) (nF ox), wA cI cZ a c fr tt sa tk, wI cI cZ i op sl oi nd lp tl, wG cI g go gt]) (fun _ => rfl) gX4_about_X0_countInState rfl (by decide +kernel) rfl ⟨by decide, by decide⟩ rfl rfl rfl rfl hl.1 (Nat.le_of_ble_eq_true rfl) ⟨(Nat.zero_le _), (Nat.zero_le _)⟩ dX4_about_58 rfl (fun r _ H locs hw hP hD hS => ?_)
    have hw : r = nI (cN c (fun a => decide (sa a = (1 : Int32)))) := hw
    subst hw
    exact q_iret (()) hx hb hr hlocks hK hP hD hS (rfl) (rfl) dX4_about_61
  ·
    subst h_sw
    refine lv_tableIn (off := 61) (tgt := 62) hx hb dX4_about_1 (by decide) (by decide) rfl (by decide) ?_
    refine lv_aload_n hx hb dX4_about_62 rfl (lv_at hl 0 rfl) ?_
    refine q_get (D := D) (ci := 4) (v := .ref (a 0)) (C := RX4) (T := TX4) (N := 11) hx hb hts (by decide +kernel) hown hK hP 0 0 rfl rfl rfl 1 (by decide) (hts (.fieldLink RX4 25 "OffsetRows" "arcs" "LOffsetRows$ArcList;") (by decide +kernel)) (fun _ h9 => h9) rfl dX4_about_63 ?_
    refine lv_iconst (v := (0 : Int32)) hx hb dX4_about_66 (by decide) ?_
    refine q_callVi (index := 204) (n := 1) (As := [.int (0 : Int32)]) (rest := []) (js := [9]) (ci := 0) ⟨hx, hb, hml, hown, hts⟩ hK hP hD hS hA (k0_countInState l D cI cZ cL a c fr tt sa tk (0 : Int32) (by omega)) rfl (by decide) (fun _ => by simp only [List.map_cons, List.map_nil, wA_fst]) (fun (_ : Unit) => [wO o (a 0) (b 0) (d 0) (i 0) (g 0) N tn, wT cI (o 1) 160 tr, wT cI (o 2) N sp, wU cL (o 3) N wh, wU cL (o 4) N ow, wS cI b (a 0) (a 1) (a 2) N rw nm bf fe, wT cI (b 1) (N + 1) (nF oo), wS cI d (a 0) (a 2) (a 1) N rx nn bg fx, wT cI (d 1) (N + 1) (nF ox), wA cI cZ a c fr tt sa tk, wI cI cZ i op sl oi nd lp tl, wG cI g go gt]) (fun _ => rfl) gX4_about_X0_countInState rfl (by decide +kernel) rfl ⟨by decide, by decide⟩ rfl rfl rfl rfl hl.1 (Nat.le_of_ble_eq_true rfl) ⟨(Nat.zero_le _), (Nat.zero_le _)⟩ dX4_about_67 rfl (fun r _ H locs hw hP hD hS => ?_)
    have hw : r = nI (cN c (fun a => decide (sa a = (0 : Int32)))) := hw
    subst hw
    exact q_iret (()) hx hb hr hlocks hK hP hD hS (rfl) (rfl) dX4_about_70
  ·
    subst h_sw
    refine lv_tableIn (off := 70) (tgt := 71) hx hb dX4_about_1 (by decide) (by decide) rfl (by decide) ?_
    refine lv_aload_n hx hb dX4_about_71 rfl (lv_at hl 0 rfl) ?_
    refine q_get (D := D) (ci := 4) (v := .ref (a 0)) (C := RX4) (T := TX4) (N := 11) hx hb hts (by decide +kernel) hown hK hP 0 0 rfl rfl rfl 1 (by decide) (hts (.fieldLink RX4 25 "OffsetRows" "arcs" "LOffsetRows$ArcList;") (by decide +kernel)) (fun _ h9 => h9) rfl dX4_about_72 ?_
    refine q_callVi (index := 207) (n := 0) (As := []) (rest := []) (js := [9]) (ci := 0) ⟨hx, hb, hml, hown, hts⟩ hK hP hD hS hA (k0_countLive l D cI cZ cL a c fr tt sa tk (by omega)) rfl (by decide) (fun _ => by simp only [List.map_cons, List.map_nil, wA_fst]) (fun (_ : Unit) => [wO o (a 0) (b 0) (d 0) (i 0) (g 0) N tn, wT cI (o 1) 160 tr, wT cI (o 2) N sp, wU cL (o 3) N wh, wU cL (o 4) N ow, wS cI b (a 0) (a 1) (a 2) N rw nm bf fe, wT cI (b 1) (N + 1) (nF oo), wS cI d (a 0) (a 2) (a 1) N rx nn bg fx, wT cI (d 1) (N + 1) (nF ox), wA cI cZ a c fr tt sa tk, wI cI cZ i op sl oi nd lp tl, wG cI g go gt]) (fun _ => rfl) gX4_about_X0_countLive rfl (by decide +kernel) rfl ⟨by decide, by decide⟩ rfl rfl rfl rfl hl.1 (Nat.le_of_ble_eq_true rfl) ⟨(Nat.zero_le _), (Nat.zero_le _)⟩ dX4_about_75 rfl (fun r _ H locs hw hP hD hS => ?_)
    have hw : r = nI (cN c (fun a => lvB sa tk a)) := hw
    subst hw
    exact q_iret (()) hx hb hr hlocks hK hP hD hS (rfl) (rfl) dX4_about_78
  ·
    subst h_sw
    refine lv_tableIn (off := 78) (tgt := 79) hx hb dX4_about_1 (by decide) (by decide) rfl (by decide) ?_
    refine lv_aload_n hx hb dX4_about_79 rfl (lv_at hl 0 rfl) ?_
    refine q_get (D := D) (ci := 4) (v := .ref (i 0)) (C := RX4) (T := TX4) (N := 11) hx hb hts (by decide +kernel) hown hK hP 0 0 rfl rfl rfl 4 (by decide) (hts (.fieldLink RX4 51 "OffsetRows" "iterators" "LOffsetRows$Iterators;") (by decide +kernel)) (fun _ h9 => h9) rfl dX4_about_80 ?_
    refine q_callVi (index := 209) (n := 0) (As := []) (rest := []) (js := [10]) (ci := 2) ⟨hx, hb, hml, hown, hts⟩ hK hP hD hS hA (k2_countOpen l D cI cZ cL i op sl oi nd lp tl) rfl (by decide) (fun _ => by simp only [List.map_cons, List.map_nil, wI_fst]) (fun (_ : Unit) => [wO o (a 0) (b 0) (d 0) (i 0) (g 0) N tn, wT cI (o 1) 160 tr, wT cI (o 2) N sp, wU cL (o 3) N wh, wU cL (o 4) N ow, wS cI b (a 0) (a 1) (a 2) N rw nm bf fe, wT cI (b 1) (N + 1) (nF oo), wS cI d (a 0) (a 2) (a 1) N rx nn bg fx, wT cI (d 1) (N + 1) (nF ox), wA cI cZ a c fr tt sa tk, wI cI cZ i op sl oi nd lp tl, wG cI g go gt]) (fun _ => rfl) gX4_about_X2_countOpen rfl (by decide +kernel) rfl ⟨by decide, by decide⟩ rfl rfl rfl rfl hl.1 (Nat.le_of_ble_eq_true rfl) ⟨(Nat.zero_le _), (Nat.zero_le _)⟩ dX4_about_83 rfl (fun r _ H locs hw hP hD hS => ?_)
    have hw : r = nI (cN 8 (opC op)) := hw
    subst hw
    exact q_iret (()) hx hb hr hlocks hK hP hD hS (rfl) (rfl) dX4_about_86
  ·
    have h_0 : ¬ x = 0 := by intro h9; subst h9; revert h_sw; decide
    have h_1 : ¬ x = 1 := by intro h9; subst h9; revert h_sw; decide
    have h_2 : ¬ x = 2 := by intro h9; subst h9; revert h_sw; decide
    have h_3 : ¬ x = 3 := by intro h9; subst h9; revert h_sw; decide
    have h_4 : ¬ x = 4 := by intro h9; subst h9; revert h_sw; decide
    have h_5 : ¬ x = 5 := by intro h9; subst h9; revert h_sw; decide
    refine lv_tableOut (tgt := 87) hx hb dX4_about_1 h_sw (by decide) ?_
    refine lv_bipush (v := (-3)) hx hb dX4_about_87 (by decide) ?_
    exact q_iret (()) hx hb hr hlocks hK hP hD hS (by rw [abR, if_neg h_0, if_neg h_1, if_neg h_5]; exact ab_def h_sw) (rfl) dX4_about_89

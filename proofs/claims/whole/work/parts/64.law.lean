set_option maxHeartbeats 8000000 in
set_option maxRecDepth 100000 in
theorem law_arc {pz : Program} {l : Launch} {ez : Env} {sz : State} {mz : MethodId} {args : Array Value} {bz : List Frame} {tz : Method} {cz : Code} {H : Heap} {locs : List Loc} {cells slots : Nat} {Q : State → Prop} {ls : Array Slot} {bs L : Nat} {xs : Nat → Int32} {D : va_G} {cI cZ cL : ClassId} {A : Nat → Prop} {o b d a i g q : Nat → Nat} {t1 n : Nat} (X : lwC pz l sz mz args cz bs L xs D cI cZ cL A) (hn : n + 3 < L) (hc9 : cells + 1 ≤ room_1.cells) (hs9 : slots + 6 ≤ room_1.slots) (hl : lv_has ls 7 [(0, .ref bs), (1, .ref (o 0)), (2, .ref (q 0)), (3, .ref t1), (4, .int (nI n))]) (hat : lwI D cI cZ cL A sz.heap o b d a i g q t1 H locs) (kk : ∀ (H : Heap) (locs : List Loc) (ls : Array Slot), lwI D cI cZ cL A sz.heap o b d a i g q t1 H locs → lv_has ls 7 [(0, .ref bs), (1, .ref (o 0)), (2, .ref (q 0)), (3, .ref t1), (4, .int (nI n))] → W pz l ez room_1 sz mz args bz tz cz H locs (cells + 1) (slots + 6) Q (F0 mz 972 ls [])) : W pz l ez room_1 sz mz args bz tz cz H locs cells slots Q (F0 mz 148 ls []) := by
  obtain ⟨hx, hb, hml, hown, hts, hXs, hbl, hbA, hA, hK, hX, hst, hL⟩ := X
  obtain ⟨N, tn, tr, sp, wh, ow, rw, nm, bf, fe, rx, nn, bg, fx, c, fr, tt, sa, tk, op, sl, oi, nd, lp, tl, go, gt, oo, ox, th, il, fa, mn, nx, f9, hInv, h8, hP, hD, hS⟩ := hat
  obtain ⟨⟨hN1, hN⟩, hc, htn, hfr, htt, hsa, hlt, htk, hR, hR2, hI⟩ := id hInv
  have hcc : cells ≤ room_1.cells := Nat.le_of_succ_le hc9
  have hss : slots ≤ room_1.slots := Nat.le_trans (Nat.le_add_right _ 6) hs9
  refine lv_aload_n hx hb dL_law_148 rfl (lv_at hl 1 rfl) ?_
  refine lv_aload_n hx hb dL_law_149 rfl (lv_at hl 0 rfl) ?_
  refine lv_iload hx hb dL_law_150 (lv_at hl 4 rfl) ?_
  refine lv_iconst (v := (1 : Int32)) hx hb dL_law_152 (by decide) ?_
  refine q_iadd (z := nI (n + 1)) hx hb dL_law_153 (nI_add n 1) ?_
  refine q_sld hx hb hXs hbl hbA hS (k := n + 1) (by omega) hL dL_law_154 ?_
  refine lv_aload_n hx hb dL_law_155 rfl (lv_at hl 0 rfl) ?_
  refine lv_iload hx hb dL_law_156 (lv_at hl 4 rfl) ?_
  refine lv_iconst (v := (2 : Int32)) hx hb dL_law_158 (by decide) ?_
  refine q_iadd (z := nI (n + 2)) hx hb dL_law_159 (nI_add n 2) ?_
  refine q_sld hx hb hXs hbl hbA hS (k := n + 2) (by omega) hL dL_law_160 ?_
  refine q_callVi (index := 30) (n := 2) (As := [.int (xs (n + 1)), .int (xs (n + 2))]) (rest := []) (js := [0, 1, 2, 3, 4, 5, 6, 7, 8, 9, 10, 11]) (ci := 4) ⟨hx, hb, hml, hown, hts⟩ hK hP hD hS hA (k4_arc l D cI cZ cL o N tn tr sp wh ow b rw nm bf fe d rx nn bg fx a c fr tt sa tk i op sl oi nd lp tl g go gt oo ox (xs (n + 1)) (xs (n + 2)) (by omega)) rfl (by decide) (fun _ => by simp only [List.map_cons, List.map_nil, wA_fst, wG_fst, wI_fst, wO_fst, wS_fst, wT_fst, wU_fst]) (fun (_ : Unit) => [wO o (a 0) (b 0) (d 0) (i 0) (g 0) N tn, wT cI (o 1) 160 tr, wT cI (o 2) N sp, wU cL (o 3) N wh, wU cL (o 4) N ow, wS cI b (a 0) (a 1) (a 2) N rw nm bf fe, wT cI (b 1) (N + 1) (nF oo), wS cI d (a 0) (a 2) (a 1) N rx nn bg fx, wT cI (d 1) (N + 1) (nF ox), wA cI cZ a (arC N c (xs (n + 1)) (xs (n + 2))) (arF N c (xs (n + 1)) (xs (n + 2)) fr (xs (n + 1))) (arF N c (xs (n + 1)) (xs (n + 2)) tt (xs (n + 2))) (arF N c (xs (n + 1)) (xs (n + 2)) sa 0) (arF N c (xs (n + 1)) (xs (n + 2)) tk 0), wI cI cZ i op sl oi nd lp tl, wG cI g go gt, wM cI cZ cL q th N c fr tt sa tk tn tr op sl nd oi il tl go gt fa mn nx, wU cL t1 1 f9]) (fun _ => rfl) gL_law_X4_arc rfl (by decide +kernel) rfl ⟨by decide, by decide⟩ rfl rfl rfl rfl hl.1 (Nat.le_of_ble_eq_true rfl) ⟨(by assumption), (by assumption)⟩ dL_law_161 rfl (fun r _ H locs hw hP hD hS => ?_)
  have hw : r = arR N c (xs (n + 1)) (xs (n + 2)) := hw
  subst hw
  refine lv_aload_n hx hb dL_law_164 rfl (lv_at hl 2 rfl) ?_
  refine lv_aload_n hx hb dL_law_165 rfl (lv_at hl 0 rfl) ?_
  refine lv_iload hx hb dL_law_166 (lv_at hl 4 rfl) ?_
  refine lv_iconst (v := (1 : Int32)) hx hb dL_law_168 (by decide) ?_
  refine q_iadd (z := nI (n + 1)) hx hb dL_law_169 (nI_add n 1) ?_
  refine q_sld hx hb hXs hbl hbA hS (k := n + 1) (by omega) hL dL_law_170 ?_
  refine lv_aload_n hx hb dL_law_171 rfl (lv_at hl 0 rfl) ?_
  refine lv_iload hx hb dL_law_172 (lv_at hl 4 rfl) ?_
  refine lv_iconst (v := (2 : Int32)) hx hb dL_law_174 (by decide) ?_
  refine q_iadd (z := nI (n + 2)) hx hb dL_law_175 (nI_add n 2) ?_
  refine q_sld hx hb hXs hbl hbA hS (k := n + 2) (by omega) hL dL_law_176 ?_
  refine q_callVi (index := 33) (n := 2) (As := [.int (xs (n + 1)), .int (xs (n + 2))]) (rest := [.int (arR N c (xs (n + 1)) (xs (n + 2)))]) (js := [12]) (ci := 5) ⟨hx, hb, hml, hown, hts⟩ hK hP hD hS hA (k5_arc l D cI cZ cL q th N c fr tt sa tk tn tr op sl nd oi il tl go gt fa mn nx (xs (n + 1)) (xs (n + 2)) (by omega)) rfl (by decide) (fun _ => by simp only [List.map_cons, List.map_nil, wM_fst]) (fun (_ : Unit) => [wO o (a 0) (b 0) (d 0) (i 0) (g 0) N tn, wT cI (o 1) 160 tr, wT cI (o 2) N sp, wU cL (o 3) N wh, wU cL (o 4) N ow, wS cI b (a 0) (a 1) (a 2) N rw nm bf fe, wT cI (b 1) (N + 1) (nF oo), wS cI d (a 0) (a 2) (a 1) N rx nn bg fx, wT cI (d 1) (N + 1) (nF ox), wA cI cZ a (arC N c (xs (n + 1)) (xs (n + 2))) (arF N c (xs (n + 1)) (xs (n + 2)) fr (xs (n + 1))) (arF N c (xs (n + 1)) (xs (n + 2)) tt (xs (n + 2))) (arF N c (xs (n + 1)) (xs (n + 2)) sa 0) (arF N c (xs (n + 1)) (xs (n + 2)) tk 0), wI cI cZ i op sl oi nd lp tl, wG cI g go gt, wM cI cZ cL q 0 N (arC N c (xs (n + 1)) (xs (n + 2))) (arF N c (xs (n + 1)) (xs (n + 2)) fr (xs (n + 1))) (arF N c (xs (n + 1)) (xs (n + 2)) tt (xs (n + 2))) (arF N c (xs (n + 1)) (xs (n + 2)) sa 0) (arF N c (xs (n + 1)) (xs (n + 2)) tk 0) tn tr op sl nd oi il tl go gt fa mn nx, wU cL t1 1 f9]) (fun _ => rfl) gL_law_X5_arc rfl (by decide +kernel) rfl ⟨by decide, by decide⟩ rfl rfl rfl rfl hl.1 (Nat.le_of_ble_eq_true rfl) ⟨(by assumption), (by assumption)⟩ dL_law_177 rfl (fun r _ H locs hw hP hD hS => ?_)
  have hw : r = arR N c (xs (n + 1)) (xs (n + 2)) := hw
  subst hw
  refine lv_icmp_eq (tgt := 972) hx hb dL_law_180 (by decide) (fun c_180 => ?_) (fun c_180 => ?_)
  ·
    refine W.widen (k := cells + 1) (n := slots + 6) (Nat.le_add_right _ _) (Nat.le_add_right _ _) ?_
    exact kk _ _ _ ⟨_, _, _, _, _, _, _, _, _, _, _, _, _, _, _, _, _, _, _, _, _, _, _, _, _, _, _, _, _, _, _, _, _, _, _, E_arc hInv (xs (n + 1)) (xs (n + 2)), h8, hP, hD, hS⟩ (lv_sub hl [0, 1, 2, 3, 4] rfl)
  ·
    exact absurd rfl c_180

set_option maxHeartbeats 8000000 in
set_option maxRecDepth 100000 in
theorem law_take {pz : Program} {l : Launch} {ez : Env} {sz : State} {mz : MethodId} {args : Array Value} {bz : List Frame} {tz : Method} {cz : Code} {H : Heap} {locs : List Loc} {cells slots : Nat} {Q : State → Prop} {ls : Array Slot} {bs L : Nat} {xs : Nat → Int32} {D : va_G} {cI cZ cL : ClassId} {A : Nat → Prop} {o b d a i g q : Nat → Nat} {t1 n : Nat} (X : lwC pz l sz mz args cz bs L xs D cI cZ cL A) (hn : n + 3 < L) (hc9 : cells + 1 ≤ room_1.cells) (hs9 : slots + 6 ≤ room_1.slots) (hl : lv_has ls 7 [(0, .ref bs), (1, .ref (o 0)), (2, .ref (q 0)), (3, .ref t1), (4, .int (nI n))]) (hat : lwI D cI cZ cL A sz.heap o b d a i g q t1 H locs) (kk : ∀ (H : Heap) (locs : List Loc) (ls : Array Slot), lwI D cI cZ cL A sz.heap o b d a i g q t1 H locs → lv_has ls 7 [(0, .ref bs), (1, .ref (o 0)), (2, .ref (q 0)), (3, .ref t1), (4, .int (nI n))] → W pz l ez room_1 sz mz args bz tz cz H locs (cells + 1) (slots + 6) Q (F0 mz 972 ls [])) : W pz l ez room_1 sz mz args bz tz cz H locs cells slots Q (F0 mz 185 ls []) := by
  obtain ⟨hx, hb, hml, hown, hts, hXs, hbl, hbA, hA, hK, hX, hst, hL⟩ := X
  obtain ⟨N, tn, tr, sp, wh, ow, rw, nm, bf, fe, rx, nn, bg, fx, c, fr, tt, sa, tk, op, sl, oi, nd, lp, tl, go, gt, oo, ox, th, il, fa, mn, nx, f9, hInv, h8, hP, hD, hS⟩ := hat
  obtain ⟨⟨hN1, hN⟩, hc, htn, hfr, htt, hsa, hlt, htk, hR, hR2, hI⟩ := id hInv
  have hcc : cells ≤ room_1.cells := Nat.le_of_succ_le hc9
  have hss : slots ≤ room_1.slots := Nat.le_trans (Nat.le_add_right _ 6) hs9
  refine lv_aload_n hx hb dL_law_185 rfl (lv_at hl 1 rfl) ?_
  refine lv_aload_n hx hb dL_law_186 rfl (lv_at hl 0 rfl) ?_
  refine lv_iload hx hb dL_law_187 (lv_at hl 4 rfl) ?_
  refine lv_iconst (v := (1 : Int32)) hx hb dL_law_189 (by decide) ?_
  refine q_iadd (z := nI (n + 1)) hx hb dL_law_190 (nI_add n 1) ?_
  refine q_sld hx hb hXs hbl hbA hS (k := n + 1) (by omega) hL dL_law_191 ?_
  refine q_callVi (index := 34) (n := 1) (As := [.int (xs (n + 1))]) (rest := []) (js := [0, 1, 2, 3, 4, 5, 6, 7, 8, 9, 10, 11]) (ci := 4) ⟨hx, hb, hml, hown, hts⟩ hK hP hD hS hA (k4_take l D cI cZ cL o N tn tr sp wh ow b rw nm bf fe d rx nn bg fx a c fr tt sa tk i op sl oi nd lp tl g go gt oo ox (xs (n + 1)) (by omega)) rfl (by decide) (fun _ => by simp only [List.map_cons, List.map_nil, wA_fst, wG_fst, wI_fst, wO_fst, wS_fst, wT_fst, wU_fst]) (fun (_ : Unit) => [wO o (a 0) (b 0) (d 0) (i 0) (g 0) N tn, wT cI (o 1) 160 tr, wT cI (o 2) N sp, wU cL (o 3) N wh, wU cL (o 4) N ow, wS cI b (a 0) (a 1) (a 2) N rw nm bf fe, wT cI (b 1) (N + 1) (nF oo), wS cI d (a 0) (a 2) (a 1) N rx nn bg fx, wT cI (d 1) (N + 1) (nF ox), wA cI cZ a c fr tt sa (mkF c sa tk (xs (n + 1)) 1), wI cI cZ i op sl oi nd lp tl, wG cI g go gt, wM cI cZ cL q th N c fr tt sa tk tn tr op sl nd oi il tl go gt fa mn nx, wU cL t1 1 f9]) (fun _ => rfl) gL_law_X4_take rfl (by decide +kernel) rfl ⟨by decide, by decide⟩ rfl rfl rfl rfl hl.1 (Nat.le_of_ble_eq_true rfl) ⟨(by assumption), (by assumption)⟩ dL_law_192 rfl (fun r _ H locs hw hP hD hS => ?_)
  have hw : r = mkR c sa tk (xs (n + 1)) 1 := hw
  subst hw
  have hP : va_P D vwCl (List.flatten [wO o (a 0) (b 0) (d 0) (i 0) (g 0) N tn, wT cI (o 1) 160 tr, wT cI (o 2) N sp, wU cL (o 3) N wh, wU cL (o 4) N ow, wS cI b (a 0) (a 1) (a 2) N rw nm bf fe, wT cI (b 1) (N + 1) (nF oo), wS cI d (a 0) (a 2) (a 1) N rx nn bg fx, wT cI (d 1) (N + 1) (nF ox), wA cI cZ a c fr tt sa (mtF c sa tk (xs (n + 1)) 1), wI cI cZ i op sl oi nd lp tl, wG cI g go gt, wM cI cZ cL q th N c fr tt sa tk tn tr op sl nd oi il tl go gt fa mn nx, wU cL t1 1 f9]) _ := wCast hP (by rw [(E_mark hInv (xs (n + 1)) 1 (Or.inr rfl)).2.1])
  have hD : va_D A (List.flatten [wO o (a 0) (b 0) (d 0) (i 0) (g 0) N tn, wT cI (o 1) 160 tr, wT cI (o 2) N sp, wU cL (o 3) N wh, wU cL (o 4) N ow, wS cI b (a 0) (a 1) (a 2) N rw nm bf fe, wT cI (b 1) (N + 1) (nF oo), wS cI d (a 0) (a 2) (a 1) N rx nn bg fx, wT cI (d 1) (N + 1) (nF ox), wA cI cZ a c fr tt sa (mtF c sa tk (xs (n + 1)) 1), wI cI cZ i op sl oi nd lp tl, wG cI g go gt, wM cI cZ cL q th N c fr tt sa tk tn tr op sl nd oi il tl go gt fa mn nx, wU cL t1 1 f9]) := dCast hD (by rw [(E_mark hInv (xs (n + 1)) 1 (Or.inr rfl)).2.1])
  refine lv_aload_n hx hb dL_law_195 rfl (lv_at hl 2 rfl) ?_
  refine lv_aload_n hx hb dL_law_196 rfl (lv_at hl 0 rfl) ?_
  refine lv_iload hx hb dL_law_197 (lv_at hl 4 rfl) ?_
  refine lv_iconst (v := (1 : Int32)) hx hb dL_law_199 (by decide) ?_
  refine q_iadd (z := nI (n + 1)) hx hb dL_law_200 (nI_add n 1) ?_
  refine q_sld hx hb hXs hbl hbA hS (k := n + 1) (by omega) hL dL_law_201 ?_
  refine q_callVi (index := 38) (n := 1) (As := [.int (xs (n + 1))]) (rest := [.int (mkR c sa tk (xs (n + 1)) 1)]) (js := [12]) (ci := 5) ⟨hx, hb, hml, hown, hts⟩ hK hP hD hS hA (k5_take l D cI cZ cL q th N c fr tt sa tk tn tr op sl nd oi il tl go gt fa mn nx (xs (n + 1)) (by omega)) rfl (by decide) (fun _ => by simp only [List.map_cons, List.map_nil, wM_fst]) (fun (_ : Unit) => [wO o (a 0) (b 0) (d 0) (i 0) (g 0) N tn, wT cI (o 1) 160 tr, wT cI (o 2) N sp, wU cL (o 3) N wh, wU cL (o 4) N ow, wS cI b (a 0) (a 1) (a 2) N rw nm bf fe, wT cI (b 1) (N + 1) (nF oo), wS cI d (a 0) (a 2) (a 1) N rx nn bg fx, wT cI (d 1) (N + 1) (nF ox), wA cI cZ a c fr tt sa (mtF c sa tk (xs (n + 1)) 1), wI cI cZ i op sl oi nd lp tl, wG cI g go gt, wM cI cZ cL q 0 N c fr tt sa (mtF c sa tk (xs (n + 1)) 1) tn tr op sl nd oi il tl go gt fa mn nx, wU cL t1 1 f9]) (fun _ => rfl) gL_law_X5_take rfl (by decide +kernel) rfl ⟨by decide, by decide⟩ rfl rfl rfl rfl hl.1 (Nat.le_of_ble_eq_true rfl) ⟨(by assumption), (by assumption)⟩ dL_law_202 rfl (fun r _ H locs hw hP hD hS => ?_)
  have hw : r = mtR c sa tk (xs (n + 1)) 1 := hw
  subst hw
  refine lv_icmp_eq (tgt := 972) hx hb dL_law_205 (by decide) (fun c_205 => ?_) (fun c_205 => ?_)
  ·
    refine W.widen (k := cells + 1) (n := slots + 6) (Nat.le_add_right _ _) (Nat.le_add_right _ _) ?_
    exact kk _ _ _ ⟨_, _, _, _, _, _, _, _, _, _, _, _, _, _, _, _, _, _, _, _, _, _, _, _, _, _, _, _, _, _, _, _, _, _, _, (E_mark hInv (xs (n + 1)) 1 (Or.inr rfl)).2.2, h8, hP, hD, hS⟩ (lv_sub hl [0, 1, 2, 3, 4] rfl)
  ·
    exact absurd ((E_mark hInv (xs (n + 1)) 1 (Or.inr rfl)).1) c_205

set_option maxHeartbeats 8000000 in
set_option maxRecDepth 100000 in
theorem law_untake {pz : Program} {l : Launch} {ez : Env} {sz : State} {mz : MethodId} {args : Array Value} {bz : List Frame} {tz : Method} {cz : Code} {H : Heap} {locs : List Loc} {cells slots : Nat} {Q : State → Prop} {ls : Array Slot} {bs L : Nat} {xs : Nat → Int32} {D : va_G} {cI cZ cL : ClassId} {A : Nat → Prop} {o b d a i g q : Nat → Nat} {t1 n : Nat} (X : lwC pz l sz mz args cz bs L xs D cI cZ cL A) (hn : n + 3 < L) (hc9 : cells + 1 ≤ room_1.cells) (hs9 : slots + 6 ≤ room_1.slots) (hl : lv_has ls 7 [(0, .ref bs), (1, .ref (o 0)), (2, .ref (q 0)), (3, .ref t1), (4, .int (nI n))]) (hat : lwI D cI cZ cL A sz.heap o b d a i g q t1 H locs) (kk : ∀ (H : Heap) (locs : List Loc) (ls : Array Slot), lwI D cI cZ cL A sz.heap o b d a i g q t1 H locs → lv_has ls 7 [(0, .ref bs), (1, .ref (o 0)), (2, .ref (q 0)), (3, .ref t1), (4, .int (nI n))] → W pz l ez room_1 sz mz args bz tz cz H locs (cells + 1) (slots + 6) Q (F0 mz 972 ls [])) : W pz l ez room_1 sz mz args bz tz cz H locs cells slots Q (F0 mz 210 ls []) := by
  obtain ⟨hx, hb, hml, hown, hts, hXs, hbl, hbA, hA, hK, hX, hst, hL⟩ := X
  obtain ⟨N, tn, tr, sp, wh, ow, rw, nm, bf, fe, rx, nn, bg, fx, c, fr, tt, sa, tk, op, sl, oi, nd, lp, tl, go, gt, oo, ox, th, il, fa, mn, nx, f9, hInv, h8, hP, hD, hS⟩ := hat
  obtain ⟨⟨hN1, hN⟩, hc, htn, hfr, htt, hsa, hlt, htk, hR, hR2, hI⟩ := id hInv
  have hcc : cells ≤ room_1.cells := Nat.le_of_succ_le hc9
  have hss : slots ≤ room_1.slots := Nat.le_trans (Nat.le_add_right _ 6) hs9
  refine lv_aload_n hx hb dL_law_210 rfl (lv_at hl 1 rfl) ?_
  refine lv_aload_n hx hb dL_law_211 rfl (lv_at hl 0 rfl) ?_
  refine lv_iload hx hb dL_law_212 (lv_at hl 4 rfl) ?_
  refine lv_iconst (v := (1 : Int32)) hx hb dL_law_214 (by decide) ?_
  refine q_iadd (z := nI (n + 1)) hx hb dL_law_215 (nI_add n 1) ?_
  refine q_sld hx hb hXs hbl hbA hS (k := n + 1) (by omega) hL dL_law_216 ?_
  refine q_callVi (index := 39) (n := 1) (As := [.int (xs (n + 1))]) (rest := []) (js := [0, 1, 2, 3, 4, 5, 6, 7, 8, 9, 10, 11]) (ci := 4) ⟨hx, hb, hml, hown, hts⟩ hK hP hD hS hA (k4_untake l D cI cZ cL o N tn tr sp wh ow b rw nm bf fe d rx nn bg fx a c fr tt sa tk i op sl oi nd lp tl g go gt oo ox (xs (n + 1)) (by omega)) rfl (by decide) (fun _ => by simp only [List.map_cons, List.map_nil, wA_fst, wG_fst, wI_fst, wO_fst, wS_fst, wT_fst, wU_fst]) (fun (_ : Unit) => [wO o (a 0) (b 0) (d 0) (i 0) (g 0) N tn, wT cI (o 1) 160 tr, wT cI (o 2) N sp, wU cL (o 3) N wh, wU cL (o 4) N ow, wS cI b (a 0) (a 1) (a 2) N rw nm bf fe, wT cI (b 1) (N + 1) (nF oo), wS cI d (a 0) (a 2) (a 1) N rx nn bg fx, wT cI (d 1) (N + 1) (nF ox), wA cI cZ a c fr tt sa (mkF c sa tk (xs (n + 1)) 0), wI cI cZ i op sl oi nd lp tl, wG cI g go gt, wM cI cZ cL q th N c fr tt sa tk tn tr op sl nd oi il tl go gt fa mn nx, wU cL t1 1 f9]) (fun _ => rfl) gL_law_X4_untake rfl (by decide +kernel) rfl ⟨by decide, by decide⟩ rfl rfl rfl rfl hl.1 (Nat.le_of_ble_eq_true rfl) ⟨(by assumption), (by assumption)⟩ dL_law_217 rfl (fun r _ H locs hw hP hD hS => ?_)
  have hw : r = mkR c sa tk (xs (n + 1)) 0 := hw
  subst hw
  have hP : va_P D vwCl (List.flatten [wO o (a 0) (b 0) (d 0) (i 0) (g 0) N tn, wT cI (o 1) 160 tr, wT cI (o 2) N sp, wU cL (o 3) N wh, wU cL (o 4) N ow, wS cI b (a 0) (a 1) (a 2) N rw nm bf fe, wT cI (b 1) (N + 1) (nF oo), wS cI d (a 0) (a 2) (a 1) N rx nn bg fx, wT cI (d 1) (N + 1) (nF ox), wA cI cZ a c fr tt sa (mtF c sa tk (xs (n + 1)) 0), wI cI cZ i op sl oi nd lp tl, wG cI g go gt, wM cI cZ cL q th N c fr tt sa tk tn tr op sl nd oi il tl go gt fa mn nx, wU cL t1 1 f9]) _ := wCast hP (by rw [(E_mark hInv (xs (n + 1)) 0 (Or.inl rfl)).2.1])
  have hD : va_D A (List.flatten [wO o (a 0) (b 0) (d 0) (i 0) (g 0) N tn, wT cI (o 1) 160 tr, wT cI (o 2) N sp, wU cL (o 3) N wh, wU cL (o 4) N ow, wS cI b (a 0) (a 1) (a 2) N rw nm bf fe, wT cI (b 1) (N + 1) (nF oo), wS cI d (a 0) (a 2) (a 1) N rx nn bg fx, wT cI (d 1) (N + 1) (nF ox), wA cI cZ a c fr tt sa (mtF c sa tk (xs (n + 1)) 0), wI cI cZ i op sl oi nd lp tl, wG cI g go gt, wM cI cZ cL q th N c fr tt sa tk tn tr op sl nd oi il tl go gt fa mn nx, wU cL t1 1 f9]) := dCast hD (by rw [(E_mark hInv (xs (n + 1)) 0 (Or.inl rfl)).2.1])
  refine lv_aload_n hx hb dL_law_220 rfl (lv_at hl 2 rfl) ?_
  refine lv_aload_n hx hb dL_law_221 rfl (lv_at hl 0 rfl) ?_
  refine lv_iload hx hb dL_law_222 (lv_at hl 4 rfl) ?_
  refine lv_iconst (v := (1 : Int32)) hx hb dL_law_224 (by decide) ?_
  refine q_iadd (z := nI (n + 1)) hx hb dL_law_225 (nI_add n 1) ?_
  refine q_sld hx hb hXs hbl hbA hS (k := n + 1) (by omega) hL dL_law_226 ?_
  refine q_callVi (index := 42) (n := 1) (As := [.int (xs (n + 1))]) (rest := [.int (mkR c sa tk (xs (n + 1)) 0)]) (js := [12]) (ci := 5) ⟨hx, hb, hml, hown, hts⟩ hK hP hD hS hA (k5_untake l D cI cZ cL q th N c fr tt sa tk tn tr op sl nd oi il tl go gt fa mn nx (xs (n + 1)) (by omega)) rfl (by decide) (fun _ => by simp only [List.map_cons, List.map_nil, wM_fst]) (fun (_ : Unit) => [wO o (a 0) (b 0) (d 0) (i 0) (g 0) N tn, wT cI (o 1) 160 tr, wT cI (o 2) N sp, wU cL (o 3) N wh, wU cL (o 4) N ow, wS cI b (a 0) (a 1) (a 2) N rw nm bf fe, wT cI (b 1) (N + 1) (nF oo), wS cI d (a 0) (a 2) (a 1) N rx nn bg fx, wT cI (d 1) (N + 1) (nF ox), wA cI cZ a c fr tt sa (mtF c sa tk (xs (n + 1)) 0), wI cI cZ i op sl oi nd lp tl, wG cI g go gt, wM cI cZ cL q 0 N c fr tt sa (mtF c sa tk (xs (n + 1)) 0) tn tr op sl nd oi il tl go gt fa mn nx, wU cL t1 1 f9]) (fun _ => rfl) gL_law_X5_untake rfl (by decide +kernel) rfl ⟨by decide, by decide⟩ rfl rfl rfl rfl hl.1 (Nat.le_of_ble_eq_true rfl) ⟨(by assumption), (by assumption)⟩ dL_law_227 rfl (fun r _ H locs hw hP hD hS => ?_)
  have hw : r = mtR c sa tk (xs (n + 1)) 0 := hw
  subst hw
  refine lv_icmp_eq (tgt := 972) hx hb dL_law_230 (by decide) (fun c_230 => ?_) (fun c_230 => ?_)
  ·
    refine W.widen (k := cells + 1) (n := slots + 6) (Nat.le_add_right _ _) (Nat.le_add_right _ _) ?_
    exact kk _ _ _ ⟨_, _, _, _, _, _, _, _, _, _, _, _, _, _, _, _, _, _, _, _, _, _, _, _, _, _, _, _, _, _, _, _, _, _, _, (E_mark hInv (xs (n + 1)) 0 (Or.inl rfl)).2.2, h8, hP, hD, hS⟩ (lv_sub hl [0, 1, 2, 3, 4] rfl)
  ·
    exact absurd ((E_mark hInv (xs (n + 1)) 0 (Or.inl rfl)).1) c_230

set_option maxHeartbeats 8000000 in
set_option maxRecDepth 100000 in
theorem law_merge {pz : Program} {l : Launch} {ez : Env} {sz : State} {mz : MethodId} {args : Array Value} {bz : List Frame} {tz : Method} {cz : Code} {H : Heap} {locs : List Loc} {cells slots : Nat} {Q : State → Prop} {ls : Array Slot} {bs L : Nat} {xs : Nat → Int32} {D : va_G} {cI cZ cL : ClassId} {A : Nat → Prop} {o b d a i g q : Nat → Nat} {t1 n : Nat} (X : lwC pz l sz mz args cz bs L xs D cI cZ cL A) (hn : n + 3 < L) (hc9 : cells + 1 ≤ room_1.cells) (hs9 : slots + 6 ≤ room_1.slots) (hl : lv_has ls 7 [(0, .ref bs), (1, .ref (o 0)), (2, .ref (q 0)), (3, .ref t1), (4, .int (nI n))]) (hat : lwI D cI cZ cL A sz.heap o b d a i g q t1 H locs) (kk : ∀ (H : Heap) (locs : List Loc) (ls : Array Slot), lwI D cI cZ cL A sz.heap o b d a i g q t1 H locs → lv_has ls 7 [(0, .ref bs), (1, .ref (o 0)), (2, .ref (q 0)), (3, .ref t1), (4, .int (nI n))] → W pz l ez room_1 sz mz args bz tz cz H locs (cells + 1) (slots + 6) Q (F0 mz 972 ls [])) : W pz l ez room_1 sz mz args bz tz cz H locs cells slots Q (F0 mz 235 ls []) := by
  obtain ⟨hx, hb, hml, hown, hts, hXs, hbl, hbA, hA, hK, hX, hst, hL⟩ := X
  obtain ⟨N, tn, tr, sp, wh, ow, rw, nm, bf, fe, rx, nn, bg, fx, c, fr, tt, sa, tk, op, sl, oi, nd, lp, tl, go, gt, oo, ox, th, il, fa, mn, nx, f9, hInv, h8, hP, hD, hS⟩ := hat
  obtain ⟨⟨hN1, hN⟩, hc, htn, hfr, htt, hsa, hlt, htk, hR, hR2, hI⟩ := id hInv
  have hcc : cells ≤ room_1.cells := Nat.le_of_succ_le hc9
  have hss : slots ≤ room_1.slots := Nat.le_trans (Nat.le_add_right _ 6) hs9
  refine lv_aload_n hx hb dL_law_235 rfl (lv_at hl 1 rfl) ?_
  refine q_callVi (index := 43) (n := 0) (As := []) (rest := []) (js := [0, 1, 2, 3, 4, 5, 6, 7, 8, 9, 10, 11]) (ci := 4) ⟨hx, hb, hml, hown, hts⟩ hK hP hD hS hA (k4_merge l D cI cZ cL o N tn tr sp wh ow b rw nm bf fe d rx nn bg fx a c fr tt sa tk i op sl oi nd lp tl g go gt oo ox (by omega) (by omega) hfr htt) rfl (by decide) (fun _ => by simp only [List.map_cons, List.map_nil, wA_fst, wG_fst, wI_fst, wO_fst, wS_fst, wT_fst, wU_fst]) (fun (u_1 : uT × uT) => [wO o (a 0) (b 0) (d 0) (i 0) (g 0) N tn, wT cI (o 1) 160 tr, wT cI (o 2) N sp, wU cL (o 3) N wh, wU cL (o 4) N ow, wS cI b (a 0) (a 1) (a 2) N u_1.1.2.1 u_1.1.2.2.1 u_1.1.2.2.2.1 u_1.1.2.2.2.2, wT cI (b 1) (N + 1) (nF u_1.1.1), wS cI d (a 0) (a 2) (a 1) N u_1.2.2.1 u_1.2.2.2.1 u_1.2.2.2.2.1 u_1.2.2.2.2.2, wT cI (d 1) (N + 1) (nF u_1.2.1), wA cI cZ a c fr tt (stS tk sa c) tk, wI cI cZ i op (stl sl) oi nd lp tl, wG cI g go gt, wM cI cZ cL q th N c fr tt sa tk tn tr op sl nd oi il tl go gt fa mn nx, wU cL t1 1 f9]) (fun _ => rfl) gL_law_X4_merge rfl (by decide +kernel) rfl ⟨by decide, by decide⟩ rfl rfl rfl rfl hl.1 (Nat.le_of_ble_eq_true rfl) ⟨(by assumption), (by assumption)⟩ dL_law_236 rfl (fun r u_1 H locs hw hP hD hS => ?_)
  have hpu_236 := hw.2
  have hw : r = nI (cN c (fun a => !(decide (sa a = sv tk a)))) := hw.1
  subst hw
  have hP : va_P D vwCl (List.flatten [wO o (a 0) (b 0) (d 0) (i 0) (g 0) N tn, wT cI (o 1) 160 tr, wT cI (o 2) N sp, wU cL (o 3) N wh, wU cL (o 4) N ow, wS cI b (a 0) (a 1) (a 2) N u_1.1.2.1 u_1.1.2.2.1 u_1.1.2.2.2.1 u_1.1.2.2.2.2, wT cI (b 1) (N + 1) (nF u_1.1.1), wS cI d (a 0) (a 2) (a 1) N u_1.2.2.1 u_1.2.2.2.1 u_1.2.2.2.2.1 u_1.2.2.2.2.2, wT cI (d 1) (N + 1) (nF u_1.2.1), wA cI cZ a c fr tt (stS tk sa c) tk, wI cI cZ i op (stl sl) oi nd lp tl, wG cI g go gt, wM cI cZ cL q th N c fr tt sa tk tn tr op sl nd oi il tl go gt fa mn nx, wU cL t1 1 f9]) _ := hP
  have hD : va_D A (List.flatten [wO o (a 0) (b 0) (d 0) (i 0) (g 0) N tn, wT cI (o 1) 160 tr, wT cI (o 2) N sp, wU cL (o 3) N wh, wU cL (o 4) N ow, wS cI b (a 0) (a 1) (a 2) N u_1.1.2.1 u_1.1.2.2.1 u_1.1.2.2.2.1 u_1.1.2.2.2.2, wT cI (b 1) (N + 1) (nF u_1.1.1), wS cI d (a 0) (a 2) (a 1) N u_1.2.2.1 u_1.2.2.2.1 u_1.2.2.2.2.1 u_1.2.2.2.2.2, wT cI (d 1) (N + 1) (nF u_1.2.1), wA cI cZ a c fr tt (stS tk sa c) tk, wI cI cZ i op (stl sl) oi nd lp tl, wG cI g go gt, wM cI cZ cL q th N c fr tt sa tk tn tr op sl nd oi il tl go gt fa mn nx, wU cL t1 1 f9]) := hD
  refine lv_aload_n hx hb dL_law_239 rfl (lv_at hl 2 rfl) ?_
  refine q_callVi (index := 47) (n := 0) (As := []) (rest := [.int (nI (cN c (fun a => !(decide (sa a = sv tk a)))))]) (js := [12]) (ci := 5) ⟨hx, hb, hml, hown, hts⟩ hK hP hD hS hA (k5_merge l D cI cZ cL q th N c fr tt sa tk tn tr op sl nd oi il tl go gt fa mn nx (by omega)) rfl (by decide) (fun _ => by simp only [List.map_cons, List.map_nil, wM_fst]) (fun (_ : Unit) => [wO o (a 0) (b 0) (d 0) (i 0) (g 0) N tn, wT cI (o 1) 160 tr, wT cI (o 2) N sp, wU cL (o 3) N wh, wU cL (o 4) N ow, wS cI b (a 0) (a 1) (a 2) N u_1.1.2.1 u_1.1.2.2.1 u_1.1.2.2.2.1 u_1.1.2.2.2.2, wT cI (b 1) (N + 1) (nF u_1.1.1), wS cI d (a 0) (a 2) (a 1) N u_1.2.2.1 u_1.2.2.2.1 u_1.2.2.2.2.1 u_1.2.2.2.2.2, wT cI (d 1) (N + 1) (nF u_1.2.1), wA cI cZ a c fr tt (stS tk sa c) tk, wI cI cZ i op (stl sl) oi nd lp tl, wG cI g go gt, wM cI cZ cL q 0 N c fr tt (msS tk sa c) tk tn tr op (stl sl) nd oi il tl go gt fa mn nx, wU cL t1 1 f9]) (fun _ => rfl) gL_law_X5_merge rfl (by decide +kernel) rfl ⟨by decide, by decide⟩ rfl rfl rfl rfl hl.1 (Nat.le_of_ble_eq_true rfl) ⟨(by assumption), (by assumption)⟩ dL_law_240 rfl (fun r _ H locs hw hP hD hS => ?_)
  have hw : r = nI (cN c (mvB tk sa)) := hw
  subst hw
  have hP : va_P D vwCl (List.flatten [wO o (a 0) (b 0) (d 0) (i 0) (g 0) N tn, wT cI (o 1) 160 tr, wT cI (o 2) N sp, wU cL (o 3) N wh, wU cL (o 4) N ow, wS cI b (a 0) (a 1) (a 2) N u_1.1.2.1 u_1.1.2.2.1 u_1.1.2.2.2.1 u_1.1.2.2.2.2, wT cI (b 1) (N + 1) (nF u_1.1.1), wS cI d (a 0) (a 2) (a 1) N u_1.2.2.1 u_1.2.2.2.1 u_1.2.2.2.2.1 u_1.2.2.2.2.2, wT cI (d 1) (N + 1) (nF u_1.2.1), wA cI cZ a c fr tt (stS tk sa c) tk, wI cI cZ i op (stl sl) oi nd lp tl, wG cI g go gt, wM cI cZ cL q 0 N c fr tt (stS tk sa c) tk tn tr op (stl sl) nd oi il tl go gt fa mn nx, wU cL t1 1 f9]) _ := wCast hP (by rw [ms_st hInv])
  have hD : va_D A (List.flatten [wO o (a 0) (b 0) (d 0) (i 0) (g 0) N tn, wT cI (o 1) 160 tr, wT cI (o 2) N sp, wU cL (o 3) N wh, wU cL (o 4) N ow, wS cI b (a 0) (a 1) (a 2) N u_1.1.2.1 u_1.1.2.2.1 u_1.1.2.2.2.1 u_1.1.2.2.2.2, wT cI (b 1) (N + 1) (nF u_1.1.1), wS cI d (a 0) (a 2) (a 1) N u_1.2.2.1 u_1.2.2.2.1 u_1.2.2.2.2.1 u_1.2.2.2.2.2, wT cI (d 1) (N + 1) (nF u_1.2.1), wA cI cZ a c fr tt (stS tk sa c) tk, wI cI cZ i op (stl sl) oi nd lp tl, wG cI g go gt, wM cI cZ cL q 0 N c fr tt (stS tk sa c) tk tn tr op (stl sl) nd oi il tl go gt fa mn nx, wU cL t1 1 f9]) := dCast hD (by rw [ms_st hInv])
  refine lv_icmp_eq (tgt := 972) hx hb dL_law_243 (by decide) (fun c_243 => ?_) (fun c_243 => ?_)
  ·
    refine W.widen (k := cells + 1) (n := slots + 6) (Nat.le_add_right _ _) (Nat.le_add_right _ _) ?_
    exact kk _ _ _ ⟨_, _, _, _, _, _, _, _, _, _, _, _, _, _, _, _, _, _, _, _, _, _, _, _, _, _, _, _, _, _, _, _, _, _, _, E_merge hInv hpu_236.1 hpu_236.2, h8, hP, hD, hS⟩ (lv_sub hl [0, 1, 2, 3, 4] rfl)
  ·
    exact absurd (congrArg nI (E_cnt hInv)) c_243

set_option maxHeartbeats 8000000 in
set_option maxRecDepth 100000 in
theorem law_pack {pz : Program} {l : Launch} {ez : Env} {sz : State} {mz : MethodId} {args : Array Value} {bz : List Frame} {tz : Method} {cz : Code} {H : Heap} {locs : List Loc} {cells slots : Nat} {Q : State → Prop} {ls : Array Slot} {bs L : Nat} {xs : Nat → Int32} {D : va_G} {cI cZ cL : ClassId} {A : Nat → Prop} {o b d a i g q : Nat → Nat} {t1 n : Nat} (X : lwC pz l sz mz args cz bs L xs D cI cZ cL A) (hn : n + 3 < L) (hc9 : cells + 1 ≤ room_1.cells) (hs9 : slots + 6 ≤ room_1.slots) (hl : lv_has ls 7 [(0, .ref bs), (1, .ref (o 0)), (2, .ref (q 0)), (3, .ref t1), (4, .int (nI n))]) (hat : lwI D cI cZ cL A sz.heap o b d a i g q t1 H locs) (kk : ∀ (H : Heap) (locs : List Loc) (ls : Array Slot), lwI D cI cZ cL A sz.heap o b d a i g q t1 H locs → lv_has ls 7 [(0, .ref bs), (1, .ref (o 0)), (2, .ref (q 0)), (3, .ref t1), (4, .int (nI n))] → W pz l ez room_1 sz mz args bz tz cz H locs (cells + 1) (slots + 6) Q (F0 mz 972 ls [])) : W pz l ez room_1 sz mz args bz tz cz H locs cells slots Q (F0 mz 248 ls []) := by
  obtain ⟨hx, hb, hml, hown, hts, hXs, hbl, hbA, hA, hK, hX, hst, hL⟩ := X
  obtain ⟨N, tn, tr, sp, wh, ow, rw, nm, bf, fe, rx, nn, bg, fx, c, fr, tt, sa, tk, op, sl, oi, nd, lp, tl, go, gt, oo, ox, th, il, fa, mn, nx, f9, hInv, h8, hP, hD, hS⟩ := hat
  obtain ⟨⟨hN1, hN⟩, hc, htn, hfr, htt, hsa, hlt, htk, hR, hR2, hI⟩ := id hInv
  have hcc : cells ≤ room_1.cells := Nat.le_of_succ_le hc9
  have hss : slots ≤ room_1.slots := Nat.le_trans (Nat.le_add_right _ 6) hs9
  refine lv_aload_n hx hb dL_law_248 rfl (lv_at hl 1 rfl) ?_
  refine q_callVi (index := 48) (n := 0) (As := []) (rest := []) (js := [0, 1, 2, 3, 4, 5, 6, 7, 8, 9, 10, 11]) (ci := 4) ⟨hx, hb, hml, hown, hts⟩ hK hP hD hS hA (k4_pack l D cI cZ cL o N tn tr sp wh ow b rw nm bf fe d rx nn bg fx a c fr tt sa tk i op sl oi nd lp tl g go gt oo ox (by omega) (by omega) hfr htt) rfl (by decide) (fun _ => by simp only [List.map_cons, List.map_nil, wA_fst, wG_fst, wI_fst, wO_fst, wS_fst, wT_fst, wU_fst]) (fun (u_1 : uT × uT) => [wO o (a 0) (b 0) (d 0) (i 0) (g 0) N c, wT cI (o 1) 160 (pfx (trV (nlB (stS tk sa c))) tr c), wT cI (o 2) N sp, wU cL (o 3) N wh, wU cL (o 4) N ow, wS cI b (a 0) (a 1) (a 2) N u_1.1.2.1 u_1.1.2.2.1 u_1.1.2.2.2.1 u_1.1.2.2.2.2, wT cI (b 1) (N + 1) (nF u_1.1.1), wS cI d (a 0) (a 2) (a 1) N u_1.2.2.1 u_1.2.2.2.1 u_1.2.2.2.2.1 u_1.2.2.2.2.2, wT cI (d 1) (N + 1) (nF u_1.2.1), wA cI cZ a (cN c (nlB (stS tk sa c))) (pkG (nlB (stS tk sa c)) fr fr c) (pkG (nlB (stS tk sa c)) tt tt c) (pkG (nlB (stS tk sa c)) (stS tk sa c) (stS tk sa c) c) (pkG (nlB (stS tk sa c)) (fun _ => 0) tk c), wI cI cZ i op (stl sl) oi nd lp tl, wG cI g go gt, wM cI cZ cL q th N c fr tt sa tk tn tr op sl nd oi il tl go gt fa mn nx, wU cL t1 1 f9]) (fun _ => rfl) gL_law_X4_pack rfl (by decide +kernel) rfl ⟨by decide, by decide⟩ rfl rfl rfl rfl hl.1 (Nat.le_of_ble_eq_true rfl) ⟨(by assumption), (by assumption)⟩ dL_law_249 rfl (fun r u_1 H locs hw hP hD hS => ?_)
  have hpu_249 := hw.2
  have hw : r = nI (cN c (nlB (stS tk sa c))) := hw.1
  subst hw
  have hP : va_P D vwCl (List.flatten [wO o (a 0) (b 0) (d 0) (i 0) (g 0) N c, wT cI (o 1) 160 (pfx (trV (nlB (stS tk sa c))) tr c), wT cI (o 2) N sp, wU cL (o 3) N wh, wU cL (o 4) N ow, wS cI b (a 0) (a 1) (a 2) N u_1.1.2.1 u_1.1.2.2.1 u_1.1.2.2.2.1 u_1.1.2.2.2.2, wT cI (b 1) (N + 1) (nF u_1.1.1), wS cI d (a 0) (a 2) (a 1) N u_1.2.2.1 u_1.2.2.2.1 u_1.2.2.2.2.1 u_1.2.2.2.2.2, wT cI (d 1) (N + 1) (nF u_1.2.1), wA cI cZ a (cN c (nlB (stS tk sa c))) (pkG (nlB (stS tk sa c)) fr fr c) (pkG (nlB (stS tk sa c)) tt tt c) (pkG (nlB (stS tk sa c)) (stS tk sa c) (stS tk sa c) c) (pkG (nlB (stS tk sa c)) (fun _ => 0) tk c), wI cI cZ i op (stl sl) oi nd lp tl, wG cI g go gt, wM cI cZ cL q th N c fr tt sa tk tn tr op sl nd oi il tl go gt fa mn nx, wU cL t1 1 f9]) _ := hP
  have hD : va_D A (List.flatten [wO o (a 0) (b 0) (d 0) (i 0) (g 0) N c, wT cI (o 1) 160 (pfx (trV (nlB (stS tk sa c))) tr c), wT cI (o 2) N sp, wU cL (o 3) N wh, wU cL (o 4) N ow, wS cI b (a 0) (a 1) (a 2) N u_1.1.2.1 u_1.1.2.2.1 u_1.1.2.2.2.1 u_1.1.2.2.2.2, wT cI (b 1) (N + 1) (nF u_1.1.1), wS cI d (a 0) (a 2) (a 1) N u_1.2.2.1 u_1.2.2.2.1 u_1.2.2.2.2.1 u_1.2.2.2.2.2, wT cI (d 1) (N + 1) (nF u_1.2.1), wA cI cZ a (cN c (nlB (stS tk sa c))) (pkG (nlB (stS tk sa c)) fr fr c) (pkG (nlB (stS tk sa c)) tt tt c) (pkG (nlB (stS tk sa c)) (stS tk sa c) (stS tk sa c) c) (pkG (nlB (stS tk sa c)) (fun _ => 0) tk c), wI cI cZ i op (stl sl) oi nd lp tl, wG cI g go gt, wM cI cZ cL q th N c fr tt sa tk tn tr op sl nd oi il tl go gt fa mn nx, wU cL t1 1 f9]) := hD
  refine lv_aload_n hx hb dL_law_252 rfl (lv_at hl 2 rfl) ?_
  refine q_callVi (index := 51) (n := 0) (As := []) (rest := [.int (nI (cN c (nlB (stS tk sa c))))]) (js := [12]) (ci := 5) ⟨hx, hb, hml, hown, hts⟩ hK hP hD hS hA (k5_pack l D cI cZ cL q th N c fr tt sa tk tn tr op sl nd oi il tl go gt fa mn nx (by omega)) rfl (by decide) (fun _ => by simp only [List.map_cons, List.map_nil, wM_fst]) (fun (_ : Unit) => [wO o (a 0) (b 0) (d 0) (i 0) (g 0) N c, wT cI (o 1) 160 (pfx (trV (nlB (stS tk sa c))) tr c), wT cI (o 2) N sp, wU cL (o 3) N wh, wU cL (o 4) N ow, wS cI b (a 0) (a 1) (a 2) N u_1.1.2.1 u_1.1.2.2.1 u_1.1.2.2.2.1 u_1.1.2.2.2.2, wT cI (b 1) (N + 1) (nF u_1.1.1), wS cI d (a 0) (a 2) (a 1) N u_1.2.2.1 u_1.2.2.2.1 u_1.2.2.2.2.1 u_1.2.2.2.2.2, wT cI (d 1) (N + 1) (nF u_1.2.1), wA cI cZ a (cN c (nlB (stS tk sa c))) (pkG (nlB (stS tk sa c)) fr fr c) (pkG (nlB (stS tk sa c)) tt tt c) (pkG (nlB (stS tk sa c)) (stS tk sa c) (stS tk sa c) c) (pkG (nlB (stS tk sa c)) (fun _ => 0) tk c), wI cI cZ i op (stl sl) oi nd lp tl, wG cI g go gt, wM cI cZ cL q 0 N (cN c (nlB (msS tk sa c))) (pkG (nlB (msS tk sa c)) fr fr c) (pkG (nlB (msS tk sa c)) tt tt c) (pkG (nlB (msS tk sa c)) (fun _ => 1) (msS tk sa c) c) (pkG (nlB (msS tk sa c)) (fun _ => 0) tk c) c (pfx (trV (nlB (msS tk sa c))) tr c) op (stl sl) nd oi il tl go gt fa mn nx, wU cL t1 1 f9]) (fun _ => rfl) gL_law_X5_pack rfl (by decide +kernel) rfl ⟨by decide, by decide⟩ rfl rfl rfl rfl hl.1 (Nat.le_of_ble_eq_true rfl) ⟨(by assumption), (by assumption)⟩ dL_law_253 rfl (fun r _ H locs hw hP hD hS => ?_)
  have hw : r = nI (cN c (nlB (msS tk sa c))) := hw
  subst hw
  have hP : va_P D vwCl (List.flatten [wO o (a 0) (b 0) (d 0) (i 0) (g 0) N c, wT cI (o 1) 160 (pfx (trV (nlB (stS tk sa c))) tr c), wT cI (o 2) N sp, wU cL (o 3) N wh, wU cL (o 4) N ow, wS cI b (a 0) (a 1) (a 2) N u_1.1.2.1 u_1.1.2.2.1 u_1.1.2.2.2.1 u_1.1.2.2.2.2, wT cI (b 1) (N + 1) (nF u_1.1.1), wS cI d (a 0) (a 2) (a 1) N u_1.2.2.1 u_1.2.2.2.1 u_1.2.2.2.2.1 u_1.2.2.2.2.2, wT cI (d 1) (N + 1) (nF u_1.2.1), wA cI cZ a (cN c (nlB (stS tk sa c))) (pkG (nlB (stS tk sa c)) fr fr c) (pkG (nlB (stS tk sa c)) tt tt c) (pkG (nlB (stS tk sa c)) (stS tk sa c) (stS tk sa c) c) (pkG (nlB (stS tk sa c)) (fun _ => 0) tk c), wI cI cZ i op (stl sl) oi nd lp tl, wG cI g go gt, wM cI cZ cL q 0 N (cN c (nlB (stS tk sa c))) (pkG (nlB (stS tk sa c)) fr fr c) (pkG (nlB (stS tk sa c)) tt tt c) (pkG (nlB (stS tk sa c)) (stS tk sa c) (stS tk sa c) c) (pkG (nlB (stS tk sa c)) (fun _ => 0) tk c) c (pfx (trV (nlB (stS tk sa c))) tr c) op (stl sl) nd oi il tl go gt fa mn nx, wU cL t1 1 f9]) _ := wCast hP (by rw [ms_st hInv, ← pk_sa (tk := tk) (sa := sa) (c := c)])
  have hD : va_D A (List.flatten [wO o (a 0) (b 0) (d 0) (i 0) (g 0) N c, wT cI (o 1) 160 (pfx (trV (nlB (stS tk sa c))) tr c), wT cI (o 2) N sp, wU cL (o 3) N wh, wU cL (o 4) N ow, wS cI b (a 0) (a 1) (a 2) N u_1.1.2.1 u_1.1.2.2.1 u_1.1.2.2.2.1 u_1.1.2.2.2.2, wT cI (b 1) (N + 1) (nF u_1.1.1), wS cI d (a 0) (a 2) (a 1) N u_1.2.2.1 u_1.2.2.2.1 u_1.2.2.2.2.1 u_1.2.2.2.2.2, wT cI (d 1) (N + 1) (nF u_1.2.1), wA cI cZ a (cN c (nlB (stS tk sa c))) (pkG (nlB (stS tk sa c)) fr fr c) (pkG (nlB (stS tk sa c)) tt tt c) (pkG (nlB (stS tk sa c)) (stS tk sa c) (stS tk sa c) c) (pkG (nlB (stS tk sa c)) (fun _ => 0) tk c), wI cI cZ i op (stl sl) oi nd lp tl, wG cI g go gt, wM cI cZ cL q 0 N (cN c (nlB (stS tk sa c))) (pkG (nlB (stS tk sa c)) fr fr c) (pkG (nlB (stS tk sa c)) tt tt c) (pkG (nlB (stS tk sa c)) (stS tk sa c) (stS tk sa c) c) (pkG (nlB (stS tk sa c)) (fun _ => 0) tk c) c (pfx (trV (nlB (stS tk sa c))) tr c) op (stl sl) nd oi il tl go gt fa mn nx, wU cL t1 1 f9]) := dCast hD (by rw [ms_st hInv, ← pk_sa (tk := tk) (sa := sa) (c := c)])
  refine lv_icmp_eq (tgt := 972) hx hb dL_law_256 (by decide) (fun c_256 => ?_) (fun c_256 => ?_)
  ·
    refine W.widen (k := cells + 1) (n := slots + 6) (Nat.le_add_right _ _) (Nat.le_add_right _ _) ?_
    exact kk _ _ _ ⟨_, _, _, _, _, _, _, _, _, _, _, _, _, _, _, _, _, _, _, _, _, _, _, _, _, _, _, _, _, _, _, _, _, _, _, E_pack hInv rfl hpu_249.1 hpu_249.2, h8, hP, hD, hS⟩ (lv_sub hl [0, 1, 2, 3, 4] rfl)
  ·
    exact absurd (by rw [ms_st hInv]) c_256

set_option maxHeartbeats 8000000 in
set_option maxRecDepth 100000 in
theorem law_turned {pz : Program} {l : Launch} {ez : Env} {sz : State} {mz : MethodId} {args : Array Value} {bz : List Frame} {tz : Method} {cz : Code} {H : Heap} {locs : List Loc} {cells slots : Nat} {Q : State → Prop} {ls : Array Slot} {bs L : Nat} {xs : Nat → Int32} {D : va_G} {cI cZ cL : ClassId} {A : Nat → Prop} {o b d a i g q : Nat → Nat} {t1 n : Nat} (X : lwC pz l sz mz args cz bs L xs D cI cZ cL A) (hn : n + 3 < L) (hc9 : cells + 1 ≤ room_1.cells) (hs9 : slots + 6 ≤ room_1.slots) (hl : lv_has ls 7 [(0, .ref bs), (1, .ref (o 0)), (2, .ref (q 0)), (3, .ref t1), (4, .int (nI n))]) (hat : lwI D cI cZ cL A sz.heap o b d a i g q t1 H locs) (kk : ∀ (H : Heap) (locs : List Loc) (ls : Array Slot), lwI D cI cZ cL A sz.heap o b d a i g q t1 H locs → lv_has ls 7 [(0, .ref bs), (1, .ref (o 0)), (2, .ref (q 0)), (3, .ref t1), (4, .int (nI n))] → W pz l ez room_1 sz mz args bz tz cz H locs (cells + 1) (slots + 6) Q (F0 mz 972 ls [])) : W pz l ez room_1 sz mz args bz tz cz H locs cells slots Q (F0 mz 261 ls []) := by
  obtain ⟨hx, hb, hml, hown, hts, hXs, hbl, hbA, hA, hK, hX, hst, hL⟩ := X
  obtain ⟨N, tn, tr, sp, wh, ow, rw, nm, bf, fe, rx, nn, bg, fx, c, fr, tt, sa, tk, op, sl, oi, nd, lp, tl, go, gt, oo, ox, th, il, fa, mn, nx, f9, hInv, h8, hP, hD, hS⟩ := hat
  obtain ⟨⟨hN1, hN⟩, hc, htn, hfr, htt, hsa, hlt, htk, hR, hR2, hI⟩ := id hInv
  have hcc : cells ≤ room_1.cells := Nat.le_of_succ_le hc9
  have hss : slots ≤ room_1.slots := Nat.le_trans (Nat.le_add_right _ 6) hs9
  refine lv_aload_n hx hb dL_law_261 rfl (lv_at hl 1 rfl) ?_
  refine lv_aload_n hx hb dL_law_262 rfl (lv_at hl 0 rfl) ?_
  refine lv_iload hx hb dL_law_263 (lv_at hl 4 rfl) ?_
  refine lv_iconst (v := (1 : Int32)) hx hb dL_law_265 (by decide) ?_
  refine q_iadd (z := nI (n + 1)) hx hb dL_law_266 (nI_add n 1) ?_
  refine q_sld hx hb hXs hbl hbA hS (k := n + 1) (by omega) hL dL_law_267 ?_
  refine q_callVi (index := 52) (n := 1) (As := [.int (xs (n + 1))]) (rest := []) (js := [0, 1, 2, 3, 4, 5, 6, 7, 8, 9, 10, 11]) (ci := 4) ⟨hx, hb, hml, hown, hts⟩ hK hP hD hS hA (k4_turned l D cI cZ cL o N tn tr sp wh ow b rw nm bf fe d rx nn bg fx a c fr tt sa tk i op sl oi nd lp tl g go gt oo ox (xs (n + 1)) (by omega)) rfl (by decide) (fun _ => by simp only [List.map_cons, List.map_nil, wA_fst, wG_fst, wI_fst, wO_fst, wS_fst, wT_fst, wU_fst]) (fun (_ : Unit) => [wO o (a 0) (b 0) (d 0) (i 0) (g 0) N tn, wT cI (o 1) 160 tr, wT cI (o 2) N sp, wU cL (o 3) N wh, wU cL (o 4) N ow, wS cI b (a 0) (a 1) (a 2) N rw nm bf fe, wT cI (b 1) (N + 1) (nF oo), wS cI d (a 0) (a 2) (a 1) N rx nn bg fx, wT cI (d 1) (N + 1) (nF ox), wA cI cZ a c fr tt sa tk, wI cI cZ i op sl oi nd lp tl, wG cI g go gt, wM cI cZ cL q th N c fr tt sa tk tn tr op sl nd oi il tl go gt fa mn nx, wU cL t1 1 f9]) (fun _ => rfl) gL_law_X4_turned rfl (by decide +kernel) rfl ⟨by decide, by decide⟩ rfl rfl rfl rfl hl.1 (Nat.le_of_ble_eq_true rfl) ⟨(by assumption), (by assumption)⟩ dL_law_268 rfl (fun r _ H locs hw hP hD hS => ?_)
  have hw : r = tdR tn tr (xs (n + 1)) := hw
  subst hw
  refine lv_aload_n hx hb dL_law_271 rfl (lv_at hl 2 rfl) ?_
  refine lv_aload_n hx hb dL_law_272 rfl (lv_at hl 0 rfl) ?_
  refine lv_iload hx hb dL_law_273 (lv_at hl 4 rfl) ?_
  refine lv_iconst (v := (1 : Int32)) hx hb dL_law_275 (by decide) ?_
  refine q_iadd (z := nI (n + 1)) hx hb dL_law_276 (nI_add n 1) ?_
  refine q_sld hx hb hXs hbl hbA hS (k := n + 1) (by omega) hL dL_law_277 ?_
  refine q_callVi (index := 55) (n := 1) (As := [.int (xs (n + 1))]) (rest := [.int (tdR tn tr (xs (n + 1)))]) (js := [12]) (ci := 5) ⟨hx, hb, hml, hown, hts⟩ hK hP hD hS hA (k5_turned l D cI cZ cL q th N c fr tt sa tk tn tr op sl nd oi il tl go gt fa mn nx (xs (n + 1)) (by omega)) rfl (by decide) (fun _ => by simp only [List.map_cons, List.map_nil, wM_fst]) (fun (_ : Unit) => [wO o (a 0) (b 0) (d 0) (i 0) (g 0) N tn, wT cI (o 1) 160 tr, wT cI (o 2) N sp, wU cL (o 3) N wh, wU cL (o 4) N ow, wS cI b (a 0) (a 1) (a 2) N rw nm bf fe, wT cI (b 1) (N + 1) (nF oo), wS cI d (a 0) (a 2) (a 1) N rx nn bg fx, wT cI (d 1) (N + 1) (nF ox), wA cI cZ a c fr tt sa tk, wI cI cZ i op sl oi nd lp tl, wG cI g go gt, wM cI cZ cL q 0 N c fr tt sa tk tn tr op sl nd oi il tl go gt fa mn nx, wU cL t1 1 f9]) (fun _ => rfl) gL_law_X5_turned rfl (by decide +kernel) rfl ⟨by decide, by decide⟩ rfl rfl rfl rfl hl.1 (Nat.le_of_ble_eq_true rfl) ⟨(by assumption), (by assumption)⟩ dL_law_278 rfl (fun r _ H locs hw hP hD hS => ?_)
  have hw : r = tdR tn tr (xs (n + 1)) := hw
  subst hw
  refine lv_icmp_eq (tgt := 972) hx hb dL_law_281 (by decide) (fun c_281 => ?_) (fun c_281 => ?_)
  ·
    refine W.widen (k := cells + 1) (n := slots + 6) (Nat.le_add_right _ _) (Nat.le_add_right _ _) ?_
    exact kk _ _ _ ⟨_, _, _, _, _, _, _, _, _, _, _, _, _, _, _, _, _, _, _, _, _, _, _, _, _, _, _, _, _, _, _, _, _, _, _, hInv, h8, hP, hD, hS⟩ (lv_sub hl [0, 1, 2, 3, 4] rfl)
  ·
    exact absurd rfl c_281

set_option maxHeartbeats 8000000 in
set_option maxRecDepth 100000 in
theorem law_out {pz : Program} {l : Launch} {ez : Env} {sz : State} {mz : MethodId} {args : Array Value} {bz : List Frame} {tz : Method} {cz : Code} {H : Heap} {locs : List Loc} {cells slots : Nat} {Q : State → Prop} {ls : Array Slot} {bs L : Nat} {xs : Nat → Int32} {D : va_G} {cI cZ cL : ClassId} {A : Nat → Prop} {o b d a i g q : Nat → Nat} {t1 n : Nat} (X : lwC pz l sz mz args cz bs L xs D cI cZ cL A) (hn : n + 3 < L) (hc9 : cells + 1 ≤ room_1.cells) (hs9 : slots + 6 ≤ room_1.slots) (hl : lv_has ls 7 [(0, .ref bs), (1, .ref (o 0)), (2, .ref (q 0)), (3, .ref t1), (4, .int (nI n))]) (hat : lwI D cI cZ cL A sz.heap o b d a i g q t1 H locs) (kk : ∀ (H : Heap) (locs : List Loc) (ls : Array Slot), lwI D cI cZ cL A sz.heap o b d a i g q t1 H locs → lv_has ls 7 [(0, .ref bs), (1, .ref (o 0)), (2, .ref (q 0)), (3, .ref t1), (4, .int (nI n))] → W pz l ez room_1 sz mz args bz tz cz H locs (cells + 1) (slots + 6) Q (F0 mz 972 ls [])) : W pz l ez room_1 sz mz args bz tz cz H locs cells slots Q (F0 mz 286 ls []) := by
  obtain ⟨hx, hb, hml, hown, hts, hXs, hbl, hbA, hA, hK, hX, hst, hL⟩ := X
  obtain ⟨N, tn, tr, sp, wh, ow, rw, nm, bf, fe, rx, nn, bg, fx, c, fr, tt, sa, tk, op, sl, oi, nd, lp, tl, go, gt, oo, ox, th, il, fa, mn, nx, f9, hInv, h8, hP, hD, hS⟩ := hat
  obtain ⟨⟨hN1, hN⟩, hc, htn, hfr, htt, hsa, hlt, htk, hR, hR2, hI⟩ := id hInv
  have hcc : cells ≤ room_1.cells := Nat.le_of_succ_le hc9
  have hss : slots ≤ room_1.slots := Nat.le_trans (Nat.le_add_right _ 6) hs9
  refine lv_aload_n hx hb dL_law_286 rfl (lv_at hl 1 rfl) ?_
  refine lv_aload_n hx hb dL_law_287 rfl (lv_at hl 0 rfl) ?_
  refine lv_iload hx hb dL_law_288 (lv_at hl 4 rfl) ?_
  refine lv_iconst (v := (1 : Int32)) hx hb dL_law_290 (by decide) ?_
  refine q_iadd (z := nI (n + 1)) hx hb dL_law_291 (nI_add n 1) ?_
  refine q_sld hx hb hXs hbl hbA hS (k := n + 1) (by omega) hL dL_law_292 ?_
  refine lv_aload_n hx hb dL_law_293 rfl (lv_at hl 0 rfl) ?_
  refine lv_iload hx hb dL_law_294 (lv_at hl 4 rfl) ?_
  refine lv_iconst (v := (2 : Int32)) hx hb dL_law_296 (by decide) ?_
  refine q_iadd (z := nI (n + 2)) hx hb dL_law_297 (nI_add n 2) ?_
  refine q_sld hx hb hXs hbl hbA hS (k := n + 2) (by omega) hL dL_law_298 ?_
  refine lv_aload_n hx hb dL_law_299 rfl (lv_at hl 3 rfl) ?_
  refine q_callW (index := 56) (n := 4) (As := [.ref (o 0), .int (xs (n + 1)), .int (xs (n + 2)), .ref t1]) (rest := []) (js := [0, 1, 2, 3, 4, 5, 6, 7, 8, 9, 10, 11, 13]) ⟨hx, hb, hml, hown, hts⟩ hK hP hD hS hA hX (kL_out l D cI cZ cL o N tn tr sp wh ow b rw nm bf fe d rx nn bg fx a c fr tt sa tk i op sl oi nd lp tl g go gt oo ox (xs (n + 1)) (xs (n + 2)) hst hc hN (fun v _ => oo_ok hR hc v) t1 f9) rfl (by decide) (fun _ => by simp only [List.map_cons, List.map_nil, wO_fst, wT_fst, wU_fst, wS_fst, wA_fst, wI_fst, wG_fst]) (fun u : Nat → Int64 => [wO o (a 0) (b 0) (d 0) (i 0) (g 0) N tn, wT cI (o 1) 160 tr, wT cI (o 2) N sp, wU cL (o 3) N wh, wU cL (o 4) N ow, wS cI b (a 0) (a 1) (a 2) N rw nm bf fe, wT cI (b 1) (N + 1) (nF oo), wS cI d (a 0) (a 2) (a 1) N rx nn bg fx, wT cI (d 1) (N + 1) (nF ox), wA cI cZ a c fr tt sa tk, wI cI cZ i op sl oi nd lp tl, wG cI g go gt, wM cI cZ cL q th N c fr tt sa tk tn tr op sl nd oi il tl go gt fa mn nx, wU cL t1 1 u]) (fun _ => rfl) gL_law_L_out rfl (by decide +kernel) rfl ⟨by decide, by decide⟩ hl.1 (Nat.le_of_ble_eq_true rfl) ⟨hc9, hs9⟩ dL_law_300 rfl (fun r u H locs hw hP hD hS => ?_)
  rcases hw with ⟨hok, hw, hu⟩ | ⟨hok, hw⟩
  ·
    subst hw
    have hP : va_P D vwCl (List.flatten [wO o (a 0) (b 0) (d 0) (i 0) (g 0) N tn, wT cI (o 1) 160 tr, wT cI (o 2) N sp, wU cL (o 3) N wh, wU cL (o 4) N ow, wS cI b (a 0) (a 1) (a 2) N rw nm bf fe, wT cI (b 1) (N + 1) (nF oo), wS cI d (a 0) (a 2) (a 1) N rx nn bg fx, wT cI (d 1) (N + 1) (nF ox), wA cI cZ a c fr tt sa tk, wI cI cZ i op sl oi nd lp tl, wG cI g go gt, wM cI cZ cL q th N c fr tt sa tk tn tr op sl nd oi il tl go gt fa mn nx, wU cL t1 1 u]) _ := hP
    have hD : va_D A (List.flatten [wO o (a 0) (b 0) (d 0) (i 0) (g 0) N tn, wT cI (o 1) 160 tr, wT cI (o 2) N sp, wU cL (o 3) N wh, wU cL (o 4) N ow, wS cI b (a 0) (a 1) (a 2) N rw nm bf fe, wT cI (b 1) (N + 1) (nF oo), wS cI d (a 0) (a 2) (a 1) N rx nn bg fx, wT cI (d 1) (N + 1) (nF ox), wA cI cZ a c fr tt sa tk, wI cI cZ i op sl oi nd lp tl, wG cI g go gt, wM cI cZ cL q th N c fr tt sa tk tn tr op sl nd oi il tl go gt fa mn nx, wU cL t1 1 u]) := hD
    refine lv_istore (lv' := [(5, .int (0 : Int32)), (0, .ref bs), (1, .ref (o 0)), (2, .ref (q 0)), (3, .ref t1), (4, .int (nI n))]) hx hb dL_law_303 hl (by decide) rfl (fun ls hl => ?_)
    refine lv_aload_n hx hb dL_law_305 rfl (lv_at hl 3 rfl) ?_
    refine lv_aload_n hx hb dL_law_306 rfl (lv_at hl 1 rfl) ?_
    refine lv_iload hx hb dL_law_307 (lv_at hl 5 rfl) ?_
    refine lv_iconst (v := (1 : Int32)) hx hb dL_law_309 (by decide) ?_
    refine q_iadd (z := nI (n + 1)) hx hb dL_law_310 (nI_add n 1) ?_
    refine q_sld hx hb hXs hbl hbA hS (k := n + 1) (by omega) hL dL_law_311 ?_
    refine lv_aload_n hx hb dL_law_312 rfl (lv_at hl 1 rfl) ?_
    refine lv_iload hx hb dL_law_313 (lv_at hl 5 rfl) ?_
    refine lv_iconst (v := (2 : Int32)) hx hb dL_law_315 (by decide) ?_
    refine q_iadd (z := nI (n + 2)) hx hb dL_law_316 (nI_add n 2) ?_
    refine q_sld hx hb hXs hbl hbA hS (k := n + 2) (by omega) hL dL_law_317 ?_
    refine q_callVi (index := 59) (n := 2) (As := [.int (xs (n + 1)), .int (xs (n + 2))]) (rest := []) (js := [12]) (ci := 5) ⟨hx, hb, hml, hown, hts⟩ hK hP hD hS hA (k5_out l D cI cZ cL q th N c fr tt sa tk tn tr op sl nd oi il tl go gt fa mn nx (xs (n + 1)) (xs (n + 2)) (by omega)) rfl (by decide) (fun _ => by simp only [List.map_cons, List.map_nil, wM_fst]) (fun (_ : Unit) => [wO o (a 0) (b 0) (d 0) (i 0) (g 0) N tn, wT cI (o 1) 160 tr, wT cI (o 2) N sp, wU cL (o 3) N wh, wU cL (o 4) N ow, wS cI b (a 0) (a 1) (a 2) N rw nm bf fe, wT cI (b 1) (N + 1) (nF oo), wS cI d (a 0) (a 2) (a 1) N rx nn bg fx, wT cI (d 1) (N + 1) (nF ox), wA cI cZ a c fr tt sa tk, wI cI cZ i op sl oi nd lp tl, wG cI g go gt, wM cI cZ cL q (irT N c fr tt sa tk (xs (n + 1)) 0 (xs (n + 2))) N c fr tt sa tk tn tr op sl nd oi il tl go gt fa mn nx, wU cL t1 1 u]) (fun _ => rfl) gL_law_X5_out rfl (by decide +kernel) rfl ⟨by decide, by decide⟩ rfl rfl rfl rfl hl.1 (Nat.le_of_ble_eq_true rfl) ⟨(by assumption), (by assumption)⟩ dL_law_318 rfl (fun r _ H locs hw hP hD hS => ?_)
    have hw : r = irR N c fr tt sa tk (xs (n + 1)) 0 (xs (n + 2)) := hw
    subst hw
    refine q_top (z := atV c sa fr rw oo (xs (n + 1)).toNatClampNeg (xs (n + 2)).toNatClampNeg) ((I_ok (tk := tk) hR hc hN hfr htt hok).2) ?_
    have hP : va_P D vwCl (List.flatten [wO o (a 0) (b 0) (d 0) (i 0) (g 0) N tn, wT cI (o 1) 160 tr, wT cI (o 2) N sp, wU cL (o 3) N wh, wU cL (o 4) N ow, wS cI b (a 0) (a 1) (a 2) N rw nm bf fe, wT cI (b 1) (N + 1) (nF oo), wS cI d (a 0) (a 2) (a 1) N rx nn bg fx, wT cI (d 1) (N + 1) (nF ox), wA cI cZ a c fr tt sa tk, wI cI cZ i op sl oi nd lp tl, wG cI g go gt, wM cI cZ cL q 0 N c fr tt sa tk tn tr op sl nd oi il tl go gt fa mn nx, wU cL t1 1 u]) _ := wCast hP (by rw [(I_ok hR hc hN hfr htt hok).1])
    have hD : va_D A (List.flatten [wO o (a 0) (b 0) (d 0) (i 0) (g 0) N tn, wT cI (o 1) 160 tr, wT cI (o 2) N sp, wU cL (o 3) N wh, wU cL (o 4) N ow, wS cI b (a 0) (a 1) (a 2) N rw nm bf fe, wT cI (b 1) (N + 1) (nF oo), wS cI d (a 0) (a 2) (a 1) N rx nn bg fx, wT cI (d 1) (N + 1) (nF ox), wA cI cZ a c fr tt sa tk, wI cI cZ i op sl oi nd lp tl, wG cI g go gt, wM cI cZ cL q 0 N c fr tt sa tk tn tr op sl nd oi il tl go gt fa mn nx, wU cL t1 1 u]) := dCast hD (by rw [(I_ok hR hc hN hfr htt hok).1])
    refine lv_istore (lv' := [(6, .int (atV c sa fr rw oo (xs (n + 1)).toNatClampNeg (xs (n + 2)).toNatClampNeg)), (5, .int (0 : Int32)), (0, .ref bs), (1, .ref (o 0)), (2, .ref (q 0)), (3, .ref t1), (4, .int (nI n))]) hx hb dL_law_321 hl (by decide) rfl (fun ls hl => ?_)
    refine lv_aload_n hx hb dL_law_323 rfl (lv_at hl 4 rfl) ?_
    refine q_callVi (index := 60) (n := 0) (As := []) (rest := []) (js := [12]) (ci := 5) ⟨hx, hb, hml, hown, hts⟩ hK hP hD hS hA (k5_thrown l D cI cZ cL q 0 N c fr tt sa tk tn tr op sl nd oi il tl go gt fa mn nx) rfl (by decide) (fun _ => by simp only [List.map_cons, List.map_nil, wM_fst]) (fun (_ : Unit) => [wO o (a 0) (b 0) (d 0) (i 0) (g 0) N tn, wT cI (o 1) 160 tr, wT cI (o 2) N sp, wU cL (o 3) N wh, wU cL (o 4) N ow, wS cI b (a 0) (a 1) (a 2) N rw nm bf fe, wT cI (b 1) (N + 1) (nF oo), wS cI d (a 0) (a 2) (a 1) N rx nn bg fx, wT cI (d 1) (N + 1) (nF ox), wA cI cZ a c fr tt sa tk, wI cI cZ i op sl oi nd lp tl, wG cI g go gt, wM cI cZ cL q 0 N c fr tt sa tk tn tr op sl nd oi il tl go gt fa mn nx, wU cL t1 1 u]) (fun _ => rfl) gL_law_X5_thrown rfl (by decide +kernel) rfl ⟨by decide, by decide⟩ rfl rfl rfl rfl hl.1 (Nat.le_of_ble_eq_true rfl) ⟨(by assumption), (by assumption)⟩ dL_law_324 rfl (fun r _ H locs hw hP hD hS => ?_)
    have hw : r = nI 0 := hw
    subst hw
    refine q_top (z := (0 : Int32)) (rfl) ?_
    refine lv_iload hx hb dL_law_327 (lv_at hl 1 rfl) ?_
    refine lv_icmp_eq (tgt := 334) hx hb dL_law_329 (by decide) (fun c_329 => ?_) (fun c_329 => ?_)
    ·
      refine lv_iload hx hb dL_law_334 (lv_at hl 1 rfl) ?_
      refine lv_if_ne (tgt := 351) hx hb dL_law_336 (by decide) (fun c_336 => ?_) (fun c_336 => ?_)
      ·
        exact absurd (by decide) c_336
      ·
        refine lv_aload_n hx hb dL_law_339 rfl (lv_at hl 5 rfl) ?_
        refine lv_iconst (v := (0 : Int32)) hx hb dL_law_340 (by decide) ?_
        refine q_lald hx hb hK hP 13 0 2 rfl (f := u) rfl rfl (k := 0) (nI_clamp (n := 0) (by omega)) (vp_in_nI (n := 0) (N := 1) (by decide) (by decide)) dL_law_341 ?_
        refine lv_iload hx hb dL_law_342 (lv_at hl 0 rfl) ?_
        refine lv_i2l hx hb dL_law_344 rfl ?_
        refine W.lcmp hx hb dL_law_345 ?_
        refine lv_if_eq (tgt := 351) hx hb dL_law_346 (by decide) (fun c_346 => ?_) (fun c_346 => ?_)
        ·
          refine lv_goto (tgt := 972) hx hb dL_law_351 (by decide) ?_
          exact kk _ _ _ ⟨_, _, _, _, _, _, _, _, _, _, _, _, _, _, _, _, _, _, _, _, _, _, _, _, _, _, _, _, _, _, _, _, _, _, _, hInv, h8, hP, hD, hS⟩ (lv_sub hl [2, 3, 4, 5, 6] rfl)
        ·
          exact absurd ((lg_cmp_eq _ _).mpr hu) c_346
    ·
      exact absurd (by decide) c_329
  ·
    subst hw
    have hP : va_P D vwCl (List.flatten [wO o (a 0) (b 0) (d 0) (i 0) (g 0) N tn, wT cI (o 1) 160 tr, wT cI (o 2) N sp, wU cL (o 3) N wh, wU cL (o 4) N ow, wS cI b (a 0) (a 1) (a 2) N rw nm bf fe, wT cI (b 1) (N + 1) (nF oo), wS cI d (a 0) (a 2) (a 1) N rx nn bg fx, wT cI (d 1) (N + 1) (nF ox), wA cI cZ a c fr tt sa tk, wI cI cZ i op sl oi nd lp tl, wG cI g go gt, wM cI cZ cL q th N c fr tt sa tk tn tr op sl nd oi il tl go gt fa mn nx, wU cL t1 1 u]) _ := hP
    have hD : va_D A (List.flatten [wO o (a 0) (b 0) (d 0) (i 0) (g 0) N tn, wT cI (o 1) 160 tr, wT cI (o 2) N sp, wU cL (o 3) N wh, wU cL (o 4) N ow, wS cI b (a 0) (a 1) (a 2) N rw nm bf fe, wT cI (b 1) (N + 1) (nF oo), wS cI d (a 0) (a 2) (a 1) N rx nn bg fx, wT cI (d 1) (N + 1) (nF ox), wA cI cZ a c fr tt sa tk, wI cI cZ i op sl oi nd lp tl, wG cI g go gt, wM cI cZ cL q th N c fr tt sa tk tn tr op sl nd oi il tl go gt fa mn nx, wU cL t1 1 u]) := hD
    refine lv_istore (lv' := [(5, .int (1 : Int32)), (0, .ref bs), (1, .ref (o 0)), (2, .ref (q 0)), (3, .ref t1), (4, .int (nI n))]) hx hb dL_law_303 hl (by decide) rfl (fun ls hl => ?_)
    refine lv_aload_n hx hb dL_law_305 rfl (lv_at hl 3 rfl) ?_
    refine lv_aload_n hx hb dL_law_306 rfl (lv_at hl 1 rfl) ?_
    refine lv_iload hx hb dL_law_307 (lv_at hl 5 rfl) ?_
    refine lv_iconst (v := (1 : Int32)) hx hb dL_law_309 (by decide) ?_
    refine q_iadd (z := nI (n + 1)) hx hb dL_law_310 (nI_add n 1) ?_
    refine q_sld hx hb hXs hbl hbA hS (k := n + 1) (by omega) hL dL_law_311 ?_
    refine lv_aload_n hx hb dL_law_312 rfl (lv_at hl 1 rfl) ?_
    refine lv_iload hx hb dL_law_313 (lv_at hl 5 rfl) ?_
    refine lv_iconst (v := (2 : Int32)) hx hb dL_law_315 (by decide) ?_
    refine q_iadd (z := nI (n + 2)) hx hb dL_law_316 (nI_add n 2) ?_
    refine q_sld hx hb hXs hbl hbA hS (k := n + 2) (by omega) hL dL_law_317 ?_
    refine q_callVi (index := 59) (n := 2) (As := [.int (xs (n + 1)), .int (xs (n + 2))]) (rest := []) (js := [12]) (ci := 5) ⟨hx, hb, hml, hown, hts⟩ hK hP hD hS hA (k5_out l D cI cZ cL q th N c fr tt sa tk tn tr op sl nd oi il tl go gt fa mn nx (xs (n + 1)) (xs (n + 2)) (by omega)) rfl (by decide) (fun _ => by simp only [List.map_cons, List.map_nil, wM_fst]) (fun (_ : Unit) => [wO o (a 0) (b 0) (d 0) (i 0) (g 0) N tn, wT cI (o 1) 160 tr, wT cI (o 2) N sp, wU cL (o 3) N wh, wU cL (o 4) N ow, wS cI b (a 0) (a 1) (a 2) N rw nm bf fe, wT cI (b 1) (N + 1) (nF oo), wS cI d (a 0) (a 2) (a 1) N rx nn bg fx, wT cI (d 1) (N + 1) (nF ox), wA cI cZ a c fr tt sa tk, wI cI cZ i op sl oi nd lp tl, wG cI g go gt, wM cI cZ cL q (irT N c fr tt sa tk (xs (n + 1)) 0 (xs (n + 2))) N c fr tt sa tk tn tr op sl nd oi il tl go gt fa mn nx, wU cL t1 1 u]) (fun _ => rfl) gL_law_X5_out rfl (by decide +kernel) rfl ⟨by decide, by decide⟩ rfl rfl rfl rfl hl.1 (Nat.le_of_ble_eq_true rfl) ⟨(by assumption), (by assumption)⟩ dL_law_318 rfl (fun r _ H locs hw hP hD hS => ?_)
    have hw : r = irR N c fr tt sa tk (xs (n + 1)) 0 (xs (n + 2)) := hw
    subst hw
    have hP : va_P D vwCl (List.flatten [wO o (a 0) (b 0) (d 0) (i 0) (g 0) N tn, wT cI (o 1) 160 tr, wT cI (o 2) N sp, wU cL (o 3) N wh, wU cL (o 4) N ow, wS cI b (a 0) (a 1) (a 2) N rw nm bf fe, wT cI (b 1) (N + 1) (nF oo), wS cI d (a 0) (a 2) (a 1) N rx nn bg fx, wT cI (d 1) (N + 1) (nF ox), wA cI cZ a c fr tt sa tk, wI cI cZ i op sl oi nd lp tl, wG cI g go gt, wM cI cZ cL q 1 N c fr tt sa tk tn tr op sl nd oi il tl go gt fa mn nx, wU cL t1 1 u]) _ := wCast hP (by rw [I_no hR hc hN hfr htt hok])
    have hD : va_D A (List.flatten [wO o (a 0) (b 0) (d 0) (i 0) (g 0) N tn, wT cI (o 1) 160 tr, wT cI (o 2) N sp, wU cL (o 3) N wh, wU cL (o 4) N ow, wS cI b (a 0) (a 1) (a 2) N rw nm bf fe, wT cI (b 1) (N + 1) (nF oo), wS cI d (a 0) (a 2) (a 1) N rx nn bg fx, wT cI (d 1) (N + 1) (nF ox), wA cI cZ a c fr tt sa tk, wI cI cZ i op sl oi nd lp tl, wG cI g go gt, wM cI cZ cL q 1 N c fr tt sa tk tn tr op sl nd oi il tl go gt fa mn nx, wU cL t1 1 u]) := dCast hD (by rw [I_no hR hc hN hfr htt hok])
    refine lv_istore (lv' := [(6, .int (irR N c fr tt sa tk (xs (n + 1)) 0 (xs (n + 2)))), (5, .int (1 : Int32)), (0, .ref bs), (1, .ref (o 0)), (2, .ref (q 0)), (3, .ref t1), (4, .int (nI n))]) hx hb dL_law_321 hl (by decide) rfl (fun ls hl => ?_)
    refine lv_aload_n hx hb dL_law_323 rfl (lv_at hl 4 rfl) ?_
    refine q_callVi (index := 60) (n := 0) (As := []) (rest := []) (js := [12]) (ci := 5) ⟨hx, hb, hml, hown, hts⟩ hK hP hD hS hA (k5_thrown l D cI cZ cL q 1 N c fr tt sa tk tn tr op sl nd oi il tl go gt fa mn nx) rfl (by decide) (fun _ => by simp only [List.map_cons, List.map_nil, wM_fst]) (fun (_ : Unit) => [wO o (a 0) (b 0) (d 0) (i 0) (g 0) N tn, wT cI (o 1) 160 tr, wT cI (o 2) N sp, wU cL (o 3) N wh, wU cL (o 4) N ow, wS cI b (a 0) (a 1) (a 2) N rw nm bf fe, wT cI (b 1) (N + 1) (nF oo), wS cI d (a 0) (a 2) (a 1) N rx nn bg fx, wT cI (d 1) (N + 1) (nF ox), wA cI cZ a c fr tt sa tk, wI cI cZ i op sl oi nd lp tl, wG cI g go gt, wM cI cZ cL q 1 N c fr tt sa tk tn tr op sl nd oi il tl go gt fa mn nx, wU cL t1 1 u]) (fun _ => rfl) gL_law_X5_thrown rfl (by decide +kernel) rfl ⟨by decide, by decide⟩ rfl rfl rfl rfl hl.1 (Nat.le_of_ble_eq_true rfl) ⟨(by assumption), (by assumption)⟩ dL_law_324 rfl (fun r _ H locs hw hP hD hS => ?_)
    have hw : r = nI 1 := hw
    subst hw
    refine q_top (z := (1 : Int32)) (rfl) ?_
    refine lv_iload hx hb dL_law_327 (lv_at hl 1 rfl) ?_
    refine lv_icmp_eq (tgt := 334) hx hb dL_law_329 (by decide) (fun c_329 => ?_) (fun c_329 => ?_)
    ·
      refine lv_iload hx hb dL_law_334 (lv_at hl 1 rfl) ?_
      refine lv_if_ne (tgt := 351) hx hb dL_law_336 (by decide) (fun c_336 => ?_) (fun c_336 => ?_)
      ·
        refine lv_goto (tgt := 972) hx hb dL_law_351 (by decide) ?_
        exact kk _ _ _ ⟨_, _, _, _, _, _, _, _, _, _, _, _, _, _, _, _, _, _, _, _, _, _, _, _, _, _, _, _, _, _, _, _, _, _, _, hInv, h8, hP, hD, hS⟩ (lv_sub hl [2, 3, 4, 5, 6] rfl)
      ·
        exact absurd c_336 (by decide)
    ·
      exact absurd (by decide) c_329

set_option maxHeartbeats 8000000 in
set_option maxRecDepth 100000 in
theorem law_in {pz : Program} {l : Launch} {ez : Env} {sz : State} {mz : MethodId} {args : Array Value} {bz : List Frame} {tz : Method} {cz : Code} {H : Heap} {locs : List Loc} {cells slots : Nat} {Q : State → Prop} {ls : Array Slot} {bs L : Nat} {xs : Nat → Int32} {D : va_G} {cI cZ cL : ClassId} {A : Nat → Prop} {o b d a i g q : Nat → Nat} {t1 n : Nat} (X : lwC pz l sz mz args cz bs L xs D cI cZ cL A) (hn : n + 3 < L) (hc9 : cells + 1 ≤ room_1.cells) (hs9 : slots + 6 ≤ room_1.slots) (hl : lv_has ls 7 [(0, .ref bs), (1, .ref (o 0)), (2, .ref (q 0)), (3, .ref t1), (4, .int (nI n))]) (hat : lwI D cI cZ cL A sz.heap o b d a i g q t1 H locs) (kk : ∀ (H : Heap) (locs : List Loc) (ls : Array Slot), lwI D cI cZ cL A sz.heap o b d a i g q t1 H locs → lv_has ls 7 [(0, .ref bs), (1, .ref (o 0)), (2, .ref (q 0)), (3, .ref t1), (4, .int (nI n))] → W pz l ez room_1 sz mz args bz tz cz H locs (cells + 1) (slots + 6) Q (F0 mz 972 ls [])) : W pz l ez room_1 sz mz args bz tz cz H locs cells slots Q (F0 mz 354 ls []) := by
  obtain ⟨hx, hb, hml, hown, hts, hXs, hbl, hbA, hA, hK, hX, hst, hL⟩ := X
  obtain ⟨N, tn, tr, sp, wh, ow, rw, nm, bf, fe, rx, nn, bg, fx, c, fr, tt, sa, tk, op, sl, oi, nd, lp, tl, go, gt, oo, ox, th, il, fa, mn, nx, f9, hInv, h8, hP, hD, hS⟩ := hat
  obtain ⟨⟨hN1, hN⟩, hc, htn, hfr, htt, hsa, hlt, htk, hR, hR2, hI⟩ := id hInv
  have hcc : cells ≤ room_1.cells := Nat.le_of_succ_le hc9
  have hss : slots ≤ room_1.slots := Nat.le_trans (Nat.le_add_right _ 6) hs9
  refine lv_aload_n hx hb dL_law_354 rfl (lv_at hl 1 rfl) ?_
  refine lv_aload_n hx hb dL_law_355 rfl (lv_at hl 0 rfl) ?_
  refine lv_iload hx hb dL_law_356 (lv_at hl 4 rfl) ?_
  refine lv_iconst (v := (1 : Int32)) hx hb dL_law_358 (by decide) ?_
  refine q_iadd (z := nI (n + 1)) hx hb dL_law_359 (nI_add n 1) ?_
  refine q_sld hx hb hXs hbl hbA hS (k := n + 1) (by omega) hL dL_law_360 ?_
  refine lv_aload_n hx hb dL_law_361 rfl (lv_at hl 0 rfl) ?_
  refine lv_iload hx hb dL_law_362 (lv_at hl 4 rfl) ?_
  refine lv_iconst (v := (2 : Int32)) hx hb dL_law_364 (by decide) ?_
  refine q_iadd (z := nI (n + 2)) hx hb dL_law_365 (nI_add n 2) ?_
  refine q_sld hx hb hXs hbl hbA hS (k := n + 2) (by omega) hL dL_law_366 ?_
  refine lv_aload_n hx hb dL_law_367 rfl (lv_at hl 3 rfl) ?_
  refine q_callW (index := 63) (n := 4) (As := [.ref (o 0), .int (xs (n + 1)), .int (xs (n + 2)), .ref t1]) (rest := []) (js := [0, 1, 2, 3, 4, 5, 6, 7, 8, 9, 10, 11, 13]) ⟨hx, hb, hml, hown, hts⟩ hK hP hD hS hA hX (kL_in l D cI cZ cL o N tn tr sp wh ow b rw nm bf fe d rx nn bg fx a c fr tt sa tk i op sl oi nd lp tl g go gt oo ox (xs (n + 1)) (xs (n + 2)) hst hc hN (fun v _ => oo_ok hR2 hc v) t1 f9) rfl (by decide) (fun _ => by simp only [List.map_cons, List.map_nil, wO_fst, wT_fst, wU_fst, wS_fst, wA_fst, wI_fst, wG_fst]) (fun u : Nat → Int64 => [wO o (a 0) (b 0) (d 0) (i 0) (g 0) N tn, wT cI (o 1) 160 tr, wT cI (o 2) N sp, wU cL (o 3) N wh, wU cL (o 4) N ow, wS cI b (a 0) (a 1) (a 2) N rw nm bf fe, wT cI (b 1) (N + 1) (nF oo), wS cI d (a 0) (a 2) (a 1) N rx nn bg fx, wT cI (d 1) (N + 1) (nF ox), wA cI cZ a c fr tt sa tk, wI cI cZ i op sl oi nd lp tl, wG cI g go gt, wM cI cZ cL q th N c fr tt sa tk tn tr op sl nd oi il tl go gt fa mn nx, wU cL t1 1 u]) (fun _ => rfl) gL_law_L_in rfl (by decide +kernel) rfl ⟨by decide, by decide⟩ hl.1 (Nat.le_of_ble_eq_true rfl) ⟨hc9, hs9⟩ dL_law_368 rfl (fun r u H locs hw hP hD hS => ?_)
  rcases hw with ⟨hok, hw, hu⟩ | ⟨hok, hw⟩
  ·
    subst hw
    have hP : va_P D vwCl (List.flatten [wO o (a 0) (b 0) (d 0) (i 0) (g 0) N tn, wT cI (o 1) 160 tr, wT cI (o 2) N sp, wU cL (o 3) N wh, wU cL (o 4) N ow, wS cI b (a 0) (a 1) (a 2) N rw nm bf fe, wT cI (b 1) (N + 1) (nF oo), wS cI d (a 0) (a 2) (a 1) N rx nn bg fx, wT cI (d 1) (N + 1) (nF ox), wA cI cZ a c fr tt sa tk, wI cI cZ i op sl oi nd lp tl, wG cI g go gt, wM cI cZ cL q th N c fr tt sa tk tn tr op sl nd oi il tl go gt fa mn nx, wU cL t1 1 u]) _ := hP
    have hD : va_D A (List.flatten [wO o (a 0) (b 0) (d 0) (i 0) (g 0) N tn, wT cI (o 1) 160 tr, wT cI (o 2) N sp, wU cL (o 3) N wh, wU cL (o 4) N ow, wS cI b (a 0) (a 1) (a 2) N rw nm bf fe, wT cI (b 1) (N + 1) (nF oo), wS cI d (a 0) (a 2) (a 1) N rx nn bg fx, wT cI (d 1) (N + 1) (nF ox), wA cI cZ a c fr tt sa tk, wI cI cZ i op sl oi nd lp tl, wG cI g go gt, wM cI cZ cL q th N c fr tt sa tk tn tr op sl nd oi il tl go gt fa mn nx, wU cL t1 1 u]) := hD
    refine lv_istore (lv' := [(5, .int (0 : Int32)), (0, .ref bs), (1, .ref (o 0)), (2, .ref (q 0)), (3, .ref t1), (4, .int (nI n))]) hx hb dL_law_371 hl (by decide) rfl (fun ls hl => ?_)
    refine lv_aload_n hx hb dL_law_373 rfl (lv_at hl 3 rfl) ?_
    refine lv_aload_n hx hb dL_law_374 rfl (lv_at hl 1 rfl) ?_
    refine lv_iload hx hb dL_law_375 (lv_at hl 5 rfl) ?_
    refine lv_iconst (v := (1 : Int32)) hx hb dL_law_377 (by decide) ?_
    refine q_iadd (z := nI (n + 1)) hx hb dL_law_378 (nI_add n 1) ?_
    refine q_sld hx hb hXs hbl hbA hS (k := n + 1) (by omega) hL dL_law_379 ?_
    refine lv_aload_n hx hb dL_law_380 rfl (lv_at hl 1 rfl) ?_
    refine lv_iload hx hb dL_law_381 (lv_at hl 5 rfl) ?_
    refine lv_iconst (v := (2 : Int32)) hx hb dL_law_383 (by decide) ?_
    refine q_iadd (z := nI (n + 2)) hx hb dL_law_384 (nI_add n 2) ?_
    refine q_sld hx hb hXs hbl hbA hS (k := n + 2) (by omega) hL dL_law_385 ?_
    refine q_callVi (index := 65) (n := 2) (As := [.int (xs (n + 1)), .int (xs (n + 2))]) (rest := []) (js := [12]) (ci := 5) ⟨hx, hb, hml, hown, hts⟩ hK hP hD hS hA (k5_in l D cI cZ cL q th N c fr tt sa tk tn tr op sl nd oi il tl go gt fa mn nx (xs (n + 1)) (xs (n + 2)) (by omega)) rfl (by decide) (fun _ => by simp only [List.map_cons, List.map_nil, wM_fst]) (fun (_ : Unit) => [wO o (a 0) (b 0) (d 0) (i 0) (g 0) N tn, wT cI (o 1) 160 tr, wT cI (o 2) N sp, wU cL (o 3) N wh, wU cL (o 4) N ow, wS cI b (a 0) (a 1) (a 2) N rw nm bf fe, wT cI (b 1) (N + 1) (nF oo), wS cI d (a 0) (a 2) (a 1) N rx nn bg fx, wT cI (d 1) (N + 1) (nF ox), wA cI cZ a c fr tt sa tk, wI cI cZ i op sl oi nd lp tl, wG cI g go gt, wM cI cZ cL q (irT N c fr tt sa tk (xs (n + 1)) 1 (xs (n + 2))) N c fr tt sa tk tn tr op sl nd oi il tl go gt fa mn nx, wU cL t1 1 u]) (fun _ => rfl) gL_law_X5_in rfl (by decide +kernel) rfl ⟨by decide, by decide⟩ rfl rfl rfl rfl hl.1 (Nat.le_of_ble_eq_true rfl) ⟨(by assumption), (by assumption)⟩ dL_law_386 rfl (fun r _ H locs hw hP hD hS => ?_)
    have hw : r = irR N c fr tt sa tk (xs (n + 1)) 1 (xs (n + 2)) := hw
    subst hw
    refine q_top (z := atV c sa tt rx ox (xs (n + 1)).toNatClampNeg (xs (n + 2)).toNatClampNeg) (irR_sw.trans (I_ok (tk := tk) hR2 hc hN htt hfr hok).2) ?_
    have hP : va_P D vwCl (List.flatten [wO o (a 0) (b 0) (d 0) (i 0) (g 0) N tn, wT cI (o 1) 160 tr, wT cI (o 2) N sp, wU cL (o 3) N wh, wU cL (o 4) N ow, wS cI b (a 0) (a 1) (a 2) N rw nm bf fe, wT cI (b 1) (N + 1) (nF oo), wS cI d (a 0) (a 2) (a 1) N rx nn bg fx, wT cI (d 1) (N + 1) (nF ox), wA cI cZ a c fr tt sa tk, wI cI cZ i op sl oi nd lp tl, wG cI g go gt, wM cI cZ cL q 0 N c fr tt sa tk tn tr op sl nd oi il tl go gt fa mn nx, wU cL t1 1 u]) _ := wCast hP (by rw [irT_sw, (I_ok hR2 hc hN htt hfr hok).1])
    have hD : va_D A (List.flatten [wO o (a 0) (b 0) (d 0) (i 0) (g 0) N tn, wT cI (o 1) 160 tr, wT cI (o 2) N sp, wU cL (o 3) N wh, wU cL (o 4) N ow, wS cI b (a 0) (a 1) (a 2) N rw nm bf fe, wT cI (b 1) (N + 1) (nF oo), wS cI d (a 0) (a 2) (a 1) N rx nn bg fx, wT cI (d 1) (N + 1) (nF ox), wA cI cZ a c fr tt sa tk, wI cI cZ i op sl oi nd lp tl, wG cI g go gt, wM cI cZ cL q 0 N c fr tt sa tk tn tr op sl nd oi il tl go gt fa mn nx, wU cL t1 1 u]) := dCast hD (by rw [irT_sw, (I_ok hR2 hc hN htt hfr hok).1])
    refine lv_istore (lv' := [(6, .int (atV c sa tt rx ox (xs (n + 1)).toNatClampNeg (xs (n + 2)).toNatClampNeg)), (5, .int (0 : Int32)), (0, .ref bs), (1, .ref (o 0)), (2, .ref (q 0)), (3, .ref t1), (4, .int (nI n))]) hx hb dL_law_389 hl (by decide) rfl (fun ls hl => ?_)
    refine lv_aload_n hx hb dL_law_391 rfl (lv_at hl 4 rfl) ?_
    refine q_callVi (index := 60) (n := 0) (As := []) (rest := []) (js := [12]) (ci := 5) ⟨hx, hb, hml, hown, hts⟩ hK hP hD hS hA (k5_thrown l D cI cZ cL q 0 N c fr tt sa tk tn tr op sl nd oi il tl go gt fa mn nx) rfl (by decide) (fun _ => by simp only [List.map_cons, List.map_nil, wM_fst]) (fun (_ : Unit) => [wO o (a 0) (b 0) (d 0) (i 0) (g 0) N tn, wT cI (o 1) 160 tr, wT cI (o 2) N sp, wU cL (o 3) N wh, wU cL (o 4) N ow, wS cI b (a 0) (a 1) (a 2) N rw nm bf fe, wT cI (b 1) (N + 1) (nF oo), wS cI d (a 0) (a 2) (a 1) N rx nn bg fx, wT cI (d 1) (N + 1) (nF ox), wA cI cZ a c fr tt sa tk, wI cI cZ i op sl oi nd lp tl, wG cI g go gt, wM cI cZ cL q 0 N c fr tt sa tk tn tr op sl nd oi il tl go gt fa mn nx, wU cL t1 1 u]) (fun _ => rfl) gL_law_X5_thrown rfl (by decide +kernel) rfl ⟨by decide, by decide⟩ rfl rfl rfl rfl hl.1 (Nat.le_of_ble_eq_true rfl) ⟨(by assumption), (by assumption)⟩ dL_law_392 rfl (fun r _ H locs hw hP hD hS => ?_)
    have hw : r = nI 0 := hw
    subst hw
    refine q_top (z := (0 : Int32)) (rfl) ?_
    refine lv_iload hx hb dL_law_395 (lv_at hl 1 rfl) ?_
    refine lv_icmp_eq (tgt := 402) hx hb dL_law_397 (by decide) (fun c_397 => ?_) (fun c_397 => ?_)
    ·
      refine lv_iload hx hb dL_law_402 (lv_at hl 1 rfl) ?_
      refine lv_if_ne (tgt := 419) hx hb dL_law_404 (by decide) (fun c_404 => ?_) (fun c_404 => ?_)
      ·
        exact absurd (by decide) c_404
      ·
        refine lv_aload_n hx hb dL_law_407 rfl (lv_at hl 5 rfl) ?_
        refine lv_iconst (v := (0 : Int32)) hx hb dL_law_408 (by decide) ?_
        refine q_lald hx hb hK hP 13 0 2 rfl (f := u) rfl rfl (k := 0) (nI_clamp (n := 0) (by omega)) (vp_in_nI (n := 0) (N := 1) (by decide) (by decide)) dL_law_409 ?_
        refine lv_iload hx hb dL_law_410 (lv_at hl 0 rfl) ?_
        refine lv_i2l hx hb dL_law_412 rfl ?_
        refine W.lcmp hx hb dL_law_413 ?_
        refine lv_if_eq (tgt := 419) hx hb dL_law_414 (by decide) (fun c_414 => ?_) (fun c_414 => ?_)
        ·
          refine lv_goto (tgt := 972) hx hb dL_law_419 (by decide) ?_
          exact kk _ _ _ ⟨_, _, _, _, _, _, _, _, _, _, _, _, _, _, _, _, _, _, _, _, _, _, _, _, _, _, _, _, _, _, _, _, _, _, _, hInv, h8, hP, hD, hS⟩ (lv_sub hl [2, 3, 4, 5, 6] rfl)
        ·
          exact absurd ((lg_cmp_eq _ _).mpr hu) c_414
    ·
      exact absurd (by decide) c_397
  ·
    subst hw
    have hP : va_P D vwCl (List.flatten [wO o (a 0) (b 0) (d 0) (i 0) (g 0) N tn, wT cI (o 1) 160 tr, wT cI (o 2) N sp, wU cL (o 3) N wh, wU cL (o 4) N ow, wS cI b (a 0) (a 1) (a 2) N rw nm bf fe, wT cI (b 1) (N + 1) (nF oo), wS cI d (a 0) (a 2) (a 1) N rx nn bg fx, wT cI (d 1) (N + 1) (nF ox), wA cI cZ a c fr tt sa tk, wI cI cZ i op sl oi nd lp tl, wG cI g go gt, wM cI cZ cL q th N c fr tt sa tk tn tr op sl nd oi il tl go gt fa mn nx, wU cL t1 1 u]) _ := hP
    have hD : va_D A (List.flatten [wO o (a 0) (b 0) (d 0) (i 0) (g 0) N tn, wT cI (o 1) 160 tr, wT cI (o 2) N sp, wU cL (o 3) N wh, wU cL (o 4) N ow, wS cI b (a 0) (a 1) (a 2) N rw nm bf fe, wT cI (b 1) (N + 1) (nF oo), wS cI d (a 0) (a 2) (a 1) N rx nn bg fx, wT cI (d 1) (N + 1) (nF ox), wA cI cZ a c fr tt sa tk, wI cI cZ i op sl oi nd lp tl, wG cI g go gt, wM cI cZ cL q th N c fr tt sa tk tn tr op sl nd oi il tl go gt fa mn nx, wU cL t1 1 u]) := hD
    refine lv_istore (lv' := [(5, .int (1 : Int32)), (0, .ref bs), (1, .ref (o 0)), (2, .ref (q 0)), (3, .ref t1), (4, .int (nI n))]) hx hb dL_law_371 hl (by decide) rfl (fun ls hl => ?_)
    refine lv_aload_n hx hb dL_law_373 rfl (lv_at hl 3 rfl) ?_
    refine lv_aload_n hx hb dL_law_374 rfl (lv_at hl 1 rfl) ?_
    refine lv_iload hx hb dL_law_375 (lv_at hl 5 rfl) ?_
    refine lv_iconst (v := (1 : Int32)) hx hb dL_law_377 (by decide) ?_
    refine q_iadd (z := nI (n + 1)) hx hb dL_law_378 (nI_add n 1) ?_
    refine q_sld hx hb hXs hbl hbA hS (k := n + 1) (by omega) hL dL_law_379 ?_
    refine lv_aload_n hx hb dL_law_380 rfl (lv_at hl 1 rfl) ?_
    refine lv_iload hx hb dL_law_381 (lv_at hl 5 rfl) ?_
    refine lv_iconst (v := (2 : Int32)) hx hb dL_law_383 (by decide) ?_
    refine q_iadd (z := nI (n + 2)) hx hb dL_law_384 (nI_add n 2) ?_
    refine q_sld hx hb hXs hbl hbA hS (k := n + 2) (by omega) hL dL_law_385 ?_
    refine q_callVi (index := 65) (n := 2) (As := [.int (xs (n + 1)), .int (xs (n + 2))]) (rest := []) (js := [12]) (ci := 5) ⟨hx, hb, hml, hown, hts⟩ hK hP hD hS hA (k5_in l D cI cZ cL q th N c fr tt sa tk tn tr op sl nd oi il tl go gt fa mn nx (xs (n + 1)) (xs (n + 2)) (by omega)) rfl (by decide) (fun _ => by simp only [List.map_cons, List.map_nil, wM_fst]) (fun (_ : Unit) => [wO o (a 0) (b 0) (d 0) (i 0) (g 0) N tn, wT cI (o 1) 160 tr, wT cI (o 2) N sp, wU cL (o 3) N wh, wU cL (o 4) N ow, wS cI b (a 0) (a 1) (a 2) N rw nm bf fe, wT cI (b 1) (N + 1) (nF oo), wS cI d (a 0) (a 2) (a 1) N rx nn bg fx, wT cI (d 1) (N + 1) (nF ox), wA cI cZ a c fr tt sa tk, wI cI cZ i op sl oi nd lp tl, wG cI g go gt, wM cI cZ cL q (irT N c fr tt sa tk (xs (n + 1)) 1 (xs (n + 2))) N c fr tt sa tk tn tr op sl nd oi il tl go gt fa mn nx, wU cL t1 1 u]) (fun _ => rfl) gL_law_X5_in rfl (by decide +kernel) rfl ⟨by decide, by decide⟩ rfl rfl rfl rfl hl.1 (Nat.le_of_ble_eq_true rfl) ⟨(by assumption), (by assumption)⟩ dL_law_386 rfl (fun r _ H locs hw hP hD hS => ?_)
    have hw : r = irR N c fr tt sa tk (xs (n + 1)) 1 (xs (n + 2)) := hw
    subst hw
    have hP : va_P D vwCl (List.flatten [wO o (a 0) (b 0) (d 0) (i 0) (g 0) N tn, wT cI (o 1) 160 tr, wT cI (o 2) N sp, wU cL (o 3) N wh, wU cL (o 4) N ow, wS cI b (a 0) (a 1) (a 2) N rw nm bf fe, wT cI (b 1) (N + 1) (nF oo), wS cI d (a 0) (a 2) (a 1) N rx nn bg fx, wT cI (d 1) (N + 1) (nF ox), wA cI cZ a c fr tt sa tk, wI cI cZ i op sl oi nd lp tl, wG cI g go gt, wM cI cZ cL q 1 N c fr tt sa tk tn tr op sl nd oi il tl go gt fa mn nx, wU cL t1 1 u]) _ := wCast hP (by rw [irT_sw, I_no hR2 hc hN htt hfr hok])
    have hD : va_D A (List.flatten [wO o (a 0) (b 0) (d 0) (i 0) (g 0) N tn, wT cI (o 1) 160 tr, wT cI (o 2) N sp, wU cL (o 3) N wh, wU cL (o 4) N ow, wS cI b (a 0) (a 1) (a 2) N rw nm bf fe, wT cI (b 1) (N + 1) (nF oo), wS cI d (a 0) (a 2) (a 1) N rx nn bg fx, wT cI (d 1) (N + 1) (nF ox), wA cI cZ a c fr tt sa tk, wI cI cZ i op sl oi nd lp tl, wG cI g go gt, wM cI cZ cL q 1 N c fr tt sa tk tn tr op sl nd oi il tl go gt fa mn nx, wU cL t1 1 u]) := dCast hD (by rw [irT_sw, I_no hR2 hc hN htt hfr hok])
    refine lv_istore (lv' := [(6, .int (irR N c fr tt sa tk (xs (n + 1)) 1 (xs (n + 2)))), (5, .int (1 : Int32)), (0, .ref bs), (1, .ref (o 0)), (2, .ref (q 0)), (3, .ref t1), (4, .int (nI n))]) hx hb dL_law_389 hl (by decide) rfl (fun ls hl => ?_)
    refine lv_aload_n hx hb dL_law_391 rfl (lv_at hl 4 rfl) ?_
    refine q_callVi (index := 60) (n := 0) (As := []) (rest := []) (js := [12]) (ci := 5) ⟨hx, hb, hml, hown, hts⟩ hK hP hD hS hA (k5_thrown l D cI cZ cL q 1 N c fr tt sa tk tn tr op sl nd oi il tl go gt fa mn nx) rfl (by decide) (fun _ => by simp only [List.map_cons, List.map_nil, wM_fst]) (fun (_ : Unit) => [wO o (a 0) (b 0) (d 0) (i 0) (g 0) N tn, wT cI (o 1) 160 tr, wT cI (o 2) N sp, wU cL (o 3) N wh, wU cL (o 4) N ow, wS cI b (a 0) (a 1) (a 2) N rw nm bf fe, wT cI (b 1) (N + 1) (nF oo), wS cI d (a 0) (a 2) (a 1) N rx nn bg fx, wT cI (d 1) (N + 1) (nF ox), wA cI cZ a c fr tt sa tk, wI cI cZ i op sl oi nd lp tl, wG cI g go gt, wM cI cZ cL q 1 N c fr tt sa tk tn tr op sl nd oi il tl go gt fa mn nx, wU cL t1 1 u]) (fun _ => rfl) gL_law_X5_thrown rfl (by decide +kernel) rfl ⟨by decide, by decide⟩ rfl rfl rfl rfl hl.1 (Nat.le_of_ble_eq_true rfl) ⟨(by assumption), (by assumption)⟩ dL_law_392 rfl (fun r _ H locs hw hP hD hS => ?_)
    have hw : r = nI 1 := hw
    subst hw
    refine q_top (z := (1 : Int32)) (rfl) ?_
    refine lv_iload hx hb dL_law_395 (lv_at hl 1 rfl) ?_
    refine lv_icmp_eq (tgt := 402) hx hb dL_law_397 (by decide) (fun c_397 => ?_) (fun c_397 => ?_)
    ·
      refine lv_iload hx hb dL_law_402 (lv_at hl 1 rfl) ?_
      refine lv_if_ne (tgt := 419) hx hb dL_law_404 (by decide) (fun c_404 => ?_) (fun c_404 => ?_)
      ·
        refine lv_goto (tgt := 972) hx hb dL_law_419 (by decide) ?_
        exact kk _ _ _ ⟨_, _, _, _, _, _, _, _, _, _, _, _, _, _, _, _, _, _, _, _, _, _, _, _, _, _, _, _, _, _, _, _, _, _, _, hInv, h8, hP, hD, hS⟩ (lv_sub hl [2, 3, 4, 5, 6] rfl)
      ·
        exact absurd c_404 (by decide)
    ·
      exact absurd (by decide) c_397

set_option maxHeartbeats 8000000 in
set_option maxRecDepth 100000 in
theorem law_offset {pz : Program} {l : Launch} {ez : Env} {sz : State} {mz : MethodId} {args : Array Value} {bz : List Frame} {tz : Method} {cz : Code} {H : Heap} {locs : List Loc} {cells slots : Nat} {Q : State → Prop} {ls : Array Slot} {bs L : Nat} {xs : Nat → Int32} {D : va_G} {cI cZ cL : ClassId} {A : Nat → Prop} {o b d a i g q : Nat → Nat} {t1 n : Nat} (X : lwC pz l sz mz args cz bs L xs D cI cZ cL A) (hn : n + 3 < L) (hc9 : cells + 1 ≤ room_1.cells) (hs9 : slots + 6 ≤ room_1.slots) (hl : lv_has ls 7 [(0, .ref bs), (1, .ref (o 0)), (2, .ref (q 0)), (3, .ref t1), (4, .int (nI n))]) (hat : lwI D cI cZ cL A sz.heap o b d a i g q t1 H locs) (kk : ∀ (H : Heap) (locs : List Loc) (ls : Array Slot), lwI D cI cZ cL A sz.heap o b d a i g q t1 H locs → lv_has ls 7 [(0, .ref bs), (1, .ref (o 0)), (2, .ref (q 0)), (3, .ref t1), (4, .int (nI n))] → W pz l ez room_1 sz mz args bz tz cz H locs (cells + 1) (slots + 6) Q (F0 mz 972 ls [])) : W pz l ez room_1 sz mz args bz tz cz H locs cells slots Q (F0 mz 422 ls []) := by
  obtain ⟨hx, hb, hml, hown, hts, hXs, hbl, hbA, hA, hK, hX, hst, hL⟩ := X
  obtain ⟨N, tn, tr, sp, wh, ow, rw, nm, bf, fe, rx, nn, bg, fx, c, fr, tt, sa, tk, op, sl, oi, nd, lp, tl, go, gt, oo, ox, th, il, fa, mn, nx, f9, hInv, h8, hP, hD, hS⟩ := hat
  obtain ⟨⟨hN1, hN⟩, hc, htn, hfr, htt, hsa, hlt, htk, hR, hR2, hI⟩ := id hInv
  have hcc : cells ≤ room_1.cells := Nat.le_of_succ_le hc9
  have hss : slots ≤ room_1.slots := Nat.le_trans (Nat.le_add_right _ 6) hs9
  by_cases hz : xs (n + 2) = 0
  ·
    refine lv_aload_n hx hb dL_law_422 rfl (lv_at hl 1 rfl) ?_
    refine lv_aload_n hx hb dL_law_423 rfl (lv_at hl 0 rfl) ?_
    refine lv_iload hx hb dL_law_424 (lv_at hl 4 rfl) ?_
    refine lv_iconst (v := (1 : Int32)) hx hb dL_law_426 (by decide) ?_
    refine q_iadd (z := nI (n + 1)) hx hb dL_law_427 (nI_add n 1) ?_
    refine q_sld hx hb hXs hbl hbA hS (k := n + 1) (by omega) hL dL_law_428 ?_
    refine lv_aload_n hx hb dL_law_429 rfl (lv_at hl 0 rfl) ?_
    refine lv_iload hx hb dL_law_430 (lv_at hl 4 rfl) ?_
    refine lv_iconst (v := (2 : Int32)) hx hb dL_law_432 (by decide) ?_
    refine q_iadd (z := nI (n + 2)) hx hb dL_law_433 (nI_add n 2) ?_
    refine q_sld hx hb hXs hbl hbA hS (k := n + 2) (by omega) hL dL_law_434 ?_
    refine lv_if_eq (tgt := 442) hx hb dL_law_435 (by decide) (fun c_435 => ?_) (fun c_435 => ?_)
    ·
      refine lv_iconst (v := (0 : Int32)) hx hb dL_law_442 (by decide) ?_
      refine q_callVi (index := 66) (n := 2) (As := [.int (xs (n + 1)), .int (0 : Int32)]) (rest := []) (js := [0, 1, 2, 3, 4, 5, 6, 7, 8, 9, 10, 11]) (ci := 4) ⟨hx, hb, hml, hown, hts⟩ hK hP hD hS hA (k4_offset0 l D cI cZ cL o N tn tr sp wh ow b rw nm bf fe d rx nn bg fx a c fr tt sa tk i op sl oi nd lp tl g go gt oo ox (xs (n + 1)) (0 : Int32) (by omega) (by decide)) rfl (by decide) (fun _ => by simp only [List.map_cons, List.map_nil, wA_fst, wG_fst, wI_fst, wO_fst, wS_fst, wT_fst, wU_fst]) (fun (_ : Unit) => [wO o (a 0) (b 0) (d 0) (i 0) (g 0) N tn, wT cI (o 1) 160 tr, wT cI (o 2) N sp, wU cL (o 3) N wh, wU cL (o 4) N ow, wS cI b (a 0) (a 1) (a 2) N rw nm bf fe, wT cI (b 1) (N + 1) (nF oo), wS cI d (a 0) (a 2) (a 1) N rx nn bg fx, wT cI (d 1) (N + 1) (nF ox), wA cI cZ a c fr tt sa tk, wI cI cZ i op sl oi nd lp tl, wG cI g go gt, wM cI cZ cL q th N c fr tt sa tk tn tr op sl nd oi il tl go gt fa mn nx, wU cL t1 1 f9]) (fun _ => rfl) gL_law_X4_offset rfl (by decide +kernel) rfl ⟨by decide, by decide⟩ rfl rfl rfl rfl hl.1 (Nat.le_of_ble_eq_true rfl) ⟨(by assumption), (by assumption)⟩ dL_law_443 rfl (fun r _ H locs hw hP hD hS => ?_)
      have hw : r = ofC N oo (xs (n + 1)) := hw
      subst hw
      refine lv_aload_n hx hb dL_law_446 rfl (lv_at hl 2 rfl) ?_
      refine lv_aload_n hx hb dL_law_447 rfl (lv_at hl 0 rfl) ?_
      refine lv_iload hx hb dL_law_448 (lv_at hl 4 rfl) ?_
      refine lv_iconst (v := (1 : Int32)) hx hb dL_law_450 (by decide) ?_
      refine q_iadd (z := nI (n + 1)) hx hb dL_law_451 (nI_add n 1) ?_
      refine q_sld hx hb hXs hbl hbA hS (k := n + 1) (by omega) hL dL_law_452 ?_
      refine lv_aload_n hx hb dL_law_453 rfl (lv_at hl 0 rfl) ?_
      refine lv_iload hx hb dL_law_454 (lv_at hl 4 rfl) ?_
      refine lv_iconst (v := (2 : Int32)) hx hb dL_law_456 (by decide) ?_
      refine q_iadd (z := nI (n + 2)) hx hb dL_law_457 (nI_add n 2) ?_
      refine q_sld hx hb hXs hbl hbA hS (k := n + 2) (by omega) hL dL_law_458 ?_
      refine lv_if_eq (tgt := 466) hx hb dL_law_459 (by decide) (fun c_459 => ?_) (fun c_459 => ?_)
      ·
        refine lv_iconst (v := (0 : Int32)) hx hb dL_law_466 (by decide) ?_
        refine q_callVi (index := 70) (n := 2) (As := [.int (xs (n + 1)), .int (0 : Int32)]) (rest := [.int (ofC N oo (xs (n + 1)))]) (js := [12]) (ci := 5) ⟨hx, hb, hml, hown, hts⟩ hK hP hD hS hA (k5_offset l D cI cZ cL q th N c fr tt sa tk tn tr op sl nd oi il tl go gt fa mn nx (xs (n + 1)) (0 : Int32) (by omega)) rfl (by decide) (fun _ => by simp only [List.map_cons, List.map_nil, wM_fst]) (fun (_ : Unit) => [wO o (a 0) (b 0) (d 0) (i 0) (g 0) N tn, wT cI (o 1) 160 tr, wT cI (o 2) N sp, wU cL (o 3) N wh, wU cL (o 4) N ow, wS cI b (a 0) (a 1) (a 2) N rw nm bf fe, wT cI (b 1) (N + 1) (nF oo), wS cI d (a 0) (a 2) (a 1) N rx nn bg fx, wT cI (d 1) (N + 1) (nF ox), wA cI cZ a c fr tt sa tk, wI cI cZ i op sl oi nd lp tl, wG cI g go gt, wM cI cZ cL q 0 N c fr tt sa tk tn tr op sl nd oi il tl go gt fa mn nx, wU cL t1 1 f9]) (fun _ => rfl) gL_law_X5_offset rfl (by decide +kernel) rfl ⟨by decide, by decide⟩ rfl rfl rfl rfl hl.1 (Nat.le_of_ble_eq_true rfl) ⟨(by assumption), (by assumption)⟩ dL_law_467 rfl (fun r _ H locs hw hP hD hS => ?_)
        have hw : r = ofsR N c fr tt sa (xs (n + 1)) (0 : Int32) := hw
        subst hw
        refine lv_icmp_eq (tgt := 972) hx hb dL_law_470 (by decide) (fun c_470 => ?_) (fun c_470 => ?_)
        ·
          refine W.widen (k := cells + 1) (n := slots + 6) (Nat.le_add_right _ _) (Nat.le_add_right _ _) ?_
          exact kk _ _ _ ⟨_, _, _, _, _, _, _, _, _, _, _, _, _, _, _, _, _, _, _, _, _, _, _, _, _, _, _, _, _, _, _, _, _, _, _, hInv, h8, hP, hD, hS⟩ (lv_sub hl [0, 1, 2, 3, 4] rfl)
        ·
          exact absurd (A_off hR hN hfr (xs (n + 1))) c_470
      ·
        exact absurd hz c_459
    ·
      exact absurd hz c_435
  ·
    refine lv_aload_n hx hb dL_law_422 rfl (lv_at hl 1 rfl) ?_
    refine lv_aload_n hx hb dL_law_423 rfl (lv_at hl 0 rfl) ?_
    refine lv_iload hx hb dL_law_424 (lv_at hl 4 rfl) ?_
    refine lv_iconst (v := (1 : Int32)) hx hb dL_law_426 (by decide) ?_
    refine q_iadd (z := nI (n + 1)) hx hb dL_law_427 (nI_add n 1) ?_
    refine q_sld hx hb hXs hbl hbA hS (k := n + 1) (by omega) hL dL_law_428 ?_
    refine lv_aload_n hx hb dL_law_429 rfl (lv_at hl 0 rfl) ?_
    refine lv_iload hx hb dL_law_430 (lv_at hl 4 rfl) ?_
    refine lv_iconst (v := (2 : Int32)) hx hb dL_law_432 (by decide) ?_
    refine q_iadd (z := nI (n + 2)) hx hb dL_law_433 (nI_add n 2) ?_
    refine q_sld hx hb hXs hbl hbA hS (k := n + 2) (by omega) hL dL_law_434 ?_
    refine lv_if_eq (tgt := 442) hx hb dL_law_435 (by decide) (fun c_435 => ?_) (fun c_435 => ?_)
    ·
      exact absurd c_435 hz
    ·
      refine lv_iconst (v := (1 : Int32)) hx hb dL_law_438 (by decide) ?_
      refine lv_goto (tgt := 443) hx hb dL_law_439 (by decide) ?_
      refine q_callVi (index := 66) (n := 2) (As := [.int (xs (n + 1)), .int (1 : Int32)]) (rest := []) (js := [0, 1, 2, 3, 4, 5, 6, 7, 8, 9, 10, 11]) (ci := 4) ⟨hx, hb, hml, hown, hts⟩ hK hP hD hS hA (k4_offset1 l D cI cZ cL o N tn tr sp wh ow b rw nm bf fe d rx nn bg fx a c fr tt sa tk i op sl oi nd lp tl g go gt oo ox (xs (n + 1)) (1 : Int32) (by omega) (by decide)) rfl (by decide) (fun _ => by simp only [List.map_cons, List.map_nil, wA_fst, wG_fst, wI_fst, wO_fst, wS_fst, wT_fst, wU_fst]) (fun (_ : Unit) => [wO o (a 0) (b 0) (d 0) (i 0) (g 0) N tn, wT cI (o 1) 160 tr, wT cI (o 2) N sp, wU cL (o 3) N wh, wU cL (o 4) N ow, wS cI b (a 0) (a 1) (a 2) N rw nm bf fe, wT cI (b 1) (N + 1) (nF oo), wS cI d (a 0) (a 2) (a 1) N rx nn bg fx, wT cI (d 1) (N + 1) (nF ox), wA cI cZ a c fr tt sa tk, wI cI cZ i op sl oi nd lp tl, wG cI g go gt, wM cI cZ cL q th N c fr tt sa tk tn tr op sl nd oi il tl go gt fa mn nx, wU cL t1 1 f9]) (fun _ => rfl) gL_law_X4_offset rfl (by decide +kernel) rfl ⟨by decide, by decide⟩ rfl rfl rfl rfl hl.1 (Nat.le_of_ble_eq_true rfl) ⟨(by assumption), (by assumption)⟩ dL_law_443 rfl (fun r _ H locs hw hP hD hS => ?_)
      have hw : r = ofC N ox (xs (n + 1)) := hw
      subst hw
      refine lv_aload_n hx hb dL_law_446 rfl (lv_at hl 2 rfl) ?_
      refine lv_aload_n hx hb dL_law_447 rfl (lv_at hl 0 rfl) ?_
      refine lv_iload hx hb dL_law_448 (lv_at hl 4 rfl) ?_
      refine lv_iconst (v := (1 : Int32)) hx hb dL_law_450 (by decide) ?_
      refine q_iadd (z := nI (n + 1)) hx hb dL_law_451 (nI_add n 1) ?_
      refine q_sld hx hb hXs hbl hbA hS (k := n + 1) (by omega) hL dL_law_452 ?_
      refine lv_aload_n hx hb dL_law_453 rfl (lv_at hl 0 rfl) ?_
      refine lv_iload hx hb dL_law_454 (lv_at hl 4 rfl) ?_
      refine lv_iconst (v := (2 : Int32)) hx hb dL_law_456 (by decide) ?_
      refine q_iadd (z := nI (n + 2)) hx hb dL_law_457 (nI_add n 2) ?_
      refine q_sld hx hb hXs hbl hbA hS (k := n + 2) (by omega) hL dL_law_458 ?_
      refine lv_if_eq (tgt := 466) hx hb dL_law_459 (by decide) (fun c_459 => ?_) (fun c_459 => ?_)
      ·
        exact absurd c_459 hz
      ·
        refine lv_iconst (v := (1 : Int32)) hx hb dL_law_462 (by decide) ?_
        refine lv_goto (tgt := 467) hx hb dL_law_463 (by decide) ?_
        refine q_callVi (index := 70) (n := 2) (As := [.int (xs (n + 1)), .int (1 : Int32)]) (rest := [.int (ofC N ox (xs (n + 1)))]) (js := [12]) (ci := 5) ⟨hx, hb, hml, hown, hts⟩ hK hP hD hS hA (k5_offset l D cI cZ cL q th N c fr tt sa tk tn tr op sl nd oi il tl go gt fa mn nx (xs (n + 1)) (1 : Int32) (by omega)) rfl (by decide) (fun _ => by simp only [List.map_cons, List.map_nil, wM_fst]) (fun (_ : Unit) => [wO o (a 0) (b 0) (d 0) (i 0) (g 0) N tn, wT cI (o 1) 160 tr, wT cI (o 2) N sp, wU cL (o 3) N wh, wU cL (o 4) N ow, wS cI b (a 0) (a 1) (a 2) N rw nm bf fe, wT cI (b 1) (N + 1) (nF oo), wS cI d (a 0) (a 2) (a 1) N rx nn bg fx, wT cI (d 1) (N + 1) (nF ox), wA cI cZ a c fr tt sa tk, wI cI cZ i op sl oi nd lp tl, wG cI g go gt, wM cI cZ cL q 0 N c fr tt sa tk tn tr op sl nd oi il tl go gt fa mn nx, wU cL t1 1 f9]) (fun _ => rfl) gL_law_X5_offset rfl (by decide +kernel) rfl ⟨by decide, by decide⟩ rfl rfl rfl rfl hl.1 (Nat.le_of_ble_eq_true rfl) ⟨(by assumption), (by assumption)⟩ dL_law_467 rfl (fun r _ H locs hw hP hD hS => ?_)
        have hw : r = ofsR N c fr tt sa (xs (n + 1)) (1 : Int32) := hw
        subst hw
        refine lv_icmp_eq (tgt := 972) hx hb dL_law_470 (by decide) (fun c_470 => ?_) (fun c_470 => ?_)
        ·
          refine W.widen (k := cells + 1) (n := slots + 6) (Nat.le_add_right _ _) (Nat.le_add_right _ _) ?_
          exact kk _ _ _ ⟨_, _, _, _, _, _, _, _, _, _, _, _, _, _, _, _, _, _, _, _, _, _, _, _, _, _, _, _, _, _, _, _, _, _, _, hInv, h8, hP, hD, hS⟩ (lv_sub hl [0, 1, 2, 3, 4] rfl)
        ·
          exact absurd ((A_off hR2 hN htt (xs (n + 1))).trans (ofsR_sw (by decide) (xs (n + 1))).symm) c_470

set_option maxHeartbeats 8000000 in
set_option maxRecDepth 100000 in
theorem law_told {pz : Program} {l : Launch} {ez : Env} {sz : State} {mz : MethodId} {args : Array Value} {bz : List Frame} {tz : Method} {cz : Code} {H : Heap} {locs : List Loc} {cells slots : Nat} {Q : State → Prop} {ls : Array Slot} {bs L : Nat} {xs : Nat → Int32} {D : va_G} {cI cZ cL : ClassId} {A : Nat → Prop} {o b d a i g q : Nat → Nat} {t1 n : Nat} (X : lwC pz l sz mz args cz bs L xs D cI cZ cL A) (hn : n + 3 < L) (hc9 : cells + 1 ≤ room_1.cells) (hs9 : slots + 6 ≤ room_1.slots) (hl : lv_has ls 7 [(0, .ref bs), (1, .ref (o 0)), (2, .ref (q 0)), (3, .ref t1), (4, .int (nI n))]) (hat : lwI D cI cZ cL A sz.heap o b d a i g q t1 H locs) (kk : ∀ (H : Heap) (locs : List Loc) (ls : Array Slot), lwI D cI cZ cL A sz.heap o b d a i g q t1 H locs → lv_has ls 7 [(0, .ref bs), (1, .ref (o 0)), (2, .ref (q 0)), (3, .ref t1), (4, .int (nI n))] → W pz l ez room_1 sz mz args bz tz cz H locs (cells + 1) (slots + 6) Q (F0 mz 972 ls [])) : W pz l ez room_1 sz mz args bz tz cz H locs cells slots Q (F0 mz 475 ls []) := by
  obtain ⟨hx, hb, hml, hown, hts, hXs, hbl, hbA, hA, hK, hX, hst, hL⟩ := X
  obtain ⟨N, tn, tr, sp, wh, ow, rw, nm, bf, fe, rx, nn, bg, fx, c, fr, tt, sa, tk, op, sl, oi, nd, lp, tl, go, gt, oo, ox, th, il, fa, mn, nx, f9, hInv, h8, hP, hD, hS⟩ := hat
  obtain ⟨⟨hN1, hN⟩, hc, htn, hfr, htt, hsa, hlt, htk, hR, hR2, hI⟩ := id hInv
  have hcc : cells ≤ room_1.cells := Nat.le_of_succ_le hc9
  have hss : slots ≤ room_1.slots := Nat.le_trans (Nat.le_add_right _ 6) hs9
  refine lv_aload_n hx hb dL_law_475 rfl (lv_at hl 1 rfl) ?_
  refine lv_aload_n hx hb dL_law_476 rfl (lv_at hl 0 rfl) ?_
  refine lv_iload hx hb dL_law_477 (lv_at hl 4 rfl) ?_
  refine lv_iconst (v := (1 : Int32)) hx hb dL_law_479 (by decide) ?_
  refine q_iadd (z := nI (n + 1)) hx hb dL_law_480 (nI_add n 1) ?_
  refine q_sld hx hb hXs hbl hbA hS (k := n + 1) (by omega) hL dL_law_481 ?_
  refine lv_aload_n hx hb dL_law_482 rfl (lv_at hl 0 rfl) ?_
  refine lv_iload hx hb dL_law_483 (lv_at hl 4 rfl) ?_
  refine lv_iconst (v := (2 : Int32)) hx hb dL_law_485 (by decide) ?_
  refine q_iadd (z := nI (n + 2)) hx hb dL_law_486 (nI_add n 2) ?_
  refine q_sld hx hb hXs hbl hbA hS (k := n + 2) (by omega) hL dL_law_487 ?_
  refine q_callVi (index := 71) (n := 2) (As := [.int (xs (n + 1)), .int (xs (n + 2))]) (rest := []) (js := [0, 1, 2, 3, 4, 5, 6, 7, 8, 9, 10, 11]) (ci := 4) ⟨hx, hb, hml, hown, hts⟩ hK hP hD hS hA (k4_told l D cI cZ cL o N tn tr sp wh ow b rw nm bf fe d rx nn bg fx a c fr tt sa tk i op sl oi nd lp tl g go gt oo ox (xs (n + 1)) (xs (n + 2)) (by omega)) rfl (by decide) (fun _ => by simp only [List.map_cons, List.map_nil, wA_fst, wG_fst, wI_fst, wO_fst, wS_fst, wT_fst, wU_fst]) (fun (_ : Unit) => [wO o (a 0) (b 0) (d 0) (i 0) (g 0) N tn, wT cI (o 1) 160 tr, wT cI (o 2) N sp, wU cL (o 3) N wh, wU cL (o 4) N ow, wS cI b (a 0) (a 1) (a 2) N rw nm bf fe, wT cI (b 1) (N + 1) (nF oo), wS cI d (a 0) (a 2) (a 1) N rx nn bg fx, wT cI (d 1) (N + 1) (nF ox), wA cI cZ a c fr tt sa tk, wI cI cZ i op sl oi nd lp tl, wG cI g go gt, wM cI cZ cL q th N c fr tt sa tk tn tr op sl nd oi il tl go gt fa mn nx, wU cL t1 1 f9]) (fun _ => rfl) gL_law_X4_told rfl (by decide +kernel) rfl ⟨by decide, by decide⟩ rfl rfl rfl rfl hl.1 (Nat.le_of_ble_eq_true rfl) ⟨(by assumption), (by assumption)⟩ dL_law_488 rfl (fun r _ H locs hw hP hD hS => ?_)
  have hw : r = toR c fr tt sa tk (xs (n + 1)) (xs (n + 2)) := hw
  subst hw
  refine lv_aload_n hx hb dL_law_491 rfl (lv_at hl 2 rfl) ?_
  refine lv_aload_n hx hb dL_law_492 rfl (lv_at hl 0 rfl) ?_
  refine lv_iload hx hb dL_law_493 (lv_at hl 4 rfl) ?_
  refine lv_iconst (v := (1 : Int32)) hx hb dL_law_495 (by decide) ?_
  refine q_iadd (z := nI (n + 1)) hx hb dL_law_496 (nI_add n 1) ?_
  refine q_sld hx hb hXs hbl hbA hS (k := n + 1) (by omega) hL dL_law_497 ?_
  refine lv_aload_n hx hb dL_law_498 rfl (lv_at hl 0 rfl) ?_
  refine lv_iload hx hb dL_law_499 (lv_at hl 4 rfl) ?_
  refine lv_iconst (v := (2 : Int32)) hx hb dL_law_501 (by decide) ?_
  refine q_iadd (z := nI (n + 2)) hx hb dL_law_502 (nI_add n 2) ?_
  refine q_sld hx hb hXs hbl hbA hS (k := n + 2) (by omega) hL dL_law_503 ?_
  refine q_callVi (index := 74) (n := 2) (As := [.int (xs (n + 1)), .int (xs (n + 2))]) (rest := [.int (toR c fr tt sa tk (xs (n + 1)) (xs (n + 2)))]) (js := [12]) (ci := 5) ⟨hx, hb, hml, hown, hts⟩ hK hP hD hS hA (k5_told l D cI cZ cL q th N c fr tt sa tk tn tr op sl nd oi il tl go gt fa mn nx (xs (n + 1)) (xs (n + 2)) (by omega)) rfl (by decide) (fun _ => by simp only [List.map_cons, List.map_nil, wM_fst]) (fun (_ : Unit) => [wO o (a 0) (b 0) (d 0) (i 0) (g 0) N tn, wT cI (o 1) 160 tr, wT cI (o 2) N sp, wU cL (o 3) N wh, wU cL (o 4) N ow, wS cI b (a 0) (a 1) (a 2) N rw nm bf fe, wT cI (b 1) (N + 1) (nF oo), wS cI d (a 0) (a 2) (a 1) N rx nn bg fx, wT cI (d 1) (N + 1) (nF ox), wA cI cZ a c fr tt sa tk, wI cI cZ i op sl oi nd lp tl, wG cI g go gt, wM cI cZ cL q 0 N c fr tt sa tk tn tr op sl nd oi il tl go gt fa mn nx, wU cL t1 1 f9]) (fun _ => rfl) gL_law_X5_told rfl (by decide +kernel) rfl ⟨by decide, by decide⟩ rfl rfl rfl rfl hl.1 (Nat.le_of_ble_eq_true rfl) ⟨(by assumption), (by assumption)⟩ dL_law_504 rfl (fun r _ H locs hw hP hD hS => ?_)
  have hw : r = toR c fr tt sa tk (xs (n + 1)) (xs (n + 2)) := hw
  subst hw
  refine lv_icmp_eq (tgt := 972) hx hb dL_law_507 (by decide) (fun c_507 => ?_) (fun c_507 => ?_)
  ·
    refine W.widen (k := cells + 1) (n := slots + 6) (Nat.le_add_right _ _) (Nat.le_add_right _ _) ?_
    exact kk _ _ _ ⟨_, _, _, _, _, _, _, _, _, _, _, _, _, _, _, _, _, _, _, _, _, _, _, _, _, _, _, _, _, _, _, _, _, _, _, hInv, h8, hP, hD, hS⟩ (lv_sub hl [0, 1, 2, 3, 4] rfl)
  ·
    exact absurd rfl c_507

set_option maxHeartbeats 8000000 in
set_option maxRecDepth 100000 in
theorem law_degree {pz : Program} {l : Launch} {ez : Env} {sz : State} {mz : MethodId} {args : Array Value} {bz : List Frame} {tz : Method} {cz : Code} {H : Heap} {locs : List Loc} {cells slots : Nat} {Q : State → Prop} {ls : Array Slot} {bs L : Nat} {xs : Nat → Int32} {D : va_G} {cI cZ cL : ClassId} {A : Nat → Prop} {o b d a i g q : Nat → Nat} {t1 n : Nat} (X : lwC pz l sz mz args cz bs L xs D cI cZ cL A) (hn : n + 3 < L) (hc9 : cells + 1 ≤ room_1.cells) (hs9 : slots + 6 ≤ room_1.slots) (hl : lv_has ls 7 [(0, .ref bs), (1, .ref (o 0)), (2, .ref (q 0)), (3, .ref t1), (4, .int (nI n))]) (hat : lwI D cI cZ cL A sz.heap o b d a i g q t1 H locs) (kk : ∀ (H : Heap) (locs : List Loc) (ls : Array Slot), lwI D cI cZ cL A sz.heap o b d a i g q t1 H locs → lv_has ls 7 [(0, .ref bs), (1, .ref (o 0)), (2, .ref (q 0)), (3, .ref t1), (4, .int (nI n))] → W pz l ez room_1 sz mz args bz tz cz H locs (cells + 1) (slots + 6) Q (F0 mz 972 ls [])) : W pz l ez room_1 sz mz args bz tz cz H locs cells slots Q (F0 mz 512 ls []) := by
  obtain ⟨hx, hb, hml, hown, hts, hXs, hbl, hbA, hA, hK, hX, hst, hL⟩ := X
  obtain ⟨N, tn, tr, sp, wh, ow, rw, nm, bf, fe, rx, nn, bg, fx, c, fr, tt, sa, tk, op, sl, oi, nd, lp, tl, go, gt, oo, ox, th, il, fa, mn, nx, f9, hInv, h8, hP, hD, hS⟩ := hat
  obtain ⟨⟨hN1, hN⟩, hc, htn, hfr, htt, hsa, hlt, htk, hR, hR2, hI⟩ := id hInv
  have hcc : cells ≤ room_1.cells := Nat.le_of_succ_le hc9
  have hss : slots ≤ room_1.slots := Nat.le_trans (Nat.le_add_right _ 6) hs9
  by_cases hz : xs (n + 2) = 0
  ·
    refine lv_aload_n hx hb dL_law_512 rfl (lv_at hl 1 rfl) ?_
    refine lv_aload_n hx hb dL_law_513 rfl (lv_at hl 0 rfl) ?_
    refine lv_iload hx hb dL_law_514 (lv_at hl 4 rfl) ?_
    refine lv_iconst (v := (1 : Int32)) hx hb dL_law_516 (by decide) ?_
    refine q_iadd (z := nI (n + 1)) hx hb dL_law_517 (nI_add n 1) ?_
    refine q_sld hx hb hXs hbl hbA hS (k := n + 1) (by omega) hL dL_law_518 ?_
    refine lv_aload_n hx hb dL_law_519 rfl (lv_at hl 0 rfl) ?_
    refine lv_iload hx hb dL_law_520 (lv_at hl 4 rfl) ?_
    refine lv_iconst (v := (2 : Int32)) hx hb dL_law_522 (by decide) ?_
    refine q_iadd (z := nI (n + 2)) hx hb dL_law_523 (nI_add n 2) ?_
    refine q_sld hx hb hXs hbl hbA hS (k := n + 2) (by omega) hL dL_law_524 ?_
    refine lv_if_eq (tgt := 532) hx hb dL_law_525 (by decide) (fun c_525 => ?_) (fun c_525 => ?_)
    ·
      refine lv_iconst (v := (0 : Int32)) hx hb dL_law_532 (by decide) ?_
      refine q_callVi (index := 75) (n := 2) (As := [.int (xs (n + 1)), .int (0 : Int32)]) (rest := []) (js := [0, 1, 2, 3, 4, 5, 6, 7, 8, 9, 10, 11]) (ci := 4) ⟨hx, hb, hml, hown, hts⟩ hK hP hD hS hA (k4_degree0 l D cI cZ cL o N tn tr sp wh ow b rw nm bf fe d rx nn bg fx a c fr tt sa tk i op sl oi nd lp tl g go gt oo ox (xs (n + 1)) (0 : Int32) (by omega) (by omega) (by decide) (fun v _ => oo_ok hR hc v)) rfl (by decide) (fun _ => by simp only [List.map_cons, List.map_nil, wA_fst, wG_fst, wI_fst, wO_fst, wS_fst, wT_fst, wU_fst]) (fun (_ : Unit) => [wO o (a 0) (b 0) (d 0) (i 0) (g 0) N tn, wT cI (o 1) 160 tr, wT cI (o 2) N sp, wU cL (o 3) N wh, wU cL (o 4) N ow, wS cI b (a 0) (a 1) (a 2) N rw nm bf fe, wT cI (b 1) (N + 1) (nF oo), wS cI d (a 0) (a 2) (a 1) N rx nn bg fx, wT cI (d 1) (N + 1) (nF ox), wA cI cZ a c fr tt sa tk, wI cI cZ i op sl oi nd lp tl, wG cI g go gt, wM cI cZ cL q th N c fr tt sa tk tn tr op sl nd oi il tl go gt fa mn nx, wU cL t1 1 f9]) (fun _ => rfl) gL_law_X4_degree rfl (by decide +kernel) rfl ⟨by decide, by decide⟩ rfl rfl rfl rfl hl.1 (Nat.le_of_ble_eq_true rfl) ⟨(by assumption), (by assumption)⟩ dL_law_533 rfl (fun r _ H locs hw hP hD hS => ?_)
      have hw : r = dcR N c sa tk fr rw oo (xs (n + 1)) := hw
      subst hw
      refine lv_aload_n hx hb dL_law_536 rfl (lv_at hl 2 rfl) ?_
      refine lv_aload_n hx hb dL_law_537 rfl (lv_at hl 0 rfl) ?_
      refine lv_iload hx hb dL_law_538 (lv_at hl 4 rfl) ?_
      refine lv_iconst (v := (1 : Int32)) hx hb dL_law_540 (by decide) ?_
      refine q_iadd (z := nI (n + 1)) hx hb dL_law_541 (nI_add n 1) ?_
      refine q_sld hx hb hXs hbl hbA hS (k := n + 1) (by omega) hL dL_law_542 ?_
      refine lv_aload_n hx hb dL_law_543 rfl (lv_at hl 0 rfl) ?_
      refine lv_iload hx hb dL_law_544 (lv_at hl 4 rfl) ?_
      refine lv_iconst (v := (2 : Int32)) hx hb dL_law_546 (by decide) ?_
      refine q_iadd (z := nI (n + 2)) hx hb dL_law_547 (nI_add n 2) ?_
      refine q_sld hx hb hXs hbl hbA hS (k := n + 2) (by omega) hL dL_law_548 ?_
      refine lv_if_eq (tgt := 556) hx hb dL_law_549 (by decide) (fun c_549 => ?_) (fun c_549 => ?_)
      ·
        refine lv_iconst (v := (0 : Int32)) hx hb dL_law_556 (by decide) ?_
        refine q_callVi (index := 78) (n := 2) (As := [.int (xs (n + 1)), .int (0 : Int32)]) (rest := [.int (dcR N c sa tk fr rw oo (xs (n + 1)))]) (js := [12]) (ci := 5) ⟨hx, hb, hml, hown, hts⟩ hK hP hD hS hA (k5_degree l D cI cZ cL q th N c fr tt sa tk tn tr op sl nd oi il tl go gt fa mn nx (xs (n + 1)) (0 : Int32) (by omega)) rfl (by decide) (fun _ => by simp only [List.map_cons, List.map_nil, wM_fst]) (fun (_ : Unit) => [wO o (a 0) (b 0) (d 0) (i 0) (g 0) N tn, wT cI (o 1) 160 tr, wT cI (o 2) N sp, wU cL (o 3) N wh, wU cL (o 4) N ow, wS cI b (a 0) (a 1) (a 2) N rw nm bf fe, wT cI (b 1) (N + 1) (nF oo), wS cI d (a 0) (a 2) (a 1) N rx nn bg fx, wT cI (d 1) (N + 1) (nF ox), wA cI cZ a c fr tt sa tk, wI cI cZ i op sl oi nd lp tl, wG cI g go gt, wM cI cZ cL q 0 N c fr tt sa tk tn tr op sl nd oi il tl go gt fa mn nx, wU cL t1 1 f9]) (fun _ => rfl) gL_law_X5_degree rfl (by decide +kernel) rfl ⟨by decide, by decide⟩ rfl rfl rfl rfl hl.1 (Nat.le_of_ble_eq_true rfl) ⟨(by assumption), (by assumption)⟩ dL_law_557 rfl (fun r _ H locs hw hP hD hS => ?_)
        have hw : r = dgR N c fr tt sa tk (xs (n + 1)) (0 : Int32) := hw
        subst hw
        refine lv_icmp_eq (tgt := 972) hx hb dL_law_560 (by decide) (fun c_560 => ?_) (fun c_560 => ?_)
        ·
          refine W.widen (k := cells + 1) (n := slots + 6) (Nat.le_add_right _ _) (Nat.le_add_right _ _) ?_
          exact kk _ _ _ ⟨_, _, _, _, _, _, _, _, _, _, _, _, _, _, _, _, _, _, _, _, _, _, _, _, _, _, _, _, _, _, _, _, _, _, _, hInv, h8, hP, hD, hS⟩ (lv_sub hl [0, 1, 2, 3, 4] rfl)
        ·
          exact absurd (A_deg hR hc hN hfr hsa (xs (n + 1))) c_560
      ·
        exact absurd hz c_549
    ·
      exact absurd hz c_525
  ·
    refine lv_aload_n hx hb dL_law_512 rfl (lv_at hl 1 rfl) ?_
    refine lv_aload_n hx hb dL_law_513 rfl (lv_at hl 0 rfl) ?_
    refine lv_iload hx hb dL_law_514 (lv_at hl 4 rfl) ?_
    refine lv_iconst (v := (1 : Int32)) hx hb dL_law_516 (by decide) ?_
    refine q_iadd (z := nI (n + 1)) hx hb dL_law_517 (nI_add n 1) ?_
    refine q_sld hx hb hXs hbl hbA hS (k := n + 1) (by omega) hL dL_law_518 ?_
    refine lv_aload_n hx hb dL_law_519 rfl (lv_at hl 0 rfl) ?_
    refine lv_iload hx hb dL_law_520 (lv_at hl 4 rfl) ?_
    refine lv_iconst (v := (2 : Int32)) hx hb dL_law_522 (by decide) ?_
    refine q_iadd (z := nI (n + 2)) hx hb dL_law_523 (nI_add n 2) ?_
    refine q_sld hx hb hXs hbl hbA hS (k := n + 2) (by omega) hL dL_law_524 ?_
    refine lv_if_eq (tgt := 532) hx hb dL_law_525 (by decide) (fun c_525 => ?_) (fun c_525 => ?_)
    ·
      exact absurd c_525 hz
    ·
      refine lv_iconst (v := (1 : Int32)) hx hb dL_law_528 (by decide) ?_
      refine lv_goto (tgt := 533) hx hb dL_law_529 (by decide) ?_
      refine q_callVi (index := 75) (n := 2) (As := [.int (xs (n + 1)), .int (1 : Int32)]) (rest := []) (js := [0, 1, 2, 3, 4, 5, 6, 7, 8, 9, 10, 11]) (ci := 4) ⟨hx, hb, hml, hown, hts⟩ hK hP hD hS hA (k4_degree1 l D cI cZ cL o N tn tr sp wh ow b rw nm bf fe d rx nn bg fx a c fr tt sa tk i op sl oi nd lp tl g go gt oo ox (xs (n + 1)) (1 : Int32) (by omega) (by omega) (by decide) (fun v _ => oo_ok hR2 hc v)) rfl (by decide) (fun _ => by simp only [List.map_cons, List.map_nil, wA_fst, wG_fst, wI_fst, wO_fst, wS_fst, wT_fst, wU_fst]) (fun (_ : Unit) => [wO o (a 0) (b 0) (d 0) (i 0) (g 0) N tn, wT cI (o 1) 160 tr, wT cI (o 2) N sp, wU cL (o 3) N wh, wU cL (o 4) N ow, wS cI b (a 0) (a 1) (a 2) N rw nm bf fe, wT cI (b 1) (N + 1) (nF oo), wS cI d (a 0) (a 2) (a 1) N rx nn bg fx, wT cI (d 1) (N + 1) (nF ox), wA cI cZ a c fr tt sa tk, wI cI cZ i op sl oi nd lp tl, wG cI g go gt, wM cI cZ cL q th N c fr tt sa tk tn tr op sl nd oi il tl go gt fa mn nx, wU cL t1 1 f9]) (fun _ => rfl) gL_law_X4_degree rfl (by decide +kernel) rfl ⟨by decide, by decide⟩ rfl rfl rfl rfl hl.1 (Nat.le_of_ble_eq_true rfl) ⟨(by assumption), (by assumption)⟩ dL_law_533 rfl (fun r _ H locs hw hP hD hS => ?_)
      have hw : r = dcR N c sa tk tt rx ox (xs (n + 1)) := hw
      subst hw
      refine lv_aload_n hx hb dL_law_536 rfl (lv_at hl 2 rfl) ?_
      refine lv_aload_n hx hb dL_law_537 rfl (lv_at hl 0 rfl) ?_
      refine lv_iload hx hb dL_law_538 (lv_at hl 4 rfl) ?_
      refine lv_iconst (v := (1 : Int32)) hx hb dL_law_540 (by decide) ?_
      refine q_iadd (z := nI (n + 1)) hx hb dL_law_541 (nI_add n 1) ?_
      refine q_sld hx hb hXs hbl hbA hS (k := n + 1) (by omega) hL dL_law_542 ?_
      refine lv_aload_n hx hb dL_law_543 rfl (lv_at hl 0 rfl) ?_
      refine lv_iload hx hb dL_law_544 (lv_at hl 4 rfl) ?_
      refine lv_iconst (v := (2 : Int32)) hx hb dL_law_546 (by decide) ?_
      refine q_iadd (z := nI (n + 2)) hx hb dL_law_547 (nI_add n 2) ?_
      refine q_sld hx hb hXs hbl hbA hS (k := n + 2) (by omega) hL dL_law_548 ?_
      refine lv_if_eq (tgt := 556) hx hb dL_law_549 (by decide) (fun c_549 => ?_) (fun c_549 => ?_)
      ·
        exact absurd c_549 hz
      ·
        refine lv_iconst (v := (1 : Int32)) hx hb dL_law_552 (by decide) ?_
        refine lv_goto (tgt := 557) hx hb dL_law_553 (by decide) ?_
        refine q_callVi (index := 78) (n := 2) (As := [.int (xs (n + 1)), .int (1 : Int32)]) (rest := [.int (dcR N c sa tk tt rx ox (xs (n + 1)))]) (js := [12]) (ci := 5) ⟨hx, hb, hml, hown, hts⟩ hK hP hD hS hA (k5_degree l D cI cZ cL q th N c fr tt sa tk tn tr op sl nd oi il tl go gt fa mn nx (xs (n + 1)) (1 : Int32) (by omega)) rfl (by decide) (fun _ => by simp only [List.map_cons, List.map_nil, wM_fst]) (fun (_ : Unit) => [wO o (a 0) (b 0) (d 0) (i 0) (g 0) N tn, wT cI (o 1) 160 tr, wT cI (o 2) N sp, wU cL (o 3) N wh, wU cL (o 4) N ow, wS cI b (a 0) (a 1) (a 2) N rw nm bf fe, wT cI (b 1) (N + 1) (nF oo), wS cI d (a 0) (a 2) (a 1) N rx nn bg fx, wT cI (d 1) (N + 1) (nF ox), wA cI cZ a c fr tt sa tk, wI cI cZ i op sl oi nd lp tl, wG cI g go gt, wM cI cZ cL q 0 N c fr tt sa tk tn tr op sl nd oi il tl go gt fa mn nx, wU cL t1 1 f9]) (fun _ => rfl) gL_law_X5_degree rfl (by decide +kernel) rfl ⟨by decide, by decide⟩ rfl rfl rfl rfl hl.1 (Nat.le_of_ble_eq_true rfl) ⟨(by assumption), (by assumption)⟩ dL_law_557 rfl (fun r _ H locs hw hP hD hS => ?_)
        have hw : r = dgR N c fr tt sa tk (xs (n + 1)) (1 : Int32) := hw
        subst hw
        refine lv_icmp_eq (tgt := 972) hx hb dL_law_560 (by decide) (fun c_560 => ?_) (fun c_560 => ?_)
        ·
          refine W.widen (k := cells + 1) (n := slots + 6) (Nat.le_add_right _ _) (Nat.le_add_right _ _) ?_
          exact kk _ _ _ ⟨_, _, _, _, _, _, _, _, _, _, _, _, _, _, _, _, _, _, _, _, _, _, _, _, _, _, _, _, _, _, _, _, _, _, _, hInv, h8, hP, hD, hS⟩ (lv_sub hl [0, 1, 2, 3, 4] rfl)
        ·
          exact absurd ((A_deg hR2 hc hN htt hsa (xs (n + 1))).trans (dgR_sw (by decide) (xs (n + 1))).symm) c_560

set_option maxHeartbeats 8000000 in
set_option maxRecDepth 100000 in
theorem law_live {pz : Program} {l : Launch} {ez : Env} {sz : State} {mz : MethodId} {args : Array Value} {bz : List Frame} {tz : Method} {cz : Code} {H : Heap} {locs : List Loc} {cells slots : Nat} {Q : State → Prop} {ls : Array Slot} {bs L : Nat} {xs : Nat → Int32} {D : va_G} {cI cZ cL : ClassId} {A : Nat → Prop} {o b d a i g q : Nat → Nat} {t1 n : Nat} (X : lwC pz l sz mz args cz bs L xs D cI cZ cL A) (hn : n + 3 < L) (hc9 : cells + 1 ≤ room_1.cells) (hs9 : slots + 6 ≤ room_1.slots) (hl : lv_has ls 7 [(0, .ref bs), (1, .ref (o 0)), (2, .ref (q 0)), (3, .ref t1), (4, .int (nI n))]) (hat : lwI D cI cZ cL A sz.heap o b d a i g q t1 H locs) (kk : ∀ (H : Heap) (locs : List Loc) (ls : Array Slot), lwI D cI cZ cL A sz.heap o b d a i g q t1 H locs → lv_has ls 7 [(0, .ref bs), (1, .ref (o 0)), (2, .ref (q 0)), (3, .ref t1), (4, .int (nI n))] → W pz l ez room_1 sz mz args bz tz cz H locs (cells + 1) (slots + 6) Q (F0 mz 972 ls [])) : W pz l ez room_1 sz mz args bz tz cz H locs cells slots Q (F0 mz 565 ls []) := by
  obtain ⟨hx, hb, hml, hown, hts, hXs, hbl, hbA, hA, hK, hX, hst, hL⟩ := X
  obtain ⟨N, tn, tr, sp, wh, ow, rw, nm, bf, fe, rx, nn, bg, fx, c, fr, tt, sa, tk, op, sl, oi, nd, lp, tl, go, gt, oo, ox, th, il, fa, mn, nx, f9, hInv, h8, hP, hD, hS⟩ := hat
  obtain ⟨⟨hN1, hN⟩, hc, htn, hfr, htt, hsa, hlt, htk, hR, hR2, hI⟩ := id hInv
  have hcc : cells ≤ room_1.cells := Nat.le_of_succ_le hc9
  have hss : slots ≤ room_1.slots := Nat.le_trans (Nat.le_add_right _ 6) hs9
  by_cases hz : xs (n + 2) = 0
  ·
    refine lv_aload_n hx hb dL_law_565 rfl (lv_at hl 1 rfl) ?_
    refine lv_aload_n hx hb dL_law_566 rfl (lv_at hl 0 rfl) ?_
    refine lv_iload hx hb dL_law_567 (lv_at hl 4 rfl) ?_
    refine lv_iconst (v := (1 : Int32)) hx hb dL_law_569 (by decide) ?_
    refine q_iadd (z := nI (n + 1)) hx hb dL_law_570 (nI_add n 1) ?_
    refine q_sld hx hb hXs hbl hbA hS (k := n + 1) (by omega) hL dL_law_571 ?_
    refine lv_aload_n hx hb dL_law_572 rfl (lv_at hl 0 rfl) ?_
    refine lv_iload hx hb dL_law_573 (lv_at hl 4 rfl) ?_
    refine lv_iconst (v := (2 : Int32)) hx hb dL_law_575 (by decide) ?_
    refine q_iadd (z := nI (n + 2)) hx hb dL_law_576 (nI_add n 2) ?_
    refine q_sld hx hb hXs hbl hbA hS (k := n + 2) (by omega) hL dL_law_577 ?_
    refine lv_if_eq (tgt := 585) hx hb dL_law_578 (by decide) (fun c_578 => ?_) (fun c_578 => ?_)
    ·
      refine lv_iconst (v := (0 : Int32)) hx hb dL_law_585 (by decide) ?_
      refine lv_aload_n hx hb dL_law_586 rfl (lv_at hl 0 rfl) ?_
      refine lv_iload hx hb dL_law_587 (lv_at hl 4 rfl) ?_
      refine lv_iconst (v := (3 : Int32)) hx hb dL_law_589 (by decide) ?_
      refine q_iadd (z := nI (n + 3)) hx hb dL_law_590 (nI_add n 3) ?_
      refine q_sld hx hb hXs hbl hbA hS (k := n + 3) (by omega) hL dL_law_591 ?_
      refine q_callVi (index := 79) (n := 3) (As := [.int (xs (n + 1)), .int (0 : Int32), .int (xs (n + 3))]) (rest := []) (js := [0, 1, 2, 3, 4, 5, 6, 7, 8, 9, 10, 11]) (ci := 4) ⟨hx, hb, hml, hown, hts⟩ hK hP hD hS hA (k4_live0 l D cI cZ cL o N tn tr sp wh ow b rw nm bf fe d rx nn bg fx a c fr tt sa tk i op sl oi nd lp tl g go gt oo ox (xs (n + 1)) (0 : Int32) (xs (n + 3)) (by omega) (by omega) (by decide) (fun v _ => oo_ok hR hc v)) rfl (by decide) (fun _ => by simp only [List.map_cons, List.map_nil, wA_fst, wG_fst, wI_fst, wO_fst, wS_fst, wT_fst, wU_fst]) (fun (_ : Unit) => [wO o (a 0) (b 0) (d 0) (i 0) (g 0) N tn, wT cI (o 1) 160 tr, wT cI (o 2) N sp, wU cL (o 3) N wh, wU cL (o 4) N ow, wS cI b (a 0) (a 1) (a 2) N rw nm bf fe, wT cI (b 1) (N + 1) (nF oo), wS cI d (a 0) (a 2) (a 1) N rx nn bg fx, wT cI (d 1) (N + 1) (nF ox), wA cI cZ a c fr tt sa tk, wI cI cZ i op sl oi nd lp tl, wG cI g go gt, wM cI cZ cL q th N c fr tt sa tk tn tr op sl nd oi il tl go gt fa mn nx, wU cL t1 1 f9]) (fun _ => rfl) gL_law_X4_live rfl (by decide +kernel) rfl ⟨by decide, by decide⟩ rfl rfl rfl rfl hl.1 (Nat.le_of_ble_eq_true rfl) ⟨(by assumption), (by assumption)⟩ dL_law_592 rfl (fun r _ H locs hw hP hD hS => ?_)
      have hw : r = lvC N c sa tk fr rw oo (xs (n + 1)) (xs (n + 3)) := hw
      subst hw
      refine lv_aload_n hx hb dL_law_595 rfl (lv_at hl 2 rfl) ?_
      refine lv_aload_n hx hb dL_law_596 rfl (lv_at hl 0 rfl) ?_
      refine lv_iload hx hb dL_law_597 (lv_at hl 4 rfl) ?_
      refine lv_iconst (v := (1 : Int32)) hx hb dL_law_599 (by decide) ?_
      refine q_iadd (z := nI (n + 1)) hx hb dL_law_600 (nI_add n 1) ?_
      refine q_sld hx hb hXs hbl hbA hS (k := n + 1) (by omega) hL dL_law_601 ?_
      refine lv_aload_n hx hb dL_law_602 rfl (lv_at hl 0 rfl) ?_
      refine lv_iload hx hb dL_law_603 (lv_at hl 4 rfl) ?_
      refine lv_iconst (v := (2 : Int32)) hx hb dL_law_605 (by decide) ?_
      refine q_iadd (z := nI (n + 2)) hx hb dL_law_606 (nI_add n 2) ?_
      refine q_sld hx hb hXs hbl hbA hS (k := n + 2) (by omega) hL dL_law_607 ?_
      refine lv_if_eq (tgt := 615) hx hb dL_law_608 (by decide) (fun c_608 => ?_) (fun c_608 => ?_)
      ·
        refine lv_iconst (v := (0 : Int32)) hx hb dL_law_615 (by decide) ?_
        refine lv_aload_n hx hb dL_law_616 rfl (lv_at hl 0 rfl) ?_
        refine lv_iload hx hb dL_law_617 (lv_at hl 4 rfl) ?_
        refine lv_iconst (v := (3 : Int32)) hx hb dL_law_619 (by decide) ?_
        refine q_iadd (z := nI (n + 3)) hx hb dL_law_620 (nI_add n 3) ?_
        refine q_sld hx hb hXs hbl hbA hS (k := n + 3) (by omega) hL dL_law_621 ?_
        refine q_callVi (index := 83) (n := 3) (As := [.int (xs (n + 1)), .int (0 : Int32), .int (xs (n + 3))]) (rest := [.int (lvC N c sa tk fr rw oo (xs (n + 1)) (xs (n + 3)))]) (js := [12]) (ci := 5) ⟨hx, hb, hml, hown, hts⟩ hK hP hD hS hA (k5_live l D cI cZ cL q th N c fr tt sa tk tn tr op sl nd oi il tl go gt fa mn nx (xs (n + 1)) (0 : Int32) (xs (n + 3)) (by omega)) rfl (by decide) (fun _ => by simp only [List.map_cons, List.map_nil, wM_fst]) (fun (_ : Unit) => [wO o (a 0) (b 0) (d 0) (i 0) (g 0) N tn, wT cI (o 1) 160 tr, wT cI (o 2) N sp, wU cL (o 3) N wh, wU cL (o 4) N ow, wS cI b (a 0) (a 1) (a 2) N rw nm bf fe, wT cI (b 1) (N + 1) (nF oo), wS cI d (a 0) (a 2) (a 1) N rx nn bg fx, wT cI (d 1) (N + 1) (nF ox), wA cI cZ a c fr tt sa tk, wI cI cZ i op sl oi nd lp tl, wG cI g go gt, wM cI cZ cL q 0 N c fr tt sa tk tn tr op sl nd oi il tl go gt fa mn nx, wU cL t1 1 f9]) (fun _ => rfl) gL_law_X5_live rfl (by decide +kernel) rfl ⟨by decide, by decide⟩ rfl rfl rfl rfl hl.1 (Nat.le_of_ble_eq_true rfl) ⟨(by assumption), (by assumption)⟩ dL_law_622 rfl (fun r _ H locs hw hP hD hS => ?_)
        have hw : r = lvR N c fr tt sa tk (xs (n + 1)) (0 : Int32) (xs (n + 3)) := hw
        subst hw
        refine lv_icmp_eq (tgt := 972) hx hb dL_law_625 (by decide) (fun c_625 => ?_) (fun c_625 => ?_)
        ·
          refine W.widen (k := cells + 1) (n := slots + 6) (Nat.le_add_right _ _) (Nat.le_add_right _ _) ?_
          exact kk _ _ _ ⟨_, _, _, _, _, _, _, _, _, _, _, _, _, _, _, _, _, _, _, _, _, _, _, _, _, _, _, _, _, _, _, _, _, _, _, hInv, h8, hP, hD, hS⟩ (lv_sub hl [0, 1, 2, 3, 4] rfl)
        ·
          exact absurd (A_live hR hc hN hfr htt hsa (xs (n + 1)) (xs (n + 3))) c_625
      ·
        exact absurd hz c_608
    ·
      exact absurd hz c_578
  ·
    refine lv_aload_n hx hb dL_law_565 rfl (lv_at hl 1 rfl) ?_
    refine lv_aload_n hx hb dL_law_566 rfl (lv_at hl 0 rfl) ?_
    refine lv_iload hx hb dL_law_567 (lv_at hl 4 rfl) ?_
    refine lv_iconst (v := (1 : Int32)) hx hb dL_law_569 (by decide) ?_
    refine q_iadd (z := nI (n + 1)) hx hb dL_law_570 (nI_add n 1) ?_
    refine q_sld hx hb hXs hbl hbA hS (k := n + 1) (by omega) hL dL_law_571 ?_
    refine lv_aload_n hx hb dL_law_572 rfl (lv_at hl 0 rfl) ?_
    refine lv_iload hx hb dL_law_573 (lv_at hl 4 rfl) ?_
    refine lv_iconst (v := (2 : Int32)) hx hb dL_law_575 (by decide) ?_
    refine q_iadd (z := nI (n + 2)) hx hb dL_law_576 (nI_add n 2) ?_
    refine q_sld hx hb hXs hbl hbA hS (k := n + 2) (by omega) hL dL_law_577 ?_
    refine lv_if_eq (tgt := 585) hx hb dL_law_578 (by decide) (fun c_578 => ?_) (fun c_578 => ?_)
    ·
      exact absurd c_578 hz
    ·
      refine lv_iconst (v := (1 : Int32)) hx hb dL_law_581 (by decide) ?_
      refine lv_goto (tgt := 586) hx hb dL_law_582 (by decide) ?_
      refine lv_aload_n hx hb dL_law_586 rfl (lv_at hl 0 rfl) ?_
      refine lv_iload hx hb dL_law_587 (lv_at hl 4 rfl) ?_
      refine lv_iconst (v := (3 : Int32)) hx hb dL_law_589 (by decide) ?_
      refine q_iadd (z := nI (n + 3)) hx hb dL_law_590 (nI_add n 3) ?_
      refine q_sld hx hb hXs hbl hbA hS (k := n + 3) (by omega) hL dL_law_591 ?_
      refine q_callVi (index := 79) (n := 3) (As := [.int (xs (n + 1)), .int (1 : Int32), .int (xs (n + 3))]) (rest := []) (js := [0, 1, 2, 3, 4, 5, 6, 7, 8, 9, 10, 11]) (ci := 4) ⟨hx, hb, hml, hown, hts⟩ hK hP hD hS hA (k4_live1 l D cI cZ cL o N tn tr sp wh ow b rw nm bf fe d rx nn bg fx a c fr tt sa tk i op sl oi nd lp tl g go gt oo ox (xs (n + 1)) (1 : Int32) (xs (n + 3)) (by omega) (by omega) (by decide) (fun v _ => oo_ok hR2 hc v)) rfl (by decide) (fun _ => by simp only [List.map_cons, List.map_nil, wA_fst, wG_fst, wI_fst, wO_fst, wS_fst, wT_fst, wU_fst]) (fun (_ : Unit) => [wO o (a 0) (b 0) (d 0) (i 0) (g 0) N tn, wT cI (o 1) 160 tr, wT cI (o 2) N sp, wU cL (o 3) N wh, wU cL (o 4) N ow, wS cI b (a 0) (a 1) (a 2) N rw nm bf fe, wT cI (b 1) (N + 1) (nF oo), wS cI d (a 0) (a 2) (a 1) N rx nn bg fx, wT cI (d 1) (N + 1) (nF ox), wA cI cZ a c fr tt sa tk, wI cI cZ i op sl oi nd lp tl, wG cI g go gt, wM cI cZ cL q th N c fr tt sa tk tn tr op sl nd oi il tl go gt fa mn nx, wU cL t1 1 f9]) (fun _ => rfl) gL_law_X4_live rfl (by decide +kernel) rfl ⟨by decide, by decide⟩ rfl rfl rfl rfl hl.1 (Nat.le_of_ble_eq_true rfl) ⟨(by assumption), (by assumption)⟩ dL_law_592 rfl (fun r _ H locs hw hP hD hS => ?_)
      have hw : r = lvC N c sa tk tt rx ox (xs (n + 1)) (xs (n + 3)) := hw
      subst hw
      refine lv_aload_n hx hb dL_law_595 rfl (lv_at hl 2 rfl) ?_
      refine lv_aload_n hx hb dL_law_596 rfl (lv_at hl 0 rfl) ?_
      refine lv_iload hx hb dL_law_597 (lv_at hl 4 rfl) ?_
      refine lv_iconst (v := (1 : Int32)) hx hb dL_law_599 (by decide) ?_
      refine q_iadd (z := nI (n + 1)) hx hb dL_law_600 (nI_add n 1) ?_
      refine q_sld hx hb hXs hbl hbA hS (k := n + 1) (by omega) hL dL_law_601 ?_
      refine lv_aload_n hx hb dL_law_602 rfl (lv_at hl 0 rfl) ?_
      refine lv_iload hx hb dL_law_603 (lv_at hl 4 rfl) ?_
      refine lv_iconst (v := (2 : Int32)) hx hb dL_law_605 (by decide) ?_
      refine q_iadd (z := nI (n + 2)) hx hb dL_law_606 (nI_add n 2) ?_
      refine q_sld hx hb hXs hbl hbA hS (k := n + 2) (by omega) hL dL_law_607 ?_
      refine lv_if_eq (tgt := 615) hx hb dL_law_608 (by decide) (fun c_608 => ?_) (fun c_608 => ?_)
      ·
        exact absurd c_608 hz
      ·
        refine lv_iconst (v := (1 : Int32)) hx hb dL_law_611 (by decide) ?_
        refine lv_goto (tgt := 616) hx hb dL_law_612 (by decide) ?_
        refine lv_aload_n hx hb dL_law_616 rfl (lv_at hl 0 rfl) ?_
        refine lv_iload hx hb dL_law_617 (lv_at hl 4 rfl) ?_
        refine lv_iconst (v := (3 : Int32)) hx hb dL_law_619 (by decide) ?_
        refine q_iadd (z := nI (n + 3)) hx hb dL_law_620 (nI_add n 3) ?_
        refine q_sld hx hb hXs hbl hbA hS (k := n + 3) (by omega) hL dL_law_621 ?_
        refine q_callVi (index := 83) (n := 3) (As := [.int (xs (n + 1)), .int (1 : Int32), .int (xs (n + 3))]) (rest := [.int (lvC N c sa tk tt rx ox (xs (n + 1)) (xs (n + 3)))]) (js := [12]) (ci := 5) ⟨hx, hb, hml, hown, hts⟩ hK hP hD hS hA (k5_live l D cI cZ cL q th N c fr tt sa tk tn tr op sl nd oi il tl go gt fa mn nx (xs (n + 1)) (1 : Int32) (xs (n + 3)) (by omega)) rfl (by decide) (fun _ => by simp only [List.map_cons, List.map_nil, wM_fst]) (fun (_ : Unit) => [wO o (a 0) (b 0) (d 0) (i 0) (g 0) N tn, wT cI (o 1) 160 tr, wT cI (o 2) N sp, wU cL (o 3) N wh, wU cL (o 4) N ow, wS cI b (a 0) (a 1) (a 2) N rw nm bf fe, wT cI (b 1) (N + 1) (nF oo), wS cI d (a 0) (a 2) (a 1) N rx nn bg fx, wT cI (d 1) (N + 1) (nF ox), wA cI cZ a c fr tt sa tk, wI cI cZ i op sl oi nd lp tl, wG cI g go gt, wM cI cZ cL q 0 N c fr tt sa tk tn tr op sl nd oi il tl go gt fa mn nx, wU cL t1 1 f9]) (fun _ => rfl) gL_law_X5_live rfl (by decide +kernel) rfl ⟨by decide, by decide⟩ rfl rfl rfl rfl hl.1 (Nat.le_of_ble_eq_true rfl) ⟨(by assumption), (by assumption)⟩ dL_law_622 rfl (fun r _ H locs hw hP hD hS => ?_)
        have hw : r = lvR N c fr tt sa tk (xs (n + 1)) (1 : Int32) (xs (n + 3)) := hw
        subst hw
        refine lv_icmp_eq (tgt := 972) hx hb dL_law_625 (by decide) (fun c_625 => ?_) (fun c_625 => ?_)
        ·
          refine W.widen (k := cells + 1) (n := slots + 6) (Nat.le_add_right _ _) (Nat.le_add_right _ _) ?_
          exact kk _ _ _ ⟨_, _, _, _, _, _, _, _, _, _, _, _, _, _, _, _, _, _, _, _, _, _, _, _, _, _, _, _, _, _, _, _, _, _, _, hInv, h8, hP, hD, hS⟩ (lv_sub hl [0, 1, 2, 3, 4] rfl)
        ·
          exact absurd ((A_live hR2 hc hN htt hfr hsa (xs (n + 1)) (xs (n + 3))).trans (lvR_sw (by decide) (xs (n + 1)) (xs (n + 3))).symm) c_625

set_option maxHeartbeats 8000000 in
set_option maxRecDepth 100000 in
theorem law_between {pz : Program} {l : Launch} {ez : Env} {sz : State} {mz : MethodId} {args : Array Value} {bz : List Frame} {tz : Method} {cz : Code} {H : Heap} {locs : List Loc} {cells slots : Nat} {Q : State → Prop} {ls : Array Slot} {bs L : Nat} {xs : Nat → Int32} {D : va_G} {cI cZ cL : ClassId} {A : Nat → Prop} {o b d a i g q : Nat → Nat} {t1 n : Nat} (X : lwC pz l sz mz args cz bs L xs D cI cZ cL A) (hn : n + 3 < L) (hc9 : cells + 1 ≤ room_1.cells) (hs9 : slots + 6 ≤ room_1.slots) (hl : lv_has ls 7 [(0, .ref bs), (1, .ref (o 0)), (2, .ref (q 0)), (3, .ref t1), (4, .int (nI n))]) (hat : lwI D cI cZ cL A sz.heap o b d a i g q t1 H locs) (kk : ∀ (H : Heap) (locs : List Loc) (ls : Array Slot), lwI D cI cZ cL A sz.heap o b d a i g q t1 H locs → lv_has ls 7 [(0, .ref bs), (1, .ref (o 0)), (2, .ref (q 0)), (3, .ref t1), (4, .int (nI n))] → W pz l ez room_1 sz mz args bz tz cz H locs (cells + 1) (slots + 6) Q (F0 mz 972 ls [])) : W pz l ez room_1 sz mz args bz tz cz H locs cells slots Q (F0 mz 630 ls []) := by
  obtain ⟨hx, hb, hml, hown, hts, hXs, hbl, hbA, hA, hK, hX, hst, hL⟩ := X
  obtain ⟨N, tn, tr, sp, wh, ow, rw, nm, bf, fe, rx, nn, bg, fx, c, fr, tt, sa, tk, op, sl, oi, nd, lp, tl, go, gt, oo, ox, th, il, fa, mn, nx, f9, hInv, h8, hP, hD, hS⟩ := hat
  obtain ⟨⟨hN1, hN⟩, hc, htn, hfr, htt, hsa, hlt, htk, hR, hR2, hI⟩ := id hInv
  have hcc : cells ≤ room_1.cells := Nat.le_of_succ_le hc9
  have hss : slots ≤ room_1.slots := Nat.le_trans (Nat.le_add_right _ 6) hs9
  refine lv_aload_n hx hb dL_law_630 rfl (lv_at hl 1 rfl) ?_
  refine lv_aload_n hx hb dL_law_631 rfl (lv_at hl 0 rfl) ?_
  refine lv_iload hx hb dL_law_632 (lv_at hl 4 rfl) ?_
  refine lv_iconst (v := (1 : Int32)) hx hb dL_law_634 (by decide) ?_
  refine q_iadd (z := nI (n + 1)) hx hb dL_law_635 (nI_add n 1) ?_
  refine q_sld hx hb hXs hbl hbA hS (k := n + 1) (by omega) hL dL_law_636 ?_
  refine lv_aload_n hx hb dL_law_637 rfl (lv_at hl 0 rfl) ?_
  refine lv_iload hx hb dL_law_638 (lv_at hl 4 rfl) ?_
  refine lv_iconst (v := (2 : Int32)) hx hb dL_law_640 (by decide) ?_
  refine q_iadd (z := nI (n + 2)) hx hb dL_law_641 (nI_add n 2) ?_
  refine q_sld hx hb hXs hbl hbA hS (k := n + 2) (by omega) hL dL_law_642 ?_
  refine q_callVi (index := 84) (n := 2) (As := [.int (xs (n + 1)), .int (xs (n + 2))]) (rest := []) (js := [0, 1, 2, 3, 4, 5, 6, 7, 8, 9, 10, 11]) (ci := 4) ⟨hx, hb, hml, hown, hts⟩ hK hP hD hS hA (k4_between l D cI cZ cL o N tn tr sp wh ow b rw nm bf fe d rx nn bg fx a c fr tt sa tk i op sl oi nd lp tl g go gt oo ox (xs (n + 1)) (xs (n + 2)) (by omega)) rfl (by decide) (fun _ => by simp only [List.map_cons, List.map_nil, wA_fst, wG_fst, wI_fst, wO_fst, wS_fst, wT_fst, wU_fst]) (fun (_ : Unit) => [wO o (a 0) (b 0) (d 0) (i 0) (g 0) N tn, wT cI (o 1) 160 tr, wT cI (o 2) N sp, wU cL (o 3) N wh, wU cL (o 4) N ow, wS cI b (a 0) (a 1) (a 2) N rw nm bf fe, wT cI (b 1) (N + 1) (nF oo), wS cI d (a 0) (a 2) (a 1) N rx nn bg fx, wT cI (d 1) (N + 1) (nF ox), wA cI cZ a c fr tt sa tk, wI cI cZ i op sl oi nd lp tl, wG cI g go gt, wM cI cZ cL q th N c fr tt sa tk tn tr op sl nd oi il tl go gt fa mn nx, wU cL t1 1 f9]) (fun _ => rfl) gL_law_X4_between rfl (by decide +kernel) rfl ⟨by decide, by decide⟩ rfl rfl rfl rfl hl.1 (Nat.le_of_ble_eq_true rfl) ⟨(by assumption), (by assumption)⟩ dL_law_643 rfl (fun r _ H locs hw hP hD hS => ?_)
  have hw : r = bwR N c fr tt sa tk (xs (n + 1)) (xs (n + 2)) := hw
  subst hw
  refine lv_aload_n hx hb dL_law_646 rfl (lv_at hl 2 rfl) ?_
  refine lv_aload_n hx hb dL_law_647 rfl (lv_at hl 0 rfl) ?_
  refine lv_iload hx hb dL_law_648 (lv_at hl 4 rfl) ?_
  refine lv_iconst (v := (1 : Int32)) hx hb dL_law_650 (by decide) ?_
  refine q_iadd (z := nI (n + 1)) hx hb dL_law_651 (nI_add n 1) ?_
  refine q_sld hx hb hXs hbl hbA hS (k := n + 1) (by omega) hL dL_law_652 ?_
  refine lv_aload_n hx hb dL_law_653 rfl (lv_at hl 0 rfl) ?_
  refine lv_iload hx hb dL_law_654 (lv_at hl 4 rfl) ?_
  refine lv_iconst (v := (2 : Int32)) hx hb dL_law_656 (by decide) ?_
  refine q_iadd (z := nI (n + 2)) hx hb dL_law_657 (nI_add n 2) ?_
  refine q_sld hx hb hXs hbl hbA hS (k := n + 2) (by omega) hL dL_law_658 ?_
  refine q_callVi (index := 87) (n := 2) (As := [.int (xs (n + 1)), .int (xs (n + 2))]) (rest := [.int (bwR N c fr tt sa tk (xs (n + 1)) (xs (n + 2)))]) (js := [12]) (ci := 5) ⟨hx, hb, hml, hown, hts⟩ hK hP hD hS hA (k5_between l D cI cZ cL q th N c fr tt sa tk tn tr op sl nd oi il tl go gt fa mn nx (xs (n + 1)) (xs (n + 2)) (by omega)) rfl (by decide) (fun _ => by simp only [List.map_cons, List.map_nil, wM_fst]) (fun (_ : Unit) => [wO o (a 0) (b 0) (d 0) (i 0) (g 0) N tn, wT cI (o 1) 160 tr, wT cI (o 2) N sp, wU cL (o 3) N wh, wU cL (o 4) N ow, wS cI b (a 0) (a 1) (a 2) N rw nm bf fe, wT cI (b 1) (N + 1) (nF oo), wS cI d (a 0) (a 2) (a 1) N rx nn bg fx, wT cI (d 1) (N + 1) (nF ox), wA cI cZ a c fr tt sa tk, wI cI cZ i op sl oi nd lp tl, wG cI g go gt, wM cI cZ cL q 0 N c fr tt sa tk tn tr op sl nd oi il tl go gt fa mn nx, wU cL t1 1 f9]) (fun _ => rfl) gL_law_X5_between rfl (by decide +kernel) rfl ⟨by decide, by decide⟩ rfl rfl rfl rfl hl.1 (Nat.le_of_ble_eq_true rfl) ⟨(by assumption), (by assumption)⟩ dL_law_659 rfl (fun r _ H locs hw hP hD hS => ?_)
  have hw : r = btR N c fr tt sa tk (xs (n + 1)) (xs (n + 2)) := hw
  subst hw
  refine lv_icmp_eq (tgt := 972) hx hb dL_law_662 (by decide) (fun c_662 => ?_) (fun c_662 => ?_)
  ·
    refine W.widen (k := cells + 1) (n := slots + 6) (Nat.le_add_right _ _) (Nat.le_add_right _ _) ?_
    exact kk _ _ _ ⟨_, _, _, _, _, _, _, _, _, _, _, _, _, _, _, _, _, _, _, _, _, _, _, _, _, _, _, _, _, _, _, _, _, _, _, hInv, h8, hP, hD, hS⟩ (lv_sub hl [0, 1, 2, 3, 4] rfl)
  ·
    exact absurd (A_btw (xs (n + 1)) (xs (n + 2))) c_662

set_option maxHeartbeats 8000000 in
set_option maxRecDepth 100000 in
theorem law_near {pz : Program} {l : Launch} {ez : Env} {sz : State} {mz : MethodId} {args : Array Value} {bz : List Frame} {tz : Method} {cz : Code} {H : Heap} {locs : List Loc} {cells slots : Nat} {Q : State → Prop} {ls : Array Slot} {bs L : Nat} {xs : Nat → Int32} {D : va_G} {cI cZ cL : ClassId} {A : Nat → Prop} {o b d a i g q : Nat → Nat} {t1 n : Nat} (X : lwC pz l sz mz args cz bs L xs D cI cZ cL A) (hn : n + 3 < L) (hc9 : cells + 1 ≤ room_1.cells) (hs9 : slots + 6 ≤ room_1.slots) (hl : lv_has ls 7 [(0, .ref bs), (1, .ref (o 0)), (2, .ref (q 0)), (3, .ref t1), (4, .int (nI n))]) (hat : lwI D cI cZ cL A sz.heap o b d a i g q t1 H locs) (kk : ∀ (H : Heap) (locs : List Loc) (ls : Array Slot), lwI D cI cZ cL A sz.heap o b d a i g q t1 H locs → lv_has ls 7 [(0, .ref bs), (1, .ref (o 0)), (2, .ref (q 0)), (3, .ref t1), (4, .int (nI n))] → W pz l ez room_1 sz mz args bz tz cz H locs (cells + 1) (slots + 6) Q (F0 mz 972 ls [])) : W pz l ez room_1 sz mz args bz tz cz H locs cells slots Q (F0 mz 667 ls []) := by
  obtain ⟨hx, hb, hml, hown, hts, hXs, hbl, hbA, hA, hK, hX, hst, hL⟩ := X
  obtain ⟨N, tn, tr, sp, wh, ow, rw, nm, bf, fe, rx, nn, bg, fx, c, fr, tt, sa, tk, op, sl, oi, nd, lp, tl, go, gt, oo, ox, th, il, fa, mn, nx, f9, hInv, h8, hP, hD, hS⟩ := hat
  obtain ⟨⟨hN1, hN⟩, hc, htn, hfr, htt, hsa, hlt, htk, hR, hR2, hI⟩ := id hInv
  have hcc : cells ≤ room_1.cells := Nat.le_of_succ_le hc9
  have hss : slots ≤ room_1.slots := Nat.le_trans (Nat.le_add_right _ 6) hs9
  refine lv_aload_n hx hb dL_law_667 rfl (lv_at hl 1 rfl) ?_
  refine lv_aload_n hx hb dL_law_668 rfl (lv_at hl 0 rfl) ?_
  refine lv_iload hx hb dL_law_669 (lv_at hl 4 rfl) ?_
  refine lv_iconst (v := (1 : Int32)) hx hb dL_law_671 (by decide) ?_
  refine q_iadd (z := nI (n + 1)) hx hb dL_law_672 (nI_add n 1) ?_
  refine q_sld hx hb hXs hbl hbA hS (k := n + 1) (by omega) hL dL_law_673 ?_
  refine lv_aload_n hx hb dL_law_674 rfl (lv_at hl 0 rfl) ?_
  refine lv_iload hx hb dL_law_675 (lv_at hl 4 rfl) ?_
  refine lv_iconst (v := (2 : Int32)) hx hb dL_law_677 (by decide) ?_
  refine q_iadd (z := nI (n + 2)) hx hb dL_law_678 (nI_add n 2) ?_
  refine q_sld hx hb hXs hbl hbA hS (k := n + 2) (by omega) hL dL_law_679 ?_
  refine q_callVi (index := 88) (n := 2) (As := [.int (xs (n + 1)), .int (xs (n + 2))]) (rest := []) (js := [0, 1, 2, 3, 4, 5, 6, 7, 8, 9, 10, 11]) (ci := 4) ⟨hx, hb, hml, hown, hts⟩ hK hP hD hS hA (k4_near l D cI cZ cL o N tn tr sp wh ow b rw nm bf fe d rx nn bg fx a c fr tt sa tk i op sl oi nd lp tl g go gt oo ox (xs (n + 1)) (xs (n + 2)) (by omega) (by omega) hfr htt) rfl (by decide) (fun _ => by simp only [List.map_cons, List.map_nil, wA_fst, wG_fst, wI_fst, wO_fst, wS_fst, wT_fst, wU_fst]) (fun (u_1 : Nat → Int32) => [wO o (a 0) (b 0) (d 0) (i 0) (g 0) N tn, wT cI (o 1) 160 tr, wT cI (o 2) N u_1, wU cL (o 3) N wh, wU cL (o 4) N ow, wS cI b (a 0) (a 1) (a 2) N rw nm bf fe, wT cI (b 1) (N + 1) (nF oo), wS cI d (a 0) (a 2) (a 1) N rx nn bg fx, wT cI (d 1) (N + 1) (nF ox), wA cI cZ a c fr tt sa tk, wI cI cZ i op sl oi nd lp tl, wG cI g go gt, wM cI cZ cL q th N c fr tt sa tk tn tr op sl nd oi il tl go gt fa mn nx, wU cL t1 1 f9]) (fun _ => rfl) gL_law_X4_near rfl (by decide +kernel) rfl ⟨by decide, by decide⟩ rfl rfl rfl rfl hl.1 (Nat.le_of_ble_eq_true rfl) ⟨(by assumption), (by assumption)⟩ dL_law_680 rfl (fun r u_1 H locs hw hP hD hS => ?_)
  have hpu_680 := hw.2
  have hw : r = crR N c fr tt sa tk sp (xs (n + 1)) (xs (n + 2)) := hw.1
  subst hw
  have hP : va_P D vwCl (List.flatten [wO o (a 0) (b 0) (d 0) (i 0) (g 0) N tn, wT cI (o 1) 160 tr, wT cI (o 2) N u_1, wU cL (o 3) N wh, wU cL (o 4) N ow, wS cI b (a 0) (a 1) (a 2) N rw nm bf fe, wT cI (b 1) (N + 1) (nF oo), wS cI d (a 0) (a 2) (a 1) N rx nn bg fx, wT cI (d 1) (N + 1) (nF ox), wA cI cZ a c fr tt sa tk, wI cI cZ i op sl oi nd lp tl, wG cI g go gt, wM cI cZ cL q th N c fr tt sa tk tn tr op sl nd oi il tl go gt fa mn nx, wU cL t1 1 f9]) _ := hP
  have hD : va_D A (List.flatten [wO o (a 0) (b 0) (d 0) (i 0) (g 0) N tn, wT cI (o 1) 160 tr, wT cI (o 2) N u_1, wU cL (o 3) N wh, wU cL (o 4) N ow, wS cI b (a 0) (a 1) (a 2) N rw nm bf fe, wT cI (b 1) (N + 1) (nF oo), wS cI d (a 0) (a 2) (a 1) N rx nn bg fx, wT cI (d 1) (N + 1) (nF ox), wA cI cZ a c fr tt sa tk, wI cI cZ i op sl oi nd lp tl, wG cI g go gt, wM cI cZ cL q th N c fr tt sa tk tn tr op sl nd oi il tl go gt fa mn nx, wU cL t1 1 f9]) := hD
  refine lv_aload_n hx hb dL_law_683 rfl (lv_at hl 2 rfl) ?_
  refine lv_aload_n hx hb dL_law_684 rfl (lv_at hl 0 rfl) ?_
  refine lv_iload hx hb dL_law_685 (lv_at hl 4 rfl) ?_
  refine lv_iconst (v := (1 : Int32)) hx hb dL_law_687 (by decide) ?_
  refine q_iadd (z := nI (n + 1)) hx hb dL_law_688 (nI_add n 1) ?_
  refine q_sld hx hb hXs hbl hbA hS (k := n + 1) (by omega) hL dL_law_689 ?_
  refine lv_aload_n hx hb dL_law_690 rfl (lv_at hl 0 rfl) ?_
  refine lv_iload hx hb dL_law_691 (lv_at hl 4 rfl) ?_
  refine lv_iconst (v := (2 : Int32)) hx hb dL_law_693 (by decide) ?_
  refine q_iadd (z := nI (n + 2)) hx hb dL_law_694 (nI_add n 2) ?_
  refine q_sld hx hb hXs hbl hbA hS (k := n + 2) (by omega) hL dL_law_695 ?_
  refine q_callVi (index := 91) (n := 2) (As := [.int (xs (n + 1)), .int (xs (n + 2))]) (rest := [.int (crR N c fr tt sa tk sp (xs (n + 1)) (xs (n + 2)))]) (js := [12]) (ci := 5) ⟨hx, hb, hml, hown, hts⟩ hK hP hD hS hA (k5_near l D cI cZ cL q th N c fr tt sa tk tn tr op sl nd oi il tl go gt fa mn nx (xs (n + 1)) (xs (n + 2)) (by omega) (by omega) hfr htt) rfl (by decide) (fun _ => by simp only [List.map_cons, List.map_nil, wM_fst]) (fun (_ : Unit) => [wO o (a 0) (b 0) (d 0) (i 0) (g 0) N tn, wT cI (o 1) 160 tr, wT cI (o 2) N u_1, wU cL (o 3) N wh, wU cL (o 4) N ow, wS cI b (a 0) (a 1) (a 2) N rw nm bf fe, wT cI (b 1) (N + 1) (nF oo), wS cI d (a 0) (a 2) (a 1) N rx nn bg fx, wT cI (d 1) (N + 1) (nF ox), wA cI cZ a c fr tt sa tk, wI cI cZ i op sl oi nd lp tl, wG cI g go gt, wM cI cZ cL q 0 N c fr tt sa tk tn tr op sl nd oi il tl go gt (nrF N c fr tt sa tk fa (xs (n + 1)) (xs (n + 2))) mn nx, wU cL t1 1 f9]) (fun _ => rfl) gL_law_X5_near rfl (by decide +kernel) rfl ⟨by decide, by decide⟩ rfl rfl rfl rfl hl.1 (Nat.le_of_ble_eq_true rfl) ⟨(by assumption), (by assumption)⟩ dL_law_696 rfl (fun r _ H locs hw hP hD hS => ?_)
  have hw : r = nrR N c fr tt sa tk fa (xs (n + 1)) (xs (n + 2)) := hw
  subst hw
  refine lv_icmp_eq (tgt := 972) hx hb dL_law_699 (by decide) (fun c_699 => ?_) (fun c_699 => ?_)
  ·
    refine W.widen (k := cells + 1) (n := slots + 6) (Nat.le_add_right _ _) (Nat.le_add_right _ _) ?_
    exact kk _ _ _ ⟨_, _, _, _, _, _, _, _, _, _, _, _, _, _, _, _, _, _, _, _, _, _, _, _, _, _, _, _, _, _, _, _, _, _, _, hInv, h8, hP, hD, hS⟩ (lv_sub hl [0, 1, 2, 3, 4] rfl)
  ·
    exact absurd (A_near hN hfr htt sp fa (xs (n + 1)) (xs (n + 2))) c_699

set_option maxHeartbeats 8000000 in
set_option maxRecDepth 100000 in
theorem law_ways {pz : Program} {l : Launch} {ez : Env} {sz : State} {mz : MethodId} {args : Array Value} {bz : List Frame} {tz : Method} {cz : Code} {H : Heap} {locs : List Loc} {cells slots : Nat} {Q : State → Prop} {ls : Array Slot} {bs L : Nat} {xs : Nat → Int32} {D : va_G} {cI cZ cL : ClassId} {A : Nat → Prop} {o b d a i g q : Nat → Nat} {t1 n : Nat} (X : lwC pz l sz mz args cz bs L xs D cI cZ cL A) (hn : n + 3 < L) (hc9 : cells + 1 ≤ room_1.cells) (hs9 : slots + 6 ≤ room_1.slots) (hl : lv_has ls 7 [(0, .ref bs), (1, .ref (o 0)), (2, .ref (q 0)), (3, .ref t1), (4, .int (nI n))]) (hat : lwI D cI cZ cL A sz.heap o b d a i g q t1 H locs) (kk : ∀ (H : Heap) (locs : List Loc) (ls : Array Slot), lwI D cI cZ cL A sz.heap o b d a i g q t1 H locs → lv_has ls 7 [(0, .ref bs), (1, .ref (o 0)), (2, .ref (q 0)), (3, .ref t1), (4, .int (nI n))] → W pz l ez room_1 sz mz args bz tz cz H locs (cells + 1) (slots + 6) Q (F0 mz 972 ls [])) : W pz l ez room_1 sz mz args bz tz cz H locs cells slots Q (F0 mz 704 ls []) := by
  obtain ⟨hx, hb, hml, hown, hts, hXs, hbl, hbA, hA, hK, hX, hst, hL⟩ := X
  obtain ⟨N, tn, tr, sp, wh, ow, rw, nm, bf, fe, rx, nn, bg, fx, c, fr, tt, sa, tk, op, sl, oi, nd, lp, tl, go, gt, oo, ox, th, il, fa, mn, nx, f9, hInv, h8, hP, hD, hS⟩ := hat
  obtain ⟨⟨hN1, hN⟩, hc, htn, hfr, htt, hsa, hlt, htk, hR, hR2, hI⟩ := id hInv
  have hcc : cells ≤ room_1.cells := Nat.le_of_succ_le hc9
  have hss : slots ≤ room_1.slots := Nat.le_trans (Nat.le_add_right _ 6) hs9
  refine lv_aload_n hx hb dL_law_704 rfl (lv_at hl 1 rfl) ?_
  refine lv_aload_n hx hb dL_law_705 rfl (lv_at hl 0 rfl) ?_
  refine lv_iload hx hb dL_law_706 (lv_at hl 4 rfl) ?_
  refine lv_iconst (v := (1 : Int32)) hx hb dL_law_708 (by decide) ?_
  refine q_iadd (z := nI (n + 1)) hx hb dL_law_709 (nI_add n 1) ?_
  refine q_sld hx hb hXs hbl hbA hS (k := n + 1) (by omega) hL dL_law_710 ?_
  refine lv_aload_n hx hb dL_law_711 rfl (lv_at hl 0 rfl) ?_
  refine lv_iload hx hb dL_law_712 (lv_at hl 4 rfl) ?_
  refine lv_iconst (v := (2 : Int32)) hx hb dL_law_714 (by decide) ?_
  refine q_iadd (z := nI (n + 2)) hx hb dL_law_715 (nI_add n 2) ?_
  refine q_sld hx hb hXs hbl hbA hS (k := n + 2) (by omega) hL dL_law_716 ?_
  refine lv_aload_n hx hb dL_law_717 rfl (lv_at hl 0 rfl) ?_
  refine lv_iload hx hb dL_law_718 (lv_at hl 4 rfl) ?_
  refine lv_iconst (v := (3 : Int32)) hx hb dL_law_720 (by decide) ?_
  refine q_iadd (z := nI (n + 3)) hx hb dL_law_721 (nI_add n 3) ?_
  refine q_sld hx hb hXs hbl hbA hS (k := n + 3) (by omega) hL dL_law_722 ?_
  refine q_callVl (index := 92) (n := 3) (As := [.int (xs (n + 1)), .int (xs (n + 2)), .int (xs (n + 3))]) (rest := []) (js := [0, 1, 2, 3, 4, 5, 6, 7, 8, 9, 10, 11]) (ci := 4) ⟨hx, hb, hml, hown, hts⟩ hK hP hD hS hA (k4_ways l D cI cZ cL o N tn tr sp wh ow b rw nm bf fe d rx nn bg fx a c fr tt sa tk i op sl oi nd lp tl g go gt oo ox (xs (n + 1)) (xs (n + 2)) (xs (n + 3)) (by omega) (by omega) hfr htt) rfl (by decide) (fun _ => by simp only [List.map_cons, List.map_nil, wA_fst, wG_fst, wI_fst, wO_fst, wS_fst, wT_fst, wU_fst]) (fun (u_1 : (Nat → Int64) × (Nat → Int64)) => [wO o (a 0) (b 0) (d 0) (i 0) (g 0) N tn, wT cI (o 1) 160 tr, wT cI (o 2) N sp, wU cL (o 3) N u_1.1, wU cL (o 4) N u_1.2, wS cI b (a 0) (a 1) (a 2) N rw nm bf fe, wT cI (b 1) (N + 1) (nF oo), wS cI d (a 0) (a 2) (a 1) N rx nn bg fx, wT cI (d 1) (N + 1) (nF ox), wA cI cZ a c fr tt sa tk, wI cI cZ i op sl oi nd lp tl, wG cI g go gt, wM cI cZ cL q th N c fr tt sa tk tn tr op sl nd oi il tl go gt fa mn nx, wU cL t1 1 f9]) (fun _ => rfl) gL_law_X4_ways rfl (by decide +kernel) rfl ⟨by decide, by decide⟩ rfl rfl rfl rfl hl.1 (Nat.le_of_ble_eq_true rfl) ⟨(by assumption), (by assumption)⟩ dL_law_723 rfl (fun r u_1 H locs hw hP hD hS => ?_)
  have hpu_723 := hw.2
  have hw : r = wcR N c fr tt sa tk wh ow (xs (n + 1)) (xs (n + 2)) (xs (n + 3)) := hw.1
  subst hw
  have hP : va_P D vwCl (List.flatten [wO o (a 0) (b 0) (d 0) (i 0) (g 0) N tn, wT cI (o 1) 160 tr, wT cI (o 2) N sp, wU cL (o 3) N u_1.1, wU cL (o 4) N u_1.2, wS cI b (a 0) (a 1) (a 2) N rw nm bf fe, wT cI (b 1) (N + 1) (nF oo), wS cI d (a 0) (a 2) (a 1) N rx nn bg fx, wT cI (d 1) (N + 1) (nF ox), wA cI cZ a c fr tt sa tk, wI cI cZ i op sl oi nd lp tl, wG cI g go gt, wM cI cZ cL q th N c fr tt sa tk tn tr op sl nd oi il tl go gt fa mn nx, wU cL t1 1 f9]) _ := hP
  have hD : va_D A (List.flatten [wO o (a 0) (b 0) (d 0) (i 0) (g 0) N tn, wT cI (o 1) 160 tr, wT cI (o 2) N sp, wU cL (o 3) N u_1.1, wU cL (o 4) N u_1.2, wS cI b (a 0) (a 1) (a 2) N rw nm bf fe, wT cI (b 1) (N + 1) (nF oo), wS cI d (a 0) (a 2) (a 1) N rx nn bg fx, wT cI (d 1) (N + 1) (nF ox), wA cI cZ a c fr tt sa tk, wI cI cZ i op sl oi nd lp tl, wG cI g go gt, wM cI cZ cL q th N c fr tt sa tk tn tr op sl nd oi il tl go gt fa mn nx, wU cL t1 1 f9]) := hD
  refine lv_aload_n hx hb dL_law_726 rfl (lv_at hl 2 rfl) ?_
  refine lv_aload_n hx hb dL_law_727 rfl (lv_at hl 0 rfl) ?_
  refine lv_iload hx hb dL_law_728 (lv_at hl 4 rfl) ?_
  refine lv_iconst (v := (1 : Int32)) hx hb dL_law_730 (by decide) ?_
  refine q_iadd (z := nI (n + 1)) hx hb dL_law_731 (nI_add n 1) ?_
  refine q_sld hx hb hXs hbl hbA hS (k := n + 1) (by omega) hL dL_law_732 ?_
  refine lv_aload_n hx hb dL_law_733 rfl (lv_at hl 0 rfl) ?_
  refine lv_iload hx hb dL_law_734 (lv_at hl 4 rfl) ?_
  refine lv_iconst (v := (2 : Int32)) hx hb dL_law_736 (by decide) ?_
  refine q_iadd (z := nI (n + 2)) hx hb dL_law_737 (nI_add n 2) ?_
  refine q_sld hx hb hXs hbl hbA hS (k := n + 2) (by omega) hL dL_law_738 ?_
  refine lv_aload_n hx hb dL_law_739 rfl (lv_at hl 0 rfl) ?_
  refine lv_iload hx hb dL_law_740 (lv_at hl 4 rfl) ?_
  refine lv_iconst (v := (3 : Int32)) hx hb dL_law_742 (by decide) ?_
  refine q_iadd (z := nI (n + 3)) hx hb dL_law_743 (nI_add n 3) ?_
  refine q_sld hx hb hXs hbl hbA hS (k := n + 3) (by omega) hL dL_law_744 ?_
  refine q_callVl (index := 96) (n := 3) (As := [.int (xs (n + 1)), .int (xs (n + 2)), .int (xs (n + 3))]) (rest := [.long (wcR N c fr tt sa tk wh ow (xs (n + 1)) (xs (n + 2)) (xs (n + 3)))]) (js := [12]) (ci := 5) ⟨hx, hb, hml, hown, hts⟩ hK hP hD hS hA (k5_ways l D cI cZ cL q th N c fr tt sa tk tn tr op sl nd oi il tl go gt fa mn nx (xs (n + 1)) (xs (n + 2)) (xs (n + 3)) (by omega) (by omega) hfr htt) rfl (by decide) (fun _ => by simp only [List.map_cons, List.map_nil, wM_fst]) (fun (_ : Unit) => [wO o (a 0) (b 0) (d 0) (i 0) (g 0) N tn, wT cI (o 1) 160 tr, wT cI (o 2) N sp, wU cL (o 3) N u_1.1, wU cL (o 4) N u_1.2, wS cI b (a 0) (a 1) (a 2) N rw nm bf fe, wT cI (b 1) (N + 1) (nF oo), wS cI d (a 0) (a 2) (a 1) N rx nn bg fx, wT cI (d 1) (N + 1) (nF ox), wA cI cZ a c fr tt sa tk, wI cI cZ i op sl oi nd lp tl, wG cI g go gt, wM cI cZ cL q 0 N c fr tt sa tk tn tr op sl nd oi il tl go gt fa (wyM N c fr tt sa tk mn nx (xs (n + 1)) (xs (n + 2)) (xs (n + 3))) (wyX N c fr tt sa tk mn nx (xs (n + 1)) (xs (n + 2)) (xs (n + 3))), wU cL t1 1 f9]) (fun _ => rfl) gL_law_X5_ways rfl (by decide +kernel) rfl ⟨by decide, by decide⟩ rfl rfl rfl rfl hl.1 (Nat.le_of_ble_eq_true rfl) ⟨(by assumption), (by assumption)⟩ dL_law_745 rfl (fun r _ H locs hw hP hD hS => ?_)
  have hw : r = wyR N c fr tt sa tk mn nx (xs (n + 1)) (xs (n + 2)) (xs (n + 3)) := hw
  subst hw
  refine W.lcmp hx hb dL_law_748 ?_
  refine lv_if_eq (tgt := 972) hx hb dL_law_749 (by decide) (fun c_749 => ?_) (fun c_749 => ?_)
  ·
    refine W.widen (k := cells + 1) (n := slots + 6) (Nat.le_add_right _ _) (Nat.le_add_right _ _) ?_
    exact kk _ _ _ ⟨_, _, _, _, _, _, _, _, _, _, _, _, _, _, _, _, _, _, _, _, _, _, _, _, _, _, _, _, _, _, _, _, _, _, _, hInv, h8, hP, hD, hS⟩ (lv_sub hl [0, 1, 2, 3, 4] rfl)
  ·
    exact absurd ((lg_cmp_eq _ _).mpr (A_ways hN hfr htt wh ow mn nx (xs (n + 1)) (xs (n + 2)) (xs (n + 3)))) c_749

set_option maxHeartbeats 8000000 in
set_option maxRecDepth 100000 in
theorem law_open {pz : Program} {l : Launch} {ez : Env} {sz : State} {mz : MethodId} {args : Array Value} {bz : List Frame} {tz : Method} {cz : Code} {H : Heap} {locs : List Loc} {cells slots : Nat} {Q : State → Prop} {ls : Array Slot} {bs L : Nat} {xs : Nat → Int32} {D : va_G} {cI cZ cL : ClassId} {A : Nat → Prop} {o b d a i g q : Nat → Nat} {t1 n : Nat} (X : lwC pz l sz mz args cz bs L xs D cI cZ cL A) (hn : n + 3 < L) (hc9 : cells + 1 ≤ room_1.cells) (hs9 : slots + 6 ≤ room_1.slots) (hl : lv_has ls 7 [(0, .ref bs), (1, .ref (o 0)), (2, .ref (q 0)), (3, .ref t1), (4, .int (nI n))]) (hat : lwI D cI cZ cL A sz.heap o b d a i g q t1 H locs) (kk : ∀ (H : Heap) (locs : List Loc) (ls : Array Slot), lwI D cI cZ cL A sz.heap o b d a i g q t1 H locs → lv_has ls 7 [(0, .ref bs), (1, .ref (o 0)), (2, .ref (q 0)), (3, .ref t1), (4, .int (nI n))] → W pz l ez room_1 sz mz args bz tz cz H locs (cells + 1) (slots + 6) Q (F0 mz 972 ls [])) : W pz l ez room_1 sz mz args bz tz cz H locs cells slots Q (F0 mz 754 ls []) := by
  obtain ⟨hx, hb, hml, hown, hts, hXs, hbl, hbA, hA, hK, hX, hst, hL⟩ := X
  obtain ⟨N, tn, tr, sp, wh, ow, rw, nm, bf, fe, rx, nn, bg, fx, c, fr, tt, sa, tk, op, sl, oi, nd, lp, tl, go, gt, oo, ox, th, il, fa, mn, nx, f9, hInv, h8, hP, hD, hS⟩ := hat
  obtain ⟨⟨hN1, hN⟩, hc, htn, hfr, htt, hsa, hlt, htk, hR, hR2, hI⟩ := id hInv
  have hcc : cells ≤ room_1.cells := Nat.le_of_succ_le hc9
  have hss : slots ≤ room_1.slots := Nat.le_trans (Nat.le_add_right _ 6) hs9
  by_cases hz : xs (n + 2) = 0
  ·
    refine lv_aload_n hx hb dL_law_754 rfl (lv_at hl 1 rfl) ?_
    refine lv_aload_n hx hb dL_law_755 rfl (lv_at hl 0 rfl) ?_
    refine lv_iload hx hb dL_law_756 (lv_at hl 4 rfl) ?_
    refine lv_iconst (v := (1 : Int32)) hx hb dL_law_758 (by decide) ?_
    refine q_iadd (z := nI (n + 1)) hx hb dL_law_759 (nI_add n 1) ?_
    refine q_sld hx hb hXs hbl hbA hS (k := n + 1) (by omega) hL dL_law_760 ?_
    refine lv_aload_n hx hb dL_law_761 rfl (lv_at hl 0 rfl) ?_
    refine lv_iload hx hb dL_law_762 (lv_at hl 4 rfl) ?_
    refine lv_iconst (v := (2 : Int32)) hx hb dL_law_764 (by decide) ?_
    refine q_iadd (z := nI (n + 2)) hx hb dL_law_765 (nI_add n 2) ?_
    refine q_sld hx hb hXs hbl hbA hS (k := n + 2) (by omega) hL dL_law_766 ?_
    refine lv_if_eq (tgt := 774) hx hb dL_law_767 (by decide) (fun c_767 => ?_) (fun c_767 => ?_)
    ·
      refine lv_iconst (v := (0 : Int32)) hx hb dL_law_774 (by decide) ?_
      refine q_callVi (index := 97) (n := 2) (As := [.int (xs (n + 1)), .int (0 : Int32)]) (rest := []) (js := [0, 1, 2, 3, 4, 5, 6, 7, 8, 9, 10, 11]) (ci := 4) ⟨hx, hb, hml, hown, hts⟩ hK hP hD hS hA (k4_open l D cI cZ cL o N tn tr sp wh ow b rw nm bf fe d rx nn bg fx a c fr tt sa tk i op sl oi nd lp tl g go gt oo ox (xs (n + 1)) (0 : Int32) rfl) rfl (by decide) (fun _ => by simp only [List.map_cons, List.map_nil, wA_fst, wG_fst, wI_fst, wO_fst, wS_fst, wT_fst, wU_fst]) (fun (_ : Unit) => [wO o (a 0) (b 0) (d 0) (i 0) (g 0) N tn, wT cI (o 1) 160 tr, wT cI (o 2) N sp, wU cL (o 3) N wh, wU cL (o 4) N ow, wS cI b (a 0) (a 1) (a 2) N rw nm bf fe, wT cI (b 1) (N + 1) (nF oo), wS cI d (a 0) (a 2) (a 1) N rx nn bg fx, wT cI (d 1) (N + 1) (nF ox), wA cI cZ a c fr tt sa tk, wI cI cZ i (opF N op (xs (n + 1)) op 1) (opF N op (xs (n + 1)) sl 0) (opF N op (xs (n + 1)) oi (0 : Int32)) (opF N op (xs (n + 1)) nd (xs (n + 1))) (opF N op (xs (n + 1)) lp (-1)) (opF N op (xs (n + 1)) tl 0), wG cI g go gt, wM cI cZ cL q th N c fr tt sa tk tn tr op sl nd oi il tl go gt fa mn nx, wU cL t1 1 f9]) (fun _ => rfl) gL_law_X4_open rfl (by decide +kernel) rfl ⟨by decide, by decide⟩ rfl rfl rfl rfl hl.1 (Nat.le_of_ble_eq_true rfl) ⟨(by assumption), (by assumption)⟩ dL_law_775 rfl (fun r _ H locs hw hP hD hS => ?_)
      have hw : r = opR N op (xs (n + 1)) := hw
      subst hw
      refine lv_aload_n hx hb dL_law_778 rfl (lv_at hl 2 rfl) ?_
      refine lv_aload_n hx hb dL_law_779 rfl (lv_at hl 0 rfl) ?_
      refine lv_iload hx hb dL_law_780 (lv_at hl 4 rfl) ?_
      refine lv_iconst (v := (1 : Int32)) hx hb dL_law_782 (by decide) ?_
      refine q_iadd (z := nI (n + 1)) hx hb dL_law_783 (nI_add n 1) ?_
      refine q_sld hx hb hXs hbl hbA hS (k := n + 1) (by omega) hL dL_law_784 ?_
      refine lv_aload_n hx hb dL_law_785 rfl (lv_at hl 0 rfl) ?_
      refine lv_iload hx hb dL_law_786 (lv_at hl 4 rfl) ?_
      refine lv_iconst (v := (2 : Int32)) hx hb dL_law_788 (by decide) ?_
      refine q_iadd (z := nI (n + 2)) hx hb dL_law_789 (nI_add n 2) ?_
      refine q_sld hx hb hXs hbl hbA hS (k := n + 2) (by omega) hL dL_law_790 ?_
      refine lv_if_eq (tgt := 798) hx hb dL_law_791 (by decide) (fun c_791 => ?_) (fun c_791 => ?_)
      ·
        refine lv_iconst (v := (0 : Int32)) hx hb dL_law_798 (by decide) ?_
        refine q_callVi (index := 100) (n := 2) (As := [.int (xs (n + 1)), .int (0 : Int32)]) (rest := [.int (opR N op (xs (n + 1)))]) (js := [12]) (ci := 5) ⟨hx, hb, hml, hown, hts⟩ hK hP hD hS hA (k5_open l D cI cZ cL q th N c fr tt sa tk tn tr op sl nd oi il tl go gt fa mn nx (xs (n + 1)) (0 : Int32) rfl) rfl (by decide) (fun _ => by simp only [List.map_cons, List.map_nil, wM_fst]) (fun (_ : Unit) => [wO o (a 0) (b 0) (d 0) (i 0) (g 0) N tn, wT cI (o 1) 160 tr, wT cI (o 2) N sp, wU cL (o 3) N wh, wU cL (o 4) N ow, wS cI b (a 0) (a 1) (a 2) N rw nm bf fe, wT cI (b 1) (N + 1) (nF oo), wS cI d (a 0) (a 2) (a 1) N rx nn bg fx, wT cI (d 1) (N + 1) (nF ox), wA cI cZ a c fr tt sa tk, wI cI cZ i (opF N op (xs (n + 1)) op 1) (opF N op (xs (n + 1)) sl 0) (opF N op (xs (n + 1)) oi (0 : Int32)) (opF N op (xs (n + 1)) nd (xs (n + 1))) (opF N op (xs (n + 1)) lp (-1)) (opF N op (xs (n + 1)) tl 0), wG cI g go gt, wM cI cZ cL q 0 N c fr tt sa tk tn tr (opF N op (xs (n + 1)) op 1) (opF N op (xs (n + 1)) sl 0) (opF N op (xs (n + 1)) nd (xs (n + 1))) (opF N op (xs (n + 1)) oi (0 : Int32)) (opF N op (xs (n + 1)) il (-1)) (opF N op (xs (n + 1)) tl 0) go gt fa mn nx, wU cL t1 1 f9]) (fun _ => rfl) gL_law_X5_open rfl (by decide +kernel) rfl ⟨by decide, by decide⟩ rfl rfl rfl rfl hl.1 (Nat.le_of_ble_eq_true rfl) ⟨(by assumption), (by assumption)⟩ dL_law_799 rfl (fun r _ H locs hw hP hD hS => ?_)
        have hw : r = opR N op (xs (n + 1)) := hw
        subst hw
        refine lv_icmp_eq (tgt := 972) hx hb dL_law_802 (by decide) (fun c_802 => ?_) (fun c_802 => ?_)
        ·
          refine W.widen (k := cells + 1) (n := slots + 6) (Nat.le_add_right _ _) (Nat.le_add_right _ _) ?_
          exact kk _ _ _ ⟨_, _, _, _, _, _, _, _, _, _, _, _, _, _, _, _, _, _, _, _, _, _, _, _, _, _, _, _, _, _, _, _, _, _, _, E_open hInv (xs (n + 1)) 0, op8_open h8, hP, hD, hS⟩ (lv_sub hl [0, 1, 2, 3, 4] rfl)
        ·
          exact absurd rfl c_802
      ·
        exact absurd hz c_791
    ·
      exact absurd hz c_767
  ·
    refine lv_aload_n hx hb dL_law_754 rfl (lv_at hl 1 rfl) ?_
    refine lv_aload_n hx hb dL_law_755 rfl (lv_at hl 0 rfl) ?_
    refine lv_iload hx hb dL_law_756 (lv_at hl 4 rfl) ?_
    refine lv_iconst (v := (1 : Int32)) hx hb dL_law_758 (by decide) ?_
    refine q_iadd (z := nI (n + 1)) hx hb dL_law_759 (nI_add n 1) ?_
    refine q_sld hx hb hXs hbl hbA hS (k := n + 1) (by omega) hL dL_law_760 ?_
    refine lv_aload_n hx hb dL_law_761 rfl (lv_at hl 0 rfl) ?_
    refine lv_iload hx hb dL_law_762 (lv_at hl 4 rfl) ?_
    refine lv_iconst (v := (2 : Int32)) hx hb dL_law_764 (by decide) ?_
    refine q_iadd (z := nI (n + 2)) hx hb dL_law_765 (nI_add n 2) ?_
    refine q_sld hx hb hXs hbl hbA hS (k := n + 2) (by omega) hL dL_law_766 ?_
    refine lv_if_eq (tgt := 774) hx hb dL_law_767 (by decide) (fun c_767 => ?_) (fun c_767 => ?_)
    ·
      exact absurd c_767 hz
    ·
      refine lv_iconst (v := (1 : Int32)) hx hb dL_law_770 (by decide) ?_
      refine lv_goto (tgt := 775) hx hb dL_law_771 (by decide) ?_
      refine q_callVi (index := 97) (n := 2) (As := [.int (xs (n + 1)), .int (1 : Int32)]) (rest := []) (js := [0, 1, 2, 3, 4, 5, 6, 7, 8, 9, 10, 11]) (ci := 4) ⟨hx, hb, hml, hown, hts⟩ hK hP hD hS hA (k4_open l D cI cZ cL o N tn tr sp wh ow b rw nm bf fe d rx nn bg fx a c fr tt sa tk i op sl oi nd lp tl g go gt oo ox (xs (n + 1)) (1 : Int32) rfl) rfl (by decide) (fun _ => by simp only [List.map_cons, List.map_nil, wA_fst, wG_fst, wI_fst, wO_fst, wS_fst, wT_fst, wU_fst]) (fun (_ : Unit) => [wO o (a 0) (b 0) (d 0) (i 0) (g 0) N tn, wT cI (o 1) 160 tr, wT cI (o 2) N sp, wU cL (o 3) N wh, wU cL (o 4) N ow, wS cI b (a 0) (a 1) (a 2) N rw nm bf fe, wT cI (b 1) (N + 1) (nF oo), wS cI d (a 0) (a 2) (a 1) N rx nn bg fx, wT cI (d 1) (N + 1) (nF ox), wA cI cZ a c fr tt sa tk, wI cI cZ i (opF N op (xs (n + 1)) op 1) (opF N op (xs (n + 1)) sl 0) (opF N op (xs (n + 1)) oi (1 : Int32)) (opF N op (xs (n + 1)) nd (xs (n + 1))) (opF N op (xs (n + 1)) lp (-1)) (opF N op (xs (n + 1)) tl 0), wG cI g go gt, wM cI cZ cL q th N c fr tt sa tk tn tr op sl nd oi il tl go gt fa mn nx, wU cL t1 1 f9]) (fun _ => rfl) gL_law_X4_open rfl (by decide +kernel) rfl ⟨by decide, by decide⟩ rfl rfl rfl rfl hl.1 (Nat.le_of_ble_eq_true rfl) ⟨(by assumption), (by assumption)⟩ dL_law_775 rfl (fun r _ H locs hw hP hD hS => ?_)
      have hw : r = opR N op (xs (n + 1)) := hw
      subst hw
      refine lv_aload_n hx hb dL_law_778 rfl (lv_at hl 2 rfl) ?_
      refine lv_aload_n hx hb dL_law_779 rfl (lv_at hl 0 rfl) ?_
      refine lv_iload hx hb dL_law_780 (lv_at hl 4 rfl) ?_
      refine lv_iconst (v := (1 : Int32)) hx hb dL_law_782 (by decide) ?_
      refine q_iadd (z := nI (n + 1)) hx hb dL_law_783 (nI_add n 1) ?_
      refine q_sld hx hb hXs hbl hbA hS (k := n + 1) (by omega) hL dL_law_784 ?_
      refine lv_aload_n hx hb dL_law_785 rfl (lv_at hl 0 rfl) ?_
      refine lv_iload hx hb dL_law_786 (lv_at hl 4 rfl) ?_
      refine lv_iconst (v := (2 : Int32)) hx hb dL_law_788 (by decide) ?_
      refine q_iadd (z := nI (n + 2)) hx hb dL_law_789 (nI_add n 2) ?_
      refine q_sld hx hb hXs hbl hbA hS (k := n + 2) (by omega) hL dL_law_790 ?_
      refine lv_if_eq (tgt := 798) hx hb dL_law_791 (by decide) (fun c_791 => ?_) (fun c_791 => ?_)
      ·
        exact absurd c_791 hz
      ·
        refine lv_iconst (v := (1 : Int32)) hx hb dL_law_794 (by decide) ?_
        refine lv_goto (tgt := 799) hx hb dL_law_795 (by decide) ?_
        refine q_callVi (index := 100) (n := 2) (As := [.int (xs (n + 1)), .int (1 : Int32)]) (rest := [.int (opR N op (xs (n + 1)))]) (js := [12]) (ci := 5) ⟨hx, hb, hml, hown, hts⟩ hK hP hD hS hA (k5_open l D cI cZ cL q th N c fr tt sa tk tn tr op sl nd oi il tl go gt fa mn nx (xs (n + 1)) (1 : Int32) rfl) rfl (by decide) (fun _ => by simp only [List.map_cons, List.map_nil, wM_fst]) (fun (_ : Unit) => [wO o (a 0) (b 0) (d 0) (i 0) (g 0) N tn, wT cI (o 1) 160 tr, wT cI (o 2) N sp, wU cL (o 3) N wh, wU cL (o 4) N ow, wS cI b (a 0) (a 1) (a 2) N rw nm bf fe, wT cI (b 1) (N + 1) (nF oo), wS cI d (a 0) (a 2) (a 1) N rx nn bg fx, wT cI (d 1) (N + 1) (nF ox), wA cI cZ a c fr tt sa tk, wI cI cZ i (opF N op (xs (n + 1)) op 1) (opF N op (xs (n + 1)) sl 0) (opF N op (xs (n + 1)) oi (1 : Int32)) (opF N op (xs (n + 1)) nd (xs (n + 1))) (opF N op (xs (n + 1)) lp (-1)) (opF N op (xs (n + 1)) tl 0), wG cI g go gt, wM cI cZ cL q 0 N c fr tt sa tk tn tr (opF N op (xs (n + 1)) op 1) (opF N op (xs (n + 1)) sl 0) (opF N op (xs (n + 1)) nd (xs (n + 1))) (opF N op (xs (n + 1)) oi (1 : Int32)) (opF N op (xs (n + 1)) il (-1)) (opF N op (xs (n + 1)) tl 0) go gt fa mn nx, wU cL t1 1 f9]) (fun _ => rfl) gL_law_X5_open rfl (by decide +kernel) rfl ⟨by decide, by decide⟩ rfl rfl rfl rfl hl.1 (Nat.le_of_ble_eq_true rfl) ⟨(by assumption), (by assumption)⟩ dL_law_799 rfl (fun r _ H locs hw hP hD hS => ?_)
        have hw : r = opR N op (xs (n + 1)) := hw
        subst hw
        refine lv_icmp_eq (tgt := 972) hx hb dL_law_802 (by decide) (fun c_802 => ?_) (fun c_802 => ?_)
        ·
          refine W.widen (k := cells + 1) (n := slots + 6) (Nat.le_add_right _ _) (Nat.le_add_right _ _) ?_
          exact kk _ _ _ ⟨_, _, _, _, _, _, _, _, _, _, _, _, _, _, _, _, _, _, _, _, _, _, _, _, _, _, _, _, _, _, _, _, _, _, _, E_open hInv (xs (n + 1)) 1, op8_open h8, hP, hD, hS⟩ (lv_sub hl [0, 1, 2, 3, 4] rfl)
        ·
          exact absurd rfl c_802

set_option maxHeartbeats 8000000 in
set_option maxRecDepth 100000 in
theorem law_next {pz : Program} {l : Launch} {ez : Env} {sz : State} {mz : MethodId} {args : Array Value} {bz : List Frame} {tz : Method} {cz : Code} {H : Heap} {locs : List Loc} {cells slots : Nat} {Q : State → Prop} {ls : Array Slot} {bs L : Nat} {xs : Nat → Int32} {D : va_G} {cI cZ cL : ClassId} {A : Nat → Prop} {o b d a i g q : Nat → Nat} {t1 n : Nat} (X : lwC pz l sz mz args cz bs L xs D cI cZ cL A) (hn : n + 3 < L) (hc9 : cells + 1 ≤ room_1.cells) (hs9 : slots + 6 ≤ room_1.slots) (hl : lv_has ls 7 [(0, .ref bs), (1, .ref (o 0)), (2, .ref (q 0)), (3, .ref t1), (4, .int (nI n))]) (hat : lwI D cI cZ cL A sz.heap o b d a i g q t1 H locs) (kk : ∀ (H : Heap) (locs : List Loc) (ls : Array Slot), lwI D cI cZ cL A sz.heap o b d a i g q t1 H locs → lv_has ls 7 [(0, .ref bs), (1, .ref (o 0)), (2, .ref (q 0)), (3, .ref t1), (4, .int (nI n))] → W pz l ez room_1 sz mz args bz tz cz H locs (cells + 1) (slots + 6) Q (F0 mz 972 ls [])) : W pz l ez room_1 sz mz args bz tz cz H locs cells slots Q (F0 mz 807 ls []) := by
  obtain ⟨hx, hb, hml, hown, hts, hXs, hbl, hbA, hA, hK, hX, hst, hL⟩ := X
  obtain ⟨N, tn, tr, sp, wh, ow, rw, nm, bf, fe, rx, nn, bg, fx, c, fr, tt, sa, tk, op, sl, oi, nd, lp, tl, go, gt, oo, ox, th, il, fa, mn, nx, f9, hInv, h8, hP, hD, hS⟩ := hat
  obtain ⟨⟨hN1, hN⟩, hc, htn, hfr, htt, hsa, hlt, htk, hR, hR2, hI⟩ := id hInv
  have hcc : cells ≤ room_1.cells := Nat.le_of_succ_le hc9
  have hss : slots ≤ room_1.slots := Nat.le_trans (Nat.le_add_right _ 6) hs9
  by_cases hz : oi (xs (n + 1)).toNatClampNeg = 0
  ·
    refine lv_aload_n hx hb dL_law_807 rfl (lv_at hl 1 rfl) ?_
    refine lv_aload_n hx hb dL_law_808 rfl (lv_at hl 0 rfl) ?_
    refine lv_iload hx hb dL_law_809 (lv_at hl 4 rfl) ?_
    refine lv_iconst (v := (1 : Int32)) hx hb dL_law_811 (by decide) ?_
    refine q_iadd (z := nI (n + 1)) hx hb dL_law_812 (nI_add n 1) ?_
    refine q_sld hx hb hXs hbl hbA hS (k := n + 1) (by omega) hL dL_law_813 ?_
    refine q_callVi (index := 101) (n := 1) (As := [.int (xs (n + 1))]) (rest := []) (js := [0, 1, 2, 3, 4, 5, 6, 7, 8, 9, 10, 11]) (ci := 4) ⟨hx, hb, hml, hown, hts⟩ hK hP hD hS hA (k4_next0 l D cI cZ cL o N tn tr sp wh ow b rw nm bf fe d rx nn bg fx a c fr tt sa tk i op sl oi nd lp tl g go gt oo ox (xs (n + 1)) (nC nd (xs (n + 1)).toNatClampNeg) (qN (lp (xs (n + 1)).toNatClampNeg)) (by omega) (by omega) hz (E_next0 (tl := tl) hInv hz).1) rfl (by decide) (fun _ => by simp only [List.map_cons, List.map_nil, wA_fst, wG_fst, wI_fst, wO_fst, wS_fst, wT_fst, wU_fst]) (fun (_ : Unit) => [wO o (a 0) (b 0) (d 0) (i 0) (g 0) N tn, wT cI (o 1) 160 tr, wT cI (o 2) N sp, wU cL (o 3) N wh, wU cL (o 4) N ow, wS cI b (a 0) (a 1) (a 2) N rw nm bf fe, wT cI (b 1) (N + 1) (nF oo), wS cI d (a 0) (a 2) (a 1) N rx nn bg fx, wT cI (d 1) (N + 1) (nF ox), wA cI cZ a c fr tt sa tk, wI cI cZ i op sl oi nd (ncF (ncB c sa tk fr rw oo op sl (nC nd (xs (n + 1)).toNatClampNeg) (qN (lp (xs (n + 1)).toNatClampNeg)) (xs (n + 1))) lp (xs (n + 1)) (lpR c sa tk fr rw oo (nC nd (xs (n + 1)).toNatClampNeg) (qN (lp (xs (n + 1)).toNatClampNeg)))) (ncF (ncB c sa tk fr rw oo op sl (nC nd (xs (n + 1)).toNatClampNeg) (qN (lp (xs (n + 1)).toNatClampNeg)) (xs (n + 1))) tl (xs (n + 1)) (tl (xs (n + 1)).toNatClampNeg + 1)), wG cI g go gt, wM cI cZ cL q th N c fr tt sa tk tn tr op sl nd oi il tl go gt fa mn nx, wU cL t1 1 f9]) (fun _ => rfl) gL_law_X4_next rfl (by decide +kernel) rfl ⟨by decide, by decide⟩ rfl rfl rfl rfl hl.1 (Nat.le_of_ble_eq_true rfl) ⟨(by assumption), (by assumption)⟩ dL_law_814 rfl (fun r _ H locs hw hP hD hS => ?_)
    have hw : r = ncR c sa tk fr rw oo op sl (nC nd (xs (n + 1)).toNatClampNeg) (qN (lp (xs (n + 1)).toNatClampNeg)) (xs (n + 1)) := hw
    subst hw
    have hP : va_P D vwCl (List.flatten [wO o (a 0) (b 0) (d 0) (i 0) (g 0) N tn, wT cI (o 1) 160 tr, wT cI (o 2) N sp, wU cL (o 3) N wh, wU cL (o 4) N ow, wS cI b (a 0) (a 1) (a 2) N rw nm bf fe, wT cI (b 1) (N + 1) (nF oo), wS cI d (a 0) (a 2) (a 1) N rx nn bg fx, wT cI (d 1) (N + 1) (nF ox), wA cI cZ a c fr tt sa tk, wI cI cZ i op sl oi nd (ncF (ncB c sa tk fr rw oo op sl (nC nd (xs (n + 1)).toNatClampNeg) (qN (lp (xs (n + 1)).toNatClampNeg)) (xs (n + 1))) lp (xs (n + 1)) (lpR c sa tk fr rw oo (nC nd (xs (n + 1)).toNatClampNeg) (qN (lp (xs (n + 1)).toNatClampNeg)))) (nxT c fr tt sa tk op sl nd oi il tl (xs (n + 1))), wG cI g go gt, wM cI cZ cL q th N c fr tt sa tk tn tr op sl nd oi il tl go gt fa mn nx, wU cL t1 1 f9]) _ := wCast hP (by rw [(E_next0 (tl := tl) hInv hz).2.2.1])
    have hD : va_D A (List.flatten [wO o (a 0) (b 0) (d 0) (i 0) (g 0) N tn, wT cI (o 1) 160 tr, wT cI (o 2) N sp, wU cL (o 3) N wh, wU cL (o 4) N ow, wS cI b (a 0) (a 1) (a 2) N rw nm bf fe, wT cI (b 1) (N + 1) (nF oo), wS cI d (a 0) (a 2) (a 1) N rx nn bg fx, wT cI (d 1) (N + 1) (nF ox), wA cI cZ a c fr tt sa tk, wI cI cZ i op sl oi nd (ncF (ncB c sa tk fr rw oo op sl (nC nd (xs (n + 1)).toNatClampNeg) (qN (lp (xs (n + 1)).toNatClampNeg)) (xs (n + 1))) lp (xs (n + 1)) (lpR c sa tk fr rw oo (nC nd (xs (n + 1)).toNatClampNeg) (qN (lp (xs (n + 1)).toNatClampNeg)))) (nxT c fr tt sa tk op sl nd oi il tl (xs (n + 1))), wG cI g go gt, wM cI cZ cL q th N c fr tt sa tk tn tr op sl nd oi il tl go gt fa mn nx, wU cL t1 1 f9]) := dCast hD (by rw [(E_next0 (tl := tl) hInv hz).2.2.1])
    refine lv_aload_n hx hb dL_law_817 rfl (lv_at hl 2 rfl) ?_
    refine lv_aload_n hx hb dL_law_818 rfl (lv_at hl 0 rfl) ?_
    refine lv_iload hx hb dL_law_819 (lv_at hl 4 rfl) ?_
    refine lv_iconst (v := (1 : Int32)) hx hb dL_law_821 (by decide) ?_
    refine q_iadd (z := nI (n + 1)) hx hb dL_law_822 (nI_add n 1) ?_
    refine q_sld hx hb hXs hbl hbA hS (k := n + 1) (by omega) hL dL_law_823 ?_
    refine q_callVi (index := 104) (n := 1) (As := [.int (xs (n + 1))]) (rest := [.int (ncR c sa tk fr rw oo op sl (nC nd (xs (n + 1)).toNatClampNeg) (qN (lp (xs (n + 1)).toNatClampNeg)) (xs (n + 1)))]) (js := [12]) (ci := 5) ⟨hx, hb, hml, hown, hts⟩ hK hP hD hS hA (k5_next l D cI cZ cL q th N c fr tt sa tk tn tr op sl nd oi il tl go gt fa mn nx (xs (n + 1)) (by omega) (N_hil hInv h8)) rfl (by decide) (fun _ => by simp only [List.map_cons, List.map_nil, wM_fst]) (fun (_ : Unit) => [wO o (a 0) (b 0) (d 0) (i 0) (g 0) N tn, wT cI (o 1) 160 tr, wT cI (o 2) N sp, wU cL (o 3) N wh, wU cL (o 4) N ow, wS cI b (a 0) (a 1) (a 2) N rw nm bf fe, wT cI (b 1) (N + 1) (nF oo), wS cI d (a 0) (a 2) (a 1) N rx nn bg fx, wT cI (d 1) (N + 1) (nF ox), wA cI cZ a c fr tt sa tk, wI cI cZ i op sl oi nd (ncF (ncB c sa tk fr rw oo op sl (nC nd (xs (n + 1)).toNatClampNeg) (qN (lp (xs (n + 1)).toNatClampNeg)) (xs (n + 1))) lp (xs (n + 1)) (lpR c sa tk fr rw oo (nC nd (xs (n + 1)).toNatClampNeg) (qN (lp (xs (n + 1)).toNatClampNeg)))) (nxT c fr tt sa tk op sl nd oi il tl (xs (n + 1))), wG cI g go gt, wM cI cZ cL q 0 N c fr tt sa tk tn tr op sl nd oi (nxF c fr tt sa tk op sl nd oi il (xs (n + 1))) (nxT c fr tt sa tk op sl nd oi il tl (xs (n + 1))) go gt fa mn nx, wU cL t1 1 f9]) (fun _ => rfl) gL_law_X5_next rfl (by decide +kernel) rfl ⟨by decide, by decide⟩ rfl rfl rfl rfl hl.1 (Nat.le_of_ble_eq_true rfl) ⟨(by assumption), (by assumption)⟩ dL_law_824 rfl (fun r _ H locs hw hP hD hS => ?_)
    have hw : r = nxR c fr tt sa tk op sl nd oi il (xs (n + 1)) := hw
    subst hw
    refine lv_icmp_eq (tgt := 972) hx hb dL_law_827 (by decide) (fun c_827 => ?_) (fun c_827 => ?_)
    ·
      refine W.widen (k := cells + 1) (n := slots + 6) (Nat.le_add_right _ _) (Nat.le_add_right _ _) ?_
      exact kk _ _ _ ⟨_, _, _, _, _, _, _, _, _, _, _, _, _, _, _, _, _, _, _, _, _, _, _, _, _, _, _, _, _, _, _, _, _, _, _, (E_next0 (tl := tl) hInv hz).2.2.2, h8, hP, hD, hS⟩ (lv_sub hl [0, 1, 2, 3, 4] rfl)
    ·
      exact absurd ((E_next0 (tl := tl) hInv hz).2.1) c_827
  ·
    refine lv_aload_n hx hb dL_law_807 rfl (lv_at hl 1 rfl) ?_
    refine lv_aload_n hx hb dL_law_808 rfl (lv_at hl 0 rfl) ?_
    refine lv_iload hx hb dL_law_809 (lv_at hl 4 rfl) ?_
    refine lv_iconst (v := (1 : Int32)) hx hb dL_law_811 (by decide) ?_
    refine q_iadd (z := nI (n + 1)) hx hb dL_law_812 (nI_add n 1) ?_
    refine q_sld hx hb hXs hbl hbA hS (k := n + 1) (by omega) hL dL_law_813 ?_
    refine q_callVi (index := 101) (n := 1) (As := [.int (xs (n + 1))]) (rest := []) (js := [0, 1, 2, 3, 4, 5, 6, 7, 8, 9, 10, 11]) (ci := 4) ⟨hx, hb, hml, hown, hts⟩ hK hP hD hS hA (k4_next1 l D cI cZ cL o N tn tr sp wh ow b rw nm bf fe d rx nn bg fx a c fr tt sa tk i op sl oi nd lp tl g go gt oo ox (xs (n + 1)) (nC nd (xs (n + 1)).toNatClampNeg) (qN (lp (xs (n + 1)).toNatClampNeg)) (by omega) (by omega) hz (E_next1 (tl := tl) hInv hz).1) rfl (by decide) (fun _ => by simp only [List.map_cons, List.map_nil, wA_fst, wG_fst, wI_fst, wO_fst, wS_fst, wT_fst, wU_fst]) (fun (_ : Unit) => [wO o (a 0) (b 0) (d 0) (i 0) (g 0) N tn, wT cI (o 1) 160 tr, wT cI (o 2) N sp, wU cL (o 3) N wh, wU cL (o 4) N ow, wS cI b (a 0) (a 1) (a 2) N rw nm bf fe, wT cI (b 1) (N + 1) (nF oo), wS cI d (a 0) (a 2) (a 1) N rx nn bg fx, wT cI (d 1) (N + 1) (nF ox), wA cI cZ a c fr tt sa tk, wI cI cZ i op sl oi nd (ncF (ncB c sa tk tt rx ox op sl (nC nd (xs (n + 1)).toNatClampNeg) (qN (lp (xs (n + 1)).toNatClampNeg)) (xs (n + 1))) lp (xs (n + 1)) (lpR c sa tk tt rx ox (nC nd (xs (n + 1)).toNatClampNeg) (qN (lp (xs (n + 1)).toNatClampNeg)))) (ncF (ncB c sa tk tt rx ox op sl (nC nd (xs (n + 1)).toNatClampNeg) (qN (lp (xs (n + 1)).toNatClampNeg)) (xs (n + 1))) tl (xs (n + 1)) (tl (xs (n + 1)).toNatClampNeg + 1)), wG cI g go gt, wM cI cZ cL q th N c fr tt sa tk tn tr op sl nd oi il tl go gt fa mn nx, wU cL t1 1 f9]) (fun _ => rfl) gL_law_X4_next rfl (by decide +kernel) rfl ⟨by decide, by decide⟩ rfl rfl rfl rfl hl.1 (Nat.le_of_ble_eq_true rfl) ⟨(by assumption), (by assumption)⟩ dL_law_814 rfl (fun r _ H locs hw hP hD hS => ?_)
    have hw : r = ncR c sa tk tt rx ox op sl (nC nd (xs (n + 1)).toNatClampNeg) (qN (lp (xs (n + 1)).toNatClampNeg)) (xs (n + 1)) := hw
    subst hw
    have hP : va_P D vwCl (List.flatten [wO o (a 0) (b 0) (d 0) (i 0) (g 0) N tn, wT cI (o 1) 160 tr, wT cI (o 2) N sp, wU cL (o 3) N wh, wU cL (o 4) N ow, wS cI b (a 0) (a 1) (a 2) N rw nm bf fe, wT cI (b 1) (N + 1) (nF oo), wS cI d (a 0) (a 2) (a 1) N rx nn bg fx, wT cI (d 1) (N + 1) (nF ox), wA cI cZ a c fr tt sa tk, wI cI cZ i op sl oi nd (ncF (ncB c sa tk tt rx ox op sl (nC nd (xs (n + 1)).toNatClampNeg) (qN (lp (xs (n + 1)).toNatClampNeg)) (xs (n + 1))) lp (xs (n + 1)) (lpR c sa tk tt rx ox (nC nd (xs (n + 1)).toNatClampNeg) (qN (lp (xs (n + 1)).toNatClampNeg)))) (nxT c fr tt sa tk op sl nd oi il tl (xs (n + 1))), wG cI g go gt, wM cI cZ cL q th N c fr tt sa tk tn tr op sl nd oi il tl go gt fa mn nx, wU cL t1 1 f9]) _ := wCast hP (by rw [(E_next1 (tl := tl) hInv hz).2.2.1])
    have hD : va_D A (List.flatten [wO o (a 0) (b 0) (d 0) (i 0) (g 0) N tn, wT cI (o 1) 160 tr, wT cI (o 2) N sp, wU cL (o 3) N wh, wU cL (o 4) N ow, wS cI b (a 0) (a 1) (a 2) N rw nm bf fe, wT cI (b 1) (N + 1) (nF oo), wS cI d (a 0) (a 2) (a 1) N rx nn bg fx, wT cI (d 1) (N + 1) (nF ox), wA cI cZ a c fr tt sa tk, wI cI cZ i op sl oi nd (ncF (ncB c sa tk tt rx ox op sl (nC nd (xs (n + 1)).toNatClampNeg) (qN (lp (xs (n + 1)).toNatClampNeg)) (xs (n + 1))) lp (xs (n + 1)) (lpR c sa tk tt rx ox (nC nd (xs (n + 1)).toNatClampNeg) (qN (lp (xs (n + 1)).toNatClampNeg)))) (nxT c fr tt sa tk op sl nd oi il tl (xs (n + 1))), wG cI g go gt, wM cI cZ cL q th N c fr tt sa tk tn tr op sl nd oi il tl go gt fa mn nx, wU cL t1 1 f9]) := dCast hD (by rw [(E_next1 (tl := tl) hInv hz).2.2.1])
    refine lv_aload_n hx hb dL_law_817 rfl (lv_at hl 2 rfl) ?_
    refine lv_aload_n hx hb dL_law_818 rfl (lv_at hl 0 rfl) ?_
    refine lv_iload hx hb dL_law_819 (lv_at hl 4 rfl) ?_
    refine lv_iconst (v := (1 : Int32)) hx hb dL_law_821 (by decide) ?_
    refine q_iadd (z := nI (n + 1)) hx hb dL_law_822 (nI_add n 1) ?_
    refine q_sld hx hb hXs hbl hbA hS (k := n + 1) (by omega) hL dL_law_823 ?_
    refine q_callVi (index := 104) (n := 1) (As := [.int (xs (n + 1))]) (rest := [.int (ncR c sa tk tt rx ox op sl (nC nd (xs (n + 1)).toNatClampNeg) (qN (lp (xs (n + 1)).toNatClampNeg)) (xs (n + 1)))]) (js := [12]) (ci := 5) ⟨hx, hb, hml, hown, hts⟩ hK hP hD hS hA (k5_next l D cI cZ cL q th N c fr tt sa tk tn tr op sl nd oi il tl go gt fa mn nx (xs (n + 1)) (by omega) (N_hil hInv h8)) rfl (by decide) (fun _ => by simp only [List.map_cons, List.map_nil, wM_fst]) (fun (_ : Unit) => [wO o (a 0) (b 0) (d 0) (i 0) (g 0) N tn, wT cI (o 1) 160 tr, wT cI (o 2) N sp, wU cL (o 3) N wh, wU cL (o 4) N ow, wS cI b (a 0) (a 1) (a 2) N rw nm bf fe, wT cI (b 1) (N + 1) (nF oo), wS cI d (a 0) (a 2) (a 1) N rx nn bg fx, wT cI (d 1) (N + 1) (nF ox), wA cI cZ a c fr tt sa tk, wI cI cZ i op sl oi nd (ncF (ncB c sa tk tt rx ox op sl (nC nd (xs (n + 1)).toNatClampNeg) (qN (lp (xs (n + 1)).toNatClampNeg)) (xs (n + 1))) lp (xs (n + 1)) (lpR c sa tk tt rx ox (nC nd (xs (n + 1)).toNatClampNeg) (qN (lp (xs (n + 1)).toNatClampNeg)))) (nxT c fr tt sa tk op sl nd oi il tl (xs (n + 1))), wG cI g go gt, wM cI cZ cL q 0 N c fr tt sa tk tn tr op sl nd oi (nxF c fr tt sa tk op sl nd oi il (xs (n + 1))) (nxT c fr tt sa tk op sl nd oi il tl (xs (n + 1))) go gt fa mn nx, wU cL t1 1 f9]) (fun _ => rfl) gL_law_X5_next rfl (by decide +kernel) rfl ⟨by decide, by decide⟩ rfl rfl rfl rfl hl.1 (Nat.le_of_ble_eq_true rfl) ⟨(by assumption), (by assumption)⟩ dL_law_824 rfl (fun r _ H locs hw hP hD hS => ?_)
    have hw : r = nxR c fr tt sa tk op sl nd oi il (xs (n + 1)) := hw
    subst hw
    refine lv_icmp_eq (tgt := 972) hx hb dL_law_827 (by decide) (fun c_827 => ?_) (fun c_827 => ?_)
    ·
      refine W.widen (k := cells + 1) (n := slots + 6) (Nat.le_add_right _ _) (Nat.le_add_right _ _) ?_
      exact kk _ _ _ ⟨_, _, _, _, _, _, _, _, _, _, _, _, _, _, _, _, _, _, _, _, _, _, _, _, _, _, _, _, _, _, _, _, _, _, _, (E_next1 (tl := tl) hInv hz).2.2.2, h8, hP, hD, hS⟩ (lv_sub hl [0, 1, 2, 3, 4] rfl)
    ·
      exact absurd ((E_next1 (tl := tl) hInv hz).2.1) c_827

set_option maxHeartbeats 8000000 in
set_option maxRecDepth 100000 in
theorem law_close {pz : Program} {l : Launch} {ez : Env} {sz : State} {mz : MethodId} {args : Array Value} {bz : List Frame} {tz : Method} {cz : Code} {H : Heap} {locs : List Loc} {cells slots : Nat} {Q : State → Prop} {ls : Array Slot} {bs L : Nat} {xs : Nat → Int32} {D : va_G} {cI cZ cL : ClassId} {A : Nat → Prop} {o b d a i g q : Nat → Nat} {t1 n : Nat} (X : lwC pz l sz mz args cz bs L xs D cI cZ cL A) (hn : n + 3 < L) (hc9 : cells + 1 ≤ room_1.cells) (hs9 : slots + 6 ≤ room_1.slots) (hl : lv_has ls 7 [(0, .ref bs), (1, .ref (o 0)), (2, .ref (q 0)), (3, .ref t1), (4, .int (nI n))]) (hat : lwI D cI cZ cL A sz.heap o b d a i g q t1 H locs) (kk : ∀ (H : Heap) (locs : List Loc) (ls : Array Slot), lwI D cI cZ cL A sz.heap o b d a i g q t1 H locs → lv_has ls 7 [(0, .ref bs), (1, .ref (o 0)), (2, .ref (q 0)), (3, .ref t1), (4, .int (nI n))] → W pz l ez room_1 sz mz args bz tz cz H locs (cells + 1) (slots + 6) Q (F0 mz 972 ls [])) : W pz l ez room_1 sz mz args bz tz cz H locs cells slots Q (F0 mz 832 ls []) := by
  obtain ⟨hx, hb, hml, hown, hts, hXs, hbl, hbA, hA, hK, hX, hst, hL⟩ := X
  obtain ⟨N, tn, tr, sp, wh, ow, rw, nm, bf, fe, rx, nn, bg, fx, c, fr, tt, sa, tk, op, sl, oi, nd, lp, tl, go, gt, oo, ox, th, il, fa, mn, nx, f9, hInv, h8, hP, hD, hS⟩ := hat
  obtain ⟨⟨hN1, hN⟩, hc, htn, hfr, htt, hsa, hlt, htk, hR, hR2, hI⟩ := id hInv
  have hcc : cells ≤ room_1.cells := Nat.le_of_succ_le hc9
  have hss : slots ≤ room_1.slots := Nat.le_trans (Nat.le_add_right _ 6) hs9
  refine lv_aload_n hx hb dL_law_832 rfl (lv_at hl 1 rfl) ?_
  refine lv_aload_n hx hb dL_law_833 rfl (lv_at hl 0 rfl) ?_
  refine lv_iload hx hb dL_law_834 (lv_at hl 4 rfl) ?_
  refine lv_iconst (v := (1 : Int32)) hx hb dL_law_836 (by decide) ?_
  refine q_iadd (z := nI (n + 1)) hx hb dL_law_837 (nI_add n 1) ?_
  refine q_sld hx hb hXs hbl hbA hS (k := n + 1) (by omega) hL dL_law_838 ?_
  refine q_callVi (index := 105) (n := 1) (As := [.int (xs (n + 1))]) (rest := []) (js := [0, 1, 2, 3, 4, 5, 6, 7, 8, 9, 10, 11]) (ci := 4) ⟨hx, hb, hml, hown, hts⟩ hK hP hD hS hA (k4_close l D cI cZ cL o N tn tr sp wh ow b rw nm bf fe d rx nn bg fx a c fr tt sa tk i op sl oi nd lp tl g go gt oo ox (xs (n + 1))) rfl (by decide) (fun _ => by simp only [List.map_cons, List.map_nil, wA_fst, wG_fst, wI_fst, wO_fst, wS_fst, wT_fst, wU_fst]) (fun (_ : Unit) => [wO o (a 0) (b 0) (d 0) (i 0) (g 0) N tn, wT cI (o 1) 160 tr, wT cI (o 2) N sp, wU cL (o 3) N wh, wU cL (o 4) N ow, wS cI b (a 0) (a 1) (a 2) N rw nm bf fe, wT cI (b 1) (N + 1) (nF oo), wS cI d (a 0) (a 2) (a 1) N rx nn bg fx, wT cI (d 1) (N + 1) (nF ox), wA cI cZ a c fr tt sa tk, wI cI cZ i (clF op (xs (n + 1))) sl oi nd lp tl, wG cI g go gt, wM cI cZ cL q th N c fr tt sa tk tn tr op sl nd oi il tl go gt fa mn nx, wU cL t1 1 f9]) (fun _ => rfl) gL_law_X4_close rfl (by decide +kernel) rfl ⟨by decide, by decide⟩ rfl rfl rfl rfl hl.1 (Nat.le_of_ble_eq_true rfl) ⟨(by assumption), (by assumption)⟩ dL_law_839 rfl (fun r _ H locs hw hP hD hS => ?_)
  have hw : r = clR op tl (xs (n + 1)) := hw
  subst hw
  refine lv_aload_n hx hb dL_law_842 rfl (lv_at hl 2 rfl) ?_
  refine lv_aload_n hx hb dL_law_843 rfl (lv_at hl 0 rfl) ?_
  refine lv_iload hx hb dL_law_844 (lv_at hl 4 rfl) ?_
  refine lv_iconst (v := (1 : Int32)) hx hb dL_law_846 (by decide) ?_
  refine q_iadd (z := nI (n + 1)) hx hb dL_law_847 (nI_add n 1) ?_
  refine q_sld hx hb hXs hbl hbA hS (k := n + 1) (by omega) hL dL_law_848 ?_
  refine q_callVi (index := 108) (n := 1) (As := [.int (xs (n + 1))]) (rest := [.int (clR op tl (xs (n + 1)))]) (js := [12]) (ci := 5) ⟨hx, hb, hml, hown, hts⟩ hK hP hD hS hA (k5_close l D cI cZ cL q th N c fr tt sa tk tn tr op sl nd oi il tl go gt fa mn nx (xs (n + 1))) rfl (by decide) (fun _ => by simp only [List.map_cons, List.map_nil, wM_fst]) (fun (_ : Unit) => [wO o (a 0) (b 0) (d 0) (i 0) (g 0) N tn, wT cI (o 1) 160 tr, wT cI (o 2) N sp, wU cL (o 3) N wh, wU cL (o 4) N ow, wS cI b (a 0) (a 1) (a 2) N rw nm bf fe, wT cI (b 1) (N + 1) (nF oo), wS cI d (a 0) (a 2) (a 1) N rx nn bg fx, wT cI (d 1) (N + 1) (nF ox), wA cI cZ a c fr tt sa tk, wI cI cZ i (clF op (xs (n + 1))) sl oi nd lp tl, wG cI g go gt, wM cI cZ cL q 0 N c fr tt sa tk tn tr (clF op (xs (n + 1))) sl nd oi il tl go gt fa mn nx, wU cL t1 1 f9]) (fun _ => rfl) gL_law_X5_close rfl (by decide +kernel) rfl ⟨by decide, by decide⟩ rfl rfl rfl rfl hl.1 (Nat.le_of_ble_eq_true rfl) ⟨(by assumption), (by assumption)⟩ dL_law_849 rfl (fun r _ H locs hw hP hD hS => ?_)
  have hw : r = clR op tl (xs (n + 1)) := hw
  subst hw
  refine lv_icmp_eq (tgt := 972) hx hb dL_law_852 (by decide) (fun c_852 => ?_) (fun c_852 => ?_)
  ·
    refine W.widen (k := cells + 1) (n := slots + 6) (Nat.le_add_right _ _) (Nat.le_add_right _ _) ?_
    exact kk _ _ _ ⟨_, _, _, _, _, _, _, _, _, _, _, _, _, _, _, _, _, _, _, _, _, _, _, _, _, _, _, _, _, _, _, _, _, _, _, E_close hInv (xs (n + 1)), op8_close h8, hP, hD, hS⟩ (lv_sub hl [0, 1, 2, 3, 4] rfl)
  ·
    exact absurd rfl c_852

set_option maxHeartbeats 8000000 in
set_option maxRecDepth 100000 in
theorem law_give {pz : Program} {l : Launch} {ez : Env} {sz : State} {mz : MethodId} {args : Array Value} {bz : List Frame} {tz : Method} {cz : Code} {H : Heap} {locs : List Loc} {cells slots : Nat} {Q : State → Prop} {ls : Array Slot} {bs L : Nat} {xs : Nat → Int32} {D : va_G} {cI cZ cL : ClassId} {A : Nat → Prop} {o b d a i g q : Nat → Nat} {t1 n : Nat} (X : lwC pz l sz mz args cz bs L xs D cI cZ cL A) (hn : n + 3 < L) (hc9 : cells + 1 ≤ room_1.cells) (hs9 : slots + 6 ≤ room_1.slots) (hl : lv_has ls 7 [(0, .ref bs), (1, .ref (o 0)), (2, .ref (q 0)), (3, .ref t1), (4, .int (nI n))]) (hat : lwI D cI cZ cL A sz.heap o b d a i g q t1 H locs) (kk : ∀ (H : Heap) (locs : List Loc) (ls : Array Slot), lwI D cI cZ cL A sz.heap o b d a i g q t1 H locs → lv_has ls 7 [(0, .ref bs), (1, .ref (o 0)), (2, .ref (q 0)), (3, .ref t1), (4, .int (nI n))] → W pz l ez room_1 sz mz args bz tz cz H locs (cells + 1) (slots + 6) Q (F0 mz 972 ls [])) : W pz l ez room_1 sz mz args bz tz cz H locs cells slots Q (F0 mz 857 ls []) := by
  obtain ⟨hx, hb, hml, hown, hts, hXs, hbl, hbA, hA, hK, hX, hst, hL⟩ := X
  obtain ⟨N, tn, tr, sp, wh, ow, rw, nm, bf, fe, rx, nn, bg, fx, c, fr, tt, sa, tk, op, sl, oi, nd, lp, tl, go, gt, oo, ox, th, il, fa, mn, nx, f9, hInv, h8, hP, hD, hS⟩ := hat
  obtain ⟨⟨hN1, hN⟩, hc, htn, hfr, htt, hsa, hlt, htk, hR, hR2, hI⟩ := id hInv
  have hcc : cells ≤ room_1.cells := Nat.le_of_succ_le hc9
  have hss : slots ≤ room_1.slots := Nat.le_trans (Nat.le_add_right _ 6) hs9
  by_cases hz : xs (n + 1) = 0
  ·
    refine lv_aload_n hx hb dL_law_857 rfl (lv_at hl 1 rfl) ?_
    refine lv_aload_n hx hb dL_law_858 rfl (lv_at hl 0 rfl) ?_
    refine lv_iload hx hb dL_law_859 (lv_at hl 4 rfl) ?_
    refine lv_iconst (v := (1 : Int32)) hx hb dL_law_861 (by decide) ?_
    refine q_iadd (z := nI (n + 1)) hx hb dL_law_862 (nI_add n 1) ?_
    refine q_sld hx hb hXs hbl hbA hS (k := n + 1) (by omega) hL dL_law_863 ?_
    refine lv_if_eq (tgt := 871) hx hb dL_law_864 (by decide) (fun c_864 => ?_) (fun c_864 => ?_)
    ·
      refine lv_iconst (v := (0 : Int32)) hx hb dL_law_871 (by decide) ?_
      refine lv_aload_n hx hb dL_law_872 rfl (lv_at hl 0 rfl) ?_
      refine lv_iload hx hb dL_law_873 (lv_at hl 4 rfl) ?_
      refine lv_iconst (v := (2 : Int32)) hx hb dL_law_875 (by decide) ?_
      refine q_iadd (z := nI (n + 2)) hx hb dL_law_876 (nI_add n 2) ?_
      refine q_sld hx hb hXs hbl hbA hS (k := n + 2) (by omega) hL dL_law_877 ?_
      refine lv_aload_n hx hb dL_law_878 rfl (lv_at hl 0 rfl) ?_
      refine lv_iload hx hb dL_law_879 (lv_at hl 4 rfl) ?_
      refine lv_iconst (v := (3 : Int32)) hx hb dL_law_881 (by decide) ?_
      refine q_iadd (z := nI (n + 3)) hx hb dL_law_882 (nI_add n 3) ?_
      refine q_sld hx hb hXs hbl hbA hS (k := n + 3) (by omega) hL dL_law_883 ?_
      refine q_callVi (index := 109) (n := 3) (As := [.int (0 : Int32), .int (xs (n + 2)), .int (xs (n + 3))]) (rest := []) (js := [0, 1, 2, 3, 4, 5, 6, 7, 8, 9, 10, 11]) (ci := 4) ⟨hx, hb, hml, hown, hts⟩ hK hP hD hS hA (k4_give l D cI cZ cL o N tn tr sp wh ow b rw nm bf fe d rx nn bg fx a c fr tt sa tk i op sl oi nd lp tl g go gt oo ox (0 : Int32) (xs (n + 2)) (xs (n + 3))) rfl (by decide) (fun _ => by simp only [List.map_cons, List.map_nil, wA_fst, wG_fst, wI_fst, wO_fst, wS_fst, wT_fst, wU_fst]) (fun (_ : Unit) => [wO o (a 0) (b 0) (d 0) (i 0) (g 0) N tn, wT cI (o 1) 160 tr, wT cI (o 2) N sp, wU cL (o 3) N wh, wU cL (o 4) N ow, wS cI b (a 0) (a 1) (a 2) N rw nm bf fe, wT cI (b 1) (N + 1) (nF oo), wS cI d (a 0) (a 2) (a 1) N rx nn bg fx, wT cI (d 1) (N + 1) (nF ox), wA cI cZ a c fr tt sa tk, wI cI cZ i op sl oi nd lp tl, wG cI g (gwO go (0 : Int32) (xs (n + 2)) (xs (n + 3))) (gwT gt (0 : Int32) (xs (n + 2)) (xs (n + 3))), wM cI cZ cL q th N c fr tt sa tk tn tr op sl nd oi il tl go gt fa mn nx, wU cL t1 1 f9]) (fun _ => rfl) gL_law_X4_give rfl (by decide +kernel) rfl ⟨by decide, by decide⟩ rfl rfl rfl rfl hl.1 (Nat.le_of_ble_eq_true rfl) ⟨(by assumption), (by assumption)⟩ dL_law_884 rfl (fun r _ H locs hw hP hD hS => ?_)
      have hw : r = gwR go gt (0 : Int32) (xs (n + 2)) := hw
      subst hw
      refine lv_aload_n hx hb dL_law_887 rfl (lv_at hl 2 rfl) ?_
      refine lv_aload_n hx hb dL_law_888 rfl (lv_at hl 0 rfl) ?_
      refine lv_iload hx hb dL_law_889 (lv_at hl 4 rfl) ?_
      refine lv_iconst (v := (1 : Int32)) hx hb dL_law_891 (by decide) ?_
      refine q_iadd (z := nI (n + 1)) hx hb dL_law_892 (nI_add n 1) ?_
      refine q_sld hx hb hXs hbl hbA hS (k := n + 1) (by omega) hL dL_law_893 ?_
      refine lv_if_eq (tgt := 901) hx hb dL_law_894 (by decide) (fun c_894 => ?_) (fun c_894 => ?_)
      ·
        refine lv_iconst (v := (0 : Int32)) hx hb dL_law_901 (by decide) ?_
        refine lv_aload_n hx hb dL_law_902 rfl (lv_at hl 0 rfl) ?_
        refine lv_iload hx hb dL_law_903 (lv_at hl 4 rfl) ?_
        refine lv_iconst (v := (2 : Int32)) hx hb dL_law_905 (by decide) ?_
        refine q_iadd (z := nI (n + 2)) hx hb dL_law_906 (nI_add n 2) ?_
        refine q_sld hx hb hXs hbl hbA hS (k := n + 2) (by omega) hL dL_law_907 ?_
        refine lv_aload_n hx hb dL_law_908 rfl (lv_at hl 0 rfl) ?_
        refine lv_iload hx hb dL_law_909 (lv_at hl 4 rfl) ?_
        refine lv_iconst (v := (3 : Int32)) hx hb dL_law_911 (by decide) ?_
        refine q_iadd (z := nI (n + 3)) hx hb dL_law_912 (nI_add n 3) ?_
        refine q_sld hx hb hXs hbl hbA hS (k := n + 3) (by omega) hL dL_law_913 ?_
        refine q_callVi (index := 113) (n := 3) (As := [.int (0 : Int32), .int (xs (n + 2)), .int (xs (n + 3))]) (rest := [.int (gwR go gt (0 : Int32) (xs (n + 2)))]) (js := [12]) (ci := 5) ⟨hx, hb, hml, hown, hts⟩ hK hP hD hS hA (k5_give l D cI cZ cL q th N c fr tt sa tk tn tr op sl nd oi il tl go gt fa mn nx (0 : Int32) (xs (n + 2)) (xs (n + 3))) rfl (by decide) (fun _ => by simp only [List.map_cons, List.map_nil, wM_fst]) (fun (_ : Unit) => [wO o (a 0) (b 0) (d 0) (i 0) (g 0) N tn, wT cI (o 1) 160 tr, wT cI (o 2) N sp, wU cL (o 3) N wh, wU cL (o 4) N ow, wS cI b (a 0) (a 1) (a 2) N rw nm bf fe, wT cI (b 1) (N + 1) (nF oo), wS cI d (a 0) (a 2) (a 1) N rx nn bg fx, wT cI (d 1) (N + 1) (nF ox), wA cI cZ a c fr tt sa tk, wI cI cZ i op sl oi nd lp tl, wG cI g (gwO go (0 : Int32) (xs (n + 2)) (xs (n + 3))) (gwT gt (0 : Int32) (xs (n + 2)) (xs (n + 3))), wM cI cZ cL q 0 N c fr tt sa tk tn tr op sl nd oi il tl (gwO go (0 : Int32) (xs (n + 2)) (xs (n + 3))) (gwT gt (0 : Int32) (xs (n + 2)) (xs (n + 3))) fa mn nx, wU cL t1 1 f9]) (fun _ => rfl) gL_law_X5_give rfl (by decide +kernel) rfl ⟨by decide, by decide⟩ rfl rfl rfl rfl hl.1 (Nat.le_of_ble_eq_true rfl) ⟨(by assumption), (by assumption)⟩ dL_law_914 rfl (fun r _ H locs hw hP hD hS => ?_)
        have hw : r = gwR go gt (0 : Int32) (xs (n + 2)) := hw
        subst hw
        refine lv_icmp_eq (tgt := 972) hx hb dL_law_917 (by decide) (fun c_917 => ?_) (fun c_917 => ?_)
        ·
          refine W.widen (k := cells + 1) (n := slots + 6) (Nat.le_add_right _ _) (Nat.le_add_right _ _) ?_
          exact kk _ _ _ ⟨_, _, _, _, _, _, _, _, _, _, _, _, _, _, _, _, _, _, _, _, _, _, _, _, _, _, _, _, _, _, _, _, _, _, _, hInv, h8, hP, hD, hS⟩ (lv_sub hl [0, 1, 2, 3, 4] rfl)
        ·
          exact absurd rfl c_917
      ·
        exact absurd hz c_894
    ·
      exact absurd hz c_864
  ·
    refine lv_aload_n hx hb dL_law_857 rfl (lv_at hl 1 rfl) ?_
    refine lv_aload_n hx hb dL_law_858 rfl (lv_at hl 0 rfl) ?_
    refine lv_iload hx hb dL_law_859 (lv_at hl 4 rfl) ?_
    refine lv_iconst (v := (1 : Int32)) hx hb dL_law_861 (by decide) ?_
    refine q_iadd (z := nI (n + 1)) hx hb dL_law_862 (nI_add n 1) ?_
    refine q_sld hx hb hXs hbl hbA hS (k := n + 1) (by omega) hL dL_law_863 ?_
    refine lv_if_eq (tgt := 871) hx hb dL_law_864 (by decide) (fun c_864 => ?_) (fun c_864 => ?_)
    ·
      exact absurd c_864 hz
    ·
      refine lv_iconst (v := (1 : Int32)) hx hb dL_law_867 (by decide) ?_
      refine lv_goto (tgt := 872) hx hb dL_law_868 (by decide) ?_
      refine lv_aload_n hx hb dL_law_872 rfl (lv_at hl 0 rfl) ?_
      refine lv_iload hx hb dL_law_873 (lv_at hl 4 rfl) ?_
      refine lv_iconst (v := (2 : Int32)) hx hb dL_law_875 (by decide) ?_
      refine q_iadd (z := nI (n + 2)) hx hb dL_law_876 (nI_add n 2) ?_
      refine q_sld hx hb hXs hbl hbA hS (k := n + 2) (by omega) hL dL_law_877 ?_
      refine lv_aload_n hx hb dL_law_878 rfl (lv_at hl 0 rfl) ?_
      refine lv_iload hx hb dL_law_879 (lv_at hl 4 rfl) ?_
      refine lv_iconst (v := (3 : Int32)) hx hb dL_law_881 (by decide) ?_
      refine q_iadd (z := nI (n + 3)) hx hb dL_law_882 (nI_add n 3) ?_
      refine q_sld hx hb hXs hbl hbA hS (k := n + 3) (by omega) hL dL_law_883 ?_
      refine q_callVi (index := 109) (n := 3) (As := [.int (1 : Int32), .int (xs (n + 2)), .int (xs (n + 3))]) (rest := []) (js := [0, 1, 2, 3, 4, 5, 6, 7, 8, 9, 10, 11]) (ci := 4) ⟨hx, hb, hml, hown, hts⟩ hK hP hD hS hA (k4_give l D cI cZ cL o N tn tr sp wh ow b rw nm bf fe d rx nn bg fx a c fr tt sa tk i op sl oi nd lp tl g go gt oo ox (1 : Int32) (xs (n + 2)) (xs (n + 3))) rfl (by decide) (fun _ => by simp only [List.map_cons, List.map_nil, wA_fst, wG_fst, wI_fst, wO_fst, wS_fst, wT_fst, wU_fst]) (fun (_ : Unit) => [wO o (a 0) (b 0) (d 0) (i 0) (g 0) N tn, wT cI (o 1) 160 tr, wT cI (o 2) N sp, wU cL (o 3) N wh, wU cL (o 4) N ow, wS cI b (a 0) (a 1) (a 2) N rw nm bf fe, wT cI (b 1) (N + 1) (nF oo), wS cI d (a 0) (a 2) (a 1) N rx nn bg fx, wT cI (d 1) (N + 1) (nF ox), wA cI cZ a c fr tt sa tk, wI cI cZ i op sl oi nd lp tl, wG cI g (gwO go (1 : Int32) (xs (n + 2)) (xs (n + 3))) (gwT gt (1 : Int32) (xs (n + 2)) (xs (n + 3))), wM cI cZ cL q th N c fr tt sa tk tn tr op sl nd oi il tl go gt fa mn nx, wU cL t1 1 f9]) (fun _ => rfl) gL_law_X4_give rfl (by decide +kernel) rfl ⟨by decide, by decide⟩ rfl rfl rfl rfl hl.1 (Nat.le_of_ble_eq_true rfl) ⟨(by assumption), (by assumption)⟩ dL_law_884 rfl (fun r _ H locs hw hP hD hS => ?_)
      have hw : r = gwR go gt (1 : Int32) (xs (n + 2)) := hw
      subst hw
      refine lv_aload_n hx hb dL_law_887 rfl (lv_at hl 2 rfl) ?_
      refine lv_aload_n hx hb dL_law_888 rfl (lv_at hl 0 rfl) ?_
      refine lv_iload hx hb dL_law_889 (lv_at hl 4 rfl) ?_
      refine lv_iconst (v := (1 : Int32)) hx hb dL_law_891 (by decide) ?_
      refine q_iadd (z := nI (n + 1)) hx hb dL_law_892 (nI_add n 1) ?_
      refine q_sld hx hb hXs hbl hbA hS (k := n + 1) (by omega) hL dL_law_893 ?_
      refine lv_if_eq (tgt := 901) hx hb dL_law_894 (by decide) (fun c_894 => ?_) (fun c_894 => ?_)
      ·
        exact absurd c_894 hz
      ·
        refine lv_iconst (v := (1 : Int32)) hx hb dL_law_897 (by decide) ?_
        refine lv_goto (tgt := 902) hx hb dL_law_898 (by decide) ?_
        refine lv_aload_n hx hb dL_law_902 rfl (lv_at hl 0 rfl) ?_
        refine lv_iload hx hb dL_law_903 (lv_at hl 4 rfl) ?_
        refine lv_iconst (v := (2 : Int32)) hx hb dL_law_905 (by decide) ?_
        refine q_iadd (z := nI (n + 2)) hx hb dL_law_906 (nI_add n 2) ?_
        refine q_sld hx hb hXs hbl hbA hS (k := n + 2) (by omega) hL dL_law_907 ?_
        refine lv_aload_n hx hb dL_law_908 rfl (lv_at hl 0 rfl) ?_
        refine lv_iload hx hb dL_law_909 (lv_at hl 4 rfl) ?_
        refine lv_iconst (v := (3 : Int32)) hx hb dL_law_911 (by decide) ?_
        refine q_iadd (z := nI (n + 3)) hx hb dL_law_912 (nI_add n 3) ?_
        refine q_sld hx hb hXs hbl hbA hS (k := n + 3) (by omega) hL dL_law_913 ?_
        refine q_callVi (index := 113) (n := 3) (As := [.int (1 : Int32), .int (xs (n + 2)), .int (xs (n + 3))]) (rest := [.int (gwR go gt (1 : Int32) (xs (n + 2)))]) (js := [12]) (ci := 5) ⟨hx, hb, hml, hown, hts⟩ hK hP hD hS hA (k5_give l D cI cZ cL q th N c fr tt sa tk tn tr op sl nd oi il tl go gt fa mn nx (1 : Int32) (xs (n + 2)) (xs (n + 3))) rfl (by decide) (fun _ => by simp only [List.map_cons, List.map_nil, wM_fst]) (fun (_ : Unit) => [wO o (a 0) (b 0) (d 0) (i 0) (g 0) N tn, wT cI (o 1) 160 tr, wT cI (o 2) N sp, wU cL (o 3) N wh, wU cL (o 4) N ow, wS cI b (a 0) (a 1) (a 2) N rw nm bf fe, wT cI (b 1) (N + 1) (nF oo), wS cI d (a 0) (a 2) (a 1) N rx nn bg fx, wT cI (d 1) (N + 1) (nF ox), wA cI cZ a c fr tt sa tk, wI cI cZ i op sl oi nd lp tl, wG cI g (gwO go (1 : Int32) (xs (n + 2)) (xs (n + 3))) (gwT gt (1 : Int32) (xs (n + 2)) (xs (n + 3))), wM cI cZ cL q 0 N c fr tt sa tk tn tr op sl nd oi il tl (gwO go (1 : Int32) (xs (n + 2)) (xs (n + 3))) (gwT gt (1 : Int32) (xs (n + 2)) (xs (n + 3))) fa mn nx, wU cL t1 1 f9]) (fun _ => rfl) gL_law_X5_give rfl (by decide +kernel) rfl ⟨by decide, by decide⟩ rfl rfl rfl rfl hl.1 (Nat.le_of_ble_eq_true rfl) ⟨(by assumption), (by assumption)⟩ dL_law_914 rfl (fun r _ H locs hw hP hD hS => ?_)
        have hw : r = gwR go gt (1 : Int32) (xs (n + 2)) := hw
        subst hw
        refine lv_icmp_eq (tgt := 972) hx hb dL_law_917 (by decide) (fun c_917 => ?_) (fun c_917 => ?_)
        ·
          refine W.widen (k := cells + 1) (n := slots + 6) (Nat.le_add_right _ _) (Nat.le_add_right _ _) ?_
          exact kk _ _ _ ⟨_, _, _, _, _, _, _, _, _, _, _, _, _, _, _, _, _, _, _, _, _, _, _, _, _, _, _, _, _, _, _, _, _, _, _, hInv, h8, hP, hD, hS⟩ (lv_sub hl [0, 1, 2, 3, 4] rfl)
        ·
          exact absurd rfl c_917

set_option maxHeartbeats 8000000 in
set_option maxRecDepth 100000 in
theorem law_load {pz : Program} {l : Launch} {ez : Env} {sz : State} {mz : MethodId} {args : Array Value} {bz : List Frame} {tz : Method} {cz : Code} {H : Heap} {locs : List Loc} {cells slots : Nat} {Q : State → Prop} {ls : Array Slot} {bs L : Nat} {xs : Nat → Int32} {D : va_G} {cI cZ cL : ClassId} {A : Nat → Prop} {o b d a i g q : Nat → Nat} {t1 n : Nat} (X : lwC pz l sz mz args cz bs L xs D cI cZ cL A) (hn : n + 3 < L) (hc9 : cells + 1 ≤ room_1.cells) (hs9 : slots + 6 ≤ room_1.slots) (hl : lv_has ls 7 [(0, .ref bs), (1, .ref (o 0)), (2, .ref (q 0)), (3, .ref t1), (4, .int (nI n))]) (hat : lwI D cI cZ cL A sz.heap o b d a i g q t1 H locs) (kk : ∀ (H : Heap) (locs : List Loc) (ls : Array Slot), lwI D cI cZ cL A sz.heap o b d a i g q t1 H locs → lv_has ls 7 [(0, .ref bs), (1, .ref (o 0)), (2, .ref (q 0)), (3, .ref t1), (4, .int (nI n))] → W pz l ez room_1 sz mz args bz tz cz H locs (cells + 1) (slots + 6) Q (F0 mz 972 ls [])) : W pz l ez room_1 sz mz args bz tz cz H locs cells slots Q (F0 mz 922 ls []) := by
  obtain ⟨hx, hb, hml, hown, hts, hXs, hbl, hbA, hA, hK, hX, hst, hL⟩ := X
  obtain ⟨N, tn, tr, sp, wh, ow, rw, nm, bf, fe, rx, nn, bg, fx, c, fr, tt, sa, tk, op, sl, oi, nd, lp, tl, go, gt, oo, ox, th, il, fa, mn, nx, f9, hInv, h8, hP, hD, hS⟩ := hat
  obtain ⟨⟨hN1, hN⟩, hc, htn, hfr, htt, hsa, hlt, htk, hR, hR2, hI⟩ := id hInv
  have hcc : cells ≤ room_1.cells := Nat.le_of_succ_le hc9
  have hss : slots ≤ room_1.slots := Nat.le_trans (Nat.le_add_right _ 6) hs9
  refine lv_aload_n hx hb dL_law_922 rfl (lv_at hl 1 rfl) ?_
  refine lv_aload_n hx hb dL_law_923 rfl (lv_at hl 0 rfl) ?_
  refine lv_iload hx hb dL_law_924 (lv_at hl 4 rfl) ?_
  refine lv_iconst (v := (1 : Int32)) hx hb dL_law_926 (by decide) ?_
  refine q_iadd (z := nI (n + 1)) hx hb dL_law_927 (nI_add n 1) ?_
  refine q_sld hx hb hXs hbl hbA hS (k := n + 1) (by omega) hL dL_law_928 ?_
  refine q_callVi (index := 114) (n := 1) (As := [.int (xs (n + 1))]) (rest := []) (js := [0, 1, 2, 3, 4, 5, 6, 7, 8, 9, 10, 11]) (ci := 4) ⟨hx, hb, hml, hown, hts⟩ hK hP hD hS hA (k4_load l D cI cZ cL o N tn tr sp wh ow b rw nm bf fe d rx nn bg fx a c fr tt sa tk i op sl oi nd lp tl g go gt oo ox (xs (n + 1)) (by omega) (by omega) (by omega)) rfl (by decide) (fun _ => by simp only [List.map_cons, List.map_nil, wA_fst, wG_fst, wI_fst, wO_fst, wS_fst, wT_fst, wU_fst]) (fun (u_1 : uT × uT) => [wO o (a 0) (b 0) (d 0) (i 0) (g 0) N (loC N tn go gt (xs (n + 1)) 0), wT cI (o 1) 160 tr, wT cI (o 2) N sp, wU cL (o 3) N wh, wU cL (o 4) N ow, wS cI b (a 0) (a 1) (a 2) N u_1.1.2.1 u_1.1.2.2.1 u_1.1.2.2.2.1 u_1.1.2.2.2.2, wT cI (b 1) (N + 1) (nF u_1.1.1), wS cI d (a 0) (a 2) (a 1) N u_1.2.2.1 u_1.2.2.2.1 u_1.2.2.2.2.1 u_1.2.2.2.2.2, wT cI (d 1) (N + 1) (nF u_1.2.1), wA cI cZ a (loC N c go gt (xs (n + 1)) (xs (n + 1)).toNatClampNeg) (loF N go gt (xs (n + 1)) fr (loV N go)) (loF N go gt (xs (n + 1)) tt gt) (loF N go gt (xs (n + 1)) sa (fun _ => 1)) (loF N go gt (xs (n + 1)) tk (fun _ => 0)), wI cI cZ i op (loS N go gt (xs (n + 1)) sl) oi nd lp tl, wG cI g go gt, wM cI cZ cL q th N c fr tt sa tk tn tr op sl nd oi il tl go gt fa mn nx, wU cL t1 1 f9]) (fun _ => rfl) gL_law_X4_load rfl (by decide +kernel) rfl ⟨by decide, by decide⟩ rfl rfl rfl rfl hl.1 (Nat.le_of_ble_eq_true rfl) ⟨(by assumption), (by assumption)⟩ dL_law_929 rfl (fun r u_1 H locs hw hP hD hS => ?_)
  have hpu_929 := hw.2
  have hw : r = loR N go gt (xs (n + 1)) := hw.1
  subst hw
  have hP : va_P D vwCl (List.flatten [wO o (a 0) (b 0) (d 0) (i 0) (g 0) N (loC N tn go gt (xs (n + 1)) 0), wT cI (o 1) 160 tr, wT cI (o 2) N sp, wU cL (o 3) N wh, wU cL (o 4) N ow, wS cI b (a 0) (a 1) (a 2) N u_1.1.2.1 u_1.1.2.2.1 u_1.1.2.2.2.1 u_1.1.2.2.2.2, wT cI (b 1) (N + 1) (nF u_1.1.1), wS cI d (a 0) (a 2) (a 1) N u_1.2.2.1 u_1.2.2.2.1 u_1.2.2.2.2.1 u_1.2.2.2.2.2, wT cI (d 1) (N + 1) (nF u_1.2.1), wA cI cZ a (loC N c go gt (xs (n + 1)) (xs (n + 1)).toNatClampNeg) (loF N go gt (xs (n + 1)) fr (loV N go)) (loF N go gt (xs (n + 1)) tt gt) (loF N go gt (xs (n + 1)) sa (fun _ => 1)) (loF N go gt (xs (n + 1)) tk (fun _ => 0)), wI cI cZ i op (loS N go gt (xs (n + 1)) sl) oi nd lp tl, wG cI g go gt, wM cI cZ cL q th N c fr tt sa tk tn tr op sl nd oi il tl go gt fa mn nx, wU cL t1 1 f9]) _ := hP
  have hD : va_D A (List.flatten [wO o (a 0) (b 0) (d 0) (i 0) (g 0) N (loC N tn go gt (xs (n + 1)) 0), wT cI (o 1) 160 tr, wT cI (o 2) N sp, wU cL (o 3) N wh, wU cL (o 4) N ow, wS cI b (a 0) (a 1) (a 2) N u_1.1.2.1 u_1.1.2.2.1 u_1.1.2.2.2.1 u_1.1.2.2.2.2, wT cI (b 1) (N + 1) (nF u_1.1.1), wS cI d (a 0) (a 2) (a 1) N u_1.2.2.1 u_1.2.2.2.1 u_1.2.2.2.2.1 u_1.2.2.2.2.2, wT cI (d 1) (N + 1) (nF u_1.2.1), wA cI cZ a (loC N c go gt (xs (n + 1)) (xs (n + 1)).toNatClampNeg) (loF N go gt (xs (n + 1)) fr (loV N go)) (loF N go gt (xs (n + 1)) tt gt) (loF N go gt (xs (n + 1)) sa (fun _ => 1)) (loF N go gt (xs (n + 1)) tk (fun _ => 0)), wI cI cZ i op (loS N go gt (xs (n + 1)) sl) oi nd lp tl, wG cI g go gt, wM cI cZ cL q th N c fr tt sa tk tn tr op sl nd oi il tl go gt fa mn nx, wU cL t1 1 f9]) := hD
  refine lv_aload_n hx hb dL_law_932 rfl (lv_at hl 2 rfl) ?_
  refine lv_aload_n hx hb dL_law_933 rfl (lv_at hl 0 rfl) ?_
  refine lv_iload hx hb dL_law_934 (lv_at hl 4 rfl) ?_
  refine lv_iconst (v := (1 : Int32)) hx hb dL_law_936 (by decide) ?_
  refine q_iadd (z := nI (n + 1)) hx hb dL_law_937 (nI_add n 1) ?_
  refine q_sld hx hb hXs hbl hbA hS (k := n + 1) (by omega) hL dL_law_938 ?_
  refine q_callVi (index := 117) (n := 1) (As := [.int (xs (n + 1))]) (rest := [.int (loR N go gt (xs (n + 1)))]) (js := [12]) (ci := 5) ⟨hx, hb, hml, hown, hts⟩ hK hP hD hS hA (k5_load l D cI cZ cL q th N c fr tt sa tk tn tr op sl nd oi il tl go gt fa mn nx (xs (n + 1)) (by omega) (by omega)) rfl (by decide) (fun _ => by simp only [List.map_cons, List.map_nil, wM_fst]) (fun (_ : Unit) => [wO o (a 0) (b 0) (d 0) (i 0) (g 0) N (loC N tn go gt (xs (n + 1)) 0), wT cI (o 1) 160 tr, wT cI (o 2) N sp, wU cL (o 3) N wh, wU cL (o 4) N ow, wS cI b (a 0) (a 1) (a 2) N u_1.1.2.1 u_1.1.2.2.1 u_1.1.2.2.2.1 u_1.1.2.2.2.2, wT cI (b 1) (N + 1) (nF u_1.1.1), wS cI d (a 0) (a 2) (a 1) N u_1.2.2.1 u_1.2.2.2.1 u_1.2.2.2.2.1 u_1.2.2.2.2.2, wT cI (d 1) (N + 1) (nF u_1.2.1), wA cI cZ a (loC N c go gt (xs (n + 1)) (xs (n + 1)).toNatClampNeg) (loF N go gt (xs (n + 1)) fr (loV N go)) (loF N go gt (xs (n + 1)) tt gt) (loF N go gt (xs (n + 1)) sa (fun _ => 1)) (loF N go gt (xs (n + 1)) tk (fun _ => 0)), wI cI cZ i op (loS N go gt (xs (n + 1)) sl) oi nd lp tl, wG cI g go gt, wM cI cZ cL q 0 N (loC N c go gt (xs (n + 1)) (xs (n + 1)).toNatClampNeg) (loF N go gt (xs (n + 1)) fr (loV N go)) (loF N go gt (xs (n + 1)) tt gt) (loF N go gt (xs (n + 1)) sa (fun _ => 1)) (loF N go gt (xs (n + 1)) tk (fun _ => 0)) (loC N tn go gt (xs (n + 1)) 0) tr op (loS N go gt (xs (n + 1)) sl) nd oi il tl go gt fa mn nx, wU cL t1 1 f9]) (fun _ => rfl) gL_law_X5_load rfl (by decide +kernel) rfl ⟨by decide, by decide⟩ rfl rfl rfl rfl hl.1 (Nat.le_of_ble_eq_true rfl) ⟨(by assumption), (by assumption)⟩ dL_law_939 rfl (fun r _ H locs hw hP hD hS => ?_)
  have hw : r = loR N go gt (xs (n + 1)) := hw
  subst hw
  refine lv_icmp_eq (tgt := 972) hx hb dL_law_942 (by decide) (fun c_942 => ?_) (fun c_942 => ?_)
  ·
    refine W.widen (k := cells + 1) (n := slots + 6) (Nat.le_add_right _ _) (Nat.le_add_right _ _) ?_
    exact kk _ _ _ ⟨_, _, _, _, _, _, _, _, _, _, _, _, _, _, _, _, _, _, _, _, _, _, _, _, _, _, _, _, _, _, _, _, _, _, _, E_load hInv (xs (n + 1)) hpu_929.1 (fun h => by rw [hpu_929.2 h]; exact ⟨⟨rfl, rfl⟩, rfl, rfl⟩), h8, hP, hD, hS⟩ (lv_sub hl [0, 1, 2, 3, 4] rfl)
  ·
    exact absurd rfl c_942

set_option maxHeartbeats 8000000 in
set_option maxRecDepth 100000 in
theorem law_about {pz : Program} {l : Launch} {ez : Env} {sz : State} {mz : MethodId} {args : Array Value} {bz : List Frame} {tz : Method} {cz : Code} {H : Heap} {locs : List Loc} {cells slots : Nat} {Q : State → Prop} {ls : Array Slot} {bs L : Nat} {xs : Nat → Int32} {D : va_G} {cI cZ cL : ClassId} {A : Nat → Prop} {o b d a i g q : Nat → Nat} {t1 n : Nat} (X : lwC pz l sz mz args cz bs L xs D cI cZ cL A) (hn : n + 3 < L) (hc9 : cells + 1 ≤ room_1.cells) (hs9 : slots + 6 ≤ room_1.slots) (hl : lv_has ls 7 [(0, .ref bs), (1, .ref (o 0)), (2, .ref (q 0)), (3, .ref t1), (4, .int (nI n))]) (hat : lwI D cI cZ cL A sz.heap o b d a i g q t1 H locs) (kk : ∀ (H : Heap) (locs : List Loc) (ls : Array Slot), lwI D cI cZ cL A sz.heap o b d a i g q t1 H locs → lv_has ls 7 [(0, .ref bs), (1, .ref (o 0)), (2, .ref (q 0)), (3, .ref t1), (4, .int (nI n))] → W pz l ez room_1 sz mz args bz tz cz H locs (cells + 1) (slots + 6) Q (F0 mz 972 ls [])) : W pz l ez room_1 sz mz args bz tz cz H locs cells slots Q (F0 mz 947 ls []) := by
  obtain ⟨hx, hb, hml, hown, hts, hXs, hbl, hbA, hA, hK, hX, hst, hL⟩ := X
  obtain ⟨N, tn, tr, sp, wh, ow, rw, nm, bf, fe, rx, nn, bg, fx, c, fr, tt, sa, tk, op, sl, oi, nd, lp, tl, go, gt, oo, ox, th, il, fa, mn, nx, f9, hInv, h8, hP, hD, hS⟩ := hat
  obtain ⟨⟨hN1, hN⟩, hc, htn, hfr, htt, hsa, hlt, htk, hR, hR2, hI⟩ := id hInv
  have hcc : cells ≤ room_1.cells := Nat.le_of_succ_le hc9
  have hss : slots ≤ room_1.slots := Nat.le_trans (Nat.le_add_right _ 6) hs9
  refine lv_aload_n hx hb dL_law_947 rfl (lv_at hl 1 rfl) ?_
  refine lv_aload_n hx hb dL_law_948 rfl (lv_at hl 0 rfl) ?_
  refine lv_iload hx hb dL_law_949 (lv_at hl 4 rfl) ?_
  refine lv_iconst (v := (1 : Int32)) hx hb dL_law_951 (by decide) ?_
  refine q_iadd (z := nI (n + 1)) hx hb dL_law_952 (nI_add n 1) ?_
  refine q_sld hx hb hXs hbl hbA hS (k := n + 1) (by omega) hL dL_law_953 ?_
  refine q_callVi (index := 118) (n := 1) (As := [.int (xs (n + 1))]) (rest := []) (js := [0, 1, 2, 3, 4, 5, 6, 7, 8, 9, 10, 11]) (ci := 4) ⟨hx, hb, hml, hown, hts⟩ hK hP hD hS hA (k4_about l D cI cZ cL o N tn tr sp wh ow b rw nm bf fe d rx nn bg fx a c fr tt sa tk i op sl oi nd lp tl g go gt oo ox (xs (n + 1)) (by omega)) rfl (by decide) (fun _ => by simp only [List.map_cons, List.map_nil, wA_fst, wG_fst, wI_fst, wO_fst, wS_fst, wT_fst, wU_fst]) (fun (_ : Unit) => [wO o (a 0) (b 0) (d 0) (i 0) (g 0) N tn, wT cI (o 1) 160 tr, wT cI (o 2) N sp, wU cL (o 3) N wh, wU cL (o 4) N ow, wS cI b (a 0) (a 1) (a 2) N rw nm bf fe, wT cI (b 1) (N + 1) (nF oo), wS cI d (a 0) (a 2) (a 1) N rx nn bg fx, wT cI (d 1) (N + 1) (nF ox), wA cI cZ a c fr tt sa tk, wI cI cZ i op sl oi nd lp tl, wG cI g go gt, wM cI cZ cL q th N c fr tt sa tk tn tr op sl nd oi il tl go gt fa mn nx, wU cL t1 1 f9]) (fun _ => rfl) gL_law_X4_about rfl (by decide +kernel) rfl ⟨by decide, by decide⟩ rfl rfl rfl rfl hl.1 (Nat.le_of_ble_eq_true rfl) ⟨(by assumption), (by assumption)⟩ dL_law_954 rfl (fun r _ H locs hw hP hD hS => ?_)
  have hw : r = abR N c sa tk op (xs (n + 1)) := hw
  subst hw
  refine lv_aload_n hx hb dL_law_957 rfl (lv_at hl 2 rfl) ?_
  refine lv_aload_n hx hb dL_law_958 rfl (lv_at hl 0 rfl) ?_
  refine lv_iload hx hb dL_law_959 (lv_at hl 4 rfl) ?_
  refine lv_iconst (v := (1 : Int32)) hx hb dL_law_961 (by decide) ?_
  refine q_iadd (z := nI (n + 1)) hx hb dL_law_962 (nI_add n 1) ?_
  refine q_sld hx hb hXs hbl hbA hS (k := n + 1) (by omega) hL dL_law_963 ?_
  refine q_callVi (index := 121) (n := 1) (As := [.int (xs (n + 1))]) (rest := [.int (abR N c sa tk op (xs (n + 1)))]) (js := [12]) (ci := 5) ⟨hx, hb, hml, hown, hts⟩ hK hP hD hS hA (k5_about l D cI cZ cL q th N c fr tt sa tk tn tr op sl nd oi il tl go gt fa mn nx (xs (n + 1)) (by omega)) rfl (by decide) (fun _ => by simp only [List.map_cons, List.map_nil, wM_fst]) (fun (_ : Unit) => [wO o (a 0) (b 0) (d 0) (i 0) (g 0) N tn, wT cI (o 1) 160 tr, wT cI (o 2) N sp, wU cL (o 3) N wh, wU cL (o 4) N ow, wS cI b (a 0) (a 1) (a 2) N rw nm bf fe, wT cI (b 1) (N + 1) (nF oo), wS cI d (a 0) (a 2) (a 1) N rx nn bg fx, wT cI (d 1) (N + 1) (nF ox), wA cI cZ a c fr tt sa tk, wI cI cZ i op sl oi nd lp tl, wG cI g go gt, wM cI cZ cL q 0 N c fr tt sa tk tn tr op sl nd oi il tl go gt fa mn nx, wU cL t1 1 f9]) (fun _ => rfl) gL_law_X5_about rfl (by decide +kernel) rfl ⟨by decide, by decide⟩ rfl rfl rfl rfl hl.1 (Nat.le_of_ble_eq_true rfl) ⟨(by assumption), (by assumption)⟩ dL_law_964 rfl (fun r _ H locs hw hP hD hS => ?_)
  have hw : r = abR N c sa tk op (xs (n + 1)) := hw
  subst hw
  refine lv_icmp_eq (tgt := 972) hx hb dL_law_967 (by decide) (fun c_967 => ?_) (fun c_967 => ?_)
  ·
    refine W.widen (k := cells + 1) (n := slots + 6) (Nat.le_add_right _ _) (Nat.le_add_right _ _) ?_
    exact kk _ _ _ ⟨_, _, _, _, _, _, _, _, _, _, _, _, _, _, _, _, _, _, _, _, _, _, _, _, _, _, _, _, _, _, _, _, _, _, _, hInv, h8, hP, hD, hS⟩ (lv_sub hl [0, 1, 2, 3, 4] rfl)
  ·
    exact absurd rfl c_967

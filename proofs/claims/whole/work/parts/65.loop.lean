/-! ===== the law's loop ===== -/
theorem sub4 {L n : Nat} (hL : L ≤ 2049) (hn : n ≤ 4000) (h : ¬ (nI L - 4 < nI n)) : n + 3 < L := by
  have e : (nI L - nI 4).toInt = (L : Int) - 4 := pk_sub_toInt (by omega) (by decide)
  have e2 := nI_toInt (n := n) (by omega)
  have h' : ¬ ((nI L - nI 4).toInt < (nI n).toInt) := fun q => h (Int32.lt_iff_toInt_lt.mpr q)
  omega
set_option maxHeartbeats 8000000 in
set_option maxRecDepth 100000 in
theorem law_loop {pz : Program} {l : Launch} {ez : Env} {sz : State} {mz : MethodId} {bz : List Frame} {tz : Method} {cz : Code} {bs L : Nat} {xs : Nat → Int32} {D : va_G} {cI cZ cL : ClassId} {A : Nat → Prop} {o b d a i g q : Nat → Nat} {t1 : Nat} (X : lwC pz l sz mz #[Value.ref bs] cz bs L xs D cI cZ cL A) (hr : tz.sig.returnType = ret) (hlocks : tz.locks = false) (hAe : ∀ q, A q → sz.heap.size ≤ q) : ∀ (f n : Nat), L + 4 < n + f → n ≤ L + 3 → ∀ (H : Heap) (locs : List Loc) (ls : Array Slot), lwI D cI cZ cL A sz.heap o b d a i g q t1 H locs → lv_has ls 7 [(0, .ref bs), (1, .ref (o 0)), (2, .ref (q 0)), (3, .ref t1), (4, .int (nI n))] → W pz l ez room_1 sz mz #[Value.ref bs] bz tz cz H locs (59 + n) (3537 + 6 * n) (lw_Z bz #[Value.ref bs] sz) (F0 mz 33 ls []) := by
  obtain ⟨hx, hb, hml, hown, hts, hXs, hbl, hbA, hA, hK, hX, hst, hL⟩ := id X
  intro f
  induction f with
  | zero => intro n h1 h2; omega
  | succ f ih =>
    intro n h1 h2 H locs ls hat hl
    have hS : va_S A sz.heap H locs := by
      obtain ⟨N, tn, tr, sp, wh, ow, rw, nm, bf, fe, rx, nn, bg, fx, c, fr, tt, sa, tk, op, sl, oi, nd, lp, tl, go, gt, oo, ox, th, il, fa, mn, nx, f9, _, _, _, _, h⟩ := hat
      exact h
    refine lv_iload hx hb dL_law_33 (lv_at hl 4 rfl) ?_
    refine lv_aload_n hx hb dL_law_35 rfl (lv_at hl 0 rfl) ?_
    refine va_slen hx hb hXs hbl hbA hS dL_law_36 ?_
    refine lv_iconst (v := (4 : Int32)) hx hb dL_law_37 (by decide) ?_
    refine q_isub (z := nI L - 4) hx hb dL_law_38 rfl ?_
    refine lv_icmp_gt (tgt := 978) hx hb dL_law_39 (by decide) (fun c_39 => ?_) (fun c_39 => ?_)
    · refine lv_iconst (v := (1 : Int32)) hx hb dL_law_978 (by decide) ?_
      refine va_forget (fun q hq => hAe _ (hS.2.2 q hq)) ?_
      refine W.widen (k := 601024) (n := 7293000) (by omega) (by omega) ?_
      exact lw_ret hx hb hr hlocks dL_law_979
    · have hn : n + 3 < L := sub4 hL (by omega) c_39
      have hc9 : 59 + n + 1 ≤ room_1.cells := by show _ ≤ 601024; omega
      have hs9 : 3537 + 6 * n + 6 ≤ room_1.slots := by show _ ≤ 7293000; omega
      have next : ∀ (H : Heap) (locs : List Loc) (ls : Array Slot), lwI D cI cZ cL A sz.heap o b d a i g q t1 H locs → lv_has ls 7 [(0, .ref bs), (1, .ref (o 0)), (2, .ref (q 0)), (3, .ref t1), (4, .int (nI n))] → W pz l ez room_1 sz mz #[Value.ref bs] bz tz cz H locs (59 + n + 1) (3537 + 6 * n + 6) (lw_Z bz #[Value.ref bs] sz) (F0 mz 972 ls []) := by
        intro H locs ls hat hl
        refine W.widen (k := 59 + (n + 4)) (n := 3537 + 6 * (n + 4)) (by omega) (by omega) ?_
        refine lv_iinc (v := nI (n + 4)) (lv' := [(4, .int (nI (n + 4))), (0, .ref bs), (1, .ref (o 0)), (2, .ref (q 0)), (3, .ref t1)]) hx hb dL_law_972 hl (k := 4) rfl (nI_add n 4) (by decide) rfl (fun ls hl => ?_)
        refine lv_goto (tgt := 33) hx hb dL_law_975 (by decide) ?_
        exact ih (n + 4) (by omega) (by omega) _ _ _ hat (lv_sub hl [1, 2, 3, 4, 0] rfl)
      refine lv_aload_n hx hb dL_law_42 rfl (lv_at hl 0 rfl) ?_
      refine lv_iload hx hb dL_law_43 (lv_at hl 4 rfl) ?_
      refine q_sld hx hb hXs hbl hbA hS (k := n) (by omega) hL dL_law_45 ?_
      refine lv_bipush (v := (31 : Int32)) hx hb dL_law_46 (by decide) ?_
      refine lv_iand hx hb dL_law_48 ?_
      refine lv_topi (fun v ev => ?_)
      have hsw : (v.toInt < 0 ∨ 20 < v.toInt) ∨ v.toInt = 0 ∨ v.toInt = 1 ∨ v.toInt = 2 ∨ v.toInt = 3 ∨ v.toInt = 4 ∨ v.toInt = 5 ∨ v.toInt = 6 ∨ v.toInt = 7 ∨ v.toInt = 8 ∨ v.toInt = 9 ∨ v.toInt = 10 ∨ v.toInt = 11 ∨ v.toInt = 12 ∨ v.toInt = 13 ∨ v.toInt = 14 ∨ v.toInt = 15 ∨ v.toInt = 16 ∨ v.toInt = 17 ∨ v.toInt = 18 ∨ v.toInt = 19 ∨ v.toInt = 20 := by omega
      rcases hsw with h | h | h | h | h | h | h | h | h | h | h | h | h | h | h | h | h | h | h | h | h | h
      · refine lv_tableOut (tgt := 972) hx hb dL_law_49 h (by decide) ?_
        refine W.widen (k := 59 + n + 1) (n := 3537 + 6 * n + 6) (Nat.le_add_right _ _) (Nat.le_add_right _ _) ?_
        exact next _ _ _ hat hl
      · refine lv_tableIn (off := 99) (tgt := 148) hx hb dL_law_49 (by omega) (by omega) (by rw [h]; rfl) (by decide) ?_
        exact law_arc X hn hc9 hs9 hl hat next
      · refine lv_tableIn (off := 136) (tgt := 185) hx hb dL_law_49 (by omega) (by omega) (by rw [h]; rfl) (by decide) ?_
        exact law_take X hn hc9 hs9 hl hat next
      · refine lv_tableIn (off := 161) (tgt := 210) hx hb dL_law_49 (by omega) (by omega) (by rw [h]; rfl) (by decide) ?_
        exact law_untake X hn hc9 hs9 hl hat next
      · refine lv_tableIn (off := 186) (tgt := 235) hx hb dL_law_49 (by omega) (by omega) (by rw [h]; rfl) (by decide) ?_
        exact law_merge X hn hc9 hs9 hl hat next
      · refine lv_tableIn (off := 199) (tgt := 248) hx hb dL_law_49 (by omega) (by omega) (by rw [h]; rfl) (by decide) ?_
        exact law_pack X hn hc9 hs9 hl hat next
      · refine lv_tableIn (off := 212) (tgt := 261) hx hb dL_law_49 (by omega) (by omega) (by rw [h]; rfl) (by decide) ?_
        exact law_turned X hn hc9 hs9 hl hat next
      · refine lv_tableIn (off := 237) (tgt := 286) hx hb dL_law_49 (by omega) (by omega) (by rw [h]; rfl) (by decide) ?_
        exact law_out X hn hc9 hs9 hl hat next
      · refine lv_tableIn (off := 305) (tgt := 354) hx hb dL_law_49 (by omega) (by omega) (by rw [h]; rfl) (by decide) ?_
        exact law_in X hn hc9 hs9 hl hat next
      · refine lv_tableIn (off := 373) (tgt := 422) hx hb dL_law_49 (by omega) (by omega) (by rw [h]; rfl) (by decide) ?_
        exact law_offset X hn hc9 hs9 hl hat next
      · refine lv_tableIn (off := 426) (tgt := 475) hx hb dL_law_49 (by omega) (by omega) (by rw [h]; rfl) (by decide) ?_
        exact law_told X hn hc9 hs9 hl hat next
      · refine lv_tableIn (off := 463) (tgt := 512) hx hb dL_law_49 (by omega) (by omega) (by rw [h]; rfl) (by decide) ?_
        exact law_degree X hn hc9 hs9 hl hat next
      · refine lv_tableIn (off := 516) (tgt := 565) hx hb dL_law_49 (by omega) (by omega) (by rw [h]; rfl) (by decide) ?_
        exact law_live X hn hc9 hs9 hl hat next
      · refine lv_tableIn (off := 581) (tgt := 630) hx hb dL_law_49 (by omega) (by omega) (by rw [h]; rfl) (by decide) ?_
        exact law_between X hn hc9 hs9 hl hat next
      · refine lv_tableIn (off := 618) (tgt := 667) hx hb dL_law_49 (by omega) (by omega) (by rw [h]; rfl) (by decide) ?_
        exact law_near X hn hc9 hs9 hl hat next
      · refine lv_tableIn (off := 655) (tgt := 704) hx hb dL_law_49 (by omega) (by omega) (by rw [h]; rfl) (by decide) ?_
        exact law_ways X hn hc9 hs9 hl hat next
      · refine lv_tableIn (off := 705) (tgt := 754) hx hb dL_law_49 (by omega) (by omega) (by rw [h]; rfl) (by decide) ?_
        exact law_open X hn hc9 hs9 hl hat next
      · refine lv_tableIn (off := 758) (tgt := 807) hx hb dL_law_49 (by omega) (by omega) (by rw [h]; rfl) (by decide) ?_
        exact law_next X hn hc9 hs9 hl hat next
      · refine lv_tableIn (off := 783) (tgt := 832) hx hb dL_law_49 (by omega) (by omega) (by rw [h]; rfl) (by decide) ?_
        exact law_close X hn hc9 hs9 hl hat next
      · refine lv_tableIn (off := 808) (tgt := 857) hx hb dL_law_49 (by omega) (by omega) (by rw [h]; rfl) (by decide) ?_
        exact law_give X hn hc9 hs9 hl hat next
      · refine lv_tableIn (off := 873) (tgt := 922) hx hb dL_law_49 (by omega) (by omega) (by rw [h]; rfl) (by decide) ?_
        exact law_load X hn hc9 hs9 hl hat next
      · refine lv_tableIn (off := 898) (tgt := 947) hx hb dL_law_49 (by omega) (by omega) (by rw [h]; rfl) (by decide) ?_
        exact law_about X hn hc9 hs9 hl hat next

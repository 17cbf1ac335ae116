/-! ===== the law's first int, the start ===== -/
def cl0 (L : Nat) (xs : Nat → Int32) : Int32 := if 0 < L then xs 0 else 0
def McK (l : Launch) (D : va_G) (tys : List (ClassId × FieldType)) (bs L : Nat) (xs : Nat → Int32) : Prop :=
  ∀ sz : Nat, Met l yL_cell wsL_cell (rC 0 0 0 0) (va_Pc [.ref bs, .int 0] (fun U => mPre D tys [] sz U ∧ va_X bs L xs U U.heap)) (va_Qi (fun r (_ : Unit) => r = cl0 L xs) (fun _ t => mAt D tys (va_A (List.flatten []) sz) [] t) (va_A (List.flatten []) sz)) 0 0 (va_A (List.flatten []) sz)
set_option maxHeartbeats 8000000 in
set_option maxRecDepth 100000 in
theorem kL_cell (l : Launch) (D : va_G) (tys : List (ClassId × FieldType)) (bs L : Nat) (xs : Nat → Int32) (hL : L ≤ 2049) : McK l D tys bs L xs := by
  refine q_ofC (Qc := fun A => va_Qi (fun r (_ : Unit) => r = cl0 L xs) (fun _ t => mAt D tys A [] t) A) (cc := cL_cell) (maxL := 2) (ret := some .int) (by decide) rfl (Nat.le_of_ble_eq_true rfl) ?_
  intro pz ez sz mz bz tz cz hx hb hml hr hlocks hnm hts hown hK hP h9 A hD hA ls hl
  have hS : va_S A sz.heap sz.heap [] := va_S.rf
  have hS9 : va_S (fun _ => False) sz.heap sz.heap [] := va_S.rf
  have hl : lv_has ls 2 [(0, .ref bs), (1, .int 0)] := hl
  have hbl : bs < sz.heap.size := by
    obtain ⟨scr, h1, _⟩ := h9
    exact (Array.getElem?_eq_some_iff.mp h1).1
  refine lv_iload_n hx hb dL_cell_0 rfl (lv_at hl 1 rfl) ?_
  refine lv_aload_n hx hb dL_cell_1 rfl (lv_at hl 0 rfl) ?_
  refine va_slen hx hb h9 hbl (A := fun _ => False) id hS9 dL_cell_2 ?_
  refine lv_icmp_ge (tgt := 12) hx hb dL_cell_3 (by decide) (fun c_3 => ?_) (fun c_3 => ?_)
  · have h0 : ¬ 0 < L := fun h => nI_ge h (show L < 2 ^ 31 by omega) c_3
    refine lv_iconst (v := (0 : Int32)) hx hb dL_cell_12 (by decide) ?_
    exact q_iret () hx hb hr hlocks hK hP hD hS (by show (0 : Int32) = cl0 L xs; rw [cl0, if_neg h0]) rfl dL_cell_13
  · have h0 : 0 < L := by
      rcases Nat.lt_or_ge 0 L with h | h
      · exact h
      · exact absurd (show Int32.ofNat L ≤ 0 by rw [show L = 0 by omega]; decide) c_3
    refine lv_aload_n hx hb dL_cell_6 rfl (lv_at hl 0 rfl) ?_
    refine lv_iload_n hx hb dL_cell_7 rfl (lv_at hl 1 rfl) ?_
    refine q_sld (k := 0) hx hb h9 hbl (A := fun _ => False) id hS9 h0 hL dL_cell_8 ?_
    refine lv_goto (tgt := 13) hx hb dL_cell_9 (by decide) ?_
    exact q_iret () hx hb hr hlocks hK hP hD hS (by show xs 0 = cl0 L xs; rw [cl0, if_pos h0]) rfl dL_cell_13
section QK
variable {p : Program} {l : Launch} {e : Env} {R : Room} {s : State} {m : MethodId} {args : Array Value} {below : List Frame} {meth : Method} {c : Code} {H : Heap} {locs : List Loc} {cells slots : Nat} {Q : State → Prop}
variable {cc : ByteArray} {pc : Nat} {ls : Array Slot} {rest : List Value} {D : va_G} {A : Nat → Prop} {tys : List (ClassId × FieldType)} {Fs : List va_W} {Ts : List Cond} {own : String} {nL index : Nat} {bs L : Nat} {xs : Nat → Int32}
theorem q_callK (X : CallFix p m c cc nL s args Ts own) (hK : va_K D vwCl tys s) (hP : va_P D vwCl Fs.flatten H) (hD : va_D A Fs.flatten) (hS : va_S A s.heap H locs) (hA : ∀ q, s.heap.size ≤ q → A q) (hM : McK l D tys bs L xs) (hXs : va_X bs L xs s s.heap) (hbl : bs < s.heap.size) (hbA : ¬ A bs)
    (hG : GoodIn Ts (va_wsS own index yL_cell wsL_cell)) (hR : 0 + 1 ≤ R.frames ∧ 8 + (2 + 11) + 0 ≤ R.locals) (hls : ls.size = nL) (hrm : (rest.map fun v => v.category).sum ≤ 8) (hcells : cells + 0 ≤ R.cells ∧ slots + 0 ≤ R.slots) (hdg : decode cc pc = .ok (.invokestatic index, 3))
    (kk : ∀ (H1 : Heap) (locs1 : List Loc), va_P D vwCl Fs.flatten H1 → va_D A Fs.flatten → va_S A s.heap H1 locs1 → W p l e R s m args below meth c H1 locs1 cells slots Q (F0 m (pc + 3) ls (.int (cl0 L xs) :: rest))) : W p l e R s m args below meth c H locs cells slots Q (F0 m pc ls (.int 0 :: .ref bs :: rest)) := by
  obtain ⟨hPc, hDc⟩ := fCalls (Gs := []) hP hD [] (by decide) rfl
  have hFc : ∀ q, va_A (List.flatten []) H.size q → A q := fun q h => by
    rcases h with ⟨k, e, h⟩ | h
    · simp at h
    · exact hA q (Nat.le_trans hS.1 h)
  refine va_calli (va_runS (As := [.ref bs, .int 0]) (rest := rest) X (hM H.size) (va_cwS 2 X.2.2.2.2 hG rfl rfl rfl (by decide +kernel) hR) ⟨fun a U g mk q => ?_, fun U hU hW => ⟨rfl, ⟨by rw [hU], by rw [hU]; exact hPc, va_K.moved hW.alike hK, hDc.weaken (fun _ _ _ _ => trivial)⟩, ?_⟩⟩ rfl rfl hls rfl (lv_room hrm) hdg hcells) hS (fun q _ h => hFc q h) hFc (fun r u t H1 locs1 ht hvm hw1 hB hz1 hk1 hS1 => ?_)
  · obtain ⟨q0, ⟨q1, qP, qK, qD⟩, q9⟩ := q
    exact ⟨q0, ⟨q1, qP, va_K.moved (u := U) (U := U.calling g mk a) (Vm.Alike.refl U.vm) qK, qD⟩, va_X.moved (u := U) (U := U.calling g mk a) (Vm.Alike.refl U.vm) q9⟩
  · rw [hU]; exact va_X.moved hW.alike (hXs.kept (hS.2.1 bs hbl hbA))
  · obtain ⟨hP1, -, -⟩ := hB
    rw [ht] at hP1
    obtain ⟨hP2, hD2⟩ := fBacks (Gs' := []) hP hD [] rfl rfl (Fs' := Fs) rfl hk1 hP1
    have hw1 : r = cl0 L xs := hw1
    subst hw1
    exact kk H1 locs1 hP2 hD2 hS1
end QK
theorem Inv0 {N : Nat} (hN : 1 ≤ N ∧ N ≤ 24) : Inv N 0 0 (fun _ => 0) (fun _ => 0) (fun _ => 0) (fun _ => 0) (fun _ => 0) (fun _ => 0) (fun _ => 0) (fun _ => 0) (fun _ => 0) (fun _ => 0) (fun _ => 0) (fun _ => 0) (fun _ => 0) (fun _ => 0) :=
  ⟨hN, by decide, by decide, fun j h => absurd h (by omega), fun j h => absurd h (by omega), fun j h => absurd h (by omega), fun j h => absurd h (by omega), fun _ => Or.inl rfl, ⟨fun _ => rfl, fun j h => absurd h (by omega)⟩, ⟨fun _ => rfl, fun j h => absurd h (by omega)⟩, fun t _ h => absurd rfl h⟩
theorem arrOf {args : Array Value} {s : State} {ty : FieldType} (h : (Cond.arrayClass ty).before args s = true) : ∃ cA : ClassId, ArrOfT s cA ty ∧ s.vm.findClass ("[" ++ ty.toString) = some cA := by
  obtain ⟨cA, kA, comp, h1, h2, h3⟩ := Cond.arrayClass_spec h
  exact ⟨cA, fun n z => ⟨fun k h => (by cases h), kA, h2, comp, h3⟩, h1⟩

set_option maxHeartbeats 8000000 in
set_option maxRecDepth 100000 in
theorem whole_start {p : Program} {e : Env} {s : State} {m : MethodId} {below : List Frame} {meth : Method} {c : Code} (l : Launch) (hst : l.stackTraces = false) {b L : Nat} {xs : Nat → Int32} (hL : L ≤ 2049) (C0 : lw_At p s m meth c b L xs) : W p l e room_1 s m #[Value.ref b] below meth c s.heap [] 0 0 (lw_Z below #[Value.ref b] s) (entryFrame m ([Value.ref b] : List Value).toArray 7) := by
  obtain ⟨hx, hb, hr, hml, hown, htbl, hXs, hbl, hlocks, hgv⟩ := C0
  obtain ⟨bs, hbs⟩ : ∃ z, z = b := ⟨_, rfl⟩
  subst hbs
  have hb : c.code = cL_law := hb
  have hA : ∀ q : Nat, s.heap.size ≤ q → (fun q : Nat => s.heap.size ≤ q) q := fun _ h => h
  have hbA : ¬ (fun q : Nat => s.heap.size ≤ q) bs := Nat.not_le.mpr hbl
  have hts : ∀ w ∈ wsL_law, w.before #[Value.ref bs] s = true := fun w h => htbl w (wsL_law_in w h)
  have hown : s.vm.findClass RL = some m.cls := hown
  have hfl := flat_of_before _ hgv
  have hold : ∀ a : Nat, a < s.heap.size → ¬ (fun q : Nat => s.heap.size ≤ q) a := fun a h => Nat.not_le.mpr h

  obtain ⟨c0, iS0, hKn0⟩ := u_known (C := RX0) (T := TX0) (N := 5) (n := 5) htbl inX0 (htbl (.instantiable RX0 5) (by decide +kernel))
  obtain ⟨c1, iS1, hKn1⟩ := u_known (C := RX1) (T := TX1) (N := 2) (n := 2) htbl inX1 (htbl (.instantiable RX1 2) (by decide +kernel))
  obtain ⟨c2, iS2, hKn2⟩ := u_known (C := RX2) (T := TX2) (N := 6) (n := 6) htbl inX2 (htbl (.instantiable RX2 6) (by decide +kernel))
  obtain ⟨c3, iS3, hKn3⟩ := u_known (C := RX3) (T := TX3) (N := 8) (n := 8) htbl inX3 (htbl (.instantiable RX3 8) (by decide +kernel))
  obtain ⟨c4, iS4, hKn4⟩ := u_known (C := RX4) (T := TX4) (N := 11) (n := 11) htbl inX4 (htbl (.instantiable RX4 11) (by decide +kernel))
  obtain ⟨c5, iS5, hKn5⟩ := u_known (C := RX5) (T := TX5) (N := 20) (n := 20) htbl inX5 (htbl (.instantiable RX5 20) (by decide +kernel))
  obtain ⟨cI, hcI1, hcI2⟩ := arrOf (htbl (.arrayClass .int) (by decide +kernel))
  obtain ⟨cZ, hcZ1, hcZ2⟩ := arrOf (htbl (.arrayClass .boolean) (by decide +kernel))
  obtain ⟨cL, hcL1, hcL2⟩ := arrOf (htbl (.arrayClass .long) (by decide +kernel))
  obtain ⟨D, hKc⟩ : ∃ D : va_G, ∀ (k : Nat) (q : vw_C), vwCl[k]? = some q → u_Kn s q.1 q.2.1 q.2.2 (D.1 k) (D.2 k) := by
    refine ⟨(fun k => if k = 0 then c0 else if k = 1 then c1 else if k = 2 then c2 else if k = 3 then c3 else if k = 4 then c4 else c5, fun k => if k = 0 then iS0 else if k = 1 then iS1 else if k = 2 then iS2 else if k = 3 then iS3 else if k = 4 then iS4 else iS5), ?_⟩
    intro k q hq
    match k, hq with
    | 0, hq => cases hq; exact hKn0
    | 1, hq => cases hq; exact hKn1
    | 2, hq => cases hq; exact hKn2
    | 3, hq => cases hq; exact hKn3
    | 4, hq => cases hq; exact hKn4
    | 5, hq => cases hq; exact hKn5
    | k + 6, hq => simp at hq
  have hK : va_K D vwCl (tY cI cZ cL) s := ⟨hKc, fun k q h => by
    match k, h with
    | 0, h => cases h; exact ⟨hcI1, hcI2⟩
    | 1, h => cases h; exact ⟨hcZ1, hcZ2⟩
    | 2, h => cases h; exact ⟨hcL1, hcL2⟩
    | k + 3, h => simp [tY] at h⟩
  have hX9 : xPre (fun q : Nat => s.heap.size ≤ q) s := by
    refine ⟨vx_Zqof (htbl (.laysStatic Bundle.tN "UNASSIGNED_STACK" Bundle.steD) (by decide +kernel)) (htbl (.initialized Bundle.tN) (by decide +kernel)) (hfl _ (by decide +kernel)) hold, vx_Zqof (htbl (.laysStatic Bundle.tN "SUPPRESSED_SENTINEL" Bundle.listD) (by decide +kernel)) (htbl (.initialized Bundle.tN) (by decide +kernel)) (hfl _ (by decide +kernel)) hold, ?_, ?_, fun w hw => ?_⟩
    · obtain ⟨a, _, _, _, ha, _⟩ := Cond.exactly_spec (hfl (.exactly (.string "OffsetRows" 220) "java/lang/String") (by decide +kernel))
      exact ⟨a, vk_R.of (htbl (.stringRef "OffsetRows" 220 "no such node") (by decide +kernel)) ha⟩
    · obtain ⟨a, _, _, _, ha, _⟩ := Cond.exactly_spec (hfl (.exactly (.string "OffsetRows" 228) "java/lang/String") (by decide +kernel))
      exact ⟨a, vk_R.of (htbl (.stringRef "OffsetRows" 228 "no such place in the row") (by decide +kernel)) ha⟩
    · have hc := NG9_cs w hw
      have hw2 := htbl w (in_ng w hw)
      cases w with
      | castable C T => exact va_Nw.of rfl hw2
      | declares x => exact va_Nw.of rfl hw2
      | _ => simp [isCs] at hc
  have n1 : va_Nw (.methodLinkNest "OffsetRows" 24 yX0_init "OffsetRows") s := va_Nw.of rfl (htbl _ (by decide +kernel))
  have n2 : va_Nw (.methodLinkNest "OffsetRows" 50 yX2_init "OffsetRows") s := va_Nw.of rfl (htbl _ (by decide +kernel))
  have n3 : va_Nw (.methodLinkNest "OffsetRows" 57 yX1_init "OffsetRows") s := va_Nw.of rfl (htbl _ (by decide +kernel))
  have X : lwC p l s m #[Value.ref bs] c bs L xs D cI cZ cL (fun q : Nat => s.heap.size ≤ q) := ⟨hx, hb, hml, hown, hts, hXs, hbl, hbA, hA, hK, hX9, hst, hL⟩
  have hS : va_S (fun q : Nat => s.heap.size ≤ q) s.heap s.heap [] := va_S.rf
  have hP : va_P D vwCl (List.flatten []) s.heap := fun k q h => by simp at h
  have hD : va_D (fun q : Nat => s.heap.size ≤ q) (List.flatten []) := ⟨fun i j p q h => by simp at h, fun k q h => by simp at h⟩
  have hl := lv_entry ([.ref bs]) (n := 7) (Nat.le_of_ble_eq_true rfl)
  rw [lg_entry_eq]
  generalize (lg_sl ([.ref bs]) ++ List.replicate (7 - (lg_sl ([.ref bs])).length) Slot.unset).toArray = ls at hl ⊢
  have hl : lv_has ls 7 [(0, .ref bs)] := hl
  have rc : ∀ k : Nat, k ≤ 1000 → k ≤ room_1.cells := fun k h => by show k ≤ 601024; omega
  have rs : ∀ k : Nat, k ≤ 10000 → k ≤ room_1.slots := fun k h => by show k ≤ 7293000; omega
  obtain ⟨x0, hx0⟩ : ∃ z, z = cl0 L xs := ⟨_, rfl⟩
  refine q_newO (ci := 4) (fs := [.int 0, .null, .null, .null, .null, .null, .null, .int 0, .null, .null, .null]) (C := RX4) (T := TX4) (N := 11) hx hb htbl inX4 tyX4 tyX4_ok hown (hts (.classLink RL 8 RX4) (by decide +kernel)) (hts (.instantiable RX4 11) (by decide +kernel)) (hts (.initialized RX4) (by decide +kernel)) hK hP hD hS hA rfl (fun j hj => by rcases (show j = 0 ∨ j = 1 ∨ j = 2 ∨ j = 3 ∨ j = 4 ∨ j = 5 ∨ j = 6 ∨ j = 7 ∨ j = 8 ∨ j = 9 ∨ j = 10 by omega) with rfl | rfl | rfl | rfl | rfl | rfl | rfl | rfl | rfl | rfl | rfl <;> rfl) (rc _ (by decide)) (rs _ (by decide)) dL_law_0 (fun q1 H hP hD hS => ?_)
  have hP : va_P D vwCl (List.flatten [wN q1 4 [.int 0, .null, .null, .null, .null, .null, .null, .int 0, .null, .null, .null]]) H := hP
  have hD : va_D (fun q : Nat => s.heap.size ≤ q) (List.flatten [wN q1 4 [.int 0, .null, .null, .null, .null, .null, .null, .int 0, .null, .null, .null]]) := hD
  refine lv_dup hx hb dL_law_3 rfl ?_
  refine lv_aload_n hx hb dL_law_4 rfl (lv_at hl 0 rfl) ?_
  refine lv_iconst (v := (0 : Int32)) hx hb dL_law_5 (by decide) ?_
  refine q_callK (index := 18) ⟨hx, hb, hml, hown, hts⟩ hK hP hD hS hA (kL_cell l D _ bs L xs hL) hXs hbl hbA gL_law_L_cell ⟨by decide, by decide⟩ hl.1 (Nat.le_of_ble_eq_true rfl) ⟨rc _ (by decide), rs _ (by decide)⟩ dL_law_6 (fun H locs hP hD hS => ?_)
  rw [← hx0]
  refine q_callC (index := 24) (n := 1) (As := [.int x0]) (rest := [.ref q1]) ⟨hx, hb, hml, hown, hts⟩ hK hP hD hS hA [] rfl (k4_init l D cI cZ cL q1 x0) (fun U g mk a h => ⟨va_Nw.same rfl rfl h.1, va_Nw.same rfl rfl h.2.1, va_Nw.same rfl rfl h.2.2⟩) (fun U hW => ⟨va_Nw.warmM hW n1, va_Nw.warmM hW n2, va_Nw.warmM hW n3⟩) gL_law_X4_init rfl (hts (.initialized RX4) (by decide +kernel)) (hts (.methodLink RL 24 yX4_init) (by decide +kernel)) (hts (.instanceMethod yX4_init) (by decide +kernel)) rfl (by decide +kernel) rfl ⟨by decide, by decide⟩ hl.1 (Nat.le_of_ble_eq_true rfl) ⟨rc _ (by decide), rs _ (by decide)⟩ dL_law_9 rfl (fun u H locs hu hP9 hD9 hS9 => ?_)
  obtain ⟨o, a, b, d, i, g⟩ := u
  have hu : o 0 = q1 := hu
  subst hu
  have hP : va_P D vwCl (List.flatten [wO o (a 0) (b 0) (d 0) (i 0) (g 0) (ndN x0) 0, wT cI (o 1) 160 (fun _ => 0), wT cI (o 2) (ndN x0) (fun _ => 0), wU cL (o 3) (ndN x0) (fun _ => 0), wU cL (o 4) (ndN x0) (fun _ => 0), wS cI b (a 0) (a 1) (a 2) (ndN x0) (fun _ => 0) (fun _ => 0) (fun _ => 0) (fun _ => 0), wT cI (b 1) (ndN x0 + 1) (fun _ => 0), wS cI d (a 0) (a 2) (a 1) (ndN x0) (fun _ => 0) (fun _ => 0) (fun _ => 0) (fun _ => 0), wT cI (d 1) (ndN x0 + 1) (fun _ => 0), wA cI cZ a 0 (fun _ => 0) (fun _ => 0) (fun _ => 0) (fun _ => 0), wI cI cZ i (fun _ => 0) (fun _ => 0) (fun _ => 0) (fun _ => 0) (fun _ => 0) (fun _ => 0), wG cI g (fun _ => 0) (fun _ => 0)]) _ := hP9
  have hD : va_D (fun q : Nat => s.heap.size ≤ q) (List.flatten [wO o (a 0) (b 0) (d 0) (i 0) (g 0) (ndN x0) 0, wT cI (o 1) 160 (fun _ => 0), wT cI (o 2) (ndN x0) (fun _ => 0), wU cL (o 3) (ndN x0) (fun _ => 0), wU cL (o 4) (ndN x0) (fun _ => 0), wS cI b (a 0) (a 1) (a 2) (ndN x0) (fun _ => 0) (fun _ => 0) (fun _ => 0) (fun _ => 0), wT cI (b 1) (ndN x0 + 1) (fun _ => 0), wS cI d (a 0) (a 2) (a 1) (ndN x0) (fun _ => 0) (fun _ => 0) (fun _ => 0) (fun _ => 0), wT cI (d 1) (ndN x0 + 1) (fun _ => 0), wA cI cZ a 0 (fun _ => 0) (fun _ => 0) (fun _ => 0) (fun _ => 0), wI cI cZ i (fun _ => 0) (fun _ => 0) (fun _ => 0) (fun _ => 0) (fun _ => 0) (fun _ => 0), wG cI g (fun _ => 0) (fun _ => 0)]) := hD9
  have hS := hS9
  refine lv_astore_n (lv' := [(1, .ref (o 0)), (0, .ref bs)]) hx hb dL_law_12 rfl hl (by decide) rfl (fun ls hl => ?_)
  refine q_newO (ci := 5) (fs := [.int 0, .int 0, .int 0, .null, .null, .null, .null, .int 0, .null, .null, .null, .null, .null, .null, .null, .null, .null, .null, .null, .null]) (C := RX5) (T := TX5) (N := 20) hx hb htbl inX5 tyX5 tyX5_ok hown (hts (.classLink RL 27 RX5) (by decide +kernel)) (hts (.instantiable RX5 20) (by decide +kernel)) (hts (.initialized RX5) (by decide +kernel)) hK hP hD hS hA rfl (fun j hj => by rcases (show j = 0 ∨ j = 1 ∨ j = 2 ∨ j = 3 ∨ j = 4 ∨ j = 5 ∨ j = 6 ∨ j = 7 ∨ j = 8 ∨ j = 9 ∨ j = 10 ∨ j = 11 ∨ j = 12 ∨ j = 13 ∨ j = 14 ∨ j = 15 ∨ j = 16 ∨ j = 17 ∨ j = 18 ∨ j = 19 by omega) with rfl | rfl | rfl | rfl | rfl | rfl | rfl | rfl | rfl | rfl | rfl | rfl | rfl | rfl | rfl | rfl | rfl | rfl | rfl | rfl <;> rfl) (rc _ (by decide)) (rs _ (by decide)) dL_law_13 (fun q2 H hP hD hS => ?_)
  have hP : va_P D vwCl (List.flatten [wO o (a 0) (b 0) (d 0) (i 0) (g 0) (ndN x0) 0, wT cI (o 1) 160 (fun _ => 0), wT cI (o 2) (ndN x0) (fun _ => 0), wU cL (o 3) (ndN x0) (fun _ => 0), wU cL (o 4) (ndN x0) (fun _ => 0), wS cI b (a 0) (a 1) (a 2) (ndN x0) (fun _ => 0) (fun _ => 0) (fun _ => 0) (fun _ => 0), wT cI (b 1) (ndN x0 + 1) (fun _ => 0), wS cI d (a 0) (a 2) (a 1) (ndN x0) (fun _ => 0) (fun _ => 0) (fun _ => 0) (fun _ => 0), wT cI (d 1) (ndN x0 + 1) (fun _ => 0), wA cI cZ a 0 (fun _ => 0) (fun _ => 0) (fun _ => 0) (fun _ => 0), wI cI cZ i (fun _ => 0) (fun _ => 0) (fun _ => 0) (fun _ => 0) (fun _ => 0) (fun _ => 0), wG cI g (fun _ => 0) (fun _ => 0), wN q2 5 [.int 0, .int 0, .int 0, .null, .null, .null, .null, .int 0, .null, .null, .null, .null, .null, .null, .null, .null, .null, .null, .null, .null]]) H := hP
  have hD : va_D (fun q : Nat => s.heap.size ≤ q) (List.flatten [wO o (a 0) (b 0) (d 0) (i 0) (g 0) (ndN x0) 0, wT cI (o 1) 160 (fun _ => 0), wT cI (o 2) (ndN x0) (fun _ => 0), wU cL (o 3) (ndN x0) (fun _ => 0), wU cL (o 4) (ndN x0) (fun _ => 0), wS cI b (a 0) (a 1) (a 2) (ndN x0) (fun _ => 0) (fun _ => 0) (fun _ => 0) (fun _ => 0), wT cI (b 1) (ndN x0 + 1) (fun _ => 0), wS cI d (a 0) (a 2) (a 1) (ndN x0) (fun _ => 0) (fun _ => 0) (fun _ => 0) (fun _ => 0), wT cI (d 1) (ndN x0 + 1) (fun _ => 0), wA cI cZ a 0 (fun _ => 0) (fun _ => 0) (fun _ => 0) (fun _ => 0), wI cI cZ i (fun _ => 0) (fun _ => 0) (fun _ => 0) (fun _ => 0) (fun _ => 0) (fun _ => 0), wG cI g (fun _ => 0) (fun _ => 0), wN q2 5 [.int 0, .int 0, .int 0, .null, .null, .null, .null, .int 0, .null, .null, .null, .null, .null, .null, .null, .null, .null, .null, .null, .null]]) := hD
  refine lv_dup hx hb dL_law_16 rfl ?_
  refine lv_aload_n hx hb dL_law_17 rfl (lv_at hl 1 rfl) ?_
  refine lv_iconst (v := (0 : Int32)) hx hb dL_law_18 (by decide) ?_
  refine q_callK (index := 18) ⟨hx, hb, hml, hown, hts⟩ hK hP hD hS hA (kL_cell l D _ bs L xs hL) hXs hbl hbA gL_law_L_cell ⟨by decide, by decide⟩ hl.1 (Nat.le_of_ble_eq_true rfl) ⟨rc _ (by decide), rs _ (by decide)⟩ dL_law_19 (fun H locs hP hD hS => ?_)
  rw [← hx0]
  refine q_callC (index := 29) (n := 1) (As := [.int x0]) (rest := [.ref q2]) ⟨hx, hb, hml, hown, hts⟩ hK hP hD hS hA [wO o (a 0) (b 0) (d 0) (i 0) (g 0) (ndN x0) 0, wT cI (o 1) 160 (fun _ => 0), wT cI (o 2) (ndN x0) (fun _ => 0), wU cL (o 3) (ndN x0) (fun _ => 0), wU cL (o 4) (ndN x0) (fun _ => 0), wS cI b (a 0) (a 1) (a 2) (ndN x0) (fun _ => 0) (fun _ => 0) (fun _ => 0) (fun _ => 0), wT cI (b 1) (ndN x0 + 1) (fun _ => 0), wS cI d (a 0) (a 2) (a 1) (ndN x0) (fun _ => 0) (fun _ => 0) (fun _ => 0) (fun _ => 0), wT cI (d 1) (ndN x0 + 1) (fun _ => 0), wA cI cZ a 0 (fun _ => 0) (fun _ => 0) (fun _ => 0) (fun _ => 0), wI cI cZ i (fun _ => 0) (fun _ => 0) (fun _ => 0) (fun _ => 0) (fun _ => 0) (fun _ => 0), wG cI g (fun _ => 0) (fun _ => 0)] rfl (k5_init l D cI cZ cL q2 x0) (fun _ _ _ _ _ => trivial) (fun _ _ => trivial) gL_law_X5_init rfl (hts (.initialized RX5) (by decide +kernel)) (hts (.methodLink RL 29 yX5_init) (by decide +kernel)) (hts (.instanceMethod yX5_init) (by decide +kernel)) rfl (by decide +kernel) rfl ⟨by decide, by decide⟩ hl.1 (Nat.le_of_ble_eq_true rfl) ⟨rc _ (by decide), rs _ (by decide)⟩ dL_law_22 rfl (fun q H locs hu hP9 hD9 hS9 => ?_)
  have hu : q 0 = q2 := hu
  subst hu
  have hP : va_P D vwCl (List.flatten [wO o (a 0) (b 0) (d 0) (i 0) (g 0) (ndN x0) 0, wT cI (o 1) 160 (fun _ => 0), wT cI (o 2) (ndN x0) (fun _ => 0), wU cL (o 3) (ndN x0) (fun _ => 0), wU cL (o 4) (ndN x0) (fun _ => 0), wS cI b (a 0) (a 1) (a 2) (ndN x0) (fun _ => 0) (fun _ => 0) (fun _ => 0) (fun _ => 0), wT cI (b 1) (ndN x0 + 1) (fun _ => 0), wS cI d (a 0) (a 2) (a 1) (ndN x0) (fun _ => 0) (fun _ => 0) (fun _ => 0) (fun _ => 0), wT cI (d 1) (ndN x0 + 1) (fun _ => 0), wA cI cZ a 0 (fun _ => 0) (fun _ => 0) (fun _ => 0) (fun _ => 0), wI cI cZ i (fun _ => 0) (fun _ => 0) (fun _ => 0) (fun _ => 0) (fun _ => 0) (fun _ => 0), wG cI g (fun _ => 0) (fun _ => 0), wM cI cZ cL q 0 (ndN x0) 0 (fun _ => 0) (fun _ => 0) (fun _ => 0) (fun _ => 0) 0 (fun _ => 0) (fun _ => 0) (fun _ => 0) (fun _ => 0) (fun _ => 0) (fun _ => 0) (fun _ => 0) (fun _ => 0) (fun _ => 0) (fun _ => 0) (fun _ => 0) (fun _ => 0)]) _ := hP9
  have hD : va_D (fun q : Nat => s.heap.size ≤ q) (List.flatten [wO o (a 0) (b 0) (d 0) (i 0) (g 0) (ndN x0) 0, wT cI (o 1) 160 (fun _ => 0), wT cI (o 2) (ndN x0) (fun _ => 0), wU cL (o 3) (ndN x0) (fun _ => 0), wU cL (o 4) (ndN x0) (fun _ => 0), wS cI b (a 0) (a 1) (a 2) (ndN x0) (fun _ => 0) (fun _ => 0) (fun _ => 0) (fun _ => 0), wT cI (b 1) (ndN x0 + 1) (fun _ => 0), wS cI d (a 0) (a 2) (a 1) (ndN x0) (fun _ => 0) (fun _ => 0) (fun _ => 0) (fun _ => 0), wT cI (d 1) (ndN x0 + 1) (fun _ => 0), wA cI cZ a 0 (fun _ => 0) (fun _ => 0) (fun _ => 0) (fun _ => 0), wI cI cZ i (fun _ => 0) (fun _ => 0) (fun _ => 0) (fun _ => 0) (fun _ => 0) (fun _ => 0), wG cI g (fun _ => 0) (fun _ => 0), wM cI cZ cL q 0 (ndN x0) 0 (fun _ => 0) (fun _ => 0) (fun _ => 0) (fun _ => 0) 0 (fun _ => 0) (fun _ => 0) (fun _ => 0) (fun _ => 0) (fun _ => 0) (fun _ => 0) (fun _ => 0) (fun _ => 0) (fun _ => 0) (fun _ => 0) (fun _ => 0) (fun _ => 0)]) := hD9
  have hS := hS9
  refine lv_astore_n (lv' := [(2, .ref (q 0)), (1, .ref (o 0)), (0, .ref bs)]) hx hb dL_law_25 rfl hl (by decide) rfl (fun ls hl => ?_)
  refine lv_iconst (v := (1 : Int32)) hx hb dL_law_26 (by decide) ?_
  refine q_newL hx hb (hts (.arrayClass .long) (by decide +kernel)) hK hP hD hS hA (N' := 1) (by decide) (by decide) (by omega) (rc _ (by decide)) (rs _ (by decide)) dL_law_27 (fun t1 H hP hD hS => ?_)
  have hP : va_P D vwCl (List.flatten [wO o (a 0) (b 0) (d 0) (i 0) (g 0) (ndN x0) 0, wT cI (o 1) 160 (fun _ => 0), wT cI (o 2) (ndN x0) (fun _ => 0), wU cL (o 3) (ndN x0) (fun _ => 0), wU cL (o 4) (ndN x0) (fun _ => 0), wS cI b (a 0) (a 1) (a 2) (ndN x0) (fun _ => 0) (fun _ => 0) (fun _ => 0) (fun _ => 0), wT cI (b 1) (ndN x0 + 1) (nF (fun _ => 0)), wS cI d (a 0) (a 2) (a 1) (ndN x0) (fun _ => 0) (fun _ => 0) (fun _ => 0) (fun _ => 0), wT cI (d 1) (ndN x0 + 1) (nF (fun _ => 0)), wA cI cZ a 0 (fun _ => 0) (fun _ => 0) (fun _ => 0) (fun _ => 0), wI cI cZ i (fun _ => 0) (fun _ => 0) (fun _ => 0) (fun _ => 0) (fun _ => 0) (fun _ => 0), wG cI g (fun _ => 0) (fun _ => 0), wM cI cZ cL q 0 (ndN x0) 0 (fun _ => 0) (fun _ => 0) (fun _ => 0) (fun _ => 0) 0 (fun _ => 0) (fun _ => 0) (fun _ => 0) (fun _ => 0) (fun _ => 0) (fun _ => 0) (fun _ => 0) (fun _ => 0) (fun _ => 0) (fun _ => 0) (fun _ => 0) (fun _ => 0), wU cL t1 1 (fun _ => 0)]) H := hP
  have hD : va_D (fun q : Nat => s.heap.size ≤ q) (List.flatten [wO o (a 0) (b 0) (d 0) (i 0) (g 0) (ndN x0) 0, wT cI (o 1) 160 (fun _ => 0), wT cI (o 2) (ndN x0) (fun _ => 0), wU cL (o 3) (ndN x0) (fun _ => 0), wU cL (o 4) (ndN x0) (fun _ => 0), wS cI b (a 0) (a 1) (a 2) (ndN x0) (fun _ => 0) (fun _ => 0) (fun _ => 0) (fun _ => 0), wT cI (b 1) (ndN x0 + 1) (nF (fun _ => 0)), wS cI d (a 0) (a 2) (a 1) (ndN x0) (fun _ => 0) (fun _ => 0) (fun _ => 0) (fun _ => 0), wT cI (d 1) (ndN x0 + 1) (nF (fun _ => 0)), wA cI cZ a 0 (fun _ => 0) (fun _ => 0) (fun _ => 0) (fun _ => 0), wI cI cZ i (fun _ => 0) (fun _ => 0) (fun _ => 0) (fun _ => 0) (fun _ => 0) (fun _ => 0), wG cI g (fun _ => 0) (fun _ => 0), wM cI cZ cL q 0 (ndN x0) 0 (fun _ => 0) (fun _ => 0) (fun _ => 0) (fun _ => 0) 0 (fun _ => 0) (fun _ => 0) (fun _ => 0) (fun _ => 0) (fun _ => 0) (fun _ => 0) (fun _ => 0) (fun _ => 0) (fun _ => 0) (fun _ => 0) (fun _ => 0) (fun _ => 0), wU cL t1 1 (fun _ => 0)]) := hD
  refine lv_astore_n (lv' := [(3, .ref t1), (2, .ref (q 0)), (1, .ref (o 0)), (0, .ref bs)]) hx hb dL_law_29 rfl hl (by decide) rfl (fun ls hl => ?_)
  refine lv_iconst (v := (1 : Int32)) hx hb dL_law_30 (by decide) ?_
  refine lv_istore (lv' := [(4, .int (1 : Int32)), (3, .ref t1), (2, .ref (q 0)), (1, .ref (o 0)), (0, .ref bs)]) hx hb dL_law_31 hl (by decide) rfl (fun ls hl => ?_)
  refine W.widen (k := 59 + 1) (n := 3537 + 6 * 1) (by decide) (by decide) ?_
  exact law_loop X hr hlocks (fun _ h => h) (L + 4) 1 (by omega) (by omega) _ _ _ ⟨_, _, _, _, _, _, _, _, _, _, _, _, _, _, _, _, _, _, _, _, _, _, _, _, _, _, _, _, _, _, _, _, _, _, _, Inv0 nd_le, fun _ _ => rfl, hP, hD, hS⟩ (lv_sub hl [4, 3, 2, 1, 0] rfl)

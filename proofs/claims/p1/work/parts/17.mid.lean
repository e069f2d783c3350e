set_option maxHeartbeats 4000000 in
set_option maxRecDepth 100000 in
theorem lc_mid {p : Program} {l : Launch} {e : Env} {s : State} {m : MethodId} {below : List Frame} {meth : Method} {c : Code} {b L : Nat} {xs : Nat → Int32} {g : zG} (hL : L ≤ 6) (hx : p.tables.exec = Jvm.exec) (hb : c.code = code) (hml : c.maxLocals = 4) (hr : meth.sig.returnType = ret) (hlocks : meth.locks = false) (hown : s.vm.findClass RL = some m.cls) (hts : ∀ w ∈ zBig, w.before #[Value.ref b] s = true) (hK : va_K g.1 vwCl (zTys g) s) (hN : zN s) (hZ : zS g (fun q : Nat => s.heap.size ≤ q) s s.heap) (hX : va_X b L xs s s.heap) (hbl : b < s.heap.size) {ax am : Nat → Nat} {H : Heap} {locs : List Loc} (hP : va_P g.1 vwCl (lW g ax am) H) (hD : va_D (fun q : Nat => s.heap.size ≤ q) (lW g ax am)) (hS : va_S (fun q : Nat => s.heap.size ≤ q) s.heap H locs) {ls : Array Slot} (hl : lv_has ls 4 [(0, .ref b), (1, .ref (ax 0)), (2, .ref (am 0)), (3, .int 0)]) : W p l e room_1 s m #[Value.ref b] below meth c H locs 600000 7302250 (lw_Z below #[Value.ref b] s) (F0 m 18 ls []) := by
  have hA : ∀ q : Nat, s.heap.size ≤ q → (fun q : Nat => s.heap.size ≤ q) q := fun _ h => h
  have hbA : ¬ (fun q : Nat => s.heap.size ≤ q) b := Nat.not_le.mpr hbl
  rcases (show L = 0 ∨ L = 1 ∨ L = 2 ∨ L = 3 ∨ L = 4 ∨ L = 5 ∨ L = 6 by omega) with rfl | rfl | rfl | rfl | rfl | rfl | rfl
  · skip
    refine lv_iload_n hx hb dL_law_18 rfl (lv_at hl 3 rfl) ?_
    refine lv_aload_n hx hb dL_law_19 rfl (lv_at hl 0 rfl) ?_
    refine va_slen hx hb hX hbl hbA hS dL_law_20 ?_
    refine lv_topi (nm_r (e' := 0) (by rfl) ?_)
    refine lv_bipush (v := 6) hx hb dL_law_21 (by decide) ?_
    refine lv_isub hx hb dL_law_23 ?_
    refine lv_topi (nm_r (e' := (-6)) (by decide +kernel) ?_)
    refine lv_icmp_gt (tgt := 1060) hx hb dL_law_24 (by decide) (fun _ => ?_) (fun h => absurd h (by decide +kernel))
    refine lv_iconst (v := 1) hx hb dL_law_1060 (by decide) ?_
    refine va_forget (fun q hq => hS.2.2 q hq) ?_
    exact lw_ret hx hb hr hlocks dL_law_1061
  · skip
    refine lv_iload_n hx hb dL_law_18 rfl (lv_at hl 3 rfl) ?_
    refine lv_aload_n hx hb dL_law_19 rfl (lv_at hl 0 rfl) ?_
    refine va_slen hx hb hX hbl hbA hS dL_law_20 ?_
    refine lv_topi (nm_r (e' := 1) (by rfl) ?_)
    refine lv_bipush (v := 6) hx hb dL_law_21 (by decide) ?_
    refine lv_isub hx hb dL_law_23 ?_
    refine lv_topi (nm_r (e' := (-5)) (by decide +kernel) ?_)
    refine lv_icmp_gt (tgt := 1060) hx hb dL_law_24 (by decide) (fun _ => ?_) (fun h => absurd h (by decide +kernel))
    refine lv_iconst (v := 1) hx hb dL_law_1060 (by decide) ?_
    refine va_forget (fun q hq => hS.2.2 q hq) ?_
    exact lw_ret hx hb hr hlocks dL_law_1061
  · skip
    refine lv_iload_n hx hb dL_law_18 rfl (lv_at hl 3 rfl) ?_
    refine lv_aload_n hx hb dL_law_19 rfl (lv_at hl 0 rfl) ?_
    refine va_slen hx hb hX hbl hbA hS dL_law_20 ?_
    refine lv_topi (nm_r (e' := 2) (by rfl) ?_)
    refine lv_bipush (v := 6) hx hb dL_law_21 (by decide) ?_
    refine lv_isub hx hb dL_law_23 ?_
    refine lv_topi (nm_r (e' := (-4)) (by decide +kernel) ?_)
    refine lv_icmp_gt (tgt := 1060) hx hb dL_law_24 (by decide) (fun _ => ?_) (fun h => absurd h (by decide +kernel))
    refine lv_iconst (v := 1) hx hb dL_law_1060 (by decide) ?_
    refine va_forget (fun q hq => hS.2.2 q hq) ?_
    exact lw_ret hx hb hr hlocks dL_law_1061
  · skip
    refine lv_iload_n hx hb dL_law_18 rfl (lv_at hl 3 rfl) ?_
    refine lv_aload_n hx hb dL_law_19 rfl (lv_at hl 0 rfl) ?_
    refine va_slen hx hb hX hbl hbA hS dL_law_20 ?_
    refine lv_topi (nm_r (e' := 3) (by rfl) ?_)
    refine lv_bipush (v := 6) hx hb dL_law_21 (by decide) ?_
    refine lv_isub hx hb dL_law_23 ?_
    refine lv_topi (nm_r (e' := (-3)) (by decide +kernel) ?_)
    refine lv_icmp_gt (tgt := 1060) hx hb dL_law_24 (by decide) (fun _ => ?_) (fun h => absurd h (by decide +kernel))
    refine lv_iconst (v := 1) hx hb dL_law_1060 (by decide) ?_
    refine va_forget (fun q hq => hS.2.2 q hq) ?_
    exact lw_ret hx hb hr hlocks dL_law_1061
  · skip
    refine lv_iload_n hx hb dL_law_18 rfl (lv_at hl 3 rfl) ?_
    refine lv_aload_n hx hb dL_law_19 rfl (lv_at hl 0 rfl) ?_
    refine va_slen hx hb hX hbl hbA hS dL_law_20 ?_
    refine lv_topi (nm_r (e' := 4) (by rfl) ?_)
    refine lv_bipush (v := 6) hx hb dL_law_21 (by decide) ?_
    refine lv_isub hx hb dL_law_23 ?_
    refine lv_topi (nm_r (e' := (-2)) (by decide +kernel) ?_)
    refine lv_icmp_gt (tgt := 1060) hx hb dL_law_24 (by decide) (fun _ => ?_) (fun h => absurd h (by decide +kernel))
    refine lv_iconst (v := 1) hx hb dL_law_1060 (by decide) ?_
    refine va_forget (fun q hq => hS.2.2 q hq) ?_
    exact lw_ret hx hb hr hlocks dL_law_1061
  · skip
    refine lv_iload_n hx hb dL_law_18 rfl (lv_at hl 3 rfl) ?_
    refine lv_aload_n hx hb dL_law_19 rfl (lv_at hl 0 rfl) ?_
    refine va_slen hx hb hX hbl hbA hS dL_law_20 ?_
    refine lv_topi (nm_r (e' := 5) (by rfl) ?_)
    refine lv_bipush (v := 6) hx hb dL_law_21 (by decide) ?_
    refine lv_isub hx hb dL_law_23 ?_
    refine lv_topi (nm_r (e' := (-1)) (by decide +kernel) ?_)
    refine lv_icmp_gt (tgt := 1060) hx hb dL_law_24 (by decide) (fun _ => ?_) (fun h => absurd h (by decide +kernel))
    refine lv_iconst (v := 1) hx hb dL_law_1060 (by decide) ?_
    refine va_forget (fun q hq => hS.2.2 q hq) ?_
    exact lw_ret hx hb hr hlocks dL_law_1061
  · skip
    refine lv_iload_n hx hb dL_law_18 rfl (lv_at hl 3 rfl) ?_
    refine lv_aload_n hx hb dL_law_19 rfl (lv_at hl 0 rfl) ?_
    refine va_slen hx hb hX hbl hbA hS dL_law_20 ?_
    refine lv_topi (nm_r (e' := 6) (by rfl) ?_)
    refine lv_bipush (v := 6) hx hb dL_law_21 (by decide) ?_
    refine lv_isub hx hb dL_law_23 ?_
    refine lv_topi (nm_r (e' := 0) (by decide +kernel) ?_)
    refine lv_icmp_gt (tgt := 1060) hx hb dL_law_24 (by decide) (fun h => absurd h (by decide +kernel)) (fun _ => ?_)
    refine lv_aload_n hx hb dL_law_27 rfl (lv_at hl 0 rfl) ?_
    refine lv_iload_n hx hb dL_law_28 rfl (lv_at hl 3 rfl) ?_
    refine va_sld hx hb hX hbl hbA hS (vp_in_iff.mpr (by decide +kernel)) dL_law_29 ?_
    refine lv_topi (nm_r (e' := (xs 0)) (by rfl) ?_)
    refine lv_bipush (v := 31) hx hb dL_law_30 (by decide) ?_
    refine lv_iand hx hb dL_law_32 ?_
    refine lv_topi (fun y0 ey0 => ?_)
    by_cases j_0 : y0 = 0
    · have i_0 : y0.toInt = 0 := by rw [j_0]; rfl
      subst j_0
      refine lv_tableIn (x := 0) (off := 127) (tgt := 160) hx hb dL_law_33 (by decide) (by decide) rfl (by decide) ?_
      exact lc_rule ⟨hx, hb, hml, hr, hlocks, hown, hts, hK, hN, hZ, hX, hbl⟩ hP hD hS (lv_sub hl [0, 1, 2, 3] rfl)
    have i_0 : y0.toInt ≠ 0 := fun h => j_0 (Int32.toInt_inj.mp (h.trans rfl))
    by_cases j_1 : y0 = 1
    · have i_1 : y0.toInt = 1 := by rw [j_1]; rfl
      subst j_1
      refine lv_tableIn (x := 1) (off := 160) (tgt := 193) hx hb dL_law_33 (by decide) (by decide) rfl (by decide) ?_
      exact lc_buyer ⟨hx, hb, hml, hr, hlocks, hown, hts, hK, hN, hZ, hX, hbl⟩ hP hD hS (lv_sub hl [0, 1, 2, 3] rfl)
    have i_1 : y0.toInt ≠ 1 := fun h => j_1 (Int32.toInt_inj.mp (h.trans rfl))
    by_cases j_2 : y0 = 2
    · have i_2 : y0.toInt = 2 := by rw [j_2]; rfl
      subst j_2
      refine lv_tableIn (x := 2) (off := 193) (tgt := 226) hx hb dL_law_33 (by decide) (by decide) rfl (by decide) ?_
      exact lc_worth ⟨hx, hb, hml, hr, hlocks, hown, hts, hK, hN, hZ, hX, hbl⟩ hP hD hS (lv_sub hl [0, 1, 2, 3] rfl)
    have i_2 : y0.toInt ≠ 2 := fun h => j_2 (Int32.toInt_inj.mp (h.trans rfl))
    by_cases j_3 : y0 = 3
    · have i_3 : y0.toInt = 3 := by rw [j_3]; rfl
      subst j_3
      refine lv_tableIn (x := 3) (off := 236) (tgt := 269) hx hb dL_law_33 (by decide) (by decide) rfl (by decide) ?_
      exact lc_margin ⟨hx, hb, hml, hr, hlocks, hown, hts, hK, hN, hZ, hX, hbl⟩ hP hD hS (lv_sub hl [0, 1, 2, 3] rfl)
    have i_3 : y0.toInt ≠ 3 := fun h => j_3 (Int32.toInt_inj.mp (h.trans rfl))
    by_cases j_4 : y0 = 4
    · have i_4 : y0.toInt = 4 := by rw [j_4]; rfl
      subst j_4
      refine lv_tableIn (x := 4) (off := 269) (tgt := 302) hx hb dL_law_33 (by decide) (by decide) rfl (by decide) ?_
      exact lc_told ⟨hx, hb, hml, hr, hlocks, hown, hts, hK, hN, hZ, hX, hbl⟩ hP hD hS (lv_sub hl [0, 1, 2, 3] rfl)
    have i_4 : y0.toInt ≠ 4 := fun h => j_4 (Int32.toInt_inj.mp (h.trans rfl))
    by_cases j_5 : y0 = 5
    · have i_5 : y0.toInt = 5 := by rw [j_5]; rfl
      subst j_5
      refine lv_tableIn (x := 5) (off := 302) (tgt := 335) hx hb dL_law_33 (by decide) (by decide) rfl (by decide) ?_
      exact lc_earn ⟨hx, hb, hml, hr, hlocks, hown, hts, hK, hN, hZ, hX, hbl⟩ hP hD hS (lv_sub hl [0, 1, 2, 3] rfl)
    have i_5 : y0.toInt ≠ 5 := fun h => j_5 (Int32.toInt_inj.mp (h.trans rfl))
    by_cases j_6 : y0 = 6
    · have i_6 : y0.toInt = 6 := by rw [j_6]; rfl
      subst j_6
      refine lv_tableIn (x := 6) (off := 335) (tgt := 368) hx hb dL_law_33 (by decide) (by decide) rfl (by decide) ?_
      exact lc_type ⟨hx, hb, hml, hr, hlocks, hown, hts, hK, hN, hZ, hX, hbl⟩ hP hD hS (lv_sub hl [0, 1, 2, 3] rfl)
    have i_6 : y0.toInt ≠ 6 := fun h => j_6 (Int32.toInt_inj.mp (h.trans rfl))
    by_cases j_7 : y0 = 7
    · have i_7 : y0.toInt = 7 := by rw [j_7]; rfl
      subst j_7
      refine lv_tableIn (x := 7) (off := 398) (tgt := 431) hx hb dL_law_33 (by decide) (by decide) rfl (by decide) ?_
      exact lc_rules ⟨hx, hb, hml, hr, hlocks, hown, hts, hK, hN, hZ, hX, hbl⟩ hP hD hS (lv_sub hl [0, 1, 2, 3] rfl)
    have i_7 : y0.toInt ≠ 7 := fun h => j_7 (Int32.toInt_inj.mp (h.trans rfl))
    by_cases j_8 : y0 = 8
    · have i_8 : y0.toInt = 8 := by rw [j_8]; rfl
      subst j_8
      refine lv_tableIn (x := 8) (off := 411) (tgt := 444) hx hb dL_law_33 (by decide) (by decide) rfl (by decide) ?_
      exact lc_lots ⟨hx, hb, hml, hr, hlocks, hown, hts, hK, hN, hZ, hX, hbl⟩ hP hD hS (lv_sub hl [0, 1, 2, 3] rfl)
    have i_8 : y0.toInt ≠ 8 := fun h => j_8 (Int32.toInt_inj.mp (h.trans rfl))
    by_cases j_9 : y0 = 9
    · have i_9 : y0.toInt = 9 := by rw [j_9]; rfl
      subst j_9
      refine lv_tableIn (x := 9) (off := 424) (tgt := 457) hx hb dL_law_33 (by decide) (by decide) rfl (by decide) ?_
      exact lc_count ⟨hx, hb, hml, hr, hlocks, hown, hts, hK, hN, hZ, hX, hbl⟩ hP hD hS (lv_sub hl [0, 1, 2, 3] rfl)
    have i_9 : y0.toInt ≠ 9 := fun h => j_9 (Int32.toInt_inj.mp (h.trans rfl))
    by_cases j_10 : y0 = 10
    · have i_10 : y0.toInt = 10 := by rw [j_10]; rfl
      subst j_10
      refine lv_tableIn (x := 10) (off := 447) (tgt := 480) hx hb dL_law_33 (by decide) (by decide) rfl (by decide) ?_
      exact lc_lot ⟨hx, hb, hml, hr, hlocks, hown, hts, hK, hN, hZ, hX, hbl⟩ hP hD hS (lv_sub hl [0, 1, 2, 3] rfl)
    have i_10 : y0.toInt ≠ 10 := fun h => j_10 (Int32.toInt_inj.mp (h.trans rfl))
    by_cases j_11 : y0 = 11
    · have i_11 : y0.toInt = 11 := by rw [j_11]; rfl
      subst j_11
      refine lv_tableIn (x := 11) (off := 480) (tgt := 513) hx hb dL_law_33 (by decide) (by decide) rfl (by decide) ?_
      exact lc_gain ⟨hx, hb, hml, hr, hlocks, hown, hts, hK, hN, hZ, hX, hbl⟩ hP hD hS (lv_sub hl [0, 1, 2, 3] rfl)
    have i_11 : y0.toInt ≠ 11 := fun h => j_11 (Int32.toInt_inj.mp (h.trans rfl))
    by_cases j_12 : y0 = 12
    · have i_12 : y0.toInt = 12 := by rw [j_12]; rfl
      subst j_12
      refine lv_tableIn (x := 12) (off := 503) (tgt := 536) hx hb dL_law_33 (by decide) (by decide) rfl (by decide) ?_
      exact lc_till ⟨hx, hb, hml, hr, hlocks, hown, hts, hK, hN, hZ, hX, hbl⟩ hP hD hS (lv_sub hl [0, 1, 2, 3] rfl)
    have i_12 : y0.toInt ≠ 12 := fun h => j_12 (Int32.toInt_inj.mp (h.trans rfl))
    by_cases j_13 : y0 = 13
    · have i_13 : y0.toInt = 13 := by rw [j_13]; rfl
      subst j_13
      refine lv_tableIn (x := 13) (off := 526) (tgt := 559) hx hb dL_law_33 (by decide) (by decide) rfl (by decide) ?_
      exact lc_morning ⟨hx, hb, hml, hr, hlocks, hown, hts, hK, hN, hZ, hX, hbl⟩ hP hD hS (lv_sub hl [0, 1, 2, 3] rfl)
    have i_13 : y0.toInt ≠ 13 := fun h => j_13 (Int32.toInt_inj.mp (h.trans rfl))
    by_cases j_14 : y0 = 14
    · have i_14 : y0.toInt = 14 := by rw [j_14]; rfl
      subst j_14
      refine lv_tableIn (x := 14) (off := 539) (tgt := 572) hx hb dL_law_33 (by decide) (by decide) rfl (by decide) ?_
      exact lc_span ⟨hx, hb, hml, hr, hlocks, hown, hts, hK, hN, hZ, hX, hbl⟩ hP hD hS (lv_sub hl [0, 1, 2, 3] rfl)
    have i_14 : y0.toInt ≠ 14 := fun h => j_14 (Int32.toInt_inj.mp (h.trans rfl))
    by_cases j_15 : y0 = 15
    · have i_15 : y0.toInt = 15 := by rw [j_15]; rfl
      subst j_15
      refine lv_tableIn (x := 15) (off := 582) (tgt := 615) hx hb dL_law_33 (by decide) (by decide) rfl (by decide) ?_
      exact lc_hush ⟨hx, hb, hml, hr, hlocks, hown, hts, hK, hN, hZ, hX, hbl⟩ hP hD hS (lv_sub hl [0, 1, 2, 3] rfl)
    have i_15 : y0.toInt ≠ 15 := fun h => j_15 (Int32.toInt_inj.mp (h.trans rfl))
    by_cases j_16 : y0 = 16
    · have i_16 : y0.toInt = 16 := by rw [j_16]; rfl
      subst j_16
      refine lv_tableIn (x := 16) (off := 595) (tgt := 628) hx hb dL_law_33 (by decide) (by decide) rfl (by decide) ?_
      exact lc_best ⟨hx, hb, hml, hr, hlocks, hown, hts, hK, hN, hZ, hX, hbl⟩ hP hD hS (lv_sub hl [0, 1, 2, 3] rfl)
    have i_16 : y0.toInt ≠ 16 := fun h => j_16 (Int32.toInt_inj.mp (h.trans rfl))
    by_cases j_17 : y0 = 17
    · have i_17 : y0.toInt = 17 := by rw [j_17]; rfl
      subst j_17
      refine lv_tableIn (x := 17) (off := 618) (tgt := 651) hx hb dL_law_33 (by decide) (by decide) rfl (by decide) ?_
      exact lc_rests ⟨hx, hb, hml, hr, hlocks, hown, hts, hK, hN, hZ, hX, hbl⟩ hP hD hS (lv_sub hl [0, 1, 2, 3] rfl)
    have i_17 : y0.toInt ≠ 17 := fun h => j_17 (Int32.toInt_inj.mp (h.trans rfl))
    by_cases j_18 : y0 = 18
    · have i_18 : y0.toInt = 18 := by rw [j_18]; rfl
      subst j_18
      refine lv_tableIn (x := 18) (off := 641) (tgt := 674) hx hb dL_law_33 (by decide) (by decide) rfl (by decide) ?_
      exact lc_order ⟨hx, hb, hml, hr, hlocks, hown, hts, hK, hN, hZ, hX, hbl⟩ hP hD hS (lv_sub hl [0, 1, 2, 3] rfl)
    have i_18 : y0.toInt ≠ 18 := fun h => j_18 (Int32.toInt_inj.mp (h.trans rfl))
    by_cases j_19 : y0 = 19
    · have i_19 : y0.toInt = 19 := by rw [j_19]; rfl
      subst j_19
      refine lv_tableIn (x := 19) (off := 664) (tgt := 697) hx hb dL_law_33 (by decide) (by decide) rfl (by decide) ?_
      exact lc_ring ⟨hx, hb, hml, hr, hlocks, hown, hts, hK, hN, hZ, hX, hbl⟩ hP hD hS (lv_sub hl [0, 1, 2, 3] rfl)
    have i_19 : y0.toInt ≠ 19 := fun h => j_19 (Int32.toInt_inj.mp (h.trans rfl))
    by_cases j_20 : y0 = 20
    · have i_20 : y0.toInt = 20 := by rw [j_20]; rfl
      subst j_20
      refine lv_tableIn (x := 20) (off := 687) (tgt := 720) hx hb dL_law_33 (by decide) (by decide) rfl (by decide) ?_
      exact lc_image ⟨hx, hb, hml, hr, hlocks, hown, hts, hK, hN, hZ, hX, hbl⟩ hP hD hS (lv_sub hl [0, 1, 2, 3] rfl)
    have i_20 : y0.toInt ≠ 20 := fun h => j_20 (Int32.toInt_inj.mp (h.trans rfl))
    by_cases j_21 : y0 = 21
    · have i_21 : y0.toInt = 21 := by rw [j_21]; rfl
      subst j_21
      refine lv_tableIn (x := 21) (off := 700) (tgt := 733) hx hb dL_law_33 (by decide) (by decide) rfl (by decide) ?_
      exact lc_restore ⟨hx, hb, hml, hr, hlocks, hown, hts, hK, hN, hZ, hX, hbl⟩ hP hD hS (lv_sub hl [0, 1, 2, 3] rfl)
    have i_21 : y0.toInt ≠ 21 := fun h => j_21 (Int32.toInt_inj.mp (h.trans rfl))
    by_cases j_22 : y0 = 22
    · have i_22 : y0.toInt = 22 := by rw [j_22]; rfl
      subst j_22
      refine lv_tableIn (x := 22) (off := 713) (tgt := 746) hx hb dL_law_33 (by decide) (by decide) rfl (by decide) ?_
      exact lc_which ⟨hx, hb, hml, hr, hlocks, hown, hts, hK, hN, hZ, hX, hbl⟩ hP hD hS (lv_sub hl [0, 1, 2, 3] rfl)
    have i_22 : y0.toInt ≠ 22 := fun h => j_22 (Int32.toInt_inj.mp (h.trans rfl))
    by_cases j_23 : y0 = 23
    · have i_23 : y0.toInt = 23 := by rw [j_23]; rfl
      subst j_23
      refine lv_tableIn (x := 23) (off := 766) (tgt := 799) hx hb dL_law_33 (by decide) (by decide) rfl (by decide) ?_
      exact lc_film ⟨hx, hb, hml, hr, hlocks, hown, hts, hK, hN, hZ, hX, hbl⟩ hP hD hS (lv_sub hl [0, 1, 2, 3] rfl)
    have i_23 : y0.toInt ≠ 23 := fun h => j_23 (Int32.toInt_inj.mp (h.trans rfl))
    by_cases j_24 : y0 = 24
    · have i_24 : y0.toInt = 24 := by rw [j_24]; rfl
      subst j_24
      refine lv_tableIn (x := 24) (off := 809) (tgt := 842) hx hb dL_law_33 (by decide) (by decide) rfl (by decide) ?_
      exact lc_sheet ⟨hx, hb, hml, hr, hlocks, hown, hts, hK, hN, hZ, hX, hbl⟩ hP hD hS (lv_sub hl [0, 1, 2, 3] rfl)
    have i_24 : y0.toInt ≠ 24 := fun h => j_24 (Int32.toInt_inj.mp (h.trans rfl))
    by_cases j_25 : y0 = 25
    · have i_25 : y0.toInt = 25 := by rw [j_25]; rfl
      subst j_25
      refine lv_tableIn (x := 25) (off := 852) (tgt := 885) hx hb dL_law_33 (by decide) (by decide) rfl (by decide) ?_
      exact lc_drop ⟨hx, hb, hml, hr, hlocks, hown, hts, hK, hN, hZ, hX, hbl⟩ hP hD hS (lv_sub hl [0, 1, 2, 3] rfl)
    have i_25 : y0.toInt ≠ 25 := fun h => j_25 (Int32.toInt_inj.mp (h.trans rfl))
    by_cases j_26 : y0 = 26
    · have i_26 : y0.toInt = 26 := by rw [j_26]; rfl
      subst j_26
      refine lv_tableIn (x := 26) (off := 875) (tgt := 908) hx hb dL_law_33 (by decide) (by decide) rfl (by decide) ?_
      exact lc_item ⟨hx, hb, hml, hr, hlocks, hown, hts, hK, hN, hZ, hX, hbl⟩ hP hD hS (lv_sub hl [0, 1, 2, 3] rfl)
    have i_26 : y0.toInt ≠ 26 := fun h => j_26 (Int32.toInt_inj.mp (h.trans rfl))
    by_cases j_27 : y0 = 27
    · have i_27 : y0.toInt = 27 := by rw [j_27]; rfl
      subst j_27
      refine lv_tableIn (x := 27) (off := 958) (tgt := 991) hx hb dL_law_33 (by decide) (by decide) rfl (by decide) ?_
      exact lc_copy ⟨hx, hb, hml, hr, hlocks, hown, hts, hK, hN, hZ, hX, hbl⟩ hP hD hS (lv_sub hl [0, 1, 2, 3] rfl)
    have i_27 : y0.toInt ≠ 27 := fun h => j_27 (Int32.toInt_inj.mp (h.trans rfl))
    refine lv_tableOut (x := y0) (tgt := 1054) hx hb dL_law_33 (by omega) (by decide) ?_
    exact lc_tail ⟨hx, hb, hml, hr, hlocks, hown, hts, hK, hN, hZ, hX, hbl⟩ hS (lv_sub hl [0, 1, 2, 3] rfl)

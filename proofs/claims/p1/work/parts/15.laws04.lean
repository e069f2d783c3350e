set_option maxHeartbeats 4000000 in
set_option maxRecDepth 100000 in
theorem lc_copy {p : Program} {l : Launch} {e : Env} {s : State} {m : MethodId} {below : List Frame} {meth : Method} {c : Code} {b : Nat} {xs : Nat → Int32} {g : zG} (C0 : lC g p s m meth c b xs) {ax am : Nat → Nat} {H : Heap} {locs : List Loc} (hP : va_P g.1 vwCl (lW g ax am) H) (hD : va_D (fun q : Nat => s.heap.size ≤ q) (lW g ax am)) (hS : va_S (fun q : Nat => s.heap.size ≤ q) s.heap H locs) {ls : Array Slot} (hl : lv_has ls 4 [(0, .ref b), (1, .ref (ax 0)), (2, .ref (am 0)), (3, .int 0)]) : W p l e room_1 s m #[Value.ref b] below meth c H locs 600000 7302250 (lw_Z below #[Value.ref b] s) (F0 m 991 ls []) := by
  obtain ⟨hx, hb, hml, hr, hlocks, hown, hts, hK, hN, hZ, hX, hbl⟩ := C0
  have hA : ∀ q : Nat, s.heap.size ≤ q → (fun q : Nat => s.heap.size ≤ q) q := fun _ h => h
  have hbA : ¬ (fun q : Nat => s.heap.size ≤ q) b := Nat.not_le.mpr hbl
  have hP := hP.sub (ws' := [((ax 0), .inr (4, [.ref (ax 1), .ref (ax 10), .int 0, .ref (ax 19), .ref (ax 30), .ref (ax 32), .ref (ax 36), .int (-1), .ref (ax 37), .ref (ax 38), .ref (ax 39), .ref (ax 40)])), ((ax 32), .inr (1, [.ref (ax 33), .ref (ax 34), .ref (ax 35)])), ((ax 33), .inl (zI g, 4, .inl (upd (upd (upd (upd (fun _ => 0) 0 (-1)) 1 (-1)) 2 (-1)) 3 (-1)))), ((am 0), .inr (5, [.ref (am 1), .int 0, .ref (am 2), .int 0, .int 0, .ref (am 3), .ref (am 4), .ref (am 5), .ref (am 6), .int 0, .ref (am 7), .ref (am 8), .ref (am 9), .int 0, .ref (am 10), .ref (am 11), .ref (am 12), .ref (am 13), .ref (am 14), .ref (am 15), .ref (am 16), .ref (am 17), .ref (am 18), .ref (am 19), .ref (am 20), .ref (am 21), .ref (am 22)])), ((am 19), .inl (zI g, 4, .inl (upd (upd (upd (upd (fun _ => 0) 0 (-1)) 1 (-1)) 2 (-1)) 3 (-1))))]) [0, 32, 33, 41, 60] rfl
  have hD := hD.sub (ws' := [((ax 0), .inr (4, [.ref (ax 1), .ref (ax 10), .int 0, .ref (ax 19), .ref (ax 30), .ref (ax 32), .ref (ax 36), .int (-1), .ref (ax 37), .ref (ax 38), .ref (ax 39), .ref (ax 40)])), ((ax 32), .inr (1, [.ref (ax 33), .ref (ax 34), .ref (ax 35)])), ((ax 33), .inl (zI g, 4, .inl (upd (upd (upd (upd (fun _ => 0) 0 (-1)) 1 (-1)) 2 (-1)) 3 (-1)))), ((am 0), .inr (5, [.ref (am 1), .int 0, .ref (am 2), .int 0, .int 0, .ref (am 3), .ref (am 4), .ref (am 5), .ref (am 6), .int 0, .ref (am 7), .ref (am 8), .ref (am 9), .int 0, .ref (am 10), .ref (am 11), .ref (am 12), .ref (am 13), .ref (am 14), .ref (am 15), .ref (am 16), .ref (am 17), .ref (am 18), .ref (am 19), .ref (am 20), .ref (am 21), .ref (am 22)])), ((am 19), .inl (zI g, 4, .inl (upd (upd (upd (upd (fun _ => 0) 0 (-1)) 1 (-1)) 2 (-1)) 3 (-1))))]) [0, 32, 33, 41, 60] (by decide) rfl
  refine lv_aload_n hx hb dL_law_991 rfl (lv_at hl 1 rfl) ?_
  refine lv_aload_n hx hb dL_law_992 rfl (lv_at hl 0 rfl) ?_
  refine lv_iload_n hx hb dL_law_993 rfl (lv_at hl 3 rfl) ?_
  refine lv_iconst (v := 1) hx hb dL_law_994 (by decide) ?_
  refine lv_iadd hx hb dL_law_995 ?_
  refine lv_topi (nm_r (e' := 1) (by decide +kernel) ?_)
  refine va_sld hx hb hX hbl hbA hS (vp_in_iff.mpr (by decide +kernel)) dL_law_996 ?_
  refine lv_topi (nm_r (e' := (xs 1)) (by rfl) ?_)
  refine lv_aload_n hx hb dL_law_997 rfl (lv_at hl 0 rfl) ?_
  refine lv_iload_n hx hb dL_law_998 rfl (lv_at hl 3 rfl) ?_
  refine lv_iconst (v := 2) hx hb dL_law_999 (by decide) ?_
  refine lv_iadd hx hb dL_law_1000 ?_
  refine lv_topi (nm_r (e' := 2) (by decide +kernel) ?_)
  refine va_sld hx hb hX hbl hbA hS (vp_in_iff.mpr (by decide +kernel)) dL_law_1001 ?_
  refine lv_topi (nm_r (e' := (xs 2)) (by rfl) ?_)
  refine lv_aload_n hx hb dL_law_1002 rfl (lv_at hl 0 rfl) ?_
  refine lv_iload_n hx hb dL_law_1003 rfl (lv_at hl 3 rfl) ?_
  refine lv_iconst (v := 3) hx hb dL_law_1004 (by decide) ?_
  refine lv_iadd hx hb dL_law_1005 ?_
  refine lv_topi (nm_r (e' := 3) (by decide +kernel) ?_)
  refine va_sld hx hb hX hbl hbA hS (vp_in_iff.mpr (by decide +kernel)) dL_law_1006 ?_
  refine lv_topi (nm_r (e' := (xs 3)) (by rfl) ?_)
  refine lv_aload_n hx hb dL_law_1007 rfl (lv_at hl 0 rfl) ?_
  refine lv_iload_n hx hb dL_law_1008 rfl (lv_at hl 3 rfl) ?_
  refine lv_iconst (v := 4) hx hb dL_law_1009 (by decide) ?_
  refine lv_iadd hx hb dL_law_1010 ?_
  refine lv_topi (nm_r (e' := 4) (by decide +kernel) ?_)
  refine va_sld hx hb hX hbl hbA hS (vp_in_iff.mpr (by decide +kernel)) dL_law_1011 ?_
  refine lv_topi (nm_r (e' := (xs 4)) (by rfl) ?_)
  refine lv_aload_n hx hb dL_law_1012 rfl (lv_at hl 0 rfl) ?_
  refine lv_iload_n hx hb dL_law_1013 rfl (lv_at hl 3 rfl) ?_
  refine lv_iconst (v := 5) hx hb dL_law_1014 (by decide) ?_
  refine lv_iadd hx hb dL_law_1015 ?_
  refine lv_topi (nm_r (e' := 5) (by decide +kernel) ?_)
  refine va_sld hx hb hX hbl hbA hS (vp_in_iff.mpr (by decide +kernel)) dL_law_1016 ?_
  refine lv_topi (nm_r (e' := (xs 5)) (by rfl) ?_)
  refine z_calli (wr := [((am 0), .inr (5, [.ref (am 1), .int 0, .ref (am 2), .int 0, .int 0, .ref (am 3), .ref (am 4), .ref (am 5), .ref (am 6), .int 0, .ref (am 7), .ref (am 8), .ref (am 9), .int 0, .ref (am 10), .ref (am 11), .ref (am 12), .ref (am 13), .ref (am 14), .ref (am 15), .ref (am 16), .ref (am 17), .ref (am 18), .ref (am 19), .ref (am 20), .ref (am 21), .ref (am 22)])), ((am 19), .inl (zI g, 4, .inl (upd (upd (upd (upd (fun _ => 0) 0 (-1)) 1 (-1)) 2 (-1)) 3 (-1))))]) hP hD hS hA [0, 1, 2] [3, 4] (by decide) rfl rfl (by decide) (va_runV (As := [.int (xs 1), .int (xs 2), .int (xs 3), .int (xs 4), .int (xs 5)]) (rest := []) ⟨hx, hb, hml, hown, hts⟩ (kX4_copy l g (ax 0) (ax 1) (ax 10) (ax 19) (ax 30) (ax 32) (ax 36) (ax 37) (ax 38) (ax 39) (ax 40) (ax 33) (ax 34) (ax 35) H.size (xs 1) (xs 2) (xs 3) (xs 4) (xs 5)) ⟨callB_of 5 hts (zGood m_o_yX4_copy) rfl rfl rfl (hts _ m_z_RX4) (hts _ m_m_RL_130) ⟨by decide +kernel, by decide +kernel, by decide +kernel⟩ ⟨Nat.le_of_ble_eq_true rfl, Nat.le_of_ble_eq_true rfl⟩, hts _ m_i_yX4_copy, hts _ m_e_yX4_copy⟩ (zPreV hK hN hZ hP hD hS hA [0, 1, 2] (by decide) rfl rfl 4 0 rfl rfl) rfl rfl hl.1 rfl (lv_room (Nat.le_of_ble_eq_true rfl)) dL_law_1017 ⟨Nat.le_of_ble_eq_true rfl, Nat.le_of_ble_eq_true rfl⟩) (fun r u H locs hw hP hD hS => ?_)
  rcases hw with ⟨i_0, rfl⟩ | ⟨i_1, i_2, rfl⟩ | ⟨i_3, i_4, i_5, rfl⟩ | ⟨i_6, i_7, i_8, i_9, rfl⟩ | ⟨i_10, i_11, i_12, i_13, i_14, rfl⟩ | ⟨i_15, i_16, i_17, i_18, i_19, rfl⟩ | ⟨i_20, i_21, i_22, i_23, i_24, rfl⟩ | ⟨i_25, i_26, i_27, i_28, i_29, rfl⟩
  · skip
    have hP : va_P g.1 vwCl [((am 0), .inr (5, [.ref (am 1), .int 0, .ref (am 2), .int 0, .int 0, .ref (am 3), .ref (am 4), .ref (am 5), .ref (am 6), .int 0, .ref (am 7), .ref (am 8), .ref (am 9), .int 0, .ref (am 10), .ref (am 11), .ref (am 12), .ref (am 13), .ref (am 14), .ref (am 15), .ref (am 16), .ref (am 17), .ref (am 18), .ref (am 19), .ref (am 20), .ref (am 21), .ref (am 22)])), ((am 19), .inl (zI g, 4, .inl (upd (upd (upd (upd (fun _ => 0) 0 (-1)) 1 (-1)) 2 (-1)) 3 (-1))))] H := hP
    have hD : va_D (fun q : Nat => s.heap.size ≤ q) [((am 0), .inr (5, [.ref (am 1), .int 0, .ref (am 2), .int 0, .int 0, .ref (am 3), .ref (am 4), .ref (am 5), .ref (am 6), .int 0, .ref (am 7), .ref (am 8), .ref (am 9), .int 0, .ref (am 10), .ref (am 11), .ref (am 12), .ref (am 13), .ref (am 14), .ref (am 15), .ref (am 16), .ref (am 17), .ref (am 18), .ref (am 19), .ref (am 20), .ref (am 21), .ref (am 22)])), ((am 19), .inl (zI g, 4, .inl (upd (upd (upd (upd (fun _ => 0) 0 (-1)) 1 (-1)) 2 (-1)) 3 (-1))))] := hD
    refine lv_aload_n hx hb dL_law_1020 rfl (lv_at hl 2 rfl) ?_
    refine lv_aload_n hx hb dL_law_1021 rfl (lv_at hl 0 rfl) ?_
    refine lv_iload_n hx hb dL_law_1022 rfl (lv_at hl 3 rfl) ?_
    refine lv_iconst (v := 1) hx hb dL_law_1023 (by decide) ?_
    refine lv_iadd hx hb dL_law_1024 ?_
    refine lv_topi (nm_r (e' := 1) (by decide +kernel) ?_)
    refine va_sld hx hb hX hbl hbA hS (vp_in_iff.mpr (by decide +kernel)) dL_law_1025 ?_
    refine lv_topi (nm_r (e' := (xs 1)) (by rfl) ?_)
    refine lv_aload_n hx hb dL_law_1026 rfl (lv_at hl 0 rfl) ?_
    refine lv_iload_n hx hb dL_law_1027 rfl (lv_at hl 3 rfl) ?_
    refine lv_iconst (v := 2) hx hb dL_law_1028 (by decide) ?_
    refine lv_iadd hx hb dL_law_1029 ?_
    refine lv_topi (nm_r (e' := 2) (by decide +kernel) ?_)
    refine va_sld hx hb hX hbl hbA hS (vp_in_iff.mpr (by decide +kernel)) dL_law_1030 ?_
    refine lv_topi (nm_r (e' := (xs 2)) (by rfl) ?_)
    refine lv_aload_n hx hb dL_law_1031 rfl (lv_at hl 0 rfl) ?_
    refine lv_iload_n hx hb dL_law_1032 rfl (lv_at hl 3 rfl) ?_
    refine lv_iconst (v := 3) hx hb dL_law_1033 (by decide) ?_
    refine lv_iadd hx hb dL_law_1034 ?_
    refine lv_topi (nm_r (e' := 3) (by decide +kernel) ?_)
    refine va_sld hx hb hX hbl hbA hS (vp_in_iff.mpr (by decide +kernel)) dL_law_1035 ?_
    refine lv_topi (nm_r (e' := (xs 3)) (by rfl) ?_)
    refine lv_aload_n hx hb dL_law_1036 rfl (lv_at hl 0 rfl) ?_
    refine lv_iload_n hx hb dL_law_1037 rfl (lv_at hl 3 rfl) ?_
    refine lv_iconst (v := 4) hx hb dL_law_1038 (by decide) ?_
    refine lv_iadd hx hb dL_law_1039 ?_
    refine lv_topi (nm_r (e' := 4) (by decide +kernel) ?_)
    refine va_sld hx hb hX hbl hbA hS (vp_in_iff.mpr (by decide +kernel)) dL_law_1040 ?_
    refine lv_topi (nm_r (e' := (xs 4)) (by rfl) ?_)
    refine lv_aload_n hx hb dL_law_1041 rfl (lv_at hl 0 rfl) ?_
    refine lv_iload_n hx hb dL_law_1042 rfl (lv_at hl 3 rfl) ?_
    refine lv_iconst (v := 5) hx hb dL_law_1043 (by decide) ?_
    refine lv_iadd hx hb dL_law_1044 ?_
    refine lv_topi (nm_r (e' := 5) (by decide +kernel) ?_)
    refine va_sld hx hb hX hbl hbA hS (vp_in_iff.mpr (by decide +kernel)) dL_law_1045 ?_
    refine lv_topi (nm_r (e' := (xs 5)) (by rfl) ?_)
    refine z_calli (wr := []) hP hD hS hA [0, 1] [] (by decide) rfl rfl (by decide) (va_runV (As := [.int (xs 1), .int (xs 2), .int (xs 3), .int (xs 4), .int (xs 5)]) (rest := [.int (-1)]) ⟨hx, hb, hml, hown, hts⟩ (kX5_copy l g (am 0) (am 1) (am 2) (am 3) (am 4) (am 5) (am 6) (am 7) (am 8) (am 9) (am 10) (am 11) (am 12) (am 13) (am 14) (am 15) (am 16) (am 17) (am 18) (am 19) (am 20) (am 21) (am 22) H.size (xs 1) (xs 2) (xs 3) (xs 4) (xs 5)) ⟨callB_of 5 hts (zGood m_o_yX5_copy) rfl rfl rfl (hts _ m_z_RX5) (hts _ m_m_RL_134) ⟨by decide +kernel, by decide +kernel, by decide +kernel⟩ ⟨Nat.le_of_ble_eq_true rfl, Nat.le_of_ble_eq_true rfl⟩, hts _ m_i_yX5_copy, hts _ m_e_yX5_copy⟩ (zPreV hK hN hZ hP hD hS hA [0, 1] (by decide) rfl rfl 5 0 rfl rfl) rfl rfl hl.1 rfl (lv_room (Nat.le_of_ble_eq_true rfl)) dL_law_1046 ⟨Nat.le_of_ble_eq_true rfl, Nat.le_of_ble_eq_true rfl⟩) (fun r u H locs hw hP hD hS => ?_)
    rcases hw with ⟨i_30, rfl⟩ | ⟨i_31, i_32, rfl⟩ | ⟨i_33, i_34, i_35, rfl⟩ | ⟨i_36, i_37, i_38, i_39, rfl⟩ | ⟨i_40, i_41, i_42, i_43, i_44, rfl⟩ | ⟨i_45, i_46, i_47, i_48, i_49, rfl⟩ | ⟨i_50, i_51, i_52, i_53, i_54, rfl⟩ | ⟨i_55, i_56, i_57, i_58, i_59, rfl⟩
    · skip
      have hP : va_P g.1 vwCl [] H := hP
      have hD : va_D (fun q : Nat => s.heap.size ≤ q) [] := hD
      refine lv_icmp_eq (tgt := 1054) hx hb dL_law_1049 (by decide) (fun _ => ?_) (fun h => absurd h (by decide +kernel))
      exact lc_tail ⟨hx, hb, hml, hr, hlocks, hown, hts, hK, hN, hZ, hX, hbl⟩ hS (lv_sub hl [0, 1, 2, 3] rfl)
    · exfalso; omega
    · exfalso; omega
    · exfalso; omega
    · exfalso; omega
    · exfalso; omega
    · exfalso; omega
    · exfalso; omega
  · skip
    have hP : va_P g.1 vwCl [((am 0), .inr (5, [.ref (am 1), .int 0, .ref (am 2), .int 0, .int 0, .ref (am 3), .ref (am 4), .ref (am 5), .ref (am 6), .int 0, .ref (am 7), .ref (am 8), .ref (am 9), .int 0, .ref (am 10), .ref (am 11), .ref (am 12), .ref (am 13), .ref (am 14), .ref (am 15), .ref (am 16), .ref (am 17), .ref (am 18), .ref (am 19), .ref (am 20), .ref (am 21), .ref (am 22)])), ((am 19), .inl (zI g, 4, .inl (upd (upd (upd (upd (fun _ => 0) 0 (-1)) 1 (-1)) 2 (-1)) 3 (-1))))] H := hP
    have hD : va_D (fun q : Nat => s.heap.size ≤ q) [((am 0), .inr (5, [.ref (am 1), .int 0, .ref (am 2), .int 0, .int 0, .ref (am 3), .ref (am 4), .ref (am 5), .ref (am 6), .int 0, .ref (am 7), .ref (am 8), .ref (am 9), .int 0, .ref (am 10), .ref (am 11), .ref (am 12), .ref (am 13), .ref (am 14), .ref (am 15), .ref (am 16), .ref (am 17), .ref (am 18), .ref (am 19), .ref (am 20), .ref (am 21), .ref (am 22)])), ((am 19), .inl (zI g, 4, .inl (upd (upd (upd (upd (fun _ => 0) 0 (-1)) 1 (-1)) 2 (-1)) 3 (-1))))] := hD
    refine lv_aload_n hx hb dL_law_1020 rfl (lv_at hl 2 rfl) ?_
    refine lv_aload_n hx hb dL_law_1021 rfl (lv_at hl 0 rfl) ?_
    refine lv_iload_n hx hb dL_law_1022 rfl (lv_at hl 3 rfl) ?_
    refine lv_iconst (v := 1) hx hb dL_law_1023 (by decide) ?_
    refine lv_iadd hx hb dL_law_1024 ?_
    refine lv_topi (nm_r (e' := 1) (by decide +kernel) ?_)
    refine va_sld hx hb hX hbl hbA hS (vp_in_iff.mpr (by decide +kernel)) dL_law_1025 ?_
    refine lv_topi (nm_r (e' := (xs 1)) (by rfl) ?_)
    refine lv_aload_n hx hb dL_law_1026 rfl (lv_at hl 0 rfl) ?_
    refine lv_iload_n hx hb dL_law_1027 rfl (lv_at hl 3 rfl) ?_
    refine lv_iconst (v := 2) hx hb dL_law_1028 (by decide) ?_
    refine lv_iadd hx hb dL_law_1029 ?_
    refine lv_topi (nm_r (e' := 2) (by decide +kernel) ?_)
    refine va_sld hx hb hX hbl hbA hS (vp_in_iff.mpr (by decide +kernel)) dL_law_1030 ?_
    refine lv_topi (nm_r (e' := (xs 2)) (by rfl) ?_)
    refine lv_aload_n hx hb dL_law_1031 rfl (lv_at hl 0 rfl) ?_
    refine lv_iload_n hx hb dL_law_1032 rfl (lv_at hl 3 rfl) ?_
    refine lv_iconst (v := 3) hx hb dL_law_1033 (by decide) ?_
    refine lv_iadd hx hb dL_law_1034 ?_
    refine lv_topi (nm_r (e' := 3) (by decide +kernel) ?_)
    refine va_sld hx hb hX hbl hbA hS (vp_in_iff.mpr (by decide +kernel)) dL_law_1035 ?_
    refine lv_topi (nm_r (e' := (xs 3)) (by rfl) ?_)
    refine lv_aload_n hx hb dL_law_1036 rfl (lv_at hl 0 rfl) ?_
    refine lv_iload_n hx hb dL_law_1037 rfl (lv_at hl 3 rfl) ?_
    refine lv_iconst (v := 4) hx hb dL_law_1038 (by decide) ?_
    refine lv_iadd hx hb dL_law_1039 ?_
    refine lv_topi (nm_r (e' := 4) (by decide +kernel) ?_)
    refine va_sld hx hb hX hbl hbA hS (vp_in_iff.mpr (by decide +kernel)) dL_law_1040 ?_
    refine lv_topi (nm_r (e' := (xs 4)) (by rfl) ?_)
    refine lv_aload_n hx hb dL_law_1041 rfl (lv_at hl 0 rfl) ?_
    refine lv_iload_n hx hb dL_law_1042 rfl (lv_at hl 3 rfl) ?_
    refine lv_iconst (v := 5) hx hb dL_law_1043 (by decide) ?_
    refine lv_iadd hx hb dL_law_1044 ?_
    refine lv_topi (nm_r (e' := 5) (by decide +kernel) ?_)
    refine va_sld hx hb hX hbl hbA hS (vp_in_iff.mpr (by decide +kernel)) dL_law_1045 ?_
    refine lv_topi (nm_r (e' := (xs 5)) (by rfl) ?_)
    refine z_calli (wr := []) hP hD hS hA [0, 1] [] (by decide) rfl rfl (by decide) (va_runV (As := [.int (xs 1), .int (xs 2), .int (xs 3), .int (xs 4), .int (xs 5)]) (rest := [.int (-1)]) ⟨hx, hb, hml, hown, hts⟩ (kX5_copy l g (am 0) (am 1) (am 2) (am 3) (am 4) (am 5) (am 6) (am 7) (am 8) (am 9) (am 10) (am 11) (am 12) (am 13) (am 14) (am 15) (am 16) (am 17) (am 18) (am 19) (am 20) (am 21) (am 22) H.size (xs 1) (xs 2) (xs 3) (xs 4) (xs 5)) ⟨callB_of 5 hts (zGood m_o_yX5_copy) rfl rfl rfl (hts _ m_z_RX5) (hts _ m_m_RL_134) ⟨by decide +kernel, by decide +kernel, by decide +kernel⟩ ⟨Nat.le_of_ble_eq_true rfl, Nat.le_of_ble_eq_true rfl⟩, hts _ m_i_yX5_copy, hts _ m_e_yX5_copy⟩ (zPreV hK hN hZ hP hD hS hA [0, 1] (by decide) rfl rfl 5 0 rfl rfl) rfl rfl hl.1 rfl (lv_room (Nat.le_of_ble_eq_true rfl)) dL_law_1046 ⟨Nat.le_of_ble_eq_true rfl, Nat.le_of_ble_eq_true rfl⟩) (fun r u H locs hw hP hD hS => ?_)
    rcases hw with ⟨i_60, rfl⟩ | ⟨i_61, i_62, rfl⟩ | ⟨i_63, i_64, i_65, rfl⟩ | ⟨i_66, i_67, i_68, i_69, rfl⟩ | ⟨i_70, i_71, i_72, i_73, i_74, rfl⟩ | ⟨i_75, i_76, i_77, i_78, i_79, rfl⟩ | ⟨i_80, i_81, i_82, i_83, i_84, rfl⟩ | ⟨i_85, i_86, i_87, i_88, i_89, rfl⟩
    · exfalso; omega
    · skip
      have hP : va_P g.1 vwCl [] H := hP
      have hD : va_D (fun q : Nat => s.heap.size ≤ q) [] := hD
      refine lv_icmp_eq (tgt := 1054) hx hb dL_law_1049 (by decide) (fun _ => ?_) (fun h => absurd h (by decide +kernel))
      exact lc_tail ⟨hx, hb, hml, hr, hlocks, hown, hts, hK, hN, hZ, hX, hbl⟩ hS (lv_sub hl [0, 1, 2, 3] rfl)
    · exfalso; omega
    · exfalso; omega
    · exfalso; omega
    · exfalso; omega
    · exfalso; omega
    · exfalso; omega
  · skip
    have hP : va_P g.1 vwCl [((am 0), .inr (5, [.ref (am 1), .int 0, .ref (am 2), .int 0, .int 0, .ref (am 3), .ref (am 4), .ref (am 5), .ref (am 6), .int 0, .ref (am 7), .ref (am 8), .ref (am 9), .int 0, .ref (am 10), .ref (am 11), .ref (am 12), .ref (am 13), .ref (am 14), .ref (am 15), .ref (am 16), .ref (am 17), .ref (am 18), .ref (am 19), .ref (am 20), .ref (am 21), .ref (am 22)])), ((am 19), .inl (zI g, 4, .inl (upd (upd (upd (upd (fun _ => 0) 0 (-1)) 1 (-1)) 2 (-1)) 3 (-1))))] H := hP
    have hD : va_D (fun q : Nat => s.heap.size ≤ q) [((am 0), .inr (5, [.ref (am 1), .int 0, .ref (am 2), .int 0, .int 0, .ref (am 3), .ref (am 4), .ref (am 5), .ref (am 6), .int 0, .ref (am 7), .ref (am 8), .ref (am 9), .int 0, .ref (am 10), .ref (am 11), .ref (am 12), .ref (am 13), .ref (am 14), .ref (am 15), .ref (am 16), .ref (am 17), .ref (am 18), .ref (am 19), .ref (am 20), .ref (am 21), .ref (am 22)])), ((am 19), .inl (zI g, 4, .inl (upd (upd (upd (upd (fun _ => 0) 0 (-1)) 1 (-1)) 2 (-1)) 3 (-1))))] := hD
    refine lv_aload_n hx hb dL_law_1020 rfl (lv_at hl 2 rfl) ?_
    refine lv_aload_n hx hb dL_law_1021 rfl (lv_at hl 0 rfl) ?_
    refine lv_iload_n hx hb dL_law_1022 rfl (lv_at hl 3 rfl) ?_
    refine lv_iconst (v := 1) hx hb dL_law_1023 (by decide) ?_
    refine lv_iadd hx hb dL_law_1024 ?_
    refine lv_topi (nm_r (e' := 1) (by decide +kernel) ?_)
    refine va_sld hx hb hX hbl hbA hS (vp_in_iff.mpr (by decide +kernel)) dL_law_1025 ?_
    refine lv_topi (nm_r (e' := (xs 1)) (by rfl) ?_)
    refine lv_aload_n hx hb dL_law_1026 rfl (lv_at hl 0 rfl) ?_
    refine lv_iload_n hx hb dL_law_1027 rfl (lv_at hl 3 rfl) ?_
    refine lv_iconst (v := 2) hx hb dL_law_1028 (by decide) ?_
    refine lv_iadd hx hb dL_law_1029 ?_
    refine lv_topi (nm_r (e' := 2) (by decide +kernel) ?_)
    refine va_sld hx hb hX hbl hbA hS (vp_in_iff.mpr (by decide +kernel)) dL_law_1030 ?_
    refine lv_topi (nm_r (e' := (xs 2)) (by rfl) ?_)
    refine lv_aload_n hx hb dL_law_1031 rfl (lv_at hl 0 rfl) ?_
    refine lv_iload_n hx hb dL_law_1032 rfl (lv_at hl 3 rfl) ?_
    refine lv_iconst (v := 3) hx hb dL_law_1033 (by decide) ?_
    refine lv_iadd hx hb dL_law_1034 ?_
    refine lv_topi (nm_r (e' := 3) (by decide +kernel) ?_)
    refine va_sld hx hb hX hbl hbA hS (vp_in_iff.mpr (by decide +kernel)) dL_law_1035 ?_
    refine lv_topi (nm_r (e' := (xs 3)) (by rfl) ?_)
    refine lv_aload_n hx hb dL_law_1036 rfl (lv_at hl 0 rfl) ?_
    refine lv_iload_n hx hb dL_law_1037 rfl (lv_at hl 3 rfl) ?_
    refine lv_iconst (v := 4) hx hb dL_law_1038 (by decide) ?_
    refine lv_iadd hx hb dL_law_1039 ?_
    refine lv_topi (nm_r (e' := 4) (by decide +kernel) ?_)
    refine va_sld hx hb hX hbl hbA hS (vp_in_iff.mpr (by decide +kernel)) dL_law_1040 ?_
    refine lv_topi (nm_r (e' := (xs 4)) (by rfl) ?_)
    refine lv_aload_n hx hb dL_law_1041 rfl (lv_at hl 0 rfl) ?_
    refine lv_iload_n hx hb dL_law_1042 rfl (lv_at hl 3 rfl) ?_
    refine lv_iconst (v := 5) hx hb dL_law_1043 (by decide) ?_
    refine lv_iadd hx hb dL_law_1044 ?_
    refine lv_topi (nm_r (e' := 5) (by decide +kernel) ?_)
    refine va_sld hx hb hX hbl hbA hS (vp_in_iff.mpr (by decide +kernel)) dL_law_1045 ?_
    refine lv_topi (nm_r (e' := (xs 5)) (by rfl) ?_)
    refine z_calli (wr := []) hP hD hS hA [0, 1] [] (by decide) rfl rfl (by decide) (va_runV (As := [.int (xs 1), .int (xs 2), .int (xs 3), .int (xs 4), .int (xs 5)]) (rest := [.int (-1)]) ⟨hx, hb, hml, hown, hts⟩ (kX5_copy l g (am 0) (am 1) (am 2) (am 3) (am 4) (am 5) (am 6) (am 7) (am 8) (am 9) (am 10) (am 11) (am 12) (am 13) (am 14) (am 15) (am 16) (am 17) (am 18) (am 19) (am 20) (am 21) (am 22) H.size (xs 1) (xs 2) (xs 3) (xs 4) (xs 5)) ⟨callB_of 5 hts (zGood m_o_yX5_copy) rfl rfl rfl (hts _ m_z_RX5) (hts _ m_m_RL_134) ⟨by decide +kernel, by decide +kernel, by decide +kernel⟩ ⟨Nat.le_of_ble_eq_true rfl, Nat.le_of_ble_eq_true rfl⟩, hts _ m_i_yX5_copy, hts _ m_e_yX5_copy⟩ (zPreV hK hN hZ hP hD hS hA [0, 1] (by decide) rfl rfl 5 0 rfl rfl) rfl rfl hl.1 rfl (lv_room (Nat.le_of_ble_eq_true rfl)) dL_law_1046 ⟨Nat.le_of_ble_eq_true rfl, Nat.le_of_ble_eq_true rfl⟩) (fun r u H locs hw hP hD hS => ?_)
    rcases hw with ⟨i_90, rfl⟩ | ⟨i_91, i_92, rfl⟩ | ⟨i_93, i_94, i_95, rfl⟩ | ⟨i_96, i_97, i_98, i_99, rfl⟩ | ⟨i_100, i_101, i_102, i_103, i_104, rfl⟩ | ⟨i_105, i_106, i_107, i_108, i_109, rfl⟩ | ⟨i_110, i_111, i_112, i_113, i_114, rfl⟩ | ⟨i_115, i_116, i_117, i_118, i_119, rfl⟩
    · exfalso; omega
    · exfalso; omega
    · skip
      have hP : va_P g.1 vwCl [] H := hP
      have hD : va_D (fun q : Nat => s.heap.size ≤ q) [] := hD
      refine lv_icmp_eq (tgt := 1054) hx hb dL_law_1049 (by decide) (fun _ => ?_) (fun h => absurd h (by decide +kernel))
      exact lc_tail ⟨hx, hb, hml, hr, hlocks, hown, hts, hK, hN, hZ, hX, hbl⟩ hS (lv_sub hl [0, 1, 2, 3] rfl)
    · exfalso; omega
    · exfalso; omega
    · exfalso; omega
    · exfalso; omega
    · exfalso; omega
  · skip
    have hP : va_P g.1 vwCl [((am 0), .inr (5, [.ref (am 1), .int 0, .ref (am 2), .int 0, .int 0, .ref (am 3), .ref (am 4), .ref (am 5), .ref (am 6), .int 0, .ref (am 7), .ref (am 8), .ref (am 9), .int 0, .ref (am 10), .ref (am 11), .ref (am 12), .ref (am 13), .ref (am 14), .ref (am 15), .ref (am 16), .ref (am 17), .ref (am 18), .ref (am 19), .ref (am 20), .ref (am 21), .ref (am 22)])), ((am 19), .inl (zI g, 4, .inl (upd (upd (upd (upd (fun _ => 0) 0 (-1)) 1 (-1)) 2 (-1)) 3 (-1))))] H := hP
    have hD : va_D (fun q : Nat => s.heap.size ≤ q) [((am 0), .inr (5, [.ref (am 1), .int 0, .ref (am 2), .int 0, .int 0, .ref (am 3), .ref (am 4), .ref (am 5), .ref (am 6), .int 0, .ref (am 7), .ref (am 8), .ref (am 9), .int 0, .ref (am 10), .ref (am 11), .ref (am 12), .ref (am 13), .ref (am 14), .ref (am 15), .ref (am 16), .ref (am 17), .ref (am 18), .ref (am 19), .ref (am 20), .ref (am 21), .ref (am 22)])), ((am 19), .inl (zI g, 4, .inl (upd (upd (upd (upd (fun _ => 0) 0 (-1)) 1 (-1)) 2 (-1)) 3 (-1))))] := hD
    refine lv_aload_n hx hb dL_law_1020 rfl (lv_at hl 2 rfl) ?_
    refine lv_aload_n hx hb dL_law_1021 rfl (lv_at hl 0 rfl) ?_
    refine lv_iload_n hx hb dL_law_1022 rfl (lv_at hl 3 rfl) ?_
    refine lv_iconst (v := 1) hx hb dL_law_1023 (by decide) ?_
    refine lv_iadd hx hb dL_law_1024 ?_
    refine lv_topi (nm_r (e' := 1) (by decide +kernel) ?_)
    refine va_sld hx hb hX hbl hbA hS (vp_in_iff.mpr (by decide +kernel)) dL_law_1025 ?_
    refine lv_topi (nm_r (e' := (xs 1)) (by rfl) ?_)
    refine lv_aload_n hx hb dL_law_1026 rfl (lv_at hl 0 rfl) ?_
    refine lv_iload_n hx hb dL_law_1027 rfl (lv_at hl 3 rfl) ?_
    refine lv_iconst (v := 2) hx hb dL_law_1028 (by decide) ?_
    refine lv_iadd hx hb dL_law_1029 ?_
    refine lv_topi (nm_r (e' := 2) (by decide +kernel) ?_)
    refine va_sld hx hb hX hbl hbA hS (vp_in_iff.mpr (by decide +kernel)) dL_law_1030 ?_
    refine lv_topi (nm_r (e' := (xs 2)) (by rfl) ?_)
    refine lv_aload_n hx hb dL_law_1031 rfl (lv_at hl 0 rfl) ?_
    refine lv_iload_n hx hb dL_law_1032 rfl (lv_at hl 3 rfl) ?_
    refine lv_iconst (v := 3) hx hb dL_law_1033 (by decide) ?_
    refine lv_iadd hx hb dL_law_1034 ?_
    refine lv_topi (nm_r (e' := 3) (by decide +kernel) ?_)
    refine va_sld hx hb hX hbl hbA hS (vp_in_iff.mpr (by decide +kernel)) dL_law_1035 ?_
    refine lv_topi (nm_r (e' := (xs 3)) (by rfl) ?_)
    refine lv_aload_n hx hb dL_law_1036 rfl (lv_at hl 0 rfl) ?_
    refine lv_iload_n hx hb dL_law_1037 rfl (lv_at hl 3 rfl) ?_
    refine lv_iconst (v := 4) hx hb dL_law_1038 (by decide) ?_
    refine lv_iadd hx hb dL_law_1039 ?_
    refine lv_topi (nm_r (e' := 4) (by decide +kernel) ?_)
    refine va_sld hx hb hX hbl hbA hS (vp_in_iff.mpr (by decide +kernel)) dL_law_1040 ?_
    refine lv_topi (nm_r (e' := (xs 4)) (by rfl) ?_)
    refine lv_aload_n hx hb dL_law_1041 rfl (lv_at hl 0 rfl) ?_
    refine lv_iload_n hx hb dL_law_1042 rfl (lv_at hl 3 rfl) ?_
    refine lv_iconst (v := 5) hx hb dL_law_1043 (by decide) ?_
    refine lv_iadd hx hb dL_law_1044 ?_
    refine lv_topi (nm_r (e' := 5) (by decide +kernel) ?_)
    refine va_sld hx hb hX hbl hbA hS (vp_in_iff.mpr (by decide +kernel)) dL_law_1045 ?_
    refine lv_topi (nm_r (e' := (xs 5)) (by rfl) ?_)
    refine z_calli (wr := []) hP hD hS hA [0, 1] [] (by decide) rfl rfl (by decide) (va_runV (As := [.int (xs 1), .int (xs 2), .int (xs 3), .int (xs 4), .int (xs 5)]) (rest := [.int (-1)]) ⟨hx, hb, hml, hown, hts⟩ (kX5_copy l g (am 0) (am 1) (am 2) (am 3) (am 4) (am 5) (am 6) (am 7) (am 8) (am 9) (am 10) (am 11) (am 12) (am 13) (am 14) (am 15) (am 16) (am 17) (am 18) (am 19) (am 20) (am 21) (am 22) H.size (xs 1) (xs 2) (xs 3) (xs 4) (xs 5)) ⟨callB_of 5 hts (zGood m_o_yX5_copy) rfl rfl rfl (hts _ m_z_RX5) (hts _ m_m_RL_134) ⟨by decide +kernel, by decide +kernel, by decide +kernel⟩ ⟨Nat.le_of_ble_eq_true rfl, Nat.le_of_ble_eq_true rfl⟩, hts _ m_i_yX5_copy, hts _ m_e_yX5_copy⟩ (zPreV hK hN hZ hP hD hS hA [0, 1] (by decide) rfl rfl 5 0 rfl rfl) rfl rfl hl.1 rfl (lv_room (Nat.le_of_ble_eq_true rfl)) dL_law_1046 ⟨Nat.le_of_ble_eq_true rfl, Nat.le_of_ble_eq_true rfl⟩) (fun r u H locs hw hP hD hS => ?_)
    rcases hw with ⟨i_120, rfl⟩ | ⟨i_121, i_122, rfl⟩ | ⟨i_123, i_124, i_125, rfl⟩ | ⟨i_126, i_127, i_128, i_129, rfl⟩ | ⟨i_130, i_131, i_132, i_133, i_134, rfl⟩ | ⟨i_135, i_136, i_137, i_138, i_139, rfl⟩ | ⟨i_140, i_141, i_142, i_143, i_144, rfl⟩ | ⟨i_145, i_146, i_147, i_148, i_149, rfl⟩
    · exfalso; omega
    · exfalso; omega
    · exfalso; omega
    · skip
      have hP : va_P g.1 vwCl [] H := hP
      have hD : va_D (fun q : Nat => s.heap.size ≤ q) [] := hD
      refine lv_icmp_eq (tgt := 1054) hx hb dL_law_1049 (by decide) (fun _ => ?_) (fun h => absurd h (by decide +kernel))
      exact lc_tail ⟨hx, hb, hml, hr, hlocks, hown, hts, hK, hN, hZ, hX, hbl⟩ hS (lv_sub hl [0, 1, 2, 3] rfl)
    · exfalso; omega
    · exfalso; omega
    · exfalso; omega
    · exfalso; omega
  · skip
    have hP : va_P g.1 vwCl [((am 0), .inr (5, [.ref (am 1), .int 0, .ref (am 2), .int 0, .int 0, .ref (am 3), .ref (am 4), .ref (am 5), .ref (am 6), .int 0, .ref (am 7), .ref (am 8), .ref (am 9), .int 0, .ref (am 10), .ref (am 11), .ref (am 12), .ref (am 13), .ref (am 14), .ref (am 15), .ref (am 16), .ref (am 17), .ref (am 18), .ref (am 19), .ref (am 20), .ref (am 21), .ref (am 22)])), ((am 19), .inl (zI g, 4, .inl (upd (upd (upd (upd (fun _ => 0) 0 (-1)) 1 (-1)) 2 (-1)) 3 (-1))))] H := hP
    have hD : va_D (fun q : Nat => s.heap.size ≤ q) [((am 0), .inr (5, [.ref (am 1), .int 0, .ref (am 2), .int 0, .int 0, .ref (am 3), .ref (am 4), .ref (am 5), .ref (am 6), .int 0, .ref (am 7), .ref (am 8), .ref (am 9), .int 0, .ref (am 10), .ref (am 11), .ref (am 12), .ref (am 13), .ref (am 14), .ref (am 15), .ref (am 16), .ref (am 17), .ref (am 18), .ref (am 19), .ref (am 20), .ref (am 21), .ref (am 22)])), ((am 19), .inl (zI g, 4, .inl (upd (upd (upd (upd (fun _ => 0) 0 (-1)) 1 (-1)) 2 (-1)) 3 (-1))))] := hD
    refine lv_aload_n hx hb dL_law_1020 rfl (lv_at hl 2 rfl) ?_
    refine lv_aload_n hx hb dL_law_1021 rfl (lv_at hl 0 rfl) ?_
    refine lv_iload_n hx hb dL_law_1022 rfl (lv_at hl 3 rfl) ?_
    refine lv_iconst (v := 1) hx hb dL_law_1023 (by decide) ?_
    refine lv_iadd hx hb dL_law_1024 ?_
    refine lv_topi (nm_r (e' := 1) (by decide +kernel) ?_)
    refine va_sld hx hb hX hbl hbA hS (vp_in_iff.mpr (by decide +kernel)) dL_law_1025 ?_
    refine lv_topi (nm_r (e' := (xs 1)) (by rfl) ?_)
    refine lv_aload_n hx hb dL_law_1026 rfl (lv_at hl 0 rfl) ?_
    refine lv_iload_n hx hb dL_law_1027 rfl (lv_at hl 3 rfl) ?_
    refine lv_iconst (v := 2) hx hb dL_law_1028 (by decide) ?_
    refine lv_iadd hx hb dL_law_1029 ?_
    refine lv_topi (nm_r (e' := 2) (by decide +kernel) ?_)
    refine va_sld hx hb hX hbl hbA hS (vp_in_iff.mpr (by decide +kernel)) dL_law_1030 ?_
    refine lv_topi (nm_r (e' := (xs 2)) (by rfl) ?_)
    refine lv_aload_n hx hb dL_law_1031 rfl (lv_at hl 0 rfl) ?_
    refine lv_iload_n hx hb dL_law_1032 rfl (lv_at hl 3 rfl) ?_
    refine lv_iconst (v := 3) hx hb dL_law_1033 (by decide) ?_
    refine lv_iadd hx hb dL_law_1034 ?_
    refine lv_topi (nm_r (e' := 3) (by decide +kernel) ?_)
    refine va_sld hx hb hX hbl hbA hS (vp_in_iff.mpr (by decide +kernel)) dL_law_1035 ?_
    refine lv_topi (nm_r (e' := (xs 3)) (by rfl) ?_)
    refine lv_aload_n hx hb dL_law_1036 rfl (lv_at hl 0 rfl) ?_
    refine lv_iload_n hx hb dL_law_1037 rfl (lv_at hl 3 rfl) ?_
    refine lv_iconst (v := 4) hx hb dL_law_1038 (by decide) ?_
    refine lv_iadd hx hb dL_law_1039 ?_
    refine lv_topi (nm_r (e' := 4) (by decide +kernel) ?_)
    refine va_sld hx hb hX hbl hbA hS (vp_in_iff.mpr (by decide +kernel)) dL_law_1040 ?_
    refine lv_topi (nm_r (e' := (xs 4)) (by rfl) ?_)
    refine lv_aload_n hx hb dL_law_1041 rfl (lv_at hl 0 rfl) ?_
    refine lv_iload_n hx hb dL_law_1042 rfl (lv_at hl 3 rfl) ?_
    refine lv_iconst (v := 5) hx hb dL_law_1043 (by decide) ?_
    refine lv_iadd hx hb dL_law_1044 ?_
    refine lv_topi (nm_r (e' := 5) (by decide +kernel) ?_)
    refine va_sld hx hb hX hbl hbA hS (vp_in_iff.mpr (by decide +kernel)) dL_law_1045 ?_
    refine lv_topi (nm_r (e' := (xs 5)) (by rfl) ?_)
    refine z_calli (wr := []) hP hD hS hA [0, 1] [] (by decide) rfl rfl (by decide) (va_runV (As := [.int (xs 1), .int (xs 2), .int (xs 3), .int (xs 4), .int (xs 5)]) (rest := [.int (-11)]) ⟨hx, hb, hml, hown, hts⟩ (kX5_copy l g (am 0) (am 1) (am 2) (am 3) (am 4) (am 5) (am 6) (am 7) (am 8) (am 9) (am 10) (am 11) (am 12) (am 13) (am 14) (am 15) (am 16) (am 17) (am 18) (am 19) (am 20) (am 21) (am 22) H.size (xs 1) (xs 2) (xs 3) (xs 4) (xs 5)) ⟨callB_of 5 hts (zGood m_o_yX5_copy) rfl rfl rfl (hts _ m_z_RX5) (hts _ m_m_RL_134) ⟨by decide +kernel, by decide +kernel, by decide +kernel⟩ ⟨Nat.le_of_ble_eq_true rfl, Nat.le_of_ble_eq_true rfl⟩, hts _ m_i_yX5_copy, hts _ m_e_yX5_copy⟩ (zPreV hK hN hZ hP hD hS hA [0, 1] (by decide) rfl rfl 5 0 rfl rfl) rfl rfl hl.1 rfl (lv_room (Nat.le_of_ble_eq_true rfl)) dL_law_1046 ⟨Nat.le_of_ble_eq_true rfl, Nat.le_of_ble_eq_true rfl⟩) (fun r u H locs hw hP hD hS => ?_)
    rcases hw with ⟨i_150, rfl⟩ | ⟨i_151, i_152, rfl⟩ | ⟨i_153, i_154, i_155, rfl⟩ | ⟨i_156, i_157, i_158, i_159, rfl⟩ | ⟨i_160, i_161, i_162, i_163, i_164, rfl⟩ | ⟨i_165, i_166, i_167, i_168, i_169, rfl⟩ | ⟨i_170, i_171, i_172, i_173, i_174, rfl⟩ | ⟨i_175, i_176, i_177, i_178, i_179, rfl⟩
    · exfalso; omega
    · exfalso; omega
    · exfalso; omega
    · exfalso; omega
    · skip
      have hP : va_P g.1 vwCl [] H := hP
      have hD : va_D (fun q : Nat => s.heap.size ≤ q) [] := hD
      refine lv_icmp_eq (tgt := 1054) hx hb dL_law_1049 (by decide) (fun _ => ?_) (fun h => absurd h (by decide +kernel))
      exact lc_tail ⟨hx, hb, hml, hr, hlocks, hown, hts, hK, hN, hZ, hX, hbl⟩ hS (lv_sub hl [0, 1, 2, 3] rfl)
    · exfalso; omega
    · exfalso; omega
    · exfalso; omega
  · skip
    have hP : va_P g.1 vwCl [((am 0), .inr (5, [.ref (am 1), .int 0, .ref (am 2), .int 0, .int 0, .ref (am 3), .ref (am 4), .ref (am 5), .ref (am 6), .int 0, .ref (am 7), .ref (am 8), .ref (am 9), .int 0, .ref (am 10), .ref (am 11), .ref (am 12), .ref (am 13), .ref (am 14), .ref (am 15), .ref (am 16), .ref (am 17), .ref (am 18), .ref (am 19), .ref (am 20), .ref (am 21), .ref (am 22)])), ((am 19), .inl (zI g, 4, .inl (upd (upd (upd (upd (fun _ => 0) 0 (-1)) 1 (-1)) 2 (-1)) 3 (-1))))] H := hP
    have hD : va_D (fun q : Nat => s.heap.size ≤ q) [((am 0), .inr (5, [.ref (am 1), .int 0, .ref (am 2), .int 0, .int 0, .ref (am 3), .ref (am 4), .ref (am 5), .ref (am 6), .int 0, .ref (am 7), .ref (am 8), .ref (am 9), .int 0, .ref (am 10), .ref (am 11), .ref (am 12), .ref (am 13), .ref (am 14), .ref (am 15), .ref (am 16), .ref (am 17), .ref (am 18), .ref (am 19), .ref (am 20), .ref (am 21), .ref (am 22)])), ((am 19), .inl (zI g, 4, .inl (upd (upd (upd (upd (fun _ => 0) 0 (-1)) 1 (-1)) 2 (-1)) 3 (-1))))] := hD
    refine lv_aload_n hx hb dL_law_1020 rfl (lv_at hl 2 rfl) ?_
    refine lv_aload_n hx hb dL_law_1021 rfl (lv_at hl 0 rfl) ?_
    refine lv_iload_n hx hb dL_law_1022 rfl (lv_at hl 3 rfl) ?_
    refine lv_iconst (v := 1) hx hb dL_law_1023 (by decide) ?_
    refine lv_iadd hx hb dL_law_1024 ?_
    refine lv_topi (nm_r (e' := 1) (by decide +kernel) ?_)
    refine va_sld hx hb hX hbl hbA hS (vp_in_iff.mpr (by decide +kernel)) dL_law_1025 ?_
    refine lv_topi (nm_r (e' := (xs 1)) (by rfl) ?_)
    refine lv_aload_n hx hb dL_law_1026 rfl (lv_at hl 0 rfl) ?_
    refine lv_iload_n hx hb dL_law_1027 rfl (lv_at hl 3 rfl) ?_
    refine lv_iconst (v := 2) hx hb dL_law_1028 (by decide) ?_
    refine lv_iadd hx hb dL_law_1029 ?_
    refine lv_topi (nm_r (e' := 2) (by decide +kernel) ?_)
    refine va_sld hx hb hX hbl hbA hS (vp_in_iff.mpr (by decide +kernel)) dL_law_1030 ?_
    refine lv_topi (nm_r (e' := (xs 2)) (by rfl) ?_)
    refine lv_aload_n hx hb dL_law_1031 rfl (lv_at hl 0 rfl) ?_
    refine lv_iload_n hx hb dL_law_1032 rfl (lv_at hl 3 rfl) ?_
    refine lv_iconst (v := 3) hx hb dL_law_1033 (by decide) ?_
    refine lv_iadd hx hb dL_law_1034 ?_
    refine lv_topi (nm_r (e' := 3) (by decide +kernel) ?_)
    refine va_sld hx hb hX hbl hbA hS (vp_in_iff.mpr (by decide +kernel)) dL_law_1035 ?_
    refine lv_topi (nm_r (e' := (xs 3)) (by rfl) ?_)
    refine lv_aload_n hx hb dL_law_1036 rfl (lv_at hl 0 rfl) ?_
    refine lv_iload_n hx hb dL_law_1037 rfl (lv_at hl 3 rfl) ?_
    refine lv_iconst (v := 4) hx hb dL_law_1038 (by decide) ?_
    refine lv_iadd hx hb dL_law_1039 ?_
    refine lv_topi (nm_r (e' := 4) (by decide +kernel) ?_)
    refine va_sld hx hb hX hbl hbA hS (vp_in_iff.mpr (by decide +kernel)) dL_law_1040 ?_
    refine lv_topi (nm_r (e' := (xs 4)) (by rfl) ?_)
    refine lv_aload_n hx hb dL_law_1041 rfl (lv_at hl 0 rfl) ?_
    refine lv_iload_n hx hb dL_law_1042 rfl (lv_at hl 3 rfl) ?_
    refine lv_iconst (v := 5) hx hb dL_law_1043 (by decide) ?_
    refine lv_iadd hx hb dL_law_1044 ?_
    refine lv_topi (nm_r (e' := 5) (by decide +kernel) ?_)
    refine va_sld hx hb hX hbl hbA hS (vp_in_iff.mpr (by decide +kernel)) dL_law_1045 ?_
    refine lv_topi (nm_r (e' := (xs 5)) (by rfl) ?_)
    refine z_calli (wr := []) hP hD hS hA [0, 1] [] (by decide) rfl rfl (by decide) (va_runV (As := [.int (xs 1), .int (xs 2), .int (xs 3), .int (xs 4), .int (xs 5)]) (rest := [.int (-11)]) ⟨hx, hb, hml, hown, hts⟩ (kX5_copy l g (am 0) (am 1) (am 2) (am 3) (am 4) (am 5) (am 6) (am 7) (am 8) (am 9) (am 10) (am 11) (am 12) (am 13) (am 14) (am 15) (am 16) (am 17) (am 18) (am 19) (am 20) (am 21) (am 22) H.size (xs 1) (xs 2) (xs 3) (xs 4) (xs 5)) ⟨callB_of 5 hts (zGood m_o_yX5_copy) rfl rfl rfl (hts _ m_z_RX5) (hts _ m_m_RL_134) ⟨by decide +kernel, by decide +kernel, by decide +kernel⟩ ⟨Nat.le_of_ble_eq_true rfl, Nat.le_of_ble_eq_true rfl⟩, hts _ m_i_yX5_copy, hts _ m_e_yX5_copy⟩ (zPreV hK hN hZ hP hD hS hA [0, 1] (by decide) rfl rfl 5 0 rfl rfl) rfl rfl hl.1 rfl (lv_room (Nat.le_of_ble_eq_true rfl)) dL_law_1046 ⟨Nat.le_of_ble_eq_true rfl, Nat.le_of_ble_eq_true rfl⟩) (fun r u H locs hw hP hD hS => ?_)
    rcases hw with ⟨i_180, rfl⟩ | ⟨i_181, i_182, rfl⟩ | ⟨i_183, i_184, i_185, rfl⟩ | ⟨i_186, i_187, i_188, i_189, rfl⟩ | ⟨i_190, i_191, i_192, i_193, i_194, rfl⟩ | ⟨i_195, i_196, i_197, i_198, i_199, rfl⟩ | ⟨i_200, i_201, i_202, i_203, i_204, rfl⟩ | ⟨i_205, i_206, i_207, i_208, i_209, rfl⟩
    · exfalso; omega
    · exfalso; omega
    · exfalso; omega
    · exfalso; omega
    · exfalso; omega
    · skip
      have hP : va_P g.1 vwCl [] H := hP
      have hD : va_D (fun q : Nat => s.heap.size ≤ q) [] := hD
      refine lv_icmp_eq (tgt := 1054) hx hb dL_law_1049 (by decide) (fun _ => ?_) (fun h => absurd h (by decide +kernel))
      exact lc_tail ⟨hx, hb, hml, hr, hlocks, hown, hts, hK, hN, hZ, hX, hbl⟩ hS (lv_sub hl [0, 1, 2, 3] rfl)
    · exfalso; omega
    · exfalso; omega
  · skip
    have hP : va_P g.1 vwCl [((am 0), .inr (5, [.ref (am 1), .int 0, .ref (am 2), .int 0, .int 0, .ref (am 3), .ref (am 4), .ref (am 5), .ref (am 6), .int 0, .ref (am 7), .ref (am 8), .ref (am 9), .int 0, .ref (am 10), .ref (am 11), .ref (am 12), .ref (am 13), .ref (am 14), .ref (am 15), .ref (am 16), .ref (am 17), .ref (am 18), .ref (am 19), .ref (am 20), .ref (am 21), .ref (am 22)])), ((am 19), .inl (zI g, 4, .inl (upd (upd (upd (upd (fun _ => 0) 0 (-1)) 1 (-1)) 2 (-1)) 3 (-1))))] H := hP
    have hD : va_D (fun q : Nat => s.heap.size ≤ q) [((am 0), .inr (5, [.ref (am 1), .int 0, .ref (am 2), .int 0, .int 0, .ref (am 3), .ref (am 4), .ref (am 5), .ref (am 6), .int 0, .ref (am 7), .ref (am 8), .ref (am 9), .int 0, .ref (am 10), .ref (am 11), .ref (am 12), .ref (am 13), .ref (am 14), .ref (am 15), .ref (am 16), .ref (am 17), .ref (am 18), .ref (am 19), .ref (am 20), .ref (am 21), .ref (am 22)])), ((am 19), .inl (zI g, 4, .inl (upd (upd (upd (upd (fun _ => 0) 0 (-1)) 1 (-1)) 2 (-1)) 3 (-1))))] := hD
    refine lv_aload_n hx hb dL_law_1020 rfl (lv_at hl 2 rfl) ?_
    refine lv_aload_n hx hb dL_law_1021 rfl (lv_at hl 0 rfl) ?_
    refine lv_iload_n hx hb dL_law_1022 rfl (lv_at hl 3 rfl) ?_
    refine lv_iconst (v := 1) hx hb dL_law_1023 (by decide) ?_
    refine lv_iadd hx hb dL_law_1024 ?_
    refine lv_topi (nm_r (e' := 1) (by decide +kernel) ?_)
    refine va_sld hx hb hX hbl hbA hS (vp_in_iff.mpr (by decide +kernel)) dL_law_1025 ?_
    refine lv_topi (nm_r (e' := (xs 1)) (by rfl) ?_)
    refine lv_aload_n hx hb dL_law_1026 rfl (lv_at hl 0 rfl) ?_
    refine lv_iload_n hx hb dL_law_1027 rfl (lv_at hl 3 rfl) ?_
    refine lv_iconst (v := 2) hx hb dL_law_1028 (by decide) ?_
    refine lv_iadd hx hb dL_law_1029 ?_
    refine lv_topi (nm_r (e' := 2) (by decide +kernel) ?_)
    refine va_sld hx hb hX hbl hbA hS (vp_in_iff.mpr (by decide +kernel)) dL_law_1030 ?_
    refine lv_topi (nm_r (e' := (xs 2)) (by rfl) ?_)
    refine lv_aload_n hx hb dL_law_1031 rfl (lv_at hl 0 rfl) ?_
    refine lv_iload_n hx hb dL_law_1032 rfl (lv_at hl 3 rfl) ?_
    refine lv_iconst (v := 3) hx hb dL_law_1033 (by decide) ?_
    refine lv_iadd hx hb dL_law_1034 ?_
    refine lv_topi (nm_r (e' := 3) (by decide +kernel) ?_)
    refine va_sld hx hb hX hbl hbA hS (vp_in_iff.mpr (by decide +kernel)) dL_law_1035 ?_
    refine lv_topi (nm_r (e' := (xs 3)) (by rfl) ?_)
    refine lv_aload_n hx hb dL_law_1036 rfl (lv_at hl 0 rfl) ?_
    refine lv_iload_n hx hb dL_law_1037 rfl (lv_at hl 3 rfl) ?_
    refine lv_iconst (v := 4) hx hb dL_law_1038 (by decide) ?_
    refine lv_iadd hx hb dL_law_1039 ?_
    refine lv_topi (nm_r (e' := 4) (by decide +kernel) ?_)
    refine va_sld hx hb hX hbl hbA hS (vp_in_iff.mpr (by decide +kernel)) dL_law_1040 ?_
    refine lv_topi (nm_r (e' := (xs 4)) (by rfl) ?_)
    refine lv_aload_n hx hb dL_law_1041 rfl (lv_at hl 0 rfl) ?_
    refine lv_iload_n hx hb dL_law_1042 rfl (lv_at hl 3 rfl) ?_
    refine lv_iconst (v := 5) hx hb dL_law_1043 (by decide) ?_
    refine lv_iadd hx hb dL_law_1044 ?_
    refine lv_topi (nm_r (e' := 5) (by decide +kernel) ?_)
    refine va_sld hx hb hX hbl hbA hS (vp_in_iff.mpr (by decide +kernel)) dL_law_1045 ?_
    refine lv_topi (nm_r (e' := (xs 5)) (by rfl) ?_)
    refine z_calli (wr := []) hP hD hS hA [0, 1] [] (by decide) rfl rfl (by decide) (va_runV (As := [.int (xs 1), .int (xs 2), .int (xs 3), .int (xs 4), .int (xs 5)]) (rest := [.int (-11)]) ⟨hx, hb, hml, hown, hts⟩ (kX5_copy l g (am 0) (am 1) (am 2) (am 3) (am 4) (am 5) (am 6) (am 7) (am 8) (am 9) (am 10) (am 11) (am 12) (am 13) (am 14) (am 15) (am 16) (am 17) (am 18) (am 19) (am 20) (am 21) (am 22) H.size (xs 1) (xs 2) (xs 3) (xs 4) (xs 5)) ⟨callB_of 5 hts (zGood m_o_yX5_copy) rfl rfl rfl (hts _ m_z_RX5) (hts _ m_m_RL_134) ⟨by decide +kernel, by decide +kernel, by decide +kernel⟩ ⟨Nat.le_of_ble_eq_true rfl, Nat.le_of_ble_eq_true rfl⟩, hts _ m_i_yX5_copy, hts _ m_e_yX5_copy⟩ (zPreV hK hN hZ hP hD hS hA [0, 1] (by decide) rfl rfl 5 0 rfl rfl) rfl rfl hl.1 rfl (lv_room (Nat.le_of_ble_eq_true rfl)) dL_law_1046 ⟨Nat.le_of_ble_eq_true rfl, Nat.le_of_ble_eq_true rfl⟩) (fun r u H locs hw hP hD hS => ?_)
    rcases hw with ⟨i_210, rfl⟩ | ⟨i_211, i_212, rfl⟩ | ⟨i_213, i_214, i_215, rfl⟩ | ⟨i_216, i_217, i_218, i_219, rfl⟩ | ⟨i_220, i_221, i_222, i_223, i_224, rfl⟩ | ⟨i_225, i_226, i_227, i_228, i_229, rfl⟩ | ⟨i_230, i_231, i_232, i_233, i_234, rfl⟩ | ⟨i_235, i_236, i_237, i_238, i_239, rfl⟩
    · exfalso; omega
    · exfalso; omega
    · exfalso; omega
    · exfalso; omega
    · exfalso; omega
    · exfalso; omega
    · skip
      have hP : va_P g.1 vwCl [] H := hP
      have hD : va_D (fun q : Nat => s.heap.size ≤ q) [] := hD
      refine lv_icmp_eq (tgt := 1054) hx hb dL_law_1049 (by decide) (fun _ => ?_) (fun h => absurd h (by decide +kernel))
      exact lc_tail ⟨hx, hb, hml, hr, hlocks, hown, hts, hK, hN, hZ, hX, hbl⟩ hS (lv_sub hl [0, 1, 2, 3] rfl)
    · exfalso; omega
  · skip
    have hP : va_P g.1 vwCl [((am 0), .inr (5, [.ref (am 1), .int 0, .ref (am 2), .int 0, .int 0, .ref (am 3), .ref (am 4), .ref (am 5), .ref (am 6), .int 0, .ref (am 7), .ref (am 8), .ref (am 9), .int 0, .ref (am 10), .ref (am 11), .ref (am 12), .ref (am 13), .ref (am 14), .ref (am 15), .ref (am 16), .ref (am 17), .ref (am 18), .ref (am 19), .ref (am 20), .ref (am 21), .ref (am 22)])), ((am 19), .inl (zI g, 4, .inl (upd (upd (upd (upd (fun _ => 0) 0 (-1)) 1 (-1)) 2 (-1)) 3 (-1))))] H := hP
    have hD : va_D (fun q : Nat => s.heap.size ≤ q) [((am 0), .inr (5, [.ref (am 1), .int 0, .ref (am 2), .int 0, .int 0, .ref (am 3), .ref (am 4), .ref (am 5), .ref (am 6), .int 0, .ref (am 7), .ref (am 8), .ref (am 9), .int 0, .ref (am 10), .ref (am 11), .ref (am 12), .ref (am 13), .ref (am 14), .ref (am 15), .ref (am 16), .ref (am 17), .ref (am 18), .ref (am 19), .ref (am 20), .ref (am 21), .ref (am 22)])), ((am 19), .inl (zI g, 4, .inl (upd (upd (upd (upd (fun _ => 0) 0 (-1)) 1 (-1)) 2 (-1)) 3 (-1))))] := hD
    refine lv_aload_n hx hb dL_law_1020 rfl (lv_at hl 2 rfl) ?_
    refine lv_aload_n hx hb dL_law_1021 rfl (lv_at hl 0 rfl) ?_
    refine lv_iload_n hx hb dL_law_1022 rfl (lv_at hl 3 rfl) ?_
    refine lv_iconst (v := 1) hx hb dL_law_1023 (by decide) ?_
    refine lv_iadd hx hb dL_law_1024 ?_
    refine lv_topi (nm_r (e' := 1) (by decide +kernel) ?_)
    refine va_sld hx hb hX hbl hbA hS (vp_in_iff.mpr (by decide +kernel)) dL_law_1025 ?_
    refine lv_topi (nm_r (e' := (xs 1)) (by rfl) ?_)
    refine lv_aload_n hx hb dL_law_1026 rfl (lv_at hl 0 rfl) ?_
    refine lv_iload_n hx hb dL_law_1027 rfl (lv_at hl 3 rfl) ?_
    refine lv_iconst (v := 2) hx hb dL_law_1028 (by decide) ?_
    refine lv_iadd hx hb dL_law_1029 ?_
    refine lv_topi (nm_r (e' := 2) (by decide +kernel) ?_)
    refine va_sld hx hb hX hbl hbA hS (vp_in_iff.mpr (by decide +kernel)) dL_law_1030 ?_
    refine lv_topi (nm_r (e' := (xs 2)) (by rfl) ?_)
    refine lv_aload_n hx hb dL_law_1031 rfl (lv_at hl 0 rfl) ?_
    refine lv_iload_n hx hb dL_law_1032 rfl (lv_at hl 3 rfl) ?_
    refine lv_iconst (v := 3) hx hb dL_law_1033 (by decide) ?_
    refine lv_iadd hx hb dL_law_1034 ?_
    refine lv_topi (nm_r (e' := 3) (by decide +kernel) ?_)
    refine va_sld hx hb hX hbl hbA hS (vp_in_iff.mpr (by decide +kernel)) dL_law_1035 ?_
    refine lv_topi (nm_r (e' := (xs 3)) (by rfl) ?_)
    refine lv_aload_n hx hb dL_law_1036 rfl (lv_at hl 0 rfl) ?_
    refine lv_iload_n hx hb dL_law_1037 rfl (lv_at hl 3 rfl) ?_
    refine lv_iconst (v := 4) hx hb dL_law_1038 (by decide) ?_
    refine lv_iadd hx hb dL_law_1039 ?_
    refine lv_topi (nm_r (e' := 4) (by decide +kernel) ?_)
    refine va_sld hx hb hX hbl hbA hS (vp_in_iff.mpr (by decide +kernel)) dL_law_1040 ?_
    refine lv_topi (nm_r (e' := (xs 4)) (by rfl) ?_)
    refine lv_aload_n hx hb dL_law_1041 rfl (lv_at hl 0 rfl) ?_
    refine lv_iload_n hx hb dL_law_1042 rfl (lv_at hl 3 rfl) ?_
    refine lv_iconst (v := 5) hx hb dL_law_1043 (by decide) ?_
    refine lv_iadd hx hb dL_law_1044 ?_
    refine lv_topi (nm_r (e' := 5) (by decide +kernel) ?_)
    refine va_sld hx hb hX hbl hbA hS (vp_in_iff.mpr (by decide +kernel)) dL_law_1045 ?_
    refine lv_topi (nm_r (e' := (xs 5)) (by rfl) ?_)
    refine z_calli (wr := []) hP hD hS hA [0, 1] [] (by decide) rfl rfl (by decide) (va_runV (As := [.int (xs 1), .int (xs 2), .int (xs 3), .int (xs 4), .int (xs 5)]) (rest := [.int (-11)]) ⟨hx, hb, hml, hown, hts⟩ (kX5_copy l g (am 0) (am 1) (am 2) (am 3) (am 4) (am 5) (am 6) (am 7) (am 8) (am 9) (am 10) (am 11) (am 12) (am 13) (am 14) (am 15) (am 16) (am 17) (am 18) (am 19) (am 20) (am 21) (am 22) H.size (xs 1) (xs 2) (xs 3) (xs 4) (xs 5)) ⟨callB_of 5 hts (zGood m_o_yX5_copy) rfl rfl rfl (hts _ m_z_RX5) (hts _ m_m_RL_134) ⟨by decide +kernel, by decide +kernel, by decide +kernel⟩ ⟨Nat.le_of_ble_eq_true rfl, Nat.le_of_ble_eq_true rfl⟩, hts _ m_i_yX5_copy, hts _ m_e_yX5_copy⟩ (zPreV hK hN hZ hP hD hS hA [0, 1] (by decide) rfl rfl 5 0 rfl rfl) rfl rfl hl.1 rfl (lv_room (Nat.le_of_ble_eq_true rfl)) dL_law_1046 ⟨Nat.le_of_ble_eq_true rfl, Nat.le_of_ble_eq_true rfl⟩) (fun r u H locs hw hP hD hS => ?_)
    rcases hw with ⟨i_240, rfl⟩ | ⟨i_241, i_242, rfl⟩ | ⟨i_243, i_244, i_245, rfl⟩ | ⟨i_246, i_247, i_248, i_249, rfl⟩ | ⟨i_250, i_251, i_252, i_253, i_254, rfl⟩ | ⟨i_255, i_256, i_257, i_258, i_259, rfl⟩ | ⟨i_260, i_261, i_262, i_263, i_264, rfl⟩ | ⟨i_265, i_266, i_267, i_268, i_269, rfl⟩
    · exfalso; omega
    · exfalso; omega
    · exfalso; omega
    · exfalso; omega
    · exfalso; omega
    · exfalso; omega
    · exfalso; omega
    · skip
      have hP : va_P g.1 vwCl [] H := hP
      have hD : va_D (fun q : Nat => s.heap.size ≤ q) [] := hD
      refine lv_icmp_eq (tgt := 1054) hx hb dL_law_1049 (by decide) (fun _ => ?_) (fun h => absurd h (by decide +kernel))
      exact lc_tail ⟨hx, hb, hml, hr, hlocks, hown, hts, hK, hN, hZ, hX, hbl⟩ hS (lv_sub hl [0, 1, 2, 3] rfl)

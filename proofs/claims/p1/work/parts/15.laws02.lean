set_option maxHeartbeats 4000000 in
set_option maxRecDepth 100000 in
theorem lc_count {p : Program} {l : Launch} {e : Env} {s : State} {m : MethodId} {below : List Frame} {meth : Method} {c : Code} {b : Nat} {xs : Nat → Int32} {g : zG} (C0 : lC g p s m meth c b xs) {ax am : Nat → Nat} {H : Heap} {locs : List Loc} (hP : va_P g.1 vwCl (lW g ax am) H) (hD : va_D (fun q : Nat => s.heap.size ≤ q) (lW g ax am)) (hS : va_S (fun q : Nat => s.heap.size ≤ q) s.heap H locs) {ls : Array Slot} (hl : lv_has ls 4 [(0, .ref b), (1, .ref (ax 0)), (2, .ref (am 0)), (3, .int 0)]) : W p l e room_1 s m #[Value.ref b] below meth c H locs 600000 7302250 (lw_Z below #[Value.ref b] s) (F0 m 457 ls []) := by
  obtain ⟨hx, hb, hml, hr, hlocks, hown, hts, hK, hN, hZ, hX, hbl⟩ := C0
  have hA : ∀ q : Nat, s.heap.size ≤ q → (fun q : Nat => s.heap.size ≤ q) q := fun _ h => h
  have hbA : ¬ (fun q : Nat => s.heap.size ≤ q) b := Nat.not_le.mpr hbl
  have hP := hP.sub (ws' := [((ax 0), .inr (4, [.ref (ax 1), .ref (ax 10), .int 0, .ref (ax 19), .ref (ax 30), .ref (ax 32), .ref (ax 36), .int (-1), .ref (ax 37), .ref (ax 38), .ref (ax 39), .ref (ax 40)])), ((ax 1), .inr (0, [.ref (ax 2), .int 0, .ref (ax 3), .int 0, .ref (ax 4), .ref (ax 5), .ref (ax 6), .ref (ax 7), .ref (ax 8), .ref (ax 9), .int 0])), ((am 0), .inr (5, [.ref (am 1), .int 0, .ref (am 2), .int 0, .int 0, .ref (am 3), .ref (am 4), .ref (am 5), .ref (am 6), .int 0, .ref (am 7), .ref (am 8), .ref (am 9), .int 0, .ref (am 10), .ref (am 11), .ref (am 12), .ref (am 13), .ref (am 14), .ref (am 15), .ref (am 16), .ref (am 17), .ref (am 18), .ref (am 19), .ref (am 20), .ref (am 21), .ref (am 22)])), ((am 1), .inl (zI g, 180, .inl (upd (upd (upd (fun _ => 0) 0 60) 1 1) 2 1)))]) [0, 1, 41, 42] rfl
  have hD := hD.sub (ws' := [((ax 0), .inr (4, [.ref (ax 1), .ref (ax 10), .int 0, .ref (ax 19), .ref (ax 30), .ref (ax 32), .ref (ax 36), .int (-1), .ref (ax 37), .ref (ax 38), .ref (ax 39), .ref (ax 40)])), ((ax 1), .inr (0, [.ref (ax 2), .int 0, .ref (ax 3), .int 0, .ref (ax 4), .ref (ax 5), .ref (ax 6), .ref (ax 7), .ref (ax 8), .ref (ax 9), .int 0])), ((am 0), .inr (5, [.ref (am 1), .int 0, .ref (am 2), .int 0, .int 0, .ref (am 3), .ref (am 4), .ref (am 5), .ref (am 6), .int 0, .ref (am 7), .ref (am 8), .ref (am 9), .int 0, .ref (am 10), .ref (am 11), .ref (am 12), .ref (am 13), .ref (am 14), .ref (am 15), .ref (am 16), .ref (am 17), .ref (am 18), .ref (am 19), .ref (am 20), .ref (am 21), .ref (am 22)])), ((am 1), .inl (zI g, 180, .inl (upd (upd (upd (fun _ => 0) 0 60) 1 1) 2 1)))]) [0, 1, 41, 42] (by decide) rfl
  refine lv_aload_n hx hb dL_law_457 rfl (lv_at hl 1 rfl) ?_
  refine lv_aload_n hx hb dL_law_458 rfl (lv_at hl 0 rfl) ?_
  refine lv_iload_n hx hb dL_law_459 rfl (lv_at hl 3 rfl) ?_
  refine lv_iconst (v := 1) hx hb dL_law_460 (by decide) ?_
  refine lv_iadd hx hb dL_law_461 ?_
  refine lv_topi (nm_r (e' := 1) (by decide +kernel) ?_)
  refine va_sld hx hb hX hbl hbA hS (vp_in_iff.mpr (by decide +kernel)) dL_law_462 ?_
  refine lv_topi (nm_r (e' := (xs 1)) (by rfl) ?_)
  refine z_calli (wr := [((am 0), .inr (5, [.ref (am 1), .int 0, .ref (am 2), .int 0, .int 0, .ref (am 3), .ref (am 4), .ref (am 5), .ref (am 6), .int 0, .ref (am 7), .ref (am 8), .ref (am 9), .int 0, .ref (am 10), .ref (am 11), .ref (am 12), .ref (am 13), .ref (am 14), .ref (am 15), .ref (am 16), .ref (am 17), .ref (am 18), .ref (am 19), .ref (am 20), .ref (am 21), .ref (am 22)])), ((am 1), .inl (zI g, 180, .inl (upd (upd (upd (fun _ => 0) 0 60) 1 1) 2 1)))]) hP hD hS hA [0, 1] [2, 3] (by decide) rfl rfl (by decide) (va_runV (As := [.int (xs 1)]) (rest := []) ⟨hx, hb, hml, hown, hts⟩ (kX4_count l g (ax 0) (ax 1) (ax 10) (ax 19) (ax 30) (ax 32) (ax 36) (ax 37) (ax 38) (ax 39) (ax 40) (ax 2) (ax 3) (ax 4) (ax 5) (ax 6) (ax 7) (ax 8) (ax 9) H.size (xs 1)) ⟨callB_of 1 hts (zGood m_o_yX4_count) rfl rfl rfl (hts _ m_z_RX4) (hts _ m_m_RL_55) ⟨by decide +kernel, by decide +kernel, by decide +kernel⟩ ⟨Nat.le_of_ble_eq_true rfl, Nat.le_of_ble_eq_true rfl⟩, hts _ m_i_yX4_count, hts _ m_e_yX4_count⟩ (zPreV hK hN hZ hP hD hS hA [0, 1] (by decide) rfl rfl 4 0 rfl rfl) rfl rfl hl.1 rfl (lv_room (Nat.le_of_ble_eq_true rfl)) dL_law_463 ⟨Nat.le_of_ble_eq_true rfl, Nat.le_of_ble_eq_true rfl⟩) (fun r u H locs hw hP hD hS => ?_)
  rcases hw with ⟨i_0, rfl⟩ | ⟨i_1, i_2, rfl⟩ | ⟨i_3, i_4, i_5, rfl⟩ | ⟨i_6, i_7, i_8, i_9, rfl⟩ | ⟨i_10, i_11, i_12, i_13, i_14, rfl⟩ | ⟨i_15, i_16, i_17, i_18, i_19, rfl⟩
  · skip
    have hP : va_P g.1 vwCl [((am 0), .inr (5, [.ref (am 1), .int 0, .ref (am 2), .int 0, .int 0, .ref (am 3), .ref (am 4), .ref (am 5), .ref (am 6), .int 0, .ref (am 7), .ref (am 8), .ref (am 9), .int 0, .ref (am 10), .ref (am 11), .ref (am 12), .ref (am 13), .ref (am 14), .ref (am 15), .ref (am 16), .ref (am 17), .ref (am 18), .ref (am 19), .ref (am 20), .ref (am 21), .ref (am 22)])), ((am 1), .inl (zI g, 180, .inl (upd (upd (upd (fun _ => 0) 0 60) 1 1) 2 1)))] H := hP
    have hD : va_D (fun q : Nat => s.heap.size ≤ q) [((am 0), .inr (5, [.ref (am 1), .int 0, .ref (am 2), .int 0, .int 0, .ref (am 3), .ref (am 4), .ref (am 5), .ref (am 6), .int 0, .ref (am 7), .ref (am 8), .ref (am 9), .int 0, .ref (am 10), .ref (am 11), .ref (am 12), .ref (am 13), .ref (am 14), .ref (am 15), .ref (am 16), .ref (am 17), .ref (am 18), .ref (am 19), .ref (am 20), .ref (am 21), .ref (am 22)])), ((am 1), .inl (zI g, 180, .inl (upd (upd (upd (fun _ => 0) 0 60) 1 1) 2 1)))] := hD
    refine lv_aload_n hx hb dL_law_466 rfl (lv_at hl 2 rfl) ?_
    refine lv_aload_n hx hb dL_law_467 rfl (lv_at hl 0 rfl) ?_
    refine lv_iload_n hx hb dL_law_468 rfl (lv_at hl 3 rfl) ?_
    refine lv_iconst (v := 1) hx hb dL_law_469 (by decide) ?_
    refine lv_iadd hx hb dL_law_470 ?_
    refine lv_topi (nm_r (e' := 1) (by decide +kernel) ?_)
    refine va_sld hx hb hX hbl hbA hS (vp_in_iff.mpr (by decide +kernel)) dL_law_471 ?_
    refine lv_topi (nm_r (e' := (xs 1)) (by rfl) ?_)
    refine z_calli (wr := []) hP hD hS hA [0, 1] [] (by decide) rfl rfl (by decide) (va_runV (As := [.int (xs 1)]) (rest := [.int 0]) ⟨hx, hb, hml, hown, hts⟩ (kX5_count l g (am 0) (am 1) (am 2) (am 3) (am 4) (am 5) (am 6) (am 7) (am 8) (am 9) (am 10) (am 11) (am 12) (am 13) (am 14) (am 15) (am 16) (am 17) (am 18) (am 19) (am 20) (am 21) (am 22) H.size (xs 1)) ⟨callB_of 1 hts (zGood m_o_yX5_count) rfl rfl rfl (hts _ m_z_RX5) (hts _ m_m_RL_59) ⟨by decide +kernel, by decide +kernel, by decide +kernel⟩ ⟨Nat.le_of_ble_eq_true rfl, Nat.le_of_ble_eq_true rfl⟩, hts _ m_i_yX5_count, hts _ m_e_yX5_count⟩ (zPreV hK hN hZ hP hD hS hA [0, 1] (by decide) rfl rfl 5 0 rfl rfl) rfl rfl hl.1 rfl (lv_room (Nat.le_of_ble_eq_true rfl)) dL_law_472 ⟨Nat.le_of_ble_eq_true rfl, Nat.le_of_ble_eq_true rfl⟩) (fun r u H locs hw hP hD hS => ?_)
    rcases hw with ⟨i_20, rfl⟩ | ⟨i_21, i_22, rfl⟩ | ⟨i_23, i_24, i_25, rfl⟩ | ⟨i_26, i_27, i_28, i_29, rfl⟩ | ⟨i_30, i_31, i_32, i_33, i_34, rfl⟩ | ⟨i_35, i_36, i_37, i_38, i_39, rfl⟩
    · skip
      have hP : va_P g.1 vwCl [] H := hP
      have hD : va_D (fun q : Nat => s.heap.size ≤ q) [] := hD
      refine lv_icmp_eq (tgt := 1054) hx hb dL_law_475 (by decide) (fun _ => ?_) (fun h => absurd h (by decide +kernel))
      exact lc_tail ⟨hx, hb, hml, hr, hlocks, hown, hts, hK, hN, hZ, hX, hbl⟩ hS (lv_sub hl [0, 1, 2, 3] rfl)
    · exfalso; omega
    · exfalso; omega
    · exfalso; omega
    · exfalso; omega
    · exfalso; omega
  · skip
    have hP : va_P g.1 vwCl [((am 0), .inr (5, [.ref (am 1), .int 0, .ref (am 2), .int 0, .int 0, .ref (am 3), .ref (am 4), .ref (am 5), .ref (am 6), .int 0, .ref (am 7), .ref (am 8), .ref (am 9), .int 0, .ref (am 10), .ref (am 11), .ref (am 12), .ref (am 13), .ref (am 14), .ref (am 15), .ref (am 16), .ref (am 17), .ref (am 18), .ref (am 19), .ref (am 20), .ref (am 21), .ref (am 22)])), ((am 1), .inl (zI g, 180, .inl (upd (upd (upd (fun _ => 0) 0 60) 1 1) 2 1)))] H := hP
    have hD : va_D (fun q : Nat => s.heap.size ≤ q) [((am 0), .inr (5, [.ref (am 1), .int 0, .ref (am 2), .int 0, .int 0, .ref (am 3), .ref (am 4), .ref (am 5), .ref (am 6), .int 0, .ref (am 7), .ref (am 8), .ref (am 9), .int 0, .ref (am 10), .ref (am 11), .ref (am 12), .ref (am 13), .ref (am 14), .ref (am 15), .ref (am 16), .ref (am 17), .ref (am 18), .ref (am 19), .ref (am 20), .ref (am 21), .ref (am 22)])), ((am 1), .inl (zI g, 180, .inl (upd (upd (upd (fun _ => 0) 0 60) 1 1) 2 1)))] := hD
    refine lv_aload_n hx hb dL_law_466 rfl (lv_at hl 2 rfl) ?_
    refine lv_aload_n hx hb dL_law_467 rfl (lv_at hl 0 rfl) ?_
    refine lv_iload_n hx hb dL_law_468 rfl (lv_at hl 3 rfl) ?_
    refine lv_iconst (v := 1) hx hb dL_law_469 (by decide) ?_
    refine lv_iadd hx hb dL_law_470 ?_
    refine lv_topi (nm_r (e' := 1) (by decide +kernel) ?_)
    refine va_sld hx hb hX hbl hbA hS (vp_in_iff.mpr (by decide +kernel)) dL_law_471 ?_
    refine lv_topi (nm_r (e' := (xs 1)) (by rfl) ?_)
    refine z_calli (wr := []) hP hD hS hA [0, 1] [] (by decide) rfl rfl (by decide) (va_runV (As := [.int (xs 1)]) (rest := [.int 0]) ⟨hx, hb, hml, hown, hts⟩ (kX5_count l g (am 0) (am 1) (am 2) (am 3) (am 4) (am 5) (am 6) (am 7) (am 8) (am 9) (am 10) (am 11) (am 12) (am 13) (am 14) (am 15) (am 16) (am 17) (am 18) (am 19) (am 20) (am 21) (am 22) H.size (xs 1)) ⟨callB_of 1 hts (zGood m_o_yX5_count) rfl rfl rfl (hts _ m_z_RX5) (hts _ m_m_RL_59) ⟨by decide +kernel, by decide +kernel, by decide +kernel⟩ ⟨Nat.le_of_ble_eq_true rfl, Nat.le_of_ble_eq_true rfl⟩, hts _ m_i_yX5_count, hts _ m_e_yX5_count⟩ (zPreV hK hN hZ hP hD hS hA [0, 1] (by decide) rfl rfl 5 0 rfl rfl) rfl rfl hl.1 rfl (lv_room (Nat.le_of_ble_eq_true rfl)) dL_law_472 ⟨Nat.le_of_ble_eq_true rfl, Nat.le_of_ble_eq_true rfl⟩) (fun r u H locs hw hP hD hS => ?_)
    rcases hw with ⟨i_40, rfl⟩ | ⟨i_41, i_42, rfl⟩ | ⟨i_43, i_44, i_45, rfl⟩ | ⟨i_46, i_47, i_48, i_49, rfl⟩ | ⟨i_50, i_51, i_52, i_53, i_54, rfl⟩ | ⟨i_55, i_56, i_57, i_58, i_59, rfl⟩
    · exfalso; omega
    · skip
      have hP : va_P g.1 vwCl [] H := hP
      have hD : va_D (fun q : Nat => s.heap.size ≤ q) [] := hD
      refine lv_icmp_eq (tgt := 1054) hx hb dL_law_475 (by decide) (fun _ => ?_) (fun h => absurd h (by decide +kernel))
      exact lc_tail ⟨hx, hb, hml, hr, hlocks, hown, hts, hK, hN, hZ, hX, hbl⟩ hS (lv_sub hl [0, 1, 2, 3] rfl)
    · exfalso; omega
    · exfalso; omega
    · exfalso; omega
    · exfalso; omega
  · skip
    have hP : va_P g.1 vwCl [((am 0), .inr (5, [.ref (am 1), .int 0, .ref (am 2), .int 0, .int 0, .ref (am 3), .ref (am 4), .ref (am 5), .ref (am 6), .int 0, .ref (am 7), .ref (am 8), .ref (am 9), .int 0, .ref (am 10), .ref (am 11), .ref (am 12), .ref (am 13), .ref (am 14), .ref (am 15), .ref (am 16), .ref (am 17), .ref (am 18), .ref (am 19), .ref (am 20), .ref (am 21), .ref (am 22)])), ((am 1), .inl (zI g, 180, .inl (upd (upd (upd (fun _ => 0) 0 60) 1 1) 2 1)))] H := hP
    have hD : va_D (fun q : Nat => s.heap.size ≤ q) [((am 0), .inr (5, [.ref (am 1), .int 0, .ref (am 2), .int 0, .int 0, .ref (am 3), .ref (am 4), .ref (am 5), .ref (am 6), .int 0, .ref (am 7), .ref (am 8), .ref (am 9), .int 0, .ref (am 10), .ref (am 11), .ref (am 12), .ref (am 13), .ref (am 14), .ref (am 15), .ref (am 16), .ref (am 17), .ref (am 18), .ref (am 19), .ref (am 20), .ref (am 21), .ref (am 22)])), ((am 1), .inl (zI g, 180, .inl (upd (upd (upd (fun _ => 0) 0 60) 1 1) 2 1)))] := hD
    refine lv_aload_n hx hb dL_law_466 rfl (lv_at hl 2 rfl) ?_
    refine lv_aload_n hx hb dL_law_467 rfl (lv_at hl 0 rfl) ?_
    refine lv_iload_n hx hb dL_law_468 rfl (lv_at hl 3 rfl) ?_
    refine lv_iconst (v := 1) hx hb dL_law_469 (by decide) ?_
    refine lv_iadd hx hb dL_law_470 ?_
    refine lv_topi (nm_r (e' := 1) (by decide +kernel) ?_)
    refine va_sld hx hb hX hbl hbA hS (vp_in_iff.mpr (by decide +kernel)) dL_law_471 ?_
    refine lv_topi (nm_r (e' := (xs 1)) (by rfl) ?_)
    refine z_calli (wr := []) hP hD hS hA [0, 1] [] (by decide) rfl rfl (by decide) (va_runV (As := [.int (xs 1)]) (rest := [.int 0]) ⟨hx, hb, hml, hown, hts⟩ (kX5_count l g (am 0) (am 1) (am 2) (am 3) (am 4) (am 5) (am 6) (am 7) (am 8) (am 9) (am 10) (am 11) (am 12) (am 13) (am 14) (am 15) (am 16) (am 17) (am 18) (am 19) (am 20) (am 21) (am 22) H.size (xs 1)) ⟨callB_of 1 hts (zGood m_o_yX5_count) rfl rfl rfl (hts _ m_z_RX5) (hts _ m_m_RL_59) ⟨by decide +kernel, by decide +kernel, by decide +kernel⟩ ⟨Nat.le_of_ble_eq_true rfl, Nat.le_of_ble_eq_true rfl⟩, hts _ m_i_yX5_count, hts _ m_e_yX5_count⟩ (zPreV hK hN hZ hP hD hS hA [0, 1] (by decide) rfl rfl 5 0 rfl rfl) rfl rfl hl.1 rfl (lv_room (Nat.le_of_ble_eq_true rfl)) dL_law_472 ⟨Nat.le_of_ble_eq_true rfl, Nat.le_of_ble_eq_true rfl⟩) (fun r u H locs hw hP hD hS => ?_)
    rcases hw with ⟨i_60, rfl⟩ | ⟨i_61, i_62, rfl⟩ | ⟨i_63, i_64, i_65, rfl⟩ | ⟨i_66, i_67, i_68, i_69, rfl⟩ | ⟨i_70, i_71, i_72, i_73, i_74, rfl⟩ | ⟨i_75, i_76, i_77, i_78, i_79, rfl⟩
    · exfalso; omega
    · exfalso; omega
    · skip
      have hP : va_P g.1 vwCl [] H := hP
      have hD : va_D (fun q : Nat => s.heap.size ≤ q) [] := hD
      refine lv_icmp_eq (tgt := 1054) hx hb dL_law_475 (by decide) (fun _ => ?_) (fun h => absurd h (by decide +kernel))
      exact lc_tail ⟨hx, hb, hml, hr, hlocks, hown, hts, hK, hN, hZ, hX, hbl⟩ hS (lv_sub hl [0, 1, 2, 3] rfl)
    · exfalso; omega
    · exfalso; omega
    · exfalso; omega
  · skip
    have hP : va_P g.1 vwCl [((am 0), .inr (5, [.ref (am 1), .int 0, .ref (am 2), .int 0, .int 0, .ref (am 3), .ref (am 4), .ref (am 5), .ref (am 6), .int 0, .ref (am 7), .ref (am 8), .ref (am 9), .int 0, .ref (am 10), .ref (am 11), .ref (am 12), .ref (am 13), .ref (am 14), .ref (am 15), .ref (am 16), .ref (am 17), .ref (am 18), .ref (am 19), .ref (am 20), .ref (am 21), .ref (am 22)])), ((am 1), .inl (zI g, 180, .inl (upd (upd (upd (fun _ => 0) 0 60) 1 1) 2 1)))] H := hP
    have hD : va_D (fun q : Nat => s.heap.size ≤ q) [((am 0), .inr (5, [.ref (am 1), .int 0, .ref (am 2), .int 0, .int 0, .ref (am 3), .ref (am 4), .ref (am 5), .ref (am 6), .int 0, .ref (am 7), .ref (am 8), .ref (am 9), .int 0, .ref (am 10), .ref (am 11), .ref (am 12), .ref (am 13), .ref (am 14), .ref (am 15), .ref (am 16), .ref (am 17), .ref (am 18), .ref (am 19), .ref (am 20), .ref (am 21), .ref (am 22)])), ((am 1), .inl (zI g, 180, .inl (upd (upd (upd (fun _ => 0) 0 60) 1 1) 2 1)))] := hD
    refine lv_aload_n hx hb dL_law_466 rfl (lv_at hl 2 rfl) ?_
    refine lv_aload_n hx hb dL_law_467 rfl (lv_at hl 0 rfl) ?_
    refine lv_iload_n hx hb dL_law_468 rfl (lv_at hl 3 rfl) ?_
    refine lv_iconst (v := 1) hx hb dL_law_469 (by decide) ?_
    refine lv_iadd hx hb dL_law_470 ?_
    refine lv_topi (nm_r (e' := 1) (by decide +kernel) ?_)
    refine va_sld hx hb hX hbl hbA hS (vp_in_iff.mpr (by decide +kernel)) dL_law_471 ?_
    refine lv_topi (nm_r (e' := (xs 1)) (by rfl) ?_)
    refine z_calli (wr := []) hP hD hS hA [0, 1] [] (by decide) rfl rfl (by decide) (va_runV (As := [.int (xs 1)]) (rest := [.int 0]) ⟨hx, hb, hml, hown, hts⟩ (kX5_count l g (am 0) (am 1) (am 2) (am 3) (am 4) (am 5) (am 6) (am 7) (am 8) (am 9) (am 10) (am 11) (am 12) (am 13) (am 14) (am 15) (am 16) (am 17) (am 18) (am 19) (am 20) (am 21) (am 22) H.size (xs 1)) ⟨callB_of 1 hts (zGood m_o_yX5_count) rfl rfl rfl (hts _ m_z_RX5) (hts _ m_m_RL_59) ⟨by decide +kernel, by decide +kernel, by decide +kernel⟩ ⟨Nat.le_of_ble_eq_true rfl, Nat.le_of_ble_eq_true rfl⟩, hts _ m_i_yX5_count, hts _ m_e_yX5_count⟩ (zPreV hK hN hZ hP hD hS hA [0, 1] (by decide) rfl rfl 5 0 rfl rfl) rfl rfl hl.1 rfl (lv_room (Nat.le_of_ble_eq_true rfl)) dL_law_472 ⟨Nat.le_of_ble_eq_true rfl, Nat.le_of_ble_eq_true rfl⟩) (fun r u H locs hw hP hD hS => ?_)
    rcases hw with ⟨i_80, rfl⟩ | ⟨i_81, i_82, rfl⟩ | ⟨i_83, i_84, i_85, rfl⟩ | ⟨i_86, i_87, i_88, i_89, rfl⟩ | ⟨i_90, i_91, i_92, i_93, i_94, rfl⟩ | ⟨i_95, i_96, i_97, i_98, i_99, rfl⟩
    · exfalso; omega
    · exfalso; omega
    · exfalso; omega
    · skip
      have hP : va_P g.1 vwCl [] H := hP
      have hD : va_D (fun q : Nat => s.heap.size ≤ q) [] := hD
      refine lv_icmp_eq (tgt := 1054) hx hb dL_law_475 (by decide) (fun _ => ?_) (fun h => absurd h (by decide +kernel))
      exact lc_tail ⟨hx, hb, hml, hr, hlocks, hown, hts, hK, hN, hZ, hX, hbl⟩ hS (lv_sub hl [0, 1, 2, 3] rfl)
    · exfalso; omega
    · exfalso; omega
  · skip
    have hP : va_P g.1 vwCl [((am 0), .inr (5, [.ref (am 1), .int 0, .ref (am 2), .int 0, .int 0, .ref (am 3), .ref (am 4), .ref (am 5), .ref (am 6), .int 0, .ref (am 7), .ref (am 8), .ref (am 9), .int 0, .ref (am 10), .ref (am 11), .ref (am 12), .ref (am 13), .ref (am 14), .ref (am 15), .ref (am 16), .ref (am 17), .ref (am 18), .ref (am 19), .ref (am 20), .ref (am 21), .ref (am 22)])), ((am 1), .inl (zI g, 180, .inl (upd (upd (upd (fun _ => 0) 0 60) 1 1) 2 1)))] H := hP
    have hD : va_D (fun q : Nat => s.heap.size ≤ q) [((am 0), .inr (5, [.ref (am 1), .int 0, .ref (am 2), .int 0, .int 0, .ref (am 3), .ref (am 4), .ref (am 5), .ref (am 6), .int 0, .ref (am 7), .ref (am 8), .ref (am 9), .int 0, .ref (am 10), .ref (am 11), .ref (am 12), .ref (am 13), .ref (am 14), .ref (am 15), .ref (am 16), .ref (am 17), .ref (am 18), .ref (am 19), .ref (am 20), .ref (am 21), .ref (am 22)])), ((am 1), .inl (zI g, 180, .inl (upd (upd (upd (fun _ => 0) 0 60) 1 1) 2 1)))] := hD
    refine lv_aload_n hx hb dL_law_466 rfl (lv_at hl 2 rfl) ?_
    refine lv_aload_n hx hb dL_law_467 rfl (lv_at hl 0 rfl) ?_
    refine lv_iload_n hx hb dL_law_468 rfl (lv_at hl 3 rfl) ?_
    refine lv_iconst (v := 1) hx hb dL_law_469 (by decide) ?_
    refine lv_iadd hx hb dL_law_470 ?_
    refine lv_topi (nm_r (e' := 1) (by decide +kernel) ?_)
    refine va_sld hx hb hX hbl hbA hS (vp_in_iff.mpr (by decide +kernel)) dL_law_471 ?_
    refine lv_topi (nm_r (e' := (xs 1)) (by rfl) ?_)
    refine z_calli (wr := []) hP hD hS hA [0, 1] [] (by decide) rfl rfl (by decide) (va_runV (As := [.int (xs 1)]) (rest := [.int 0]) ⟨hx, hb, hml, hown, hts⟩ (kX5_count l g (am 0) (am 1) (am 2) (am 3) (am 4) (am 5) (am 6) (am 7) (am 8) (am 9) (am 10) (am 11) (am 12) (am 13) (am 14) (am 15) (am 16) (am 17) (am 18) (am 19) (am 20) (am 21) (am 22) H.size (xs 1)) ⟨callB_of 1 hts (zGood m_o_yX5_count) rfl rfl rfl (hts _ m_z_RX5) (hts _ m_m_RL_59) ⟨by decide +kernel, by decide +kernel, by decide +kernel⟩ ⟨Nat.le_of_ble_eq_true rfl, Nat.le_of_ble_eq_true rfl⟩, hts _ m_i_yX5_count, hts _ m_e_yX5_count⟩ (zPreV hK hN hZ hP hD hS hA [0, 1] (by decide) rfl rfl 5 0 rfl rfl) rfl rfl hl.1 rfl (lv_room (Nat.le_of_ble_eq_true rfl)) dL_law_472 ⟨Nat.le_of_ble_eq_true rfl, Nat.le_of_ble_eq_true rfl⟩) (fun r u H locs hw hP hD hS => ?_)
    rcases hw with ⟨i_100, rfl⟩ | ⟨i_101, i_102, rfl⟩ | ⟨i_103, i_104, i_105, rfl⟩ | ⟨i_106, i_107, i_108, i_109, rfl⟩ | ⟨i_110, i_111, i_112, i_113, i_114, rfl⟩ | ⟨i_115, i_116, i_117, i_118, i_119, rfl⟩
    · exfalso; omega
    · exfalso; omega
    · exfalso; omega
    · exfalso; omega
    · skip
      have hP : va_P g.1 vwCl [] H := hP
      have hD : va_D (fun q : Nat => s.heap.size ≤ q) [] := hD
      refine lv_icmp_eq (tgt := 1054) hx hb dL_law_475 (by decide) (fun _ => ?_) (fun h => absurd h (by decide +kernel))
      exact lc_tail ⟨hx, hb, hml, hr, hlocks, hown, hts, hK, hN, hZ, hX, hbl⟩ hS (lv_sub hl [0, 1, 2, 3] rfl)
    · exfalso; omega
  · skip
    have hP : va_P g.1 vwCl [((am 0), .inr (5, [.ref (am 1), .int 0, .ref (am 2), .int 0, .int 0, .ref (am 3), .ref (am 4), .ref (am 5), .ref (am 6), .int 0, .ref (am 7), .ref (am 8), .ref (am 9), .int 0, .ref (am 10), .ref (am 11), .ref (am 12), .ref (am 13), .ref (am 14), .ref (am 15), .ref (am 16), .ref (am 17), .ref (am 18), .ref (am 19), .ref (am 20), .ref (am 21), .ref (am 22)])), ((am 1), .inl (zI g, 180, .inl (upd (upd (upd (fun _ => 0) 0 60) 1 1) 2 1)))] H := hP
    have hD : va_D (fun q : Nat => s.heap.size ≤ q) [((am 0), .inr (5, [.ref (am 1), .int 0, .ref (am 2), .int 0, .int 0, .ref (am 3), .ref (am 4), .ref (am 5), .ref (am 6), .int 0, .ref (am 7), .ref (am 8), .ref (am 9), .int 0, .ref (am 10), .ref (am 11), .ref (am 12), .ref (am 13), .ref (am 14), .ref (am 15), .ref (am 16), .ref (am 17), .ref (am 18), .ref (am 19), .ref (am 20), .ref (am 21), .ref (am 22)])), ((am 1), .inl (zI g, 180, .inl (upd (upd (upd (fun _ => 0) 0 60) 1 1) 2 1)))] := hD
    refine lv_aload_n hx hb dL_law_466 rfl (lv_at hl 2 rfl) ?_
    refine lv_aload_n hx hb dL_law_467 rfl (lv_at hl 0 rfl) ?_
    refine lv_iload_n hx hb dL_law_468 rfl (lv_at hl 3 rfl) ?_
    refine lv_iconst (v := 1) hx hb dL_law_469 (by decide) ?_
    refine lv_iadd hx hb dL_law_470 ?_
    refine lv_topi (nm_r (e' := 1) (by decide +kernel) ?_)
    refine va_sld hx hb hX hbl hbA hS (vp_in_iff.mpr (by decide +kernel)) dL_law_471 ?_
    refine lv_topi (nm_r (e' := (xs 1)) (by rfl) ?_)
    refine z_calli (wr := []) hP hD hS hA [0, 1] [] (by decide) rfl rfl (by decide) (va_runV (As := [.int (xs 1)]) (rest := [.int (-1)]) ⟨hx, hb, hml, hown, hts⟩ (kX5_count l g (am 0) (am 1) (am 2) (am 3) (am 4) (am 5) (am 6) (am 7) (am 8) (am 9) (am 10) (am 11) (am 12) (am 13) (am 14) (am 15) (am 16) (am 17) (am 18) (am 19) (am 20) (am 21) (am 22) H.size (xs 1)) ⟨callB_of 1 hts (zGood m_o_yX5_count) rfl rfl rfl (hts _ m_z_RX5) (hts _ m_m_RL_59) ⟨by decide +kernel, by decide +kernel, by decide +kernel⟩ ⟨Nat.le_of_ble_eq_true rfl, Nat.le_of_ble_eq_true rfl⟩, hts _ m_i_yX5_count, hts _ m_e_yX5_count⟩ (zPreV hK hN hZ hP hD hS hA [0, 1] (by decide) rfl rfl 5 0 rfl rfl) rfl rfl hl.1 rfl (lv_room (Nat.le_of_ble_eq_true rfl)) dL_law_472 ⟨Nat.le_of_ble_eq_true rfl, Nat.le_of_ble_eq_true rfl⟩) (fun r u H locs hw hP hD hS => ?_)
    rcases hw with ⟨i_120, rfl⟩ | ⟨i_121, i_122, rfl⟩ | ⟨i_123, i_124, i_125, rfl⟩ | ⟨i_126, i_127, i_128, i_129, rfl⟩ | ⟨i_130, i_131, i_132, i_133, i_134, rfl⟩ | ⟨i_135, i_136, i_137, i_138, i_139, rfl⟩
    · exfalso; omega
    · exfalso; omega
    · exfalso; omega
    · exfalso; omega
    · exfalso; omega
    · skip
      have hP : va_P g.1 vwCl [] H := hP
      have hD : va_D (fun q : Nat => s.heap.size ≤ q) [] := hD
      refine lv_icmp_eq (tgt := 1054) hx hb dL_law_475 (by decide) (fun _ => ?_) (fun h => absurd h (by decide +kernel))
      exact lc_tail ⟨hx, hb, hml, hr, hlocks, hown, hts, hK, hN, hZ, hX, hbl⟩ hS (lv_sub hl [0, 1, 2, 3] rfl)
set_option maxHeartbeats 4000000 in
set_option maxRecDepth 100000 in
theorem lc_lot {p : Program} {l : Launch} {e : Env} {s : State} {m : MethodId} {below : List Frame} {meth : Method} {c : Code} {b : Nat} {xs : Nat → Int32} {g : zG} (C0 : lC g p s m meth c b xs) {ax am : Nat → Nat} {H : Heap} {locs : List Loc} (hP : va_P g.1 vwCl (lW g ax am) H) (hD : va_D (fun q : Nat => s.heap.size ≤ q) (lW g ax am)) (hS : va_S (fun q : Nat => s.heap.size ≤ q) s.heap H locs) {ls : Array Slot} (hl : lv_has ls 4 [(0, .ref b), (1, .ref (ax 0)), (2, .ref (am 0)), (3, .int 0)]) : W p l e room_1 s m #[Value.ref b] below meth c H locs 600000 7302250 (lw_Z below #[Value.ref b] s) (F0 m 480 ls []) := by
  obtain ⟨hx, hb, hml, hr, hlocks, hown, hts, hK, hN, hZ, hX, hbl⟩ := C0
  have hA : ∀ q : Nat, s.heap.size ≤ q → (fun q : Nat => s.heap.size ≤ q) q := fun _ h => h
  have hbA : ¬ (fun q : Nat => s.heap.size ≤ q) b := Nat.not_le.mpr hbl
  have hP := hP.sub (ws' := [((ax 0), .inr (4, [.ref (ax 1), .ref (ax 10), .int 0, .ref (ax 19), .ref (ax 30), .ref (ax 32), .ref (ax 36), .int (-1), .ref (ax 37), .ref (ax 38), .ref (ax 39), .ref (ax 40)])), ((ax 1), .inr (0, [.ref (ax 2), .int 0, .ref (ax 3), .int 0, .ref (ax 4), .ref (ax 5), .ref (ax 6), .ref (ax 7), .ref (ax 8), .ref (ax 9), .int 0])), ((am 0), .inr (5, [.ref (am 1), .int 0, .ref (am 2), .int 0, .int 0, .ref (am 3), .ref (am 4), .ref (am 5), .ref (am 6), .int 0, .ref (am 7), .ref (am 8), .ref (am 9), .int 0, .ref (am 10), .ref (am 11), .ref (am 12), .ref (am 13), .ref (am 14), .ref (am 15), .ref (am 16), .ref (am 17), .ref (am 18), .ref (am 19), .ref (am 20), .ref (am 21), .ref (am 22)])), ((am 1), .inl (zI g, 180, .inl (upd (upd (upd (fun _ => 0) 0 60) 1 1) 2 1)))]) [0, 1, 41, 42] rfl
  have hD := hD.sub (ws' := [((ax 0), .inr (4, [.ref (ax 1), .ref (ax 10), .int 0, .ref (ax 19), .ref (ax 30), .ref (ax 32), .ref (ax 36), .int (-1), .ref (ax 37), .ref (ax 38), .ref (ax 39), .ref (ax 40)])), ((ax 1), .inr (0, [.ref (ax 2), .int 0, .ref (ax 3), .int 0, .ref (ax 4), .ref (ax 5), .ref (ax 6), .ref (ax 7), .ref (ax 8), .ref (ax 9), .int 0])), ((am 0), .inr (5, [.ref (am 1), .int 0, .ref (am 2), .int 0, .int 0, .ref (am 3), .ref (am 4), .ref (am 5), .ref (am 6), .int 0, .ref (am 7), .ref (am 8), .ref (am 9), .int 0, .ref (am 10), .ref (am 11), .ref (am 12), .ref (am 13), .ref (am 14), .ref (am 15), .ref (am 16), .ref (am 17), .ref (am 18), .ref (am 19), .ref (am 20), .ref (am 21), .ref (am 22)])), ((am 1), .inl (zI g, 180, .inl (upd (upd (upd (fun _ => 0) 0 60) 1 1) 2 1)))]) [0, 1, 41, 42] (by decide) rfl
  refine lv_aload_n hx hb dL_law_480 rfl (lv_at hl 1 rfl) ?_
  refine lv_aload_n hx hb dL_law_481 rfl (lv_at hl 0 rfl) ?_
  refine lv_iload_n hx hb dL_law_482 rfl (lv_at hl 3 rfl) ?_
  refine lv_iconst (v := 1) hx hb dL_law_483 (by decide) ?_
  refine lv_iadd hx hb dL_law_484 ?_
  refine lv_topi (nm_r (e' := 1) (by decide +kernel) ?_)
  refine va_sld hx hb hX hbl hbA hS (vp_in_iff.mpr (by decide +kernel)) dL_law_485 ?_
  refine lv_topi (nm_r (e' := (xs 1)) (by rfl) ?_)
  refine lv_aload_n hx hb dL_law_486 rfl (lv_at hl 0 rfl) ?_
  refine lv_iload_n hx hb dL_law_487 rfl (lv_at hl 3 rfl) ?_
  refine lv_iconst (v := 2) hx hb dL_law_488 (by decide) ?_
  refine lv_iadd hx hb dL_law_489 ?_
  refine lv_topi (nm_r (e' := 2) (by decide +kernel) ?_)
  refine va_sld hx hb hX hbl hbA hS (vp_in_iff.mpr (by decide +kernel)) dL_law_490 ?_
  refine lv_topi (nm_r (e' := (xs 2)) (by rfl) ?_)
  refine z_calli (wr := [((am 0), .inr (5, [.ref (am 1), .int 0, .ref (am 2), .int 0, .int 0, .ref (am 3), .ref (am 4), .ref (am 5), .ref (am 6), .int 0, .ref (am 7), .ref (am 8), .ref (am 9), .int 0, .ref (am 10), .ref (am 11), .ref (am 12), .ref (am 13), .ref (am 14), .ref (am 15), .ref (am 16), .ref (am 17), .ref (am 18), .ref (am 19), .ref (am 20), .ref (am 21), .ref (am 22)])), ((am 1), .inl (zI g, 180, .inl (upd (upd (upd (fun _ => 0) 0 60) 1 1) 2 1)))]) hP hD hS hA [0, 1] [2, 3] (by decide) rfl rfl (by decide) (va_runV (As := [.int (xs 1), .int (xs 2)]) (rest := []) ⟨hx, hb, hml, hown, hts⟩ (kX4_lot l g (ax 0) (ax 1) (ax 10) (ax 19) (ax 30) (ax 32) (ax 36) (ax 37) (ax 38) (ax 39) (ax 40) (ax 2) (ax 3) (ax 4) (ax 5) (ax 6) (ax 7) (ax 8) (ax 9) H.size (xs 1) (xs 2)) ⟨callB_of 2 hts (zGood m_o_yX4_lot) rfl rfl rfl (hts _ m_z_RX4) (hts _ m_m_RL_60) ⟨by decide +kernel, by decide +kernel, by decide +kernel⟩ ⟨Nat.le_of_ble_eq_true rfl, Nat.le_of_ble_eq_true rfl⟩, hts _ m_i_yX4_lot, hts _ m_e_yX4_lot⟩ (zPreV hK hN hZ hP hD hS hA [0, 1] (by decide) rfl rfl 4 0 rfl rfl) rfl rfl hl.1 rfl (lv_room (Nat.le_of_ble_eq_true rfl)) dL_law_491 ⟨Nat.le_of_ble_eq_true rfl, Nat.le_of_ble_eq_true rfl⟩) (fun r u H locs hw hP hD hS => ?_)
  rcases hw with ⟨i_0, rfl⟩ | ⟨i_1, i_2, rfl⟩ | ⟨i_3, i_4, rfl⟩
  · skip
    have hP : va_P g.1 vwCl [((am 0), .inr (5, [.ref (am 1), .int 0, .ref (am 2), .int 0, .int 0, .ref (am 3), .ref (am 4), .ref (am 5), .ref (am 6), .int 0, .ref (am 7), .ref (am 8), .ref (am 9), .int 0, .ref (am 10), .ref (am 11), .ref (am 12), .ref (am 13), .ref (am 14), .ref (am 15), .ref (am 16), .ref (am 17), .ref (am 18), .ref (am 19), .ref (am 20), .ref (am 21), .ref (am 22)])), ((am 1), .inl (zI g, 180, .inl (upd (upd (upd (fun _ => 0) 0 60) 1 1) 2 1)))] H := hP
    have hD : va_D (fun q : Nat => s.heap.size ≤ q) [((am 0), .inr (5, [.ref (am 1), .int 0, .ref (am 2), .int 0, .int 0, .ref (am 3), .ref (am 4), .ref (am 5), .ref (am 6), .int 0, .ref (am 7), .ref (am 8), .ref (am 9), .int 0, .ref (am 10), .ref (am 11), .ref (am 12), .ref (am 13), .ref (am 14), .ref (am 15), .ref (am 16), .ref (am 17), .ref (am 18), .ref (am 19), .ref (am 20), .ref (am 21), .ref (am 22)])), ((am 1), .inl (zI g, 180, .inl (upd (upd (upd (fun _ => 0) 0 60) 1 1) 2 1)))] := hD
    refine lv_aload_n hx hb dL_law_494 rfl (lv_at hl 2 rfl) ?_
    refine lv_aload_n hx hb dL_law_495 rfl (lv_at hl 0 rfl) ?_
    refine lv_iload_n hx hb dL_law_496 rfl (lv_at hl 3 rfl) ?_
    refine lv_iconst (v := 1) hx hb dL_law_497 (by decide) ?_
    refine lv_iadd hx hb dL_law_498 ?_
    refine lv_topi (nm_r (e' := 1) (by decide +kernel) ?_)
    refine va_sld hx hb hX hbl hbA hS (vp_in_iff.mpr (by decide +kernel)) dL_law_499 ?_
    refine lv_topi (nm_r (e' := (xs 1)) (by rfl) ?_)
    refine lv_aload_n hx hb dL_law_500 rfl (lv_at hl 0 rfl) ?_
    refine lv_iload_n hx hb dL_law_501 rfl (lv_at hl 3 rfl) ?_
    refine lv_iconst (v := 2) hx hb dL_law_502 (by decide) ?_
    refine lv_iadd hx hb dL_law_503 ?_
    refine lv_topi (nm_r (e' := 2) (by decide +kernel) ?_)
    refine va_sld hx hb hX hbl hbA hS (vp_in_iff.mpr (by decide +kernel)) dL_law_504 ?_
    refine lv_topi (nm_r (e' := (xs 2)) (by rfl) ?_)
    refine z_calli (wr := []) hP hD hS hA [0, 1] [] (by decide) rfl rfl (by decide) (va_runV (As := [.int (xs 1), .int (xs 2)]) (rest := [.int (-1)]) ⟨hx, hb, hml, hown, hts⟩ (kX5_lot l g (am 0) (am 1) (am 2) (am 3) (am 4) (am 5) (am 6) (am 7) (am 8) (am 9) (am 10) (am 11) (am 12) (am 13) (am 14) (am 15) (am 16) (am 17) (am 18) (am 19) (am 20) (am 21) (am 22) H.size (xs 1) (xs 2)) ⟨callB_of 2 hts (zGood m_o_yX5_lot) rfl rfl rfl (hts _ m_z_RX5) (hts _ m_m_RL_63) ⟨by decide +kernel, by decide +kernel, by decide +kernel⟩ ⟨Nat.le_of_ble_eq_true rfl, Nat.le_of_ble_eq_true rfl⟩, hts _ m_i_yX5_lot, hts _ m_e_yX5_lot⟩ (zPreV hK hN hZ hP hD hS hA [0, 1] (by decide) rfl rfl 5 0 rfl rfl) rfl rfl hl.1 rfl (lv_room (Nat.le_of_ble_eq_true rfl)) dL_law_505 ⟨Nat.le_of_ble_eq_true rfl, Nat.le_of_ble_eq_true rfl⟩) (fun r u H locs hw hP hD hS => ?_)
    rcases hw with ⟨i_5, rfl⟩ | ⟨i_6, rfl⟩
    · skip
      have hP : va_P g.1 vwCl [] H := hP
      have hD : va_D (fun q : Nat => s.heap.size ≤ q) [] := hD
      refine lv_icmp_eq (tgt := 1054) hx hb dL_law_508 (by decide) (fun _ => ?_) (fun h => absurd h (by decide +kernel))
      exact lc_tail ⟨hx, hb, hml, hr, hlocks, hown, hts, hK, hN, hZ, hX, hbl⟩ hS (lv_sub hl [0, 1, 2, 3] rfl)
    · exfalso; omega
  · skip
    have hP : va_P g.1 vwCl [((am 0), .inr (5, [.ref (am 1), .int 0, .ref (am 2), .int 0, .int 0, .ref (am 3), .ref (am 4), .ref (am 5), .ref (am 6), .int 0, .ref (am 7), .ref (am 8), .ref (am 9), .int 0, .ref (am 10), .ref (am 11), .ref (am 12), .ref (am 13), .ref (am 14), .ref (am 15), .ref (am 16), .ref (am 17), .ref (am 18), .ref (am 19), .ref (am 20), .ref (am 21), .ref (am 22)])), ((am 1), .inl (zI g, 180, .inl (upd (upd (upd (fun _ => 0) 0 60) 1 1) 2 1)))] H := hP
    have hD : va_D (fun q : Nat => s.heap.size ≤ q) [((am 0), .inr (5, [.ref (am 1), .int 0, .ref (am 2), .int 0, .int 0, .ref (am 3), .ref (am 4), .ref (am 5), .ref (am 6), .int 0, .ref (am 7), .ref (am 8), .ref (am 9), .int 0, .ref (am 10), .ref (am 11), .ref (am 12), .ref (am 13), .ref (am 14), .ref (am 15), .ref (am 16), .ref (am 17), .ref (am 18), .ref (am 19), .ref (am 20), .ref (am 21), .ref (am 22)])), ((am 1), .inl (zI g, 180, .inl (upd (upd (upd (fun _ => 0) 0 60) 1 1) 2 1)))] := hD
    refine lv_aload_n hx hb dL_law_494 rfl (lv_at hl 2 rfl) ?_
    refine lv_aload_n hx hb dL_law_495 rfl (lv_at hl 0 rfl) ?_
    refine lv_iload_n hx hb dL_law_496 rfl (lv_at hl 3 rfl) ?_
    refine lv_iconst (v := 1) hx hb dL_law_497 (by decide) ?_
    refine lv_iadd hx hb dL_law_498 ?_
    refine lv_topi (nm_r (e' := 1) (by decide +kernel) ?_)
    refine va_sld hx hb hX hbl hbA hS (vp_in_iff.mpr (by decide +kernel)) dL_law_499 ?_
    refine lv_topi (nm_r (e' := (xs 1)) (by rfl) ?_)
    refine lv_aload_n hx hb dL_law_500 rfl (lv_at hl 0 rfl) ?_
    refine lv_iload_n hx hb dL_law_501 rfl (lv_at hl 3 rfl) ?_
    refine lv_iconst (v := 2) hx hb dL_law_502 (by decide) ?_
    refine lv_iadd hx hb dL_law_503 ?_
    refine lv_topi (nm_r (e' := 2) (by decide +kernel) ?_)
    refine va_sld hx hb hX hbl hbA hS (vp_in_iff.mpr (by decide +kernel)) dL_law_504 ?_
    refine lv_topi (nm_r (e' := (xs 2)) (by rfl) ?_)
    refine z_calli (wr := []) hP hD hS hA [0, 1] [] (by decide) rfl rfl (by decide) (va_runV (As := [.int (xs 1), .int (xs 2)]) (rest := [.int (-1)]) ⟨hx, hb, hml, hown, hts⟩ (kX5_lot l g (am 0) (am 1) (am 2) (am 3) (am 4) (am 5) (am 6) (am 7) (am 8) (am 9) (am 10) (am 11) (am 12) (am 13) (am 14) (am 15) (am 16) (am 17) (am 18) (am 19) (am 20) (am 21) (am 22) H.size (xs 1) (xs 2)) ⟨callB_of 2 hts (zGood m_o_yX5_lot) rfl rfl rfl (hts _ m_z_RX5) (hts _ m_m_RL_63) ⟨by decide +kernel, by decide +kernel, by decide +kernel⟩ ⟨Nat.le_of_ble_eq_true rfl, Nat.le_of_ble_eq_true rfl⟩, hts _ m_i_yX5_lot, hts _ m_e_yX5_lot⟩ (zPreV hK hN hZ hP hD hS hA [0, 1] (by decide) rfl rfl 5 0 rfl rfl) rfl rfl hl.1 rfl (lv_room (Nat.le_of_ble_eq_true rfl)) dL_law_505 ⟨Nat.le_of_ble_eq_true rfl, Nat.le_of_ble_eq_true rfl⟩) (fun r u H locs hw hP hD hS => ?_)
    rcases hw with ⟨i_7, rfl⟩ | ⟨i_8, rfl⟩
    · exfalso; omega
    · skip
      have hP : va_P g.1 vwCl [] H := hP
      have hD : va_D (fun q : Nat => s.heap.size ≤ q) [] := hD
      refine lv_icmp_eq (tgt := 1054) hx hb dL_law_508 (by decide) (fun _ => ?_) (fun h => absurd h (by decide +kernel))
      exact lc_tail ⟨hx, hb, hml, hr, hlocks, hown, hts, hK, hN, hZ, hX, hbl⟩ hS (lv_sub hl [0, 1, 2, 3] rfl)
  · skip
    have hP : va_P g.1 vwCl [((am 0), .inr (5, [.ref (am 1), .int 0, .ref (am 2), .int 0, .int 0, .ref (am 3), .ref (am 4), .ref (am 5), .ref (am 6), .int 0, .ref (am 7), .ref (am 8), .ref (am 9), .int 0, .ref (am 10), .ref (am 11), .ref (am 12), .ref (am 13), .ref (am 14), .ref (am 15), .ref (am 16), .ref (am 17), .ref (am 18), .ref (am 19), .ref (am 20), .ref (am 21), .ref (am 22)])), ((am 1), .inl (zI g, 180, .inl (upd (upd (upd (fun _ => 0) 0 60) 1 1) 2 1)))] H := hP
    have hD : va_D (fun q : Nat => s.heap.size ≤ q) [((am 0), .inr (5, [.ref (am 1), .int 0, .ref (am 2), .int 0, .int 0, .ref (am 3), .ref (am 4), .ref (am 5), .ref (am 6), .int 0, .ref (am 7), .ref (am 8), .ref (am 9), .int 0, .ref (am 10), .ref (am 11), .ref (am 12), .ref (am 13), .ref (am 14), .ref (am 15), .ref (am 16), .ref (am 17), .ref (am 18), .ref (am 19), .ref (am 20), .ref (am 21), .ref (am 22)])), ((am 1), .inl (zI g, 180, .inl (upd (upd (upd (fun _ => 0) 0 60) 1 1) 2 1)))] := hD
    refine lv_aload_n hx hb dL_law_494 rfl (lv_at hl 2 rfl) ?_
    refine lv_aload_n hx hb dL_law_495 rfl (lv_at hl 0 rfl) ?_
    refine lv_iload_n hx hb dL_law_496 rfl (lv_at hl 3 rfl) ?_
    refine lv_iconst (v := 1) hx hb dL_law_497 (by decide) ?_
    refine lv_iadd hx hb dL_law_498 ?_
    refine lv_topi (nm_r (e' := 1) (by decide +kernel) ?_)
    refine va_sld hx hb hX hbl hbA hS (vp_in_iff.mpr (by decide +kernel)) dL_law_499 ?_
    refine lv_topi (nm_r (e' := (xs 1)) (by rfl) ?_)
    refine lv_aload_n hx hb dL_law_500 rfl (lv_at hl 0 rfl) ?_
    refine lv_iload_n hx hb dL_law_501 rfl (lv_at hl 3 rfl) ?_
    refine lv_iconst (v := 2) hx hb dL_law_502 (by decide) ?_
    refine lv_iadd hx hb dL_law_503 ?_
    refine lv_topi (nm_r (e' := 2) (by decide +kernel) ?_)
    refine va_sld hx hb hX hbl hbA hS (vp_in_iff.mpr (by decide +kernel)) dL_law_504 ?_
    refine lv_topi (nm_r (e' := (xs 2)) (by rfl) ?_)
    refine z_calli (wr := []) hP hD hS hA [0, 1] [] (by decide) rfl rfl (by decide) (va_runV (As := [.int (xs 1), .int (xs 2)]) (rest := [.int (-1)]) ⟨hx, hb, hml, hown, hts⟩ (kX5_lot l g (am 0) (am 1) (am 2) (am 3) (am 4) (am 5) (am 6) (am 7) (am 8) (am 9) (am 10) (am 11) (am 12) (am 13) (am 14) (am 15) (am 16) (am 17) (am 18) (am 19) (am 20) (am 21) (am 22) H.size (xs 1) (xs 2)) ⟨callB_of 2 hts (zGood m_o_yX5_lot) rfl rfl rfl (hts _ m_z_RX5) (hts _ m_m_RL_63) ⟨by decide +kernel, by decide +kernel, by decide +kernel⟩ ⟨Nat.le_of_ble_eq_true rfl, Nat.le_of_ble_eq_true rfl⟩, hts _ m_i_yX5_lot, hts _ m_e_yX5_lot⟩ (zPreV hK hN hZ hP hD hS hA [0, 1] (by decide) rfl rfl 5 0 rfl rfl) rfl rfl hl.1 rfl (lv_room (Nat.le_of_ble_eq_true rfl)) dL_law_505 ⟨Nat.le_of_ble_eq_true rfl, Nat.le_of_ble_eq_true rfl⟩) (fun r u H locs hw hP hD hS => ?_)
    rcases hw with ⟨i_9, rfl⟩ | ⟨i_10, rfl⟩
    · exfalso; omega
    · skip
      have hP : va_P g.1 vwCl [] H := hP
      have hD : va_D (fun q : Nat => s.heap.size ≤ q) [] := hD
      refine lv_icmp_eq (tgt := 1054) hx hb dL_law_508 (by decide) (fun _ => ?_) (fun h => absurd h (by decide +kernel))
      exact lc_tail ⟨hx, hb, hml, hr, hlocks, hown, hts, hK, hN, hZ, hX, hbl⟩ hS (lv_sub hl [0, 1, 2, 3] rfl)
set_option maxHeartbeats 4000000 in
set_option maxRecDepth 100000 in
theorem lc_gain {p : Program} {l : Launch} {e : Env} {s : State} {m : MethodId} {below : List Frame} {meth : Method} {c : Code} {b : Nat} {xs : Nat → Int32} {g : zG} (C0 : lC g p s m meth c b xs) {ax am : Nat → Nat} {H : Heap} {locs : List Loc} (hP : va_P g.1 vwCl (lW g ax am) H) (hD : va_D (fun q : Nat => s.heap.size ≤ q) (lW g ax am)) (hS : va_S (fun q : Nat => s.heap.size ≤ q) s.heap H locs) {ls : Array Slot} (hl : lv_has ls 4 [(0, .ref b), (1, .ref (ax 0)), (2, .ref (am 0)), (3, .int 0)]) : W p l e room_1 s m #[Value.ref b] below meth c H locs 600000 7302250 (lw_Z below #[Value.ref b] s) (F0 m 513 ls []) := by
  obtain ⟨hx, hb, hml, hr, hlocks, hown, hts, hK, hN, hZ, hX, hbl⟩ := C0
  have hA : ∀ q : Nat, s.heap.size ≤ q → (fun q : Nat => s.heap.size ≤ q) q := fun _ h => h
  have hbA : ¬ (fun q : Nat => s.heap.size ≤ q) b := Nat.not_le.mpr hbl
  have hP := hP.sub (ws' := [((ax 0), .inr (4, [.ref (ax 1), .ref (ax 10), .int 0, .ref (ax 19), .ref (ax 30), .ref (ax 32), .ref (ax 36), .int (-1), .ref (ax 37), .ref (ax 38), .ref (ax 39), .ref (ax 40)])), ((ax 1), .inr (0, [.ref (ax 2), .int 0, .ref (ax 3), .int 0, .ref (ax 4), .ref (ax 5), .ref (ax 6), .ref (ax 7), .ref (ax 8), .ref (ax 9), .int 0])), ((am 0), .inr (5, [.ref (am 1), .int 0, .ref (am 2), .int 0, .int 0, .ref (am 3), .ref (am 4), .ref (am 5), .ref (am 6), .int 0, .ref (am 7), .ref (am 8), .ref (am 9), .int 0, .ref (am 10), .ref (am 11), .ref (am 12), .ref (am 13), .ref (am 14), .ref (am 15), .ref (am 16), .ref (am 17), .ref (am 18), .ref (am 19), .ref (am 20), .ref (am 21), .ref (am 22)])), ((am 1), .inl (zI g, 180, .inl (upd (upd (upd (fun _ => 0) 0 60) 1 1) 2 1)))]) [0, 1, 41, 42] rfl
  have hD := hD.sub (ws' := [((ax 0), .inr (4, [.ref (ax 1), .ref (ax 10), .int 0, .ref (ax 19), .ref (ax 30), .ref (ax 32), .ref (ax 36), .int (-1), .ref (ax 37), .ref (ax 38), .ref (ax 39), .ref (ax 40)])), ((ax 1), .inr (0, [.ref (ax 2), .int 0, .ref (ax 3), .int 0, .ref (ax 4), .ref (ax 5), .ref (ax 6), .ref (ax 7), .ref (ax 8), .ref (ax 9), .int 0])), ((am 0), .inr (5, [.ref (am 1), .int 0, .ref (am 2), .int 0, .int 0, .ref (am 3), .ref (am 4), .ref (am 5), .ref (am 6), .int 0, .ref (am 7), .ref (am 8), .ref (am 9), .int 0, .ref (am 10), .ref (am 11), .ref (am 12), .ref (am 13), .ref (am 14), .ref (am 15), .ref (am 16), .ref (am 17), .ref (am 18), .ref (am 19), .ref (am 20), .ref (am 21), .ref (am 22)])), ((am 1), .inl (zI g, 180, .inl (upd (upd (upd (fun _ => 0) 0 60) 1 1) 2 1)))]) [0, 1, 41, 42] (by decide) rfl
  refine lv_aload_n hx hb dL_law_513 rfl (lv_at hl 1 rfl) ?_
  refine lv_aload_n hx hb dL_law_514 rfl (lv_at hl 0 rfl) ?_
  refine lv_iload_n hx hb dL_law_515 rfl (lv_at hl 3 rfl) ?_
  refine lv_iconst (v := 1) hx hb dL_law_516 (by decide) ?_
  refine lv_iadd hx hb dL_law_517 ?_
  refine lv_topi (nm_r (e' := 1) (by decide +kernel) ?_)
  refine va_sld hx hb hX hbl hbA hS (vp_in_iff.mpr (by decide +kernel)) dL_law_518 ?_
  refine lv_topi (nm_r (e' := (xs 1)) (by rfl) ?_)
  refine z_calli (wr := [((am 0), .inr (5, [.ref (am 1), .int 0, .ref (am 2), .int 0, .int 0, .ref (am 3), .ref (am 4), .ref (am 5), .ref (am 6), .int 0, .ref (am 7), .ref (am 8), .ref (am 9), .int 0, .ref (am 10), .ref (am 11), .ref (am 12), .ref (am 13), .ref (am 14), .ref (am 15), .ref (am 16), .ref (am 17), .ref (am 18), .ref (am 19), .ref (am 20), .ref (am 21), .ref (am 22)])), ((am 1), .inl (zI g, 180, .inl (upd (upd (upd (fun _ => 0) 0 60) 1 1) 2 1)))]) hP hD hS hA [0, 1] [2, 3] (by decide) rfl rfl (by decide) (va_runV (As := [.int (xs 1)]) (rest := []) ⟨hx, hb, hml, hown, hts⟩ (kX4_gain l g (ax 0) (ax 1) (ax 10) (ax 19) (ax 30) (ax 32) (ax 36) (ax 37) (ax 38) (ax 39) (ax 40) (ax 2) (ax 3) (ax 4) (ax 5) (ax 6) (ax 7) (ax 8) (ax 9) H.size (xs 1)) ⟨callB_of 1 hts (zGood m_o_yX4_gain) rfl rfl rfl (hts _ m_z_RX4) (hts _ m_m_RL_64) ⟨by decide +kernel, by decide +kernel, by decide +kernel⟩ ⟨Nat.le_of_ble_eq_true rfl, Nat.le_of_ble_eq_true rfl⟩, hts _ m_i_yX4_gain, hts _ m_e_yX4_gain⟩ (zPreV hK hN hZ hP hD hS hA [0, 1] (by decide) rfl rfl 4 0 rfl rfl) rfl rfl hl.1 rfl (lv_room (Nat.le_of_ble_eq_true rfl)) dL_law_519 ⟨Nat.le_of_ble_eq_true rfl, Nat.le_of_ble_eq_true rfl⟩) (fun r u H locs hw hP hD hS => ?_)
  rcases hw with ⟨i_0, rfl⟩ | ⟨i_1, i_2, rfl⟩ | ⟨i_3, i_4, rfl⟩
  · skip
    have hP : va_P g.1 vwCl [((am 0), .inr (5, [.ref (am 1), .int 0, .ref (am 2), .int 0, .int 0, .ref (am 3), .ref (am 4), .ref (am 5), .ref (am 6), .int 0, .ref (am 7), .ref (am 8), .ref (am 9), .int 0, .ref (am 10), .ref (am 11), .ref (am 12), .ref (am 13), .ref (am 14), .ref (am 15), .ref (am 16), .ref (am 17), .ref (am 18), .ref (am 19), .ref (am 20), .ref (am 21), .ref (am 22)])), ((am 1), .inl (zI g, 180, .inl (upd (upd (upd (fun _ => 0) 0 60) 1 1) 2 1)))] H := hP
    have hD : va_D (fun q : Nat => s.heap.size ≤ q) [((am 0), .inr (5, [.ref (am 1), .int 0, .ref (am 2), .int 0, .int 0, .ref (am 3), .ref (am 4), .ref (am 5), .ref (am 6), .int 0, .ref (am 7), .ref (am 8), .ref (am 9), .int 0, .ref (am 10), .ref (am 11), .ref (am 12), .ref (am 13), .ref (am 14), .ref (am 15), .ref (am 16), .ref (am 17), .ref (am 18), .ref (am 19), .ref (am 20), .ref (am 21), .ref (am 22)])), ((am 1), .inl (zI g, 180, .inl (upd (upd (upd (fun _ => 0) 0 60) 1 1) 2 1)))] := hD
    refine lv_aload_n hx hb dL_law_522 rfl (lv_at hl 2 rfl) ?_
    refine lv_aload_n hx hb dL_law_523 rfl (lv_at hl 0 rfl) ?_
    refine lv_iload_n hx hb dL_law_524 rfl (lv_at hl 3 rfl) ?_
    refine lv_iconst (v := 1) hx hb dL_law_525 (by decide) ?_
    refine lv_iadd hx hb dL_law_526 ?_
    refine lv_topi (nm_r (e' := 1) (by decide +kernel) ?_)
    refine va_sld hx hb hX hbl hbA hS (vp_in_iff.mpr (by decide +kernel)) dL_law_527 ?_
    refine lv_topi (nm_r (e' := (xs 1)) (by rfl) ?_)
    refine z_calli (wr := []) hP hD hS hA [0, 1] [] (by decide) rfl rfl (by decide) (va_runV (As := [.int (xs 1)]) (rest := [.int (-100001)]) ⟨hx, hb, hml, hown, hts⟩ (kX5_gain l g (am 0) (am 1) (am 2) (am 3) (am 4) (am 5) (am 6) (am 7) (am 8) (am 9) (am 10) (am 11) (am 12) (am 13) (am 14) (am 15) (am 16) (am 17) (am 18) (am 19) (am 20) (am 21) (am 22) H.size (xs 1)) ⟨callB_of 1 hts (zGood m_o_yX5_gain) rfl rfl rfl (hts _ m_z_RX5) (hts _ m_m_RL_67) ⟨by decide +kernel, by decide +kernel, by decide +kernel⟩ ⟨Nat.le_of_ble_eq_true rfl, Nat.le_of_ble_eq_true rfl⟩, hts _ m_i_yX5_gain, hts _ m_e_yX5_gain⟩ (zPreV hK hN hZ hP hD hS hA [0, 1] (by decide) rfl rfl 5 0 rfl rfl) rfl rfl hl.1 rfl (lv_room (Nat.le_of_ble_eq_true rfl)) dL_law_528 ⟨Nat.le_of_ble_eq_true rfl, Nat.le_of_ble_eq_true rfl⟩) (fun r u H locs hw hP hD hS => ?_)
    rcases hw with ⟨i_5, rfl⟩ | ⟨i_6, rfl⟩
    · skip
      have hP : va_P g.1 vwCl [] H := hP
      have hD : va_D (fun q : Nat => s.heap.size ≤ q) [] := hD
      refine lv_icmp_eq (tgt := 1054) hx hb dL_law_531 (by decide) (fun _ => ?_) (fun h => absurd h (by decide +kernel))
      exact lc_tail ⟨hx, hb, hml, hr, hlocks, hown, hts, hK, hN, hZ, hX, hbl⟩ hS (lv_sub hl [0, 1, 2, 3] rfl)
    · exfalso; omega
  · skip
    have hP : va_P g.1 vwCl [((am 0), .inr (5, [.ref (am 1), .int 0, .ref (am 2), .int 0, .int 0, .ref (am 3), .ref (am 4), .ref (am 5), .ref (am 6), .int 0, .ref (am 7), .ref (am 8), .ref (am 9), .int 0, .ref (am 10), .ref (am 11), .ref (am 12), .ref (am 13), .ref (am 14), .ref (am 15), .ref (am 16), .ref (am 17), .ref (am 18), .ref (am 19), .ref (am 20), .ref (am 21), .ref (am 22)])), ((am 1), .inl (zI g, 180, .inl (upd (upd (upd (fun _ => 0) 0 60) 1 1) 2 1)))] H := hP
    have hD : va_D (fun q : Nat => s.heap.size ≤ q) [((am 0), .inr (5, [.ref (am 1), .int 0, .ref (am 2), .int 0, .int 0, .ref (am 3), .ref (am 4), .ref (am 5), .ref (am 6), .int 0, .ref (am 7), .ref (am 8), .ref (am 9), .int 0, .ref (am 10), .ref (am 11), .ref (am 12), .ref (am 13), .ref (am 14), .ref (am 15), .ref (am 16), .ref (am 17), .ref (am 18), .ref (am 19), .ref (am 20), .ref (am 21), .ref (am 22)])), ((am 1), .inl (zI g, 180, .inl (upd (upd (upd (fun _ => 0) 0 60) 1 1) 2 1)))] := hD
    refine lv_aload_n hx hb dL_law_522 rfl (lv_at hl 2 rfl) ?_
    refine lv_aload_n hx hb dL_law_523 rfl (lv_at hl 0 rfl) ?_
    refine lv_iload_n hx hb dL_law_524 rfl (lv_at hl 3 rfl) ?_
    refine lv_iconst (v := 1) hx hb dL_law_525 (by decide) ?_
    refine lv_iadd hx hb dL_law_526 ?_
    refine lv_topi (nm_r (e' := 1) (by decide +kernel) ?_)
    refine va_sld hx hb hX hbl hbA hS (vp_in_iff.mpr (by decide +kernel)) dL_law_527 ?_
    refine lv_topi (nm_r (e' := (xs 1)) (by rfl) ?_)
    refine z_calli (wr := []) hP hD hS hA [0, 1] [] (by decide) rfl rfl (by decide) (va_runV (As := [.int (xs 1)]) (rest := [.int (-100001)]) ⟨hx, hb, hml, hown, hts⟩ (kX5_gain l g (am 0) (am 1) (am 2) (am 3) (am 4) (am 5) (am 6) (am 7) (am 8) (am 9) (am 10) (am 11) (am 12) (am 13) (am 14) (am 15) (am 16) (am 17) (am 18) (am 19) (am 20) (am 21) (am 22) H.size (xs 1)) ⟨callB_of 1 hts (zGood m_o_yX5_gain) rfl rfl rfl (hts _ m_z_RX5) (hts _ m_m_RL_67) ⟨by decide +kernel, by decide +kernel, by decide +kernel⟩ ⟨Nat.le_of_ble_eq_true rfl, Nat.le_of_ble_eq_true rfl⟩, hts _ m_i_yX5_gain, hts _ m_e_yX5_gain⟩ (zPreV hK hN hZ hP hD hS hA [0, 1] (by decide) rfl rfl 5 0 rfl rfl) rfl rfl hl.1 rfl (lv_room (Nat.le_of_ble_eq_true rfl)) dL_law_528 ⟨Nat.le_of_ble_eq_true rfl, Nat.le_of_ble_eq_true rfl⟩) (fun r u H locs hw hP hD hS => ?_)
    rcases hw with ⟨i_7, rfl⟩ | ⟨i_8, rfl⟩
    · exfalso; omega
    · skip
      have hP : va_P g.1 vwCl [] H := hP
      have hD : va_D (fun q : Nat => s.heap.size ≤ q) [] := hD
      refine lv_icmp_eq (tgt := 1054) hx hb dL_law_531 (by decide) (fun _ => ?_) (fun h => absurd h (by decide +kernel))
      exact lc_tail ⟨hx, hb, hml, hr, hlocks, hown, hts, hK, hN, hZ, hX, hbl⟩ hS (lv_sub hl [0, 1, 2, 3] rfl)
  · skip
    have hP : va_P g.1 vwCl [((am 0), .inr (5, [.ref (am 1), .int 0, .ref (am 2), .int 0, .int 0, .ref (am 3), .ref (am 4), .ref (am 5), .ref (am 6), .int 0, .ref (am 7), .ref (am 8), .ref (am 9), .int 0, .ref (am 10), .ref (am 11), .ref (am 12), .ref (am 13), .ref (am 14), .ref (am 15), .ref (am 16), .ref (am 17), .ref (am 18), .ref (am 19), .ref (am 20), .ref (am 21), .ref (am 22)])), ((am 1), .inl (zI g, 180, .inl (upd (upd (upd (fun _ => 0) 0 60) 1 1) 2 1)))] H := hP
    have hD : va_D (fun q : Nat => s.heap.size ≤ q) [((am 0), .inr (5, [.ref (am 1), .int 0, .ref (am 2), .int 0, .int 0, .ref (am 3), .ref (am 4), .ref (am 5), .ref (am 6), .int 0, .ref (am 7), .ref (am 8), .ref (am 9), .int 0, .ref (am 10), .ref (am 11), .ref (am 12), .ref (am 13), .ref (am 14), .ref (am 15), .ref (am 16), .ref (am 17), .ref (am 18), .ref (am 19), .ref (am 20), .ref (am 21), .ref (am 22)])), ((am 1), .inl (zI g, 180, .inl (upd (upd (upd (fun _ => 0) 0 60) 1 1) 2 1)))] := hD
    refine lv_aload_n hx hb dL_law_522 rfl (lv_at hl 2 rfl) ?_
    refine lv_aload_n hx hb dL_law_523 rfl (lv_at hl 0 rfl) ?_
    refine lv_iload_n hx hb dL_law_524 rfl (lv_at hl 3 rfl) ?_
    refine lv_iconst (v := 1) hx hb dL_law_525 (by decide) ?_
    refine lv_iadd hx hb dL_law_526 ?_
    refine lv_topi (nm_r (e' := 1) (by decide +kernel) ?_)
    refine va_sld hx hb hX hbl hbA hS (vp_in_iff.mpr (by decide +kernel)) dL_law_527 ?_
    refine lv_topi (nm_r (e' := (xs 1)) (by rfl) ?_)
    refine z_calli (wr := []) hP hD hS hA [0, 1] [] (by decide) rfl rfl (by decide) (va_runV (As := [.int (xs 1)]) (rest := [.int (-100001)]) ⟨hx, hb, hml, hown, hts⟩ (kX5_gain l g (am 0) (am 1) (am 2) (am 3) (am 4) (am 5) (am 6) (am 7) (am 8) (am 9) (am 10) (am 11) (am 12) (am 13) (am 14) (am 15) (am 16) (am 17) (am 18) (am 19) (am 20) (am 21) (am 22) H.size (xs 1)) ⟨callB_of 1 hts (zGood m_o_yX5_gain) rfl rfl rfl (hts _ m_z_RX5) (hts _ m_m_RL_67) ⟨by decide +kernel, by decide +kernel, by decide +kernel⟩ ⟨Nat.le_of_ble_eq_true rfl, Nat.le_of_ble_eq_true rfl⟩, hts _ m_i_yX5_gain, hts _ m_e_yX5_gain⟩ (zPreV hK hN hZ hP hD hS hA [0, 1] (by decide) rfl rfl 5 0 rfl rfl) rfl rfl hl.1 rfl (lv_room (Nat.le_of_ble_eq_true rfl)) dL_law_528 ⟨Nat.le_of_ble_eq_true rfl, Nat.le_of_ble_eq_true rfl⟩) (fun r u H locs hw hP hD hS => ?_)
    rcases hw with ⟨i_9, rfl⟩ | ⟨i_10, rfl⟩
    · exfalso; omega
    · skip
      have hP : va_P g.1 vwCl [] H := hP
      have hD : va_D (fun q : Nat => s.heap.size ≤ q) [] := hD
      refine lv_icmp_eq (tgt := 1054) hx hb dL_law_531 (by decide) (fun _ => ?_) (fun h => absurd h (by decide +kernel))
      exact lc_tail ⟨hx, hb, hml, hr, hlocks, hown, hts, hK, hN, hZ, hX, hbl⟩ hS (lv_sub hl [0, 1, 2, 3] rfl)
set_option maxHeartbeats 4000000 in
set_option maxRecDepth 100000 in
theorem lc_till {p : Program} {l : Launch} {e : Env} {s : State} {m : MethodId} {below : List Frame} {meth : Method} {c : Code} {b : Nat} {xs : Nat → Int32} {g : zG} (C0 : lC g p s m meth c b xs) {ax am : Nat → Nat} {H : Heap} {locs : List Loc} (hP : va_P g.1 vwCl (lW g ax am) H) (hD : va_D (fun q : Nat => s.heap.size ≤ q) (lW g ax am)) (hS : va_S (fun q : Nat => s.heap.size ≤ q) s.heap H locs) {ls : Array Slot} (hl : lv_has ls 4 [(0, .ref b), (1, .ref (ax 0)), (2, .ref (am 0)), (3, .int 0)]) : W p l e room_1 s m #[Value.ref b] below meth c H locs 600000 7302250 (lw_Z below #[Value.ref b] s) (F0 m 536 ls []) := by
  obtain ⟨hx, hb, hml, hr, hlocks, hown, hts, hK, hN, hZ, hX, hbl⟩ := C0
  have hA : ∀ q : Nat, s.heap.size ≤ q → (fun q : Nat => s.heap.size ≤ q) q := fun _ h => h
  have hbA : ¬ (fun q : Nat => s.heap.size ≤ q) b := Nat.not_le.mpr hbl
  have hP := hP.sub (ws' := [((ax 0), .inr (4, [.ref (ax 1), .ref (ax 10), .int 0, .ref (ax 19), .ref (ax 30), .ref (ax 32), .ref (ax 36), .int (-1), .ref (ax 37), .ref (ax 38), .ref (ax 39), .ref (ax 40)])), ((ax 1), .inr (0, [.ref (ax 2), .int 0, .ref (ax 3), .int 0, .ref (ax 4), .ref (ax 5), .ref (ax 6), .ref (ax 7), .ref (ax 8), .ref (ax 9), .int 0])), ((ax 5), .inl (zI g, 5, .inl (fun _ => 0))), ((ax 6), .inl (zI g, 5, .inl (fun _ => 0))), ((ax 19), .inr (2, [.ref (ax 20), .ref (ax 21), .ref (ax 22), .ref (ax 23), .ref (ax 24), .ref (ax 25), .int 0, .int 0, .ref (ax 26), .ref (ax 27), .ref (ax 28), .ref (ax 29)])), ((ax 20), .inl (zI g, 5, .inl (fun _ => 0))), ((ax 21), .inl (zI g, 5, .inl (fun _ => 0))), ((ax 22), .inl (zI g, 5, .inl (fun _ => 0))), ((ax 23), .inl (zI g, 5, .inl (fun _ => 0))), ((am 0), .inr (5, [.ref (am 1), .int 0, .ref (am 2), .int 0, .int 0, .ref (am 3), .ref (am 4), .ref (am 5), .ref (am 6), .int 0, .ref (am 7), .ref (am 8), .ref (am 9), .int 0, .ref (am 10), .ref (am 11), .ref (am 12), .ref (am 13), .ref (am 14), .ref (am 15), .ref (am 16), .ref (am 17), .ref (am 18), .ref (am 19), .ref (am 20), .ref (am 21), .ref (am 22)])), ((am 1), .inl (zI g, 180, .inl (upd (upd (upd (fun _ => 0) 0 60) 1 1) 2 1))), ((am 5), .inl (zI g, 6, .inl (upd (upd (upd (upd (upd (fun _ => 0) 1 1) 2 2) 3 3) 4 4) 5 5)))]) [0, 1, 5, 6, 19, 20, 21, 22, 23, 41, 42, 46] rfl
  have hD := hD.sub (ws' := [((ax 0), .inr (4, [.ref (ax 1), .ref (ax 10), .int 0, .ref (ax 19), .ref (ax 30), .ref (ax 32), .ref (ax 36), .int (-1), .ref (ax 37), .ref (ax 38), .ref (ax 39), .ref (ax 40)])), ((ax 1), .inr (0, [.ref (ax 2), .int 0, .ref (ax 3), .int 0, .ref (ax 4), .ref (ax 5), .ref (ax 6), .ref (ax 7), .ref (ax 8), .ref (ax 9), .int 0])), ((ax 5), .inl (zI g, 5, .inl (fun _ => 0))), ((ax 6), .inl (zI g, 5, .inl (fun _ => 0))), ((ax 19), .inr (2, [.ref (ax 20), .ref (ax 21), .ref (ax 22), .ref (ax 23), .ref (ax 24), .ref (ax 25), .int 0, .int 0, .ref (ax 26), .ref (ax 27), .ref (ax 28), .ref (ax 29)])), ((ax 20), .inl (zI g, 5, .inl (fun _ => 0))), ((ax 21), .inl (zI g, 5, .inl (fun _ => 0))), ((ax 22), .inl (zI g, 5, .inl (fun _ => 0))), ((ax 23), .inl (zI g, 5, .inl (fun _ => 0))), ((am 0), .inr (5, [.ref (am 1), .int 0, .ref (am 2), .int 0, .int 0, .ref (am 3), .ref (am 4), .ref (am 5), .ref (am 6), .int 0, .ref (am 7), .ref (am 8), .ref (am 9), .int 0, .ref (am 10), .ref (am 11), .ref (am 12), .ref (am 13), .ref (am 14), .ref (am 15), .ref (am 16), .ref (am 17), .ref (am 18), .ref (am 19), .ref (am 20), .ref (am 21), .ref (am 22)])), ((am 1), .inl (zI g, 180, .inl (upd (upd (upd (fun _ => 0) 0 60) 1 1) 2 1))), ((am 5), .inl (zI g, 6, .inl (upd (upd (upd (upd (upd (fun _ => 0) 1 1) 2 2) 3 3) 4 4) 5 5)))]) [0, 1, 5, 6, 19, 20, 21, 22, 23, 41, 42, 46] (by decide) rfl
  refine lv_aload_n hx hb dL_law_536 rfl (lv_at hl 1 rfl) ?_
  refine lv_aload_n hx hb dL_law_537 rfl (lv_at hl 0 rfl) ?_
  refine lv_iload_n hx hb dL_law_538 rfl (lv_at hl 3 rfl) ?_
  refine lv_iconst (v := 1) hx hb dL_law_539 (by decide) ?_
  refine lv_iadd hx hb dL_law_540 ?_
  refine lv_topi (nm_r (e' := 1) (by decide +kernel) ?_)
  refine va_sld hx hb hX hbl hbA hS (vp_in_iff.mpr (by decide +kernel)) dL_law_541 ?_
  refine lv_topi (nm_r (e' := (xs 1)) (by rfl) ?_)
  refine z_calli (wr := [((am 0), .inr (5, [.ref (am 1), .int 0, .ref (am 2), .int 0, .int 0, .ref (am 3), .ref (am 4), .ref (am 5), .ref (am 6), .int 0, .ref (am 7), .ref (am 8), .ref (am 9), .int 0, .ref (am 10), .ref (am 11), .ref (am 12), .ref (am 13), .ref (am 14), .ref (am 15), .ref (am 16), .ref (am 17), .ref (am 18), .ref (am 19), .ref (am 20), .ref (am 21), .ref (am 22)])), ((am 1), .inl (zI g, 180, .inl (upd (upd (upd (fun _ => 0) 0 60) 1 1) 2 1))), ((am 5), .inl (zI g, 6, .inl (upd (upd (upd (upd (upd (fun _ => 0) 1 1) 2 2) 3 3) 4 4) 5 5)))]) hP hD hS hA [0, 1, 2, 3, 4, 5, 6, 7, 8] [9, 10, 11] (by decide) rfl rfl (by decide) (va_runV (As := [.int (xs 1)]) (rest := []) ⟨hx, hb, hml, hown, hts⟩ (kX4_till l g (ax 0) (ax 1) (ax 10) (ax 19) (ax 30) (ax 32) (ax 36) (ax 37) (ax 38) (ax 39) (ax 40) (ax 2) (ax 3) (ax 4) (ax 5) (ax 6) (ax 7) (ax 8) (ax 9) (ax 20) (ax 21) (ax 22) (ax 23) (ax 24) (ax 25) (ax 26) (ax 27) (ax 28) (ax 29) H.size (xs 1)) ⟨callB_of 1 hts (zGood m_o_yX4_till) rfl rfl rfl (hts _ m_z_RX4) (hts _ m_m_RL_68) ⟨by decide +kernel, by decide +kernel, by decide +kernel⟩ ⟨Nat.le_of_ble_eq_true rfl, Nat.le_of_ble_eq_true rfl⟩, hts _ m_i_yX4_till, hts _ m_e_yX4_till⟩ (zPreV hK hN hZ hP hD hS hA [0, 1, 2, 3, 4, 5, 6, 7, 8] (by decide) rfl rfl 4 0 rfl rfl) rfl rfl hl.1 rfl (lv_room (Nat.le_of_ble_eq_true rfl)) dL_law_542 ⟨Nat.le_of_ble_eq_true rfl, Nat.le_of_ble_eq_true rfl⟩) (fun r u H locs hw hP hD hS => ?_)
  rcases hw with ⟨i_0, rfl⟩ | ⟨i_1, i_2, rfl⟩ | ⟨i_3, i_4, rfl⟩
  · skip
    have hP : va_P g.1 vwCl [((am 0), .inr (5, [.ref (am 1), .int 0, .ref (am 2), .int 0, .int 0, .ref (am 3), .ref (am 4), .ref (am 5), .ref (am 6), .int 0, .ref (am 7), .ref (am 8), .ref (am 9), .int 0, .ref (am 10), .ref (am 11), .ref (am 12), .ref (am 13), .ref (am 14), .ref (am 15), .ref (am 16), .ref (am 17), .ref (am 18), .ref (am 19), .ref (am 20), .ref (am 21), .ref (am 22)])), ((am 1), .inl (zI g, 180, .inl (upd (upd (upd (fun _ => 0) 0 60) 1 1) 2 1))), ((am 5), .inl (zI g, 6, .inl (upd (upd (upd (upd (upd (fun _ => 0) 1 1) 2 2) 3 3) 4 4) 5 5)))] H := hP
    have hD : va_D (fun q : Nat => s.heap.size ≤ q) [((am 0), .inr (5, [.ref (am 1), .int 0, .ref (am 2), .int 0, .int 0, .ref (am 3), .ref (am 4), .ref (am 5), .ref (am 6), .int 0, .ref (am 7), .ref (am 8), .ref (am 9), .int 0, .ref (am 10), .ref (am 11), .ref (am 12), .ref (am 13), .ref (am 14), .ref (am 15), .ref (am 16), .ref (am 17), .ref (am 18), .ref (am 19), .ref (am 20), .ref (am 21), .ref (am 22)])), ((am 1), .inl (zI g, 180, .inl (upd (upd (upd (fun _ => 0) 0 60) 1 1) 2 1))), ((am 5), .inl (zI g, 6, .inl (upd (upd (upd (upd (upd (fun _ => 0) 1 1) 2 2) 3 3) 4 4) 5 5)))] := hD
    refine lv_aload_n hx hb dL_law_545 rfl (lv_at hl 2 rfl) ?_
    refine lv_aload_n hx hb dL_law_546 rfl (lv_at hl 0 rfl) ?_
    refine lv_iload_n hx hb dL_law_547 rfl (lv_at hl 3 rfl) ?_
    refine lv_iconst (v := 1) hx hb dL_law_548 (by decide) ?_
    refine lv_iadd hx hb dL_law_549 ?_
    refine lv_topi (nm_r (e' := 1) (by decide +kernel) ?_)
    refine va_sld hx hb hX hbl hbA hS (vp_in_iff.mpr (by decide +kernel)) dL_law_550 ?_
    refine lv_topi (nm_r (e' := (xs 1)) (by rfl) ?_)
    refine z_calli (wr := []) hP hD hS hA [0, 1, 2] [] (by decide) rfl rfl (by decide) (va_runV (As := [.int (xs 1)]) (rest := [.int (-1)]) ⟨hx, hb, hml, hown, hts⟩ (kX5_till l g (am 0) (am 1) (am 2) (am 3) (am 4) (am 5) (am 6) (am 7) (am 8) (am 9) (am 10) (am 11) (am 12) (am 13) (am 14) (am 15) (am 16) (am 17) (am 18) (am 19) (am 20) (am 21) (am 22) H.size (xs 1)) ⟨callB_of 1 hts (zGood m_o_yX5_till) rfl rfl rfl (hts _ m_z_RX5) (hts _ m_m_RL_71) ⟨by decide +kernel, by decide +kernel, by decide +kernel⟩ ⟨Nat.le_of_ble_eq_true rfl, Nat.le_of_ble_eq_true rfl⟩, hts _ m_i_yX5_till, hts _ m_e_yX5_till⟩ (zPreV hK hN hZ hP hD hS hA [0, 1, 2] (by decide) rfl rfl 5 0 rfl rfl) rfl rfl hl.1 rfl (lv_room (Nat.le_of_ble_eq_true rfl)) dL_law_551 ⟨Nat.le_of_ble_eq_true rfl, Nat.le_of_ble_eq_true rfl⟩) (fun r u H locs hw hP hD hS => ?_)
    rcases hw with ⟨i_5, rfl⟩ | ⟨i_6, i_7, rfl⟩ | ⟨i_8, i_9, i_10, rfl⟩ | ⟨i_11, i_12, i_13, rfl⟩
    · skip
      have hP : va_P g.1 vwCl [] H := hP
      have hD : va_D (fun q : Nat => s.heap.size ≤ q) [] := hD
      refine lv_icmp_eq (tgt := 1054) hx hb dL_law_554 (by decide) (fun _ => ?_) (fun h => absurd h (by decide +kernel))
      exact lc_tail ⟨hx, hb, hml, hr, hlocks, hown, hts, hK, hN, hZ, hX, hbl⟩ hS (lv_sub hl [0, 1, 2, 3] rfl)
    · exfalso; omega
    · exfalso; omega
    · exfalso; omega
  · skip
    have hP : va_P g.1 vwCl [((am 0), .inr (5, [.ref (am 1), .int 0, .ref (am 2), .int 0, .int 0, .ref (am 3), .ref (am 4), .ref (am 5), .ref (am 6), .int 0, .ref (am 7), .ref (am 8), .ref (am 9), .int 0, .ref (am 10), .ref (am 11), .ref (am 12), .ref (am 13), .ref (am 14), .ref (am 15), .ref (am 16), .ref (am 17), .ref (am 18), .ref (am 19), .ref (am 20), .ref (am 21), .ref (am 22)])), ((am 1), .inl (zI g, 180, .inl (upd (upd (upd (fun _ => 0) 0 60) 1 1) 2 1))), ((am 5), .inl (zI g, 6, .inl (upd (upd (upd (upd (upd (fun _ => 0) 1 1) 2 2) 3 3) 4 4) 5 5)))] H := hP
    have hD : va_D (fun q : Nat => s.heap.size ≤ q) [((am 0), .inr (5, [.ref (am 1), .int 0, .ref (am 2), .int 0, .int 0, .ref (am 3), .ref (am 4), .ref (am 5), .ref (am 6), .int 0, .ref (am 7), .ref (am 8), .ref (am 9), .int 0, .ref (am 10), .ref (am 11), .ref (am 12), .ref (am 13), .ref (am 14), .ref (am 15), .ref (am 16), .ref (am 17), .ref (am 18), .ref (am 19), .ref (am 20), .ref (am 21), .ref (am 22)])), ((am 1), .inl (zI g, 180, .inl (upd (upd (upd (fun _ => 0) 0 60) 1 1) 2 1))), ((am 5), .inl (zI g, 6, .inl (upd (upd (upd (upd (upd (fun _ => 0) 1 1) 2 2) 3 3) 4 4) 5 5)))] := hD
    refine lv_aload_n hx hb dL_law_545 rfl (lv_at hl 2 rfl) ?_
    refine lv_aload_n hx hb dL_law_546 rfl (lv_at hl 0 rfl) ?_
    refine lv_iload_n hx hb dL_law_547 rfl (lv_at hl 3 rfl) ?_
    refine lv_iconst (v := 1) hx hb dL_law_548 (by decide) ?_
    refine lv_iadd hx hb dL_law_549 ?_
    refine lv_topi (nm_r (e' := 1) (by decide +kernel) ?_)
    refine va_sld hx hb hX hbl hbA hS (vp_in_iff.mpr (by decide +kernel)) dL_law_550 ?_
    refine lv_topi (nm_r (e' := (xs 1)) (by rfl) ?_)
    refine z_calli (wr := []) hP hD hS hA [0, 1, 2] [] (by decide) rfl rfl (by decide) (va_runV (As := [.int (xs 1)]) (rest := [.int 0]) ⟨hx, hb, hml, hown, hts⟩ (kX5_till l g (am 0) (am 1) (am 2) (am 3) (am 4) (am 5) (am 6) (am 7) (am 8) (am 9) (am 10) (am 11) (am 12) (am 13) (am 14) (am 15) (am 16) (am 17) (am 18) (am 19) (am 20) (am 21) (am 22) H.size (xs 1)) ⟨callB_of 1 hts (zGood m_o_yX5_till) rfl rfl rfl (hts _ m_z_RX5) (hts _ m_m_RL_71) ⟨by decide +kernel, by decide +kernel, by decide +kernel⟩ ⟨Nat.le_of_ble_eq_true rfl, Nat.le_of_ble_eq_true rfl⟩, hts _ m_i_yX5_till, hts _ m_e_yX5_till⟩ (zPreV hK hN hZ hP hD hS hA [0, 1, 2] (by decide) rfl rfl 5 0 rfl rfl) rfl rfl hl.1 rfl (lv_room (Nat.le_of_ble_eq_true rfl)) dL_law_551 ⟨Nat.le_of_ble_eq_true rfl, Nat.le_of_ble_eq_true rfl⟩) (fun r u H locs hw hP hD hS => ?_)
    rcases hw with ⟨i_14, rfl⟩ | ⟨i_15, i_16, rfl⟩ | ⟨i_17, i_18, i_19, rfl⟩ | ⟨i_20, i_21, i_22, rfl⟩
    · exfalso; omega
    · exfalso; omega
    · skip
      have hP : va_P g.1 vwCl [] H := hP
      have hD : va_D (fun q : Nat => s.heap.size ≤ q) [] := hD
      refine lv_icmp_eq (tgt := 1054) hx hb dL_law_554 (by decide) (fun _ => ?_) (fun h => absurd h (by decide +kernel))
      exact lc_tail ⟨hx, hb, hml, hr, hlocks, hown, hts, hK, hN, hZ, hX, hbl⟩ hS (lv_sub hl [0, 1, 2, 3] rfl)
    · skip
      have hP : va_P g.1 vwCl [] H := hP
      have hD : va_D (fun q : Nat => s.heap.size ≤ q) [] := hD
      refine lv_icmp_eq (tgt := 1054) hx hb dL_law_554 (by decide) (fun _ => ?_) (fun h => absurd h (by decide +kernel))
      exact lc_tail ⟨hx, hb, hml, hr, hlocks, hown, hts, hK, hN, hZ, hX, hbl⟩ hS (lv_sub hl [0, 1, 2, 3] rfl)
  · skip
    have hP : va_P g.1 vwCl [((am 0), .inr (5, [.ref (am 1), .int 0, .ref (am 2), .int 0, .int 0, .ref (am 3), .ref (am 4), .ref (am 5), .ref (am 6), .int 0, .ref (am 7), .ref (am 8), .ref (am 9), .int 0, .ref (am 10), .ref (am 11), .ref (am 12), .ref (am 13), .ref (am 14), .ref (am 15), .ref (am 16), .ref (am 17), .ref (am 18), .ref (am 19), .ref (am 20), .ref (am 21), .ref (am 22)])), ((am 1), .inl (zI g, 180, .inl (upd (upd (upd (fun _ => 0) 0 60) 1 1) 2 1))), ((am 5), .inl (zI g, 6, .inl (upd (upd (upd (upd (upd (fun _ => 0) 1 1) 2 2) 3 3) 4 4) 5 5)))] H := hP
    have hD : va_D (fun q : Nat => s.heap.size ≤ q) [((am 0), .inr (5, [.ref (am 1), .int 0, .ref (am 2), .int 0, .int 0, .ref (am 3), .ref (am 4), .ref (am 5), .ref (am 6), .int 0, .ref (am 7), .ref (am 8), .ref (am 9), .int 0, .ref (am 10), .ref (am 11), .ref (am 12), .ref (am 13), .ref (am 14), .ref (am 15), .ref (am 16), .ref (am 17), .ref (am 18), .ref (am 19), .ref (am 20), .ref (am 21), .ref (am 22)])), ((am 1), .inl (zI g, 180, .inl (upd (upd (upd (fun _ => 0) 0 60) 1 1) 2 1))), ((am 5), .inl (zI g, 6, .inl (upd (upd (upd (upd (upd (fun _ => 0) 1 1) 2 2) 3 3) 4 4) 5 5)))] := hD
    refine lv_aload_n hx hb dL_law_545 rfl (lv_at hl 2 rfl) ?_
    refine lv_aload_n hx hb dL_law_546 rfl (lv_at hl 0 rfl) ?_
    refine lv_iload_n hx hb dL_law_547 rfl (lv_at hl 3 rfl) ?_
    refine lv_iconst (v := 1) hx hb dL_law_548 (by decide) ?_
    refine lv_iadd hx hb dL_law_549 ?_
    refine lv_topi (nm_r (e' := 1) (by decide +kernel) ?_)
    refine va_sld hx hb hX hbl hbA hS (vp_in_iff.mpr (by decide +kernel)) dL_law_550 ?_
    refine lv_topi (nm_r (e' := (xs 1)) (by rfl) ?_)
    refine z_calli (wr := []) hP hD hS hA [0, 1, 2] [] (by decide) rfl rfl (by decide) (va_runV (As := [.int (xs 1)]) (rest := [.int (-1)]) ⟨hx, hb, hml, hown, hts⟩ (kX5_till l g (am 0) (am 1) (am 2) (am 3) (am 4) (am 5) (am 6) (am 7) (am 8) (am 9) (am 10) (am 11) (am 12) (am 13) (am 14) (am 15) (am 16) (am 17) (am 18) (am 19) (am 20) (am 21) (am 22) H.size (xs 1)) ⟨callB_of 1 hts (zGood m_o_yX5_till) rfl rfl rfl (hts _ m_z_RX5) (hts _ m_m_RL_71) ⟨by decide +kernel, by decide +kernel, by decide +kernel⟩ ⟨Nat.le_of_ble_eq_true rfl, Nat.le_of_ble_eq_true rfl⟩, hts _ m_i_yX5_till, hts _ m_e_yX5_till⟩ (zPreV hK hN hZ hP hD hS hA [0, 1, 2] (by decide) rfl rfl 5 0 rfl rfl) rfl rfl hl.1 rfl (lv_room (Nat.le_of_ble_eq_true rfl)) dL_law_551 ⟨Nat.le_of_ble_eq_true rfl, Nat.le_of_ble_eq_true rfl⟩) (fun r u H locs hw hP hD hS => ?_)
    rcases hw with ⟨i_23, rfl⟩ | ⟨i_24, i_25, rfl⟩ | ⟨i_26, i_27, i_28, rfl⟩ | ⟨i_29, i_30, i_31, rfl⟩
    · exfalso; omega
    · skip
      have hP : va_P g.1 vwCl [] H := hP
      have hD : va_D (fun q : Nat => s.heap.size ≤ q) [] := hD
      refine lv_icmp_eq (tgt := 1054) hx hb dL_law_554 (by decide) (fun _ => ?_) (fun h => absurd h (by decide +kernel))
      exact lc_tail ⟨hx, hb, hml, hr, hlocks, hown, hts, hK, hN, hZ, hX, hbl⟩ hS (lv_sub hl [0, 1, 2, 3] rfl)
    · exfalso; omega
    · exfalso; omega
set_option maxHeartbeats 4000000 in
set_option maxRecDepth 100000 in
theorem lc_morning {p : Program} {l : Launch} {e : Env} {s : State} {m : MethodId} {below : List Frame} {meth : Method} {c : Code} {b : Nat} {xs : Nat → Int32} {g : zG} (C0 : lC g p s m meth c b xs) {ax am : Nat → Nat} {H : Heap} {locs : List Loc} (hP : va_P g.1 vwCl (lW g ax am) H) (hD : va_D (fun q : Nat => s.heap.size ≤ q) (lW g ax am)) (hS : va_S (fun q : Nat => s.heap.size ≤ q) s.heap H locs) {ls : Array Slot} (hl : lv_has ls 4 [(0, .ref b), (1, .ref (ax 0)), (2, .ref (am 0)), (3, .int 0)]) : W p l e room_1 s m #[Value.ref b] below meth c H locs 600000 7302250 (lw_Z below #[Value.ref b] s) (F0 m 559 ls []) := by
  obtain ⟨hx, hb, hml, hr, hlocks, hown, hts, hK, hN, hZ, hX, hbl⟩ := C0
  have hA : ∀ q : Nat, s.heap.size ≤ q → (fun q : Nat => s.heap.size ≤ q) q := fun _ h => h
  have hbA : ¬ (fun q : Nat => s.heap.size ≤ q) b := Nat.not_le.mpr hbl
  have hP := hP.sub (ws' := [((ax 0), .inr (4, [.ref (ax 1), .ref (ax 10), .int 0, .ref (ax 19), .ref (ax 30), .ref (ax 32), .ref (ax 36), .int (-1), .ref (ax 37), .ref (ax 38), .ref (ax 39), .ref (ax 40)])), ((ax 1), .inr (0, [.ref (ax 2), .int 0, .ref (ax 3), .int 0, .ref (ax 4), .ref (ax 5), .ref (ax 6), .ref (ax 7), .ref (ax 8), .ref (ax 9), .int 0])), ((am 0), .inr (5, [.ref (am 1), .int 0, .ref (am 2), .int 0, .int 0, .ref (am 3), .ref (am 4), .ref (am 5), .ref (am 6), .int 0, .ref (am 7), .ref (am 8), .ref (am 9), .int 0, .ref (am 10), .ref (am 11), .ref (am 12), .ref (am 13), .ref (am 14), .ref (am 15), .ref (am 16), .ref (am 17), .ref (am 18), .ref (am 19), .ref (am 20), .ref (am 21), .ref (am 22)])), ((am 1), .inl (zI g, 180, .inl (upd (upd (upd (fun _ => 0) 0 60) 1 1) 2 1)))]) [0, 1, 41, 42] rfl
  have hD := hD.sub (ws' := [((ax 0), .inr (4, [.ref (ax 1), .ref (ax 10), .int 0, .ref (ax 19), .ref (ax 30), .ref (ax 32), .ref (ax 36), .int (-1), .ref (ax 37), .ref (ax 38), .ref (ax 39), .ref (ax 40)])), ((ax 1), .inr (0, [.ref (ax 2), .int 0, .ref (ax 3), .int 0, .ref (ax 4), .ref (ax 5), .ref (ax 6), .ref (ax 7), .ref (ax 8), .ref (ax 9), .int 0])), ((am 0), .inr (5, [.ref (am 1), .int 0, .ref (am 2), .int 0, .int 0, .ref (am 3), .ref (am 4), .ref (am 5), .ref (am 6), .int 0, .ref (am 7), .ref (am 8), .ref (am 9), .int 0, .ref (am 10), .ref (am 11), .ref (am 12), .ref (am 13), .ref (am 14), .ref (am 15), .ref (am 16), .ref (am 17), .ref (am 18), .ref (am 19), .ref (am 20), .ref (am 21), .ref (am 22)])), ((am 1), .inl (zI g, 180, .inl (upd (upd (upd (fun _ => 0) 0 60) 1 1) 2 1)))]) [0, 1, 41, 42] (by decide) rfl
  refine lv_aload_n hx hb dL_law_559 rfl (lv_at hl 1 rfl) ?_
  refine z_calli (wr := [((am 0), .inr (5, [.ref (am 1), .int 0, .ref (am 2), .int 0, .int 0, .ref (am 3), .ref (am 4), .ref (am 5), .ref (am 6), .int 0, .ref (am 7), .ref (am 8), .ref (am 9), .int 0, .ref (am 10), .ref (am 11), .ref (am 12), .ref (am 13), .ref (am 14), .ref (am 15), .ref (am 16), .ref (am 17), .ref (am 18), .ref (am 19), .ref (am 20), .ref (am 21), .ref (am 22)])), ((am 1), .inl (zI g, 180, .inl (upd (upd (upd (fun _ => 0) 0 60) 1 1) 2 1)))]) hP hD hS hA [0, 1] [2, 3] (by decide) rfl rfl (by decide) (va_runV (As := []) (rest := []) ⟨hx, hb, hml, hown, hts⟩ (kX4_morning l g (ax 0) (ax 1) (ax 10) (ax 19) (ax 30) (ax 32) (ax 36) (ax 37) (ax 38) (ax 39) (ax 40) (ax 2) (ax 3) (ax 4) (ax 5) (ax 6) (ax 7) (ax 8) (ax 9) H.size) ⟨callB_of 0 hts (zGood m_o_yX4_morning) rfl rfl rfl (hts _ m_z_RX4) (hts _ m_m_RL_72) ⟨by decide +kernel, by decide +kernel, by decide +kernel⟩ ⟨Nat.le_of_ble_eq_true rfl, Nat.le_of_ble_eq_true rfl⟩, hts _ m_i_yX4_morning, hts _ m_e_yX4_morning⟩ (zPreV hK hN hZ hP hD hS hA [0, 1] (by decide) rfl rfl 4 0 rfl rfl) rfl rfl hl.1 rfl (lv_room (Nat.le_of_ble_eq_true rfl)) dL_law_560 ⟨Nat.le_of_ble_eq_true rfl, Nat.le_of_ble_eq_true rfl⟩) (fun r u H locs hw hP hD hS => ?_)
  obtain rfl := hw
  have hP : va_P g.1 vwCl [((am 0), .inr (5, [.ref (am 1), .int 0, .ref (am 2), .int 0, .int 0, .ref (am 3), .ref (am 4), .ref (am 5), .ref (am 6), .int 0, .ref (am 7), .ref (am 8), .ref (am 9), .int 0, .ref (am 10), .ref (am 11), .ref (am 12), .ref (am 13), .ref (am 14), .ref (am 15), .ref (am 16), .ref (am 17), .ref (am 18), .ref (am 19), .ref (am 20), .ref (am 21), .ref (am 22)])), ((am 1), .inl (zI g, 180, .inl (upd (upd (upd (fun _ => 0) 0 60) 1 1) 2 1)))] H := hP
  have hD : va_D (fun q : Nat => s.heap.size ≤ q) [((am 0), .inr (5, [.ref (am 1), .int 0, .ref (am 2), .int 0, .int 0, .ref (am 3), .ref (am 4), .ref (am 5), .ref (am 6), .int 0, .ref (am 7), .ref (am 8), .ref (am 9), .int 0, .ref (am 10), .ref (am 11), .ref (am 12), .ref (am 13), .ref (am 14), .ref (am 15), .ref (am 16), .ref (am 17), .ref (am 18), .ref (am 19), .ref (am 20), .ref (am 21), .ref (am 22)])), ((am 1), .inl (zI g, 180, .inl (upd (upd (upd (fun _ => 0) 0 60) 1 1) 2 1)))] := hD
  refine lv_aload_n hx hb dL_law_563 rfl (lv_at hl 2 rfl) ?_
  refine z_calli (wr := []) hP hD hS hA [0, 1] [] (by decide) rfl rfl (by decide) (va_runV (As := []) (rest := [.int (-2)]) ⟨hx, hb, hml, hown, hts⟩ (kX5_morning l g (am 0) (am 1) (am 2) (am 3) (am 4) (am 5) (am 6) (am 7) (am 8) (am 9) (am 10) (am 11) (am 12) (am 13) (am 14) (am 15) (am 16) (am 17) (am 18) (am 19) (am 20) (am 21) (am 22) H.size) ⟨callB_of 0 hts (zGood m_o_yX5_morning) rfl rfl rfl (hts _ m_z_RX5) (hts _ m_m_RL_75) ⟨by decide +kernel, by decide +kernel, by decide +kernel⟩ ⟨Nat.le_of_ble_eq_true rfl, Nat.le_of_ble_eq_true rfl⟩, hts _ m_i_yX5_morning, hts _ m_e_yX5_morning⟩ (zPreV hK hN hZ hP hD hS hA [0, 1] (by decide) rfl rfl 5 0 rfl rfl) rfl rfl hl.1 rfl (lv_room (Nat.le_of_ble_eq_true rfl)) dL_law_564 ⟨Nat.le_of_ble_eq_true rfl, Nat.le_of_ble_eq_true rfl⟩) (fun r u H locs hw hP hD hS => ?_)
  obtain rfl := hw
  have hP : va_P g.1 vwCl [] H := hP
  have hD : va_D (fun q : Nat => s.heap.size ≤ q) [] := hD
  refine lv_icmp_eq (tgt := 1054) hx hb dL_law_567 (by decide) (fun _ => ?_) (fun h => absurd h (by decide +kernel))
  exact lc_tail ⟨hx, hb, hml, hr, hlocks, hown, hts, hK, hN, hZ, hX, hbl⟩ hS (lv_sub hl [0, 1, 2, 3] rfl)
set_option maxHeartbeats 4000000 in
set_option maxRecDepth 100000 in
theorem lc_span {p : Program} {l : Launch} {e : Env} {s : State} {m : MethodId} {below : List Frame} {meth : Method} {c : Code} {b : Nat} {xs : Nat → Int32} {g : zG} (C0 : lC g p s m meth c b xs) {ax am : Nat → Nat} {H : Heap} {locs : List Loc} (hP : va_P g.1 vwCl (lW g ax am) H) (hD : va_D (fun q : Nat => s.heap.size ≤ q) (lW g ax am)) (hS : va_S (fun q : Nat => s.heap.size ≤ q) s.heap H locs) {ls : Array Slot} (hl : lv_has ls 4 [(0, .ref b), (1, .ref (ax 0)), (2, .ref (am 0)), (3, .int 0)]) : W p l e room_1 s m #[Value.ref b] below meth c H locs 600000 7302250 (lw_Z below #[Value.ref b] s) (F0 m 572 ls []) := by
  obtain ⟨hx, hb, hml, hr, hlocks, hown, hts, hK, hN, hZ, hX, hbl⟩ := C0
  have hA : ∀ q : Nat, s.heap.size ≤ q → (fun q : Nat => s.heap.size ≤ q) q := fun _ h => h
  have hbA : ¬ (fun q : Nat => s.heap.size ≤ q) b := Nat.not_le.mpr hbl
  have hP := hP.sub (ws' := [((ax 0), .inr (4, [.ref (ax 1), .ref (ax 10), .int 0, .ref (ax 19), .ref (ax 30), .ref (ax 32), .ref (ax 36), .int (-1), .ref (ax 37), .ref (ax 38), .ref (ax 39), .ref (ax 40)])), ((ax 1), .inr (0, [.ref (ax 2), .int 0, .ref (ax 3), .int 0, .ref (ax 4), .ref (ax 5), .ref (ax 6), .ref (ax 7), .ref (ax 8), .ref (ax 9), .int 0])), ((am 0), .inr (5, [.ref (am 1), .int 0, .ref (am 2), .int 0, .int 0, .ref (am 3), .ref (am 4), .ref (am 5), .ref (am 6), .int 0, .ref (am 7), .ref (am 8), .ref (am 9), .int 0, .ref (am 10), .ref (am 11), .ref (am 12), .ref (am 13), .ref (am 14), .ref (am 15), .ref (am 16), .ref (am 17), .ref (am 18), .ref (am 19), .ref (am 20), .ref (am 21), .ref (am 22)])), ((am 1), .inl (zI g, 180, .inl (upd (upd (upd (fun _ => 0) 0 60) 1 1) 2 1)))]) [0, 1, 41, 42] rfl
  have hD := hD.sub (ws' := [((ax 0), .inr (4, [.ref (ax 1), .ref (ax 10), .int 0, .ref (ax 19), .ref (ax 30), .ref (ax 32), .ref (ax 36), .int (-1), .ref (ax 37), .ref (ax 38), .ref (ax 39), .ref (ax 40)])), ((ax 1), .inr (0, [.ref (ax 2), .int 0, .ref (ax 3), .int 0, .ref (ax 4), .ref (ax 5), .ref (ax 6), .ref (ax 7), .ref (ax 8), .ref (ax 9), .int 0])), ((am 0), .inr (5, [.ref (am 1), .int 0, .ref (am 2), .int 0, .int 0, .ref (am 3), .ref (am 4), .ref (am 5), .ref (am 6), .int 0, .ref (am 7), .ref (am 8), .ref (am 9), .int 0, .ref (am 10), .ref (am 11), .ref (am 12), .ref (am 13), .ref (am 14), .ref (am 15), .ref (am 16), .ref (am 17), .ref (am 18), .ref (am 19), .ref (am 20), .ref (am 21), .ref (am 22)])), ((am 1), .inl (zI g, 180, .inl (upd (upd (upd (fun _ => 0) 0 60) 1 1) 2 1)))]) [0, 1, 41, 42] (by decide) rfl
  refine lv_aload_n hx hb dL_law_572 rfl (lv_at hl 1 rfl) ?_
  refine lv_aload_n hx hb dL_law_573 rfl (lv_at hl 0 rfl) ?_
  refine lv_iload_n hx hb dL_law_574 rfl (lv_at hl 3 rfl) ?_
  refine lv_iconst (v := 1) hx hb dL_law_575 (by decide) ?_
  refine lv_iadd hx hb dL_law_576 ?_
  refine lv_topi (nm_r (e' := 1) (by decide +kernel) ?_)
  refine va_sld hx hb hX hbl hbA hS (vp_in_iff.mpr (by decide +kernel)) dL_law_577 ?_
  refine lv_topi (nm_r (e' := (xs 1)) (by rfl) ?_)
  refine lv_aload_n hx hb dL_law_578 rfl (lv_at hl 0 rfl) ?_
  refine lv_iload_n hx hb dL_law_579 rfl (lv_at hl 3 rfl) ?_
  refine lv_iconst (v := 2) hx hb dL_law_580 (by decide) ?_
  refine lv_iadd hx hb dL_law_581 ?_
  refine lv_topi (nm_r (e' := 2) (by decide +kernel) ?_)
  refine va_sld hx hb hX hbl hbA hS (vp_in_iff.mpr (by decide +kernel)) dL_law_582 ?_
  refine lv_topi (nm_r (e' := (xs 2)) (by rfl) ?_)
  refine lv_aload_n hx hb dL_law_583 rfl (lv_at hl 0 rfl) ?_
  refine lv_iload_n hx hb dL_law_584 rfl (lv_at hl 3 rfl) ?_
  refine lv_iconst (v := 3) hx hb dL_law_585 (by decide) ?_
  refine lv_iadd hx hb dL_law_586 ?_
  refine lv_topi (nm_r (e' := 3) (by decide +kernel) ?_)
  refine va_sld hx hb hX hbl hbA hS (vp_in_iff.mpr (by decide +kernel)) dL_law_587 ?_
  refine lv_topi (nm_r (e' := (xs 3)) (by rfl) ?_)
  refine z_calli (wr := [((am 0), .inr (5, [.ref (am 1), .int 0, .ref (am 2), .int 0, .int 0, .ref (am 3), .ref (am 4), .ref (am 5), .ref (am 6), .int 0, .ref (am 7), .ref (am 8), .ref (am 9), .int 0, .ref (am 10), .ref (am 11), .ref (am 12), .ref (am 13), .ref (am 14), .ref (am 15), .ref (am 16), .ref (am 17), .ref (am 18), .ref (am 19), .ref (am 20), .ref (am 21), .ref (am 22)])), ((am 1), .inl (zI g, 180, .inl (upd (upd (upd (fun _ => 0) 0 60) 1 1) 2 1)))]) hP hD hS hA [0, 1] [2, 3] (by decide) rfl rfl (by decide) (va_runV (As := [.int (xs 1), .int (xs 2), .int (xs 3)]) (rest := []) ⟨hx, hb, hml, hown, hts⟩ (kX4_span l g (ax 0) (ax 1) (ax 10) (ax 19) (ax 30) (ax 32) (ax 36) (ax 37) (ax 38) (ax 39) (ax 40) (ax 2) (ax 3) (ax 4) (ax 5) (ax 6) (ax 7) (ax 8) (ax 9) H.size (xs 1) (xs 2) (xs 3)) ⟨callB_of 3 hts (zGood m_o_yX4_span) rfl rfl rfl (hts _ m_z_RX4) (hts _ m_m_RL_76) ⟨by decide +kernel, by decide +kernel, by decide +kernel⟩ ⟨Nat.le_of_ble_eq_true rfl, Nat.le_of_ble_eq_true rfl⟩, hts _ m_i_yX4_span, hts _ m_e_yX4_span⟩ (zPreV hK hN hZ hP hD hS hA [0, 1] (by decide) rfl rfl 4 0 rfl rfl) rfl rfl hl.1 rfl (lv_room (Nat.le_of_ble_eq_true rfl)) dL_law_588 ⟨Nat.le_of_ble_eq_true rfl, Nat.le_of_ble_eq_true rfl⟩) (fun r u H locs hw hP hD hS => ?_)
  rcases hw with ⟨i_0, rfl⟩ | ⟨i_1, i_2, rfl⟩ | ⟨i_3, i_4, rfl⟩
  · skip
    have hP : va_P g.1 vwCl [((am 0), .inr (5, [.ref (am 1), .int 0, .ref (am 2), .int 0, .int 0, .ref (am 3), .ref (am 4), .ref (am 5), .ref (am 6), .int 0, .ref (am 7), .ref (am 8), .ref (am 9), .int 0, .ref (am 10), .ref (am 11), .ref (am 12), .ref (am 13), .ref (am 14), .ref (am 15), .ref (am 16), .ref (am 17), .ref (am 18), .ref (am 19), .ref (am 20), .ref (am 21), .ref (am 22)])), ((am 1), .inl (zI g, 180, .inl (upd (upd (upd (fun _ => 0) 0 60) 1 1) 2 1)))] H := hP
    have hD : va_D (fun q : Nat => s.heap.size ≤ q) [((am 0), .inr (5, [.ref (am 1), .int 0, .ref (am 2), .int 0, .int 0, .ref (am 3), .ref (am 4), .ref (am 5), .ref (am 6), .int 0, .ref (am 7), .ref (am 8), .ref (am 9), .int 0, .ref (am 10), .ref (am 11), .ref (am 12), .ref (am 13), .ref (am 14), .ref (am 15), .ref (am 16), .ref (am 17), .ref (am 18), .ref (am 19), .ref (am 20), .ref (am 21), .ref (am 22)])), ((am 1), .inl (zI g, 180, .inl (upd (upd (upd (fun _ => 0) 0 60) 1 1) 2 1)))] := hD
    refine lv_aload_n hx hb dL_law_591 rfl (lv_at hl 2 rfl) ?_
    refine lv_aload_n hx hb dL_law_592 rfl (lv_at hl 0 rfl) ?_
    refine lv_iload_n hx hb dL_law_593 rfl (lv_at hl 3 rfl) ?_
    refine lv_iconst (v := 1) hx hb dL_law_594 (by decide) ?_
    refine lv_iadd hx hb dL_law_595 ?_
    refine lv_topi (nm_r (e' := 1) (by decide +kernel) ?_)
    refine va_sld hx hb hX hbl hbA hS (vp_in_iff.mpr (by decide +kernel)) dL_law_596 ?_
    refine lv_topi (nm_r (e' := (xs 1)) (by rfl) ?_)
    refine lv_aload_n hx hb dL_law_597 rfl (lv_at hl 0 rfl) ?_
    refine lv_iload_n hx hb dL_law_598 rfl (lv_at hl 3 rfl) ?_
    refine lv_iconst (v := 2) hx hb dL_law_599 (by decide) ?_
    refine lv_iadd hx hb dL_law_600 ?_
    refine lv_topi (nm_r (e' := 2) (by decide +kernel) ?_)
    refine va_sld hx hb hX hbl hbA hS (vp_in_iff.mpr (by decide +kernel)) dL_law_601 ?_
    refine lv_topi (nm_r (e' := (xs 2)) (by rfl) ?_)
    refine lv_aload_n hx hb dL_law_602 rfl (lv_at hl 0 rfl) ?_
    refine lv_iload_n hx hb dL_law_603 rfl (lv_at hl 3 rfl) ?_
    refine lv_iconst (v := 3) hx hb dL_law_604 (by decide) ?_
    refine lv_iadd hx hb dL_law_605 ?_
    refine lv_topi (nm_r (e' := 3) (by decide +kernel) ?_)
    refine va_sld hx hb hX hbl hbA hS (vp_in_iff.mpr (by decide +kernel)) dL_law_606 ?_
    refine lv_topi (nm_r (e' := (xs 3)) (by rfl) ?_)
    refine z_calli (wr := []) hP hD hS hA [0, 1] [] (by decide) rfl rfl (by decide) (va_runV (As := [.int (xs 1), .int (xs 2), .int (xs 3)]) (rest := [.int (-1)]) ⟨hx, hb, hml, hown, hts⟩ (kX5_span l g (am 0) (am 1) (am 2) (am 3) (am 4) (am 5) (am 6) (am 7) (am 8) (am 9) (am 10) (am 11) (am 12) (am 13) (am 14) (am 15) (am 16) (am 17) (am 18) (am 19) (am 20) (am 21) (am 22) H.size (xs 1) (xs 2) (xs 3)) ⟨callB_of 3 hts (zGood m_o_yX5_span) rfl rfl rfl (hts _ m_z_RX5) (hts _ m_m_RL_79) ⟨by decide +kernel, by decide +kernel, by decide +kernel⟩ ⟨Nat.le_of_ble_eq_true rfl, Nat.le_of_ble_eq_true rfl⟩, hts _ m_i_yX5_span, hts _ m_e_yX5_span⟩ (zPreV hK hN hZ hP hD hS hA [0, 1] (by decide) rfl rfl 5 0 rfl rfl) rfl rfl hl.1 rfl (lv_room (Nat.le_of_ble_eq_true rfl)) dL_law_607 ⟨Nat.le_of_ble_eq_true rfl, Nat.le_of_ble_eq_true rfl⟩) (fun r u H locs hw hP hD hS => ?_)
    rcases hw with ⟨i_5, rfl⟩ | ⟨i_6, rfl⟩
    · skip
      have hP : va_P g.1 vwCl [] H := hP
      have hD : va_D (fun q : Nat => s.heap.size ≤ q) [] := hD
      refine lv_icmp_eq (tgt := 1054) hx hb dL_law_610 (by decide) (fun _ => ?_) (fun h => absurd h (by decide +kernel))
      exact lc_tail ⟨hx, hb, hml, hr, hlocks, hown, hts, hK, hN, hZ, hX, hbl⟩ hS (lv_sub hl [0, 1, 2, 3] rfl)
    · exfalso; omega
  · skip
    have hP : va_P g.1 vwCl [((am 0), .inr (5, [.ref (am 1), .int 0, .ref (am 2), .int 0, .int 0, .ref (am 3), .ref (am 4), .ref (am 5), .ref (am 6), .int 0, .ref (am 7), .ref (am 8), .ref (am 9), .int 0, .ref (am 10), .ref (am 11), .ref (am 12), .ref (am 13), .ref (am 14), .ref (am 15), .ref (am 16), .ref (am 17), .ref (am 18), .ref (am 19), .ref (am 20), .ref (am 21), .ref (am 22)])), ((am 1), .inl (zI g, 180, .inl (upd (upd (upd (fun _ => 0) 0 60) 1 1) 2 1)))] H := hP
    have hD : va_D (fun q : Nat => s.heap.size ≤ q) [((am 0), .inr (5, [.ref (am 1), .int 0, .ref (am 2), .int 0, .int 0, .ref (am 3), .ref (am 4), .ref (am 5), .ref (am 6), .int 0, .ref (am 7), .ref (am 8), .ref (am 9), .int 0, .ref (am 10), .ref (am 11), .ref (am 12), .ref (am 13), .ref (am 14), .ref (am 15), .ref (am 16), .ref (am 17), .ref (am 18), .ref (am 19), .ref (am 20), .ref (am 21), .ref (am 22)])), ((am 1), .inl (zI g, 180, .inl (upd (upd (upd (fun _ => 0) 0 60) 1 1) 2 1)))] := hD
    refine lv_aload_n hx hb dL_law_591 rfl (lv_at hl 2 rfl) ?_
    refine lv_aload_n hx hb dL_law_592 rfl (lv_at hl 0 rfl) ?_
    refine lv_iload_n hx hb dL_law_593 rfl (lv_at hl 3 rfl) ?_
    refine lv_iconst (v := 1) hx hb dL_law_594 (by decide) ?_
    refine lv_iadd hx hb dL_law_595 ?_
    refine lv_topi (nm_r (e' := 1) (by decide +kernel) ?_)
    refine va_sld hx hb hX hbl hbA hS (vp_in_iff.mpr (by decide +kernel)) dL_law_596 ?_
    refine lv_topi (nm_r (e' := (xs 1)) (by rfl) ?_)
    refine lv_aload_n hx hb dL_law_597 rfl (lv_at hl 0 rfl) ?_
    refine lv_iload_n hx hb dL_law_598 rfl (lv_at hl 3 rfl) ?_
    refine lv_iconst (v := 2) hx hb dL_law_599 (by decide) ?_
    refine lv_iadd hx hb dL_law_600 ?_
    refine lv_topi (nm_r (e' := 2) (by decide +kernel) ?_)
    refine va_sld hx hb hX hbl hbA hS (vp_in_iff.mpr (by decide +kernel)) dL_law_601 ?_
    refine lv_topi (nm_r (e' := (xs 2)) (by rfl) ?_)
    refine lv_aload_n hx hb dL_law_602 rfl (lv_at hl 0 rfl) ?_
    refine lv_iload_n hx hb dL_law_603 rfl (lv_at hl 3 rfl) ?_
    refine lv_iconst (v := 3) hx hb dL_law_604 (by decide) ?_
    refine lv_iadd hx hb dL_law_605 ?_
    refine lv_topi (nm_r (e' := 3) (by decide +kernel) ?_)
    refine va_sld hx hb hX hbl hbA hS (vp_in_iff.mpr (by decide +kernel)) dL_law_606 ?_
    refine lv_topi (nm_r (e' := (xs 3)) (by rfl) ?_)
    refine z_calli (wr := []) hP hD hS hA [0, 1] [] (by decide) rfl rfl (by decide) (va_runV (As := [.int (xs 1), .int (xs 2), .int (xs 3)]) (rest := [.int (-1)]) ⟨hx, hb, hml, hown, hts⟩ (kX5_span l g (am 0) (am 1) (am 2) (am 3) (am 4) (am 5) (am 6) (am 7) (am 8) (am 9) (am 10) (am 11) (am 12) (am 13) (am 14) (am 15) (am 16) (am 17) (am 18) (am 19) (am 20) (am 21) (am 22) H.size (xs 1) (xs 2) (xs 3)) ⟨callB_of 3 hts (zGood m_o_yX5_span) rfl rfl rfl (hts _ m_z_RX5) (hts _ m_m_RL_79) ⟨by decide +kernel, by decide +kernel, by decide +kernel⟩ ⟨Nat.le_of_ble_eq_true rfl, Nat.le_of_ble_eq_true rfl⟩, hts _ m_i_yX5_span, hts _ m_e_yX5_span⟩ (zPreV hK hN hZ hP hD hS hA [0, 1] (by decide) rfl rfl 5 0 rfl rfl) rfl rfl hl.1 rfl (lv_room (Nat.le_of_ble_eq_true rfl)) dL_law_607 ⟨Nat.le_of_ble_eq_true rfl, Nat.le_of_ble_eq_true rfl⟩) (fun r u H locs hw hP hD hS => ?_)
    rcases hw with ⟨i_7, rfl⟩ | ⟨i_8, rfl⟩
    · exfalso; omega
    · skip
      have hP : va_P g.1 vwCl [] H := hP
      have hD : va_D (fun q : Nat => s.heap.size ≤ q) [] := hD
      refine lv_icmp_eq (tgt := 1054) hx hb dL_law_610 (by decide) (fun _ => ?_) (fun h => absurd h (by decide +kernel))
      exact lc_tail ⟨hx, hb, hml, hr, hlocks, hown, hts, hK, hN, hZ, hX, hbl⟩ hS (lv_sub hl [0, 1, 2, 3] rfl)
  · skip
    have hP : va_P g.1 vwCl [((am 0), .inr (5, [.ref (am 1), .int 0, .ref (am 2), .int 0, .int 0, .ref (am 3), .ref (am 4), .ref (am 5), .ref (am 6), .int 0, .ref (am 7), .ref (am 8), .ref (am 9), .int 0, .ref (am 10), .ref (am 11), .ref (am 12), .ref (am 13), .ref (am 14), .ref (am 15), .ref (am 16), .ref (am 17), .ref (am 18), .ref (am 19), .ref (am 20), .ref (am 21), .ref (am 22)])), ((am 1), .inl (zI g, 180, .inl (upd (upd (upd (fun _ => 0) 0 60) 1 1) 2 1)))] H := hP
    have hD : va_D (fun q : Nat => s.heap.size ≤ q) [((am 0), .inr (5, [.ref (am 1), .int 0, .ref (am 2), .int 0, .int 0, .ref (am 3), .ref (am 4), .ref (am 5), .ref (am 6), .int 0, .ref (am 7), .ref (am 8), .ref (am 9), .int 0, .ref (am 10), .ref (am 11), .ref (am 12), .ref (am 13), .ref (am 14), .ref (am 15), .ref (am 16), .ref (am 17), .ref (am 18), .ref (am 19), .ref (am 20), .ref (am 21), .ref (am 22)])), ((am 1), .inl (zI g, 180, .inl (upd (upd (upd (fun _ => 0) 0 60) 1 1) 2 1)))] := hD
    refine lv_aload_n hx hb dL_law_591 rfl (lv_at hl 2 rfl) ?_
    refine lv_aload_n hx hb dL_law_592 rfl (lv_at hl 0 rfl) ?_
    refine lv_iload_n hx hb dL_law_593 rfl (lv_at hl 3 rfl) ?_
    refine lv_iconst (v := 1) hx hb dL_law_594 (by decide) ?_
    refine lv_iadd hx hb dL_law_595 ?_
    refine lv_topi (nm_r (e' := 1) (by decide +kernel) ?_)
    refine va_sld hx hb hX hbl hbA hS (vp_in_iff.mpr (by decide +kernel)) dL_law_596 ?_
    refine lv_topi (nm_r (e' := (xs 1)) (by rfl) ?_)
    refine lv_aload_n hx hb dL_law_597 rfl (lv_at hl 0 rfl) ?_
    refine lv_iload_n hx hb dL_law_598 rfl (lv_at hl 3 rfl) ?_
    refine lv_iconst (v := 2) hx hb dL_law_599 (by decide) ?_
    refine lv_iadd hx hb dL_law_600 ?_
    refine lv_topi (nm_r (e' := 2) (by decide +kernel) ?_)
    refine va_sld hx hb hX hbl hbA hS (vp_in_iff.mpr (by decide +kernel)) dL_law_601 ?_
    refine lv_topi (nm_r (e' := (xs 2)) (by rfl) ?_)
    refine lv_aload_n hx hb dL_law_602 rfl (lv_at hl 0 rfl) ?_
    refine lv_iload_n hx hb dL_law_603 rfl (lv_at hl 3 rfl) ?_
    refine lv_iconst (v := 3) hx hb dL_law_604 (by decide) ?_
    refine lv_iadd hx hb dL_law_605 ?_
    refine lv_topi (nm_r (e' := 3) (by decide +kernel) ?_)
    refine va_sld hx hb hX hbl hbA hS (vp_in_iff.mpr (by decide +kernel)) dL_law_606 ?_
    refine lv_topi (nm_r (e' := (xs 3)) (by rfl) ?_)
    refine z_calli (wr := []) hP hD hS hA [0, 1] [] (by decide) rfl rfl (by decide) (va_runV (As := [.int (xs 1), .int (xs 2), .int (xs 3)]) (rest := [.int (-1)]) ⟨hx, hb, hml, hown, hts⟩ (kX5_span l g (am 0) (am 1) (am 2) (am 3) (am 4) (am 5) (am 6) (am 7) (am 8) (am 9) (am 10) (am 11) (am 12) (am 13) (am 14) (am 15) (am 16) (am 17) (am 18) (am 19) (am 20) (am 21) (am 22) H.size (xs 1) (xs 2) (xs 3)) ⟨callB_of 3 hts (zGood m_o_yX5_span) rfl rfl rfl (hts _ m_z_RX5) (hts _ m_m_RL_79) ⟨by decide +kernel, by decide +kernel, by decide +kernel⟩ ⟨Nat.le_of_ble_eq_true rfl, Nat.le_of_ble_eq_true rfl⟩, hts _ m_i_yX5_span, hts _ m_e_yX5_span⟩ (zPreV hK hN hZ hP hD hS hA [0, 1] (by decide) rfl rfl 5 0 rfl rfl) rfl rfl hl.1 rfl (lv_room (Nat.le_of_ble_eq_true rfl)) dL_law_607 ⟨Nat.le_of_ble_eq_true rfl, Nat.le_of_ble_eq_true rfl⟩) (fun r u H locs hw hP hD hS => ?_)
    rcases hw with ⟨i_9, rfl⟩ | ⟨i_10, rfl⟩
    · exfalso; omega
    · skip
      have hP : va_P g.1 vwCl [] H := hP
      have hD : va_D (fun q : Nat => s.heap.size ≤ q) [] := hD
      refine lv_icmp_eq (tgt := 1054) hx hb dL_law_610 (by decide) (fun _ => ?_) (fun h => absurd h (by decide +kernel))
      exact lc_tail ⟨hx, hb, hml, hr, hlocks, hown, hts, hK, hN, hZ, hX, hbl⟩ hS (lv_sub hl [0, 1, 2, 3] rfl)
set_option maxHeartbeats 4000000 in
set_option maxRecDepth 100000 in
theorem lc_hush {p : Program} {l : Launch} {e : Env} {s : State} {m : MethodId} {below : List Frame} {meth : Method} {c : Code} {b : Nat} {xs : Nat → Int32} {g : zG} (C0 : lC g p s m meth c b xs) {ax am : Nat → Nat} {H : Heap} {locs : List Loc} (hP : va_P g.1 vwCl (lW g ax am) H) (hD : va_D (fun q : Nat => s.heap.size ≤ q) (lW g ax am)) (hS : va_S (fun q : Nat => s.heap.size ≤ q) s.heap H locs) {ls : Array Slot} (hl : lv_has ls 4 [(0, .ref b), (1, .ref (ax 0)), (2, .ref (am 0)), (3, .int 0)]) : W p l e room_1 s m #[Value.ref b] below meth c H locs 600000 7302250 (lw_Z below #[Value.ref b] s) (F0 m 615 ls []) := by
  obtain ⟨hx, hb, hml, hr, hlocks, hown, hts, hK, hN, hZ, hX, hbl⟩ := C0
  have hA : ∀ q : Nat, s.heap.size ≤ q → (fun q : Nat => s.heap.size ≤ q) q := fun _ h => h
  have hbA : ¬ (fun q : Nat => s.heap.size ≤ q) b := Nat.not_le.mpr hbl
  have hP := hP.sub (ws' := [((ax 0), .inr (4, [.ref (ax 1), .ref (ax 10), .int 0, .ref (ax 19), .ref (ax 30), .ref (ax 32), .ref (ax 36), .int (-1), .ref (ax 37), .ref (ax 38), .ref (ax 39), .ref (ax 40)])), ((ax 1), .inr (0, [.ref (ax 2), .int 0, .ref (ax 3), .int 0, .ref (ax 4), .ref (ax 5), .ref (ax 6), .ref (ax 7), .ref (ax 8), .ref (ax 9), .int 0])), ((ax 8), .inl (zI g, 20, .inl (fun _ => 0))), ((ax 9), .inl (zI g, 20, .inl (fun _ => 99))), ((am 0), .inr (5, [.ref (am 1), .int 0, .ref (am 2), .int 0, .int 0, .ref (am 3), .ref (am 4), .ref (am 5), .ref (am 6), .int 0, .ref (am 7), .ref (am 8), .ref (am 9), .int 0, .ref (am 10), .ref (am 11), .ref (am 12), .ref (am 13), .ref (am 14), .ref (am 15), .ref (am 16), .ref (am 17), .ref (am 18), .ref (am 19), .ref (am 20), .ref (am 21), .ref (am 22)])), ((am 1), .inl (zI g, 180, .inl (upd (upd (upd (fun _ => 0) 0 60) 1 1) 2 1)))]) [0, 1, 8, 9, 41, 42] rfl
  have hD := hD.sub (ws' := [((ax 0), .inr (4, [.ref (ax 1), .ref (ax 10), .int 0, .ref (ax 19), .ref (ax 30), .ref (ax 32), .ref (ax 36), .int (-1), .ref (ax 37), .ref (ax 38), .ref (ax 39), .ref (ax 40)])), ((ax 1), .inr (0, [.ref (ax 2), .int 0, .ref (ax 3), .int 0, .ref (ax 4), .ref (ax 5), .ref (ax 6), .ref (ax 7), .ref (ax 8), .ref (ax 9), .int 0])), ((ax 8), .inl (zI g, 20, .inl (fun _ => 0))), ((ax 9), .inl (zI g, 20, .inl (fun _ => 99))), ((am 0), .inr (5, [.ref (am 1), .int 0, .ref (am 2), .int 0, .int 0, .ref (am 3), .ref (am 4), .ref (am 5), .ref (am 6), .int 0, .ref (am 7), .ref (am 8), .ref (am 9), .int 0, .ref (am 10), .ref (am 11), .ref (am 12), .ref (am 13), .ref (am 14), .ref (am 15), .ref (am 16), .ref (am 17), .ref (am 18), .ref (am 19), .ref (am 20), .ref (am 21), .ref (am 22)])), ((am 1), .inl (zI g, 180, .inl (upd (upd (upd (fun _ => 0) 0 60) 1 1) 2 1)))]) [0, 1, 8, 9, 41, 42] (by decide) rfl
  refine lv_aload_n hx hb dL_law_615 rfl (lv_at hl 1 rfl) ?_
  refine z_calli (wr := [((am 0), .inr (5, [.ref (am 1), .int 0, .ref (am 2), .int 0, .int 0, .ref (am 3), .ref (am 4), .ref (am 5), .ref (am 6), .int 0, .ref (am 7), .ref (am 8), .ref (am 9), .int 0, .ref (am 10), .ref (am 11), .ref (am 12), .ref (am 13), .ref (am 14), .ref (am 15), .ref (am 16), .ref (am 17), .ref (am 18), .ref (am 19), .ref (am 20), .ref (am 21), .ref (am 22)])), ((am 1), .inl (zI g, 180, .inl (upd (upd (upd (fun _ => 0) 0 60) 1 1) 2 1)))]) hP hD hS hA [0, 1, 2, 3] [4, 5] (by decide) rfl rfl (by decide) (va_runV (As := []) (rest := []) ⟨hx, hb, hml, hown, hts⟩ (kX4_hush l g (ax 0) (ax 1) (ax 10) (ax 19) (ax 30) (ax 32) (ax 36) (ax 37) (ax 38) (ax 39) (ax 40) (ax 2) (ax 3) (ax 4) (ax 5) (ax 6) (ax 7) (ax 8) (ax 9) H.size) ⟨callB_of 0 hts (zGood m_o_yX4_hush) rfl rfl rfl (hts _ m_z_RX4) (hts _ m_m_RL_80) ⟨by decide +kernel, by decide +kernel, by decide +kernel⟩ ⟨Nat.le_of_ble_eq_true rfl, Nat.le_of_ble_eq_true rfl⟩, hts _ m_i_yX4_hush, hts _ m_e_yX4_hush⟩ (zPreV hK hN hZ hP hD hS hA [0, 1, 2, 3] (by decide) rfl rfl 4 0 rfl rfl) rfl rfl hl.1 rfl (lv_room (Nat.le_of_ble_eq_true rfl)) dL_law_616 ⟨Nat.le_of_ble_eq_true rfl, Nat.le_of_ble_eq_true rfl⟩) (fun r u H locs hw hP hD hS => ?_)
  obtain rfl := hw
  have hP : va_P g.1 vwCl [((am 0), .inr (5, [.ref (am 1), .int 0, .ref (am 2), .int 0, .int 0, .ref (am 3), .ref (am 4), .ref (am 5), .ref (am 6), .int 0, .ref (am 7), .ref (am 8), .ref (am 9), .int 0, .ref (am 10), .ref (am 11), .ref (am 12), .ref (am 13), .ref (am 14), .ref (am 15), .ref (am 16), .ref (am 17), .ref (am 18), .ref (am 19), .ref (am 20), .ref (am 21), .ref (am 22)])), ((am 1), .inl (zI g, 180, .inl (upd (upd (upd (fun _ => 0) 0 60) 1 1) 2 1)))] H := hP
  have hD : va_D (fun q : Nat => s.heap.size ≤ q) [((am 0), .inr (5, [.ref (am 1), .int 0, .ref (am 2), .int 0, .int 0, .ref (am 3), .ref (am 4), .ref (am 5), .ref (am 6), .int 0, .ref (am 7), .ref (am 8), .ref (am 9), .int 0, .ref (am 10), .ref (am 11), .ref (am 12), .ref (am 13), .ref (am 14), .ref (am 15), .ref (am 16), .ref (am 17), .ref (am 18), .ref (am 19), .ref (am 20), .ref (am 21), .ref (am 22)])), ((am 1), .inl (zI g, 180, .inl (upd (upd (upd (fun _ => 0) 0 60) 1 1) 2 1)))] := hD
  refine lv_aload_n hx hb dL_law_619 rfl (lv_at hl 2 rfl) ?_
  refine z_calli (wr := []) hP hD hS hA [0, 1] [] (by decide) rfl rfl (by decide) (va_runV (As := []) (rest := [.int 0]) ⟨hx, hb, hml, hown, hts⟩ (kX5_hush l g (am 0) (am 1) (am 2) (am 3) (am 4) (am 5) (am 6) (am 7) (am 8) (am 9) (am 10) (am 11) (am 12) (am 13) (am 14) (am 15) (am 16) (am 17) (am 18) (am 19) (am 20) (am 21) (am 22) H.size) ⟨callB_of 0 hts (zGood m_o_yX5_hush) rfl rfl rfl (hts _ m_z_RX5) (hts _ m_m_RL_83) ⟨by decide +kernel, by decide +kernel, by decide +kernel⟩ ⟨Nat.le_of_ble_eq_true rfl, Nat.le_of_ble_eq_true rfl⟩, hts _ m_i_yX5_hush, hts _ m_e_yX5_hush⟩ (zPreV hK hN hZ hP hD hS hA [0, 1] (by decide) rfl rfl 5 0 rfl rfl) rfl rfl hl.1 rfl (lv_room (Nat.le_of_ble_eq_true rfl)) dL_law_620 ⟨Nat.le_of_ble_eq_true rfl, Nat.le_of_ble_eq_true rfl⟩) (fun r u H locs hw hP hD hS => ?_)
  obtain rfl := hw
  have hP : va_P g.1 vwCl [] H := hP
  have hD : va_D (fun q : Nat => s.heap.size ≤ q) [] := hD
  refine lv_icmp_eq (tgt := 1054) hx hb dL_law_623 (by decide) (fun _ => ?_) (fun h => absurd h (by decide +kernel))
  exact lc_tail ⟨hx, hb, hml, hr, hlocks, hown, hts, hK, hN, hZ, hX, hbl⟩ hS (lv_sub hl [0, 1, 2, 3] rfl)
set_option maxHeartbeats 4000000 in
set_option maxRecDepth 100000 in
theorem lc_best {p : Program} {l : Launch} {e : Env} {s : State} {m : MethodId} {below : List Frame} {meth : Method} {c : Code} {b : Nat} {xs : Nat → Int32} {g : zG} (C0 : lC g p s m meth c b xs) {ax am : Nat → Nat} {H : Heap} {locs : List Loc} (hP : va_P g.1 vwCl (lW g ax am) H) (hD : va_D (fun q : Nat => s.heap.size ≤ q) (lW g ax am)) (hS : va_S (fun q : Nat => s.heap.size ≤ q) s.heap H locs) {ls : Array Slot} (hl : lv_has ls 4 [(0, .ref b), (1, .ref (ax 0)), (2, .ref (am 0)), (3, .int 0)]) : W p l e room_1 s m #[Value.ref b] below meth c H locs 600000 7302250 (lw_Z below #[Value.ref b] s) (F0 m 628 ls []) := by
  obtain ⟨hx, hb, hml, hr, hlocks, hown, hts, hK, hN, hZ, hX, hbl⟩ := C0
  have hA : ∀ q : Nat, s.heap.size ≤ q → (fun q : Nat => s.heap.size ≤ q) q := fun _ h => h
  have hbA : ¬ (fun q : Nat => s.heap.size ≤ q) b := Nat.not_le.mpr hbl
  have hP := hP.sub (ws' := [((ax 0), .inr (4, [.ref (ax 1), .ref (ax 10), .int 0, .ref (ax 19), .ref (ax 30), .ref (ax 32), .ref (ax 36), .int (-1), .ref (ax 37), .ref (ax 38), .ref (ax 39), .ref (ax 40)])), ((ax 1), .inr (0, [.ref (ax 2), .int 0, .ref (ax 3), .int 0, .ref (ax 4), .ref (ax 5), .ref (ax 6), .ref (ax 7), .ref (ax 8), .ref (ax 9), .int 0])), ((am 0), .inr (5, [.ref (am 1), .int 0, .ref (am 2), .int 0, .int 0, .ref (am 3), .ref (am 4), .ref (am 5), .ref (am 6), .int 0, .ref (am 7), .ref (am 8), .ref (am 9), .int 0, .ref (am 10), .ref (am 11), .ref (am 12), .ref (am 13), .ref (am 14), .ref (am 15), .ref (am 16), .ref (am 17), .ref (am 18), .ref (am 19), .ref (am 20), .ref (am 21), .ref (am 22)])), ((am 1), .inl (zI g, 180, .inl (upd (upd (upd (fun _ => 0) 0 60) 1 1) 2 1)))]) [0, 1, 41, 42] rfl
  have hD := hD.sub (ws' := [((ax 0), .inr (4, [.ref (ax 1), .ref (ax 10), .int 0, .ref (ax 19), .ref (ax 30), .ref (ax 32), .ref (ax 36), .int (-1), .ref (ax 37), .ref (ax 38), .ref (ax 39), .ref (ax 40)])), ((ax 1), .inr (0, [.ref (ax 2), .int 0, .ref (ax 3), .int 0, .ref (ax 4), .ref (ax 5), .ref (ax 6), .ref (ax 7), .ref (ax 8), .ref (ax 9), .int 0])), ((am 0), .inr (5, [.ref (am 1), .int 0, .ref (am 2), .int 0, .int 0, .ref (am 3), .ref (am 4), .ref (am 5), .ref (am 6), .int 0, .ref (am 7), .ref (am 8), .ref (am 9), .int 0, .ref (am 10), .ref (am 11), .ref (am 12), .ref (am 13), .ref (am 14), .ref (am 15), .ref (am 16), .ref (am 17), .ref (am 18), .ref (am 19), .ref (am 20), .ref (am 21), .ref (am 22)])), ((am 1), .inl (zI g, 180, .inl (upd (upd (upd (fun _ => 0) 0 60) 1 1) 2 1)))]) [0, 1, 41, 42] (by decide) rfl
  refine lv_aload_n hx hb dL_law_628 rfl (lv_at hl 1 rfl) ?_
  refine lv_aload_n hx hb dL_law_629 rfl (lv_at hl 0 rfl) ?_
  refine lv_iload_n hx hb dL_law_630 rfl (lv_at hl 3 rfl) ?_
  refine lv_iconst (v := 1) hx hb dL_law_631 (by decide) ?_
  refine lv_iadd hx hb dL_law_632 ?_
  refine lv_topi (nm_r (e' := 1) (by decide +kernel) ?_)
  refine va_sld hx hb hX hbl hbA hS (vp_in_iff.mpr (by decide +kernel)) dL_law_633 ?_
  refine lv_topi (nm_r (e' := (xs 1)) (by rfl) ?_)
  refine z_calli (wr := [((am 0), .inr (5, [.ref (am 1), .int 0, .ref (am 2), .int 0, .int 0, .ref (am 3), .ref (am 4), .ref (am 5), .ref (am 6), .int 0, .ref (am 7), .ref (am 8), .ref (am 9), .int 0, .ref (am 10), .ref (am 11), .ref (am 12), .ref (am 13), .ref (am 14), .ref (am 15), .ref (am 16), .ref (am 17), .ref (am 18), .ref (am 19), .ref (am 20), .ref (am 21), .ref (am 22)])), ((am 1), .inl (zI g, 180, .inl (upd (upd (upd (fun _ => 0) 0 60) 1 1) 2 1)))]) hP hD hS hA [0, 1] [2, 3] (by decide) rfl rfl (by decide) (va_runV (As := [.int (xs 1)]) (rest := []) ⟨hx, hb, hml, hown, hts⟩ (kX4_best l g (ax 0) (ax 1) (ax 10) (ax 19) (ax 30) (ax 32) (ax 36) (ax 37) (ax 38) (ax 39) (ax 40) (ax 2) (ax 3) (ax 4) (ax 5) (ax 6) (ax 7) (ax 8) (ax 9) H.size (xs 1)) ⟨callB_of 1 hts (zGood m_o_yX4_best) rfl rfl rfl (hts _ m_z_RX4) (hts _ m_m_RL_84) ⟨by decide +kernel, by decide +kernel, by decide +kernel⟩ ⟨Nat.le_of_ble_eq_true rfl, Nat.le_of_ble_eq_true rfl⟩, hts _ m_i_yX4_best, hts _ m_e_yX4_best⟩ (zPreV hK hN hZ hP hD hS hA [0, 1] (by decide) rfl rfl 4 0 rfl rfl) rfl rfl hl.1 rfl (lv_room (Nat.le_of_ble_eq_true rfl)) dL_law_634 ⟨Nat.le_of_ble_eq_true rfl, Nat.le_of_ble_eq_true rfl⟩) (fun r u H locs hw hP hD hS => ?_)
  rcases hw with ⟨i_0, rfl⟩ | ⟨i_1, i_2, rfl⟩ | ⟨i_3, i_4, rfl⟩
  · skip
    have hP : va_P g.1 vwCl [((am 0), .inr (5, [.ref (am 1), .int 0, .ref (am 2), .int 0, .int 0, .ref (am 3), .ref (am 4), .ref (am 5), .ref (am 6), .int 0, .ref (am 7), .ref (am 8), .ref (am 9), .int 0, .ref (am 10), .ref (am 11), .ref (am 12), .ref (am 13), .ref (am 14), .ref (am 15), .ref (am 16), .ref (am 17), .ref (am 18), .ref (am 19), .ref (am 20), .ref (am 21), .ref (am 22)])), ((am 1), .inl (zI g, 180, .inl (upd (upd (upd (fun _ => 0) 0 60) 1 1) 2 1)))] H := hP
    have hD : va_D (fun q : Nat => s.heap.size ≤ q) [((am 0), .inr (5, [.ref (am 1), .int 0, .ref (am 2), .int 0, .int 0, .ref (am 3), .ref (am 4), .ref (am 5), .ref (am 6), .int 0, .ref (am 7), .ref (am 8), .ref (am 9), .int 0, .ref (am 10), .ref (am 11), .ref (am 12), .ref (am 13), .ref (am 14), .ref (am 15), .ref (am 16), .ref (am 17), .ref (am 18), .ref (am 19), .ref (am 20), .ref (am 21), .ref (am 22)])), ((am 1), .inl (zI g, 180, .inl (upd (upd (upd (fun _ => 0) 0 60) 1 1) 2 1)))] := hD
    refine lv_aload_n hx hb dL_law_637 rfl (lv_at hl 2 rfl) ?_
    refine lv_aload_n hx hb dL_law_638 rfl (lv_at hl 0 rfl) ?_
    refine lv_iload_n hx hb dL_law_639 rfl (lv_at hl 3 rfl) ?_
    refine lv_iconst (v := 1) hx hb dL_law_640 (by decide) ?_
    refine lv_iadd hx hb dL_law_641 ?_
    refine lv_topi (nm_r (e' := 1) (by decide +kernel) ?_)
    refine va_sld hx hb hX hbl hbA hS (vp_in_iff.mpr (by decide +kernel)) dL_law_642 ?_
    refine lv_topi (nm_r (e' := (xs 1)) (by rfl) ?_)
    refine z_calli (wr := []) hP hD hS hA [0, 1] [] (by decide) rfl rfl (by decide) (va_runV (As := [.int (xs 1)]) (rest := [.int (-1)]) ⟨hx, hb, hml, hown, hts⟩ (kX5_best l g (am 0) (am 1) (am 2) (am 3) (am 4) (am 5) (am 6) (am 7) (am 8) (am 9) (am 10) (am 11) (am 12) (am 13) (am 14) (am 15) (am 16) (am 17) (am 18) (am 19) (am 20) (am 21) (am 22) H.size (xs 1)) ⟨callB_of 1 hts (zGood m_o_yX5_best) rfl rfl rfl (hts _ m_z_RX5) (hts _ m_m_RL_87) ⟨by decide +kernel, by decide +kernel, by decide +kernel⟩ ⟨Nat.le_of_ble_eq_true rfl, Nat.le_of_ble_eq_true rfl⟩, hts _ m_i_yX5_best, hts _ m_e_yX5_best⟩ (zPreV hK hN hZ hP hD hS hA [0, 1] (by decide) rfl rfl 5 0 rfl rfl) rfl rfl hl.1 rfl (lv_room (Nat.le_of_ble_eq_true rfl)) dL_law_643 ⟨Nat.le_of_ble_eq_true rfl, Nat.le_of_ble_eq_true rfl⟩) (fun r u H locs hw hP hD hS => ?_)
    rcases hw with ⟨i_5, rfl⟩ | ⟨i_6, rfl⟩
    · skip
      have hP : va_P g.1 vwCl [] H := hP
      have hD : va_D (fun q : Nat => s.heap.size ≤ q) [] := hD
      refine lv_icmp_eq (tgt := 1054) hx hb dL_law_646 (by decide) (fun _ => ?_) (fun h => absurd h (by decide +kernel))
      exact lc_tail ⟨hx, hb, hml, hr, hlocks, hown, hts, hK, hN, hZ, hX, hbl⟩ hS (lv_sub hl [0, 1, 2, 3] rfl)
    · exfalso; omega
  · skip
    have hP : va_P g.1 vwCl [((am 0), .inr (5, [.ref (am 1), .int 0, .ref (am 2), .int 0, .int 0, .ref (am 3), .ref (am 4), .ref (am 5), .ref (am 6), .int 0, .ref (am 7), .ref (am 8), .ref (am 9), .int 0, .ref (am 10), .ref (am 11), .ref (am 12), .ref (am 13), .ref (am 14), .ref (am 15), .ref (am 16), .ref (am 17), .ref (am 18), .ref (am 19), .ref (am 20), .ref (am 21), .ref (am 22)])), ((am 1), .inl (zI g, 180, .inl (upd (upd (upd (fun _ => 0) 0 60) 1 1) 2 1)))] H := hP
    have hD : va_D (fun q : Nat => s.heap.size ≤ q) [((am 0), .inr (5, [.ref (am 1), .int 0, .ref (am 2), .int 0, .int 0, .ref (am 3), .ref (am 4), .ref (am 5), .ref (am 6), .int 0, .ref (am 7), .ref (am 8), .ref (am 9), .int 0, .ref (am 10), .ref (am 11), .ref (am 12), .ref (am 13), .ref (am 14), .ref (am 15), .ref (am 16), .ref (am 17), .ref (am 18), .ref (am 19), .ref (am 20), .ref (am 21), .ref (am 22)])), ((am 1), .inl (zI g, 180, .inl (upd (upd (upd (fun _ => 0) 0 60) 1 1) 2 1)))] := hD
    refine lv_aload_n hx hb dL_law_637 rfl (lv_at hl 2 rfl) ?_
    refine lv_aload_n hx hb dL_law_638 rfl (lv_at hl 0 rfl) ?_
    refine lv_iload_n hx hb dL_law_639 rfl (lv_at hl 3 rfl) ?_
    refine lv_iconst (v := 1) hx hb dL_law_640 (by decide) ?_
    refine lv_iadd hx hb dL_law_641 ?_
    refine lv_topi (nm_r (e' := 1) (by decide +kernel) ?_)
    refine va_sld hx hb hX hbl hbA hS (vp_in_iff.mpr (by decide +kernel)) dL_law_642 ?_
    refine lv_topi (nm_r (e' := (xs 1)) (by rfl) ?_)
    refine z_calli (wr := []) hP hD hS hA [0, 1] [] (by decide) rfl rfl (by decide) (va_runV (As := [.int (xs 1)]) (rest := [.int (-1)]) ⟨hx, hb, hml, hown, hts⟩ (kX5_best l g (am 0) (am 1) (am 2) (am 3) (am 4) (am 5) (am 6) (am 7) (am 8) (am 9) (am 10) (am 11) (am 12) (am 13) (am 14) (am 15) (am 16) (am 17) (am 18) (am 19) (am 20) (am 21) (am 22) H.size (xs 1)) ⟨callB_of 1 hts (zGood m_o_yX5_best) rfl rfl rfl (hts _ m_z_RX5) (hts _ m_m_RL_87) ⟨by decide +kernel, by decide +kernel, by decide +kernel⟩ ⟨Nat.le_of_ble_eq_true rfl, Nat.le_of_ble_eq_true rfl⟩, hts _ m_i_yX5_best, hts _ m_e_yX5_best⟩ (zPreV hK hN hZ hP hD hS hA [0, 1] (by decide) rfl rfl 5 0 rfl rfl) rfl rfl hl.1 rfl (lv_room (Nat.le_of_ble_eq_true rfl)) dL_law_643 ⟨Nat.le_of_ble_eq_true rfl, Nat.le_of_ble_eq_true rfl⟩) (fun r u H locs hw hP hD hS => ?_)
    rcases hw with ⟨i_7, rfl⟩ | ⟨i_8, rfl⟩
    · exfalso; omega
    · skip
      have hP : va_P g.1 vwCl [] H := hP
      have hD : va_D (fun q : Nat => s.heap.size ≤ q) [] := hD
      refine lv_icmp_eq (tgt := 1054) hx hb dL_law_646 (by decide) (fun _ => ?_) (fun h => absurd h (by decide +kernel))
      exact lc_tail ⟨hx, hb, hml, hr, hlocks, hown, hts, hK, hN, hZ, hX, hbl⟩ hS (lv_sub hl [0, 1, 2, 3] rfl)
  · skip
    have hP : va_P g.1 vwCl [((am 0), .inr (5, [.ref (am 1), .int 0, .ref (am 2), .int 0, .int 0, .ref (am 3), .ref (am 4), .ref (am 5), .ref (am 6), .int 0, .ref (am 7), .ref (am 8), .ref (am 9), .int 0, .ref (am 10), .ref (am 11), .ref (am 12), .ref (am 13), .ref (am 14), .ref (am 15), .ref (am 16), .ref (am 17), .ref (am 18), .ref (am 19), .ref (am 20), .ref (am 21), .ref (am 22)])), ((am 1), .inl (zI g, 180, .inl (upd (upd (upd (fun _ => 0) 0 60) 1 1) 2 1)))] H := hP
    have hD : va_D (fun q : Nat => s.heap.size ≤ q) [((am 0), .inr (5, [.ref (am 1), .int 0, .ref (am 2), .int 0, .int 0, .ref (am 3), .ref (am 4), .ref (am 5), .ref (am 6), .int 0, .ref (am 7), .ref (am 8), .ref (am 9), .int 0, .ref (am 10), .ref (am 11), .ref (am 12), .ref (am 13), .ref (am 14), .ref (am 15), .ref (am 16), .ref (am 17), .ref (am 18), .ref (am 19), .ref (am 20), .ref (am 21), .ref (am 22)])), ((am 1), .inl (zI g, 180, .inl (upd (upd (upd (fun _ => 0) 0 60) 1 1) 2 1)))] := hD
    refine lv_aload_n hx hb dL_law_637 rfl (lv_at hl 2 rfl) ?_
    refine lv_aload_n hx hb dL_law_638 rfl (lv_at hl 0 rfl) ?_
    refine lv_iload_n hx hb dL_law_639 rfl (lv_at hl 3 rfl) ?_
    refine lv_iconst (v := 1) hx hb dL_law_640 (by decide) ?_
    refine lv_iadd hx hb dL_law_641 ?_
    refine lv_topi (nm_r (e' := 1) (by decide +kernel) ?_)
    refine va_sld hx hb hX hbl hbA hS (vp_in_iff.mpr (by decide +kernel)) dL_law_642 ?_
    refine lv_topi (nm_r (e' := (xs 1)) (by rfl) ?_)
    refine z_calli (wr := []) hP hD hS hA [0, 1] [] (by decide) rfl rfl (by decide) (va_runV (As := [.int (xs 1)]) (rest := [.int (-1)]) ⟨hx, hb, hml, hown, hts⟩ (kX5_best l g (am 0) (am 1) (am 2) (am 3) (am 4) (am 5) (am 6) (am 7) (am 8) (am 9) (am 10) (am 11) (am 12) (am 13) (am 14) (am 15) (am 16) (am 17) (am 18) (am 19) (am 20) (am 21) (am 22) H.size (xs 1)) ⟨callB_of 1 hts (zGood m_o_yX5_best) rfl rfl rfl (hts _ m_z_RX5) (hts _ m_m_RL_87) ⟨by decide +kernel, by decide +kernel, by decide +kernel⟩ ⟨Nat.le_of_ble_eq_true rfl, Nat.le_of_ble_eq_true rfl⟩, hts _ m_i_yX5_best, hts _ m_e_yX5_best⟩ (zPreV hK hN hZ hP hD hS hA [0, 1] (by decide) rfl rfl 5 0 rfl rfl) rfl rfl hl.1 rfl (lv_room (Nat.le_of_ble_eq_true rfl)) dL_law_643 ⟨Nat.le_of_ble_eq_true rfl, Nat.le_of_ble_eq_true rfl⟩) (fun r u H locs hw hP hD hS => ?_)
    rcases hw with ⟨i_9, rfl⟩ | ⟨i_10, rfl⟩
    · exfalso; omega
    · skip
      have hP : va_P g.1 vwCl [] H := hP
      have hD : va_D (fun q : Nat => s.heap.size ≤ q) [] := hD
      refine lv_icmp_eq (tgt := 1054) hx hb dL_law_646 (by decide) (fun _ => ?_) (fun h => absurd h (by decide +kernel))
      exact lc_tail ⟨hx, hb, hml, hr, hlocks, hown, hts, hK, hN, hZ, hX, hbl⟩ hS (lv_sub hl [0, 1, 2, 3] rfl)
set_option maxHeartbeats 4000000 in
set_option maxRecDepth 100000 in
theorem lc_rests {p : Program} {l : Launch} {e : Env} {s : State} {m : MethodId} {below : List Frame} {meth : Method} {c : Code} {b : Nat} {xs : Nat → Int32} {g : zG} (C0 : lC g p s m meth c b xs) {ax am : Nat → Nat} {H : Heap} {locs : List Loc} (hP : va_P g.1 vwCl (lW g ax am) H) (hD : va_D (fun q : Nat => s.heap.size ≤ q) (lW g ax am)) (hS : va_S (fun q : Nat => s.heap.size ≤ q) s.heap H locs) {ls : Array Slot} (hl : lv_has ls 4 [(0, .ref b), (1, .ref (ax 0)), (2, .ref (am 0)), (3, .int 0)]) : W p l e room_1 s m #[Value.ref b] below meth c H locs 600000 7302250 (lw_Z below #[Value.ref b] s) (F0 m 651 ls []) := by
  obtain ⟨hx, hb, hml, hr, hlocks, hown, hts, hK, hN, hZ, hX, hbl⟩ := C0
  have hA : ∀ q : Nat, s.heap.size ≤ q → (fun q : Nat => s.heap.size ≤ q) q := fun _ h => h
  have hbA : ¬ (fun q : Nat => s.heap.size ≤ q) b := Nat.not_le.mpr hbl
  have hP := hP.sub (ws' := [((ax 0), .inr (4, [.ref (ax 1), .ref (ax 10), .int 0, .ref (ax 19), .ref (ax 30), .ref (ax 32), .ref (ax 36), .int (-1), .ref (ax 37), .ref (ax 38), .ref (ax 39), .ref (ax 40)])), ((ax 1), .inr (0, [.ref (ax 2), .int 0, .ref (ax 3), .int 0, .ref (ax 4), .ref (ax 5), .ref (ax 6), .ref (ax 7), .ref (ax 8), .ref (ax 9), .int 0])), ((am 0), .inr (5, [.ref (am 1), .int 0, .ref (am 2), .int 0, .int 0, .ref (am 3), .ref (am 4), .ref (am 5), .ref (am 6), .int 0, .ref (am 7), .ref (am 8), .ref (am 9), .int 0, .ref (am 10), .ref (am 11), .ref (am 12), .ref (am 13), .ref (am 14), .ref (am 15), .ref (am 16), .ref (am 17), .ref (am 18), .ref (am 19), .ref (am 20), .ref (am 21), .ref (am 22)])), ((am 1), .inl (zI g, 180, .inl (upd (upd (upd (fun _ => 0) 0 60) 1 1) 2 1)))]) [0, 1, 41, 42] rfl
  have hD := hD.sub (ws' := [((ax 0), .inr (4, [.ref (ax 1), .ref (ax 10), .int 0, .ref (ax 19), .ref (ax 30), .ref (ax 32), .ref (ax 36), .int (-1), .ref (ax 37), .ref (ax 38), .ref (ax 39), .ref (ax 40)])), ((ax 1), .inr (0, [.ref (ax 2), .int 0, .ref (ax 3), .int 0, .ref (ax 4), .ref (ax 5), .ref (ax 6), .ref (ax 7), .ref (ax 8), .ref (ax 9), .int 0])), ((am 0), .inr (5, [.ref (am 1), .int 0, .ref (am 2), .int 0, .int 0, .ref (am 3), .ref (am 4), .ref (am 5), .ref (am 6), .int 0, .ref (am 7), .ref (am 8), .ref (am 9), .int 0, .ref (am 10), .ref (am 11), .ref (am 12), .ref (am 13), .ref (am 14), .ref (am 15), .ref (am 16), .ref (am 17), .ref (am 18), .ref (am 19), .ref (am 20), .ref (am 21), .ref (am 22)])), ((am 1), .inl (zI g, 180, .inl (upd (upd (upd (fun _ => 0) 0 60) 1 1) 2 1)))]) [0, 1, 41, 42] (by decide) rfl
  refine lv_aload_n hx hb dL_law_651 rfl (lv_at hl 1 rfl) ?_
  refine lv_aload_n hx hb dL_law_652 rfl (lv_at hl 0 rfl) ?_
  refine lv_iload_n hx hb dL_law_653 rfl (lv_at hl 3 rfl) ?_
  refine lv_iconst (v := 1) hx hb dL_law_654 (by decide) ?_
  refine lv_iadd hx hb dL_law_655 ?_
  refine lv_topi (nm_r (e' := 1) (by decide +kernel) ?_)
  refine va_sld hx hb hX hbl hbA hS (vp_in_iff.mpr (by decide +kernel)) dL_law_656 ?_
  refine lv_topi (nm_r (e' := (xs 1)) (by rfl) ?_)
  refine z_calli (wr := [((am 0), .inr (5, [.ref (am 1), .int 0, .ref (am 2), .int 0, .int 0, .ref (am 3), .ref (am 4), .ref (am 5), .ref (am 6), .int 0, .ref (am 7), .ref (am 8), .ref (am 9), .int 0, .ref (am 10), .ref (am 11), .ref (am 12), .ref (am 13), .ref (am 14), .ref (am 15), .ref (am 16), .ref (am 17), .ref (am 18), .ref (am 19), .ref (am 20), .ref (am 21), .ref (am 22)])), ((am 1), .inl (zI g, 180, .inl (upd (upd (upd (fun _ => 0) 0 60) 1 1) 2 1)))]) hP hD hS hA [0, 1] [2, 3] (by decide) rfl rfl (by decide) (va_runV (As := [.int (xs 1)]) (rest := []) ⟨hx, hb, hml, hown, hts⟩ (kX4_rests l g (ax 0) (ax 1) (ax 10) (ax 19) (ax 30) (ax 32) (ax 36) (ax 37) (ax 38) (ax 39) (ax 40) (ax 2) (ax 3) (ax 4) (ax 5) (ax 6) (ax 7) (ax 8) (ax 9) H.size (xs 1)) ⟨callB_of 1 hts (zGood m_o_yX4_rests) rfl rfl rfl (hts _ m_z_RX4) (hts _ m_m_RL_88) ⟨by decide +kernel, by decide +kernel, by decide +kernel⟩ ⟨Nat.le_of_ble_eq_true rfl, Nat.le_of_ble_eq_true rfl⟩, hts _ m_i_yX4_rests, hts _ m_e_yX4_rests⟩ (zPreV hK hN hZ hP hD hS hA [0, 1] (by decide) rfl rfl 4 0 rfl rfl) rfl rfl hl.1 rfl (lv_room (Nat.le_of_ble_eq_true rfl)) dL_law_657 ⟨Nat.le_of_ble_eq_true rfl, Nat.le_of_ble_eq_true rfl⟩) (fun r u H locs hw hP hD hS => ?_)
  rcases hw with ⟨i_0, rfl⟩ | ⟨i_1, i_2, rfl⟩ | ⟨i_3, i_4, rfl⟩
  · skip
    have hP : va_P g.1 vwCl [((am 0), .inr (5, [.ref (am 1), .int 0, .ref (am 2), .int 0, .int 0, .ref (am 3), .ref (am 4), .ref (am 5), .ref (am 6), .int 0, .ref (am 7), .ref (am 8), .ref (am 9), .int 0, .ref (am 10), .ref (am 11), .ref (am 12), .ref (am 13), .ref (am 14), .ref (am 15), .ref (am 16), .ref (am 17), .ref (am 18), .ref (am 19), .ref (am 20), .ref (am 21), .ref (am 22)])), ((am 1), .inl (zI g, 180, .inl (upd (upd (upd (fun _ => 0) 0 60) 1 1) 2 1)))] H := hP
    have hD : va_D (fun q : Nat => s.heap.size ≤ q) [((am 0), .inr (5, [.ref (am 1), .int 0, .ref (am 2), .int 0, .int 0, .ref (am 3), .ref (am 4), .ref (am 5), .ref (am 6), .int 0, .ref (am 7), .ref (am 8), .ref (am 9), .int 0, .ref (am 10), .ref (am 11), .ref (am 12), .ref (am 13), .ref (am 14), .ref (am 15), .ref (am 16), .ref (am 17), .ref (am 18), .ref (am 19), .ref (am 20), .ref (am 21), .ref (am 22)])), ((am 1), .inl (zI g, 180, .inl (upd (upd (upd (fun _ => 0) 0 60) 1 1) 2 1)))] := hD
    refine lv_aload_n hx hb dL_law_660 rfl (lv_at hl 2 rfl) ?_
    refine lv_aload_n hx hb dL_law_661 rfl (lv_at hl 0 rfl) ?_
    refine lv_iload_n hx hb dL_law_662 rfl (lv_at hl 3 rfl) ?_
    refine lv_iconst (v := 1) hx hb dL_law_663 (by decide) ?_
    refine lv_iadd hx hb dL_law_664 ?_
    refine lv_topi (nm_r (e' := 1) (by decide +kernel) ?_)
    refine va_sld hx hb hX hbl hbA hS (vp_in_iff.mpr (by decide +kernel)) dL_law_665 ?_
    refine lv_topi (nm_r (e' := (xs 1)) (by rfl) ?_)
    refine z_calli (wr := []) hP hD hS hA [0, 1] [] (by decide) rfl rfl (by decide) (va_runV (As := [.int (xs 1)]) (rest := [.int (-1)]) ⟨hx, hb, hml, hown, hts⟩ (kX5_rests l g (am 0) (am 1) (am 2) (am 3) (am 4) (am 5) (am 6) (am 7) (am 8) (am 9) (am 10) (am 11) (am 12) (am 13) (am 14) (am 15) (am 16) (am 17) (am 18) (am 19) (am 20) (am 21) (am 22) H.size (xs 1)) ⟨callB_of 1 hts (zGood m_o_yX5_rests) rfl rfl rfl (hts _ m_z_RX5) (hts _ m_m_RL_91) ⟨by decide +kernel, by decide +kernel, by decide +kernel⟩ ⟨Nat.le_of_ble_eq_true rfl, Nat.le_of_ble_eq_true rfl⟩, hts _ m_i_yX5_rests, hts _ m_e_yX5_rests⟩ (zPreV hK hN hZ hP hD hS hA [0, 1] (by decide) rfl rfl 5 0 rfl rfl) rfl rfl hl.1 rfl (lv_room (Nat.le_of_ble_eq_true rfl)) dL_law_666 ⟨Nat.le_of_ble_eq_true rfl, Nat.le_of_ble_eq_true rfl⟩) (fun r u H locs hw hP hD hS => ?_)
    rcases hw with ⟨i_5, rfl⟩ | ⟨i_6, i_7, rfl⟩ | ⟨i_8, i_9, rfl⟩
    · skip
      have hP : va_P g.1 vwCl [] H := hP
      have hD : va_D (fun q : Nat => s.heap.size ≤ q) [] := hD
      refine lv_icmp_eq (tgt := 1054) hx hb dL_law_669 (by decide) (fun _ => ?_) (fun h => absurd h (by decide +kernel))
      exact lc_tail ⟨hx, hb, hml, hr, hlocks, hown, hts, hK, hN, hZ, hX, hbl⟩ hS (lv_sub hl [0, 1, 2, 3] rfl)
    · exfalso; omega
    · exfalso; omega
  · skip
    have hP : va_P g.1 vwCl [((am 0), .inr (5, [.ref (am 1), .int 0, .ref (am 2), .int 0, .int 0, .ref (am 3), .ref (am 4), .ref (am 5), .ref (am 6), .int 0, .ref (am 7), .ref (am 8), .ref (am 9), .int 0, .ref (am 10), .ref (am 11), .ref (am 12), .ref (am 13), .ref (am 14), .ref (am 15), .ref (am 16), .ref (am 17), .ref (am 18), .ref (am 19), .ref (am 20), .ref (am 21), .ref (am 22)])), ((am 1), .inl (zI g, 180, .inl (upd (upd (upd (fun _ => 0) 0 60) 1 1) 2 1)))] H := hP
    have hD : va_D (fun q : Nat => s.heap.size ≤ q) [((am 0), .inr (5, [.ref (am 1), .int 0, .ref (am 2), .int 0, .int 0, .ref (am 3), .ref (am 4), .ref (am 5), .ref (am 6), .int 0, .ref (am 7), .ref (am 8), .ref (am 9), .int 0, .ref (am 10), .ref (am 11), .ref (am 12), .ref (am 13), .ref (am 14), .ref (am 15), .ref (am 16), .ref (am 17), .ref (am 18), .ref (am 19), .ref (am 20), .ref (am 21), .ref (am 22)])), ((am 1), .inl (zI g, 180, .inl (upd (upd (upd (fun _ => 0) 0 60) 1 1) 2 1)))] := hD
    refine lv_aload_n hx hb dL_law_660 rfl (lv_at hl 2 rfl) ?_
    refine lv_aload_n hx hb dL_law_661 rfl (lv_at hl 0 rfl) ?_
    refine lv_iload_n hx hb dL_law_662 rfl (lv_at hl 3 rfl) ?_
    refine lv_iconst (v := 1) hx hb dL_law_663 (by decide) ?_
    refine lv_iadd hx hb dL_law_664 ?_
    refine lv_topi (nm_r (e' := 1) (by decide +kernel) ?_)
    refine va_sld hx hb hX hbl hbA hS (vp_in_iff.mpr (by decide +kernel)) dL_law_665 ?_
    refine lv_topi (nm_r (e' := (xs 1)) (by rfl) ?_)
    refine z_calli (wr := []) hP hD hS hA [0, 1] [] (by decide) rfl rfl (by decide) (va_runV (As := [.int (xs 1)]) (rest := [.int (-2)]) ⟨hx, hb, hml, hown, hts⟩ (kX5_rests l g (am 0) (am 1) (am 2) (am 3) (am 4) (am 5) (am 6) (am 7) (am 8) (am 9) (am 10) (am 11) (am 12) (am 13) (am 14) (am 15) (am 16) (am 17) (am 18) (am 19) (am 20) (am 21) (am 22) H.size (xs 1)) ⟨callB_of 1 hts (zGood m_o_yX5_rests) rfl rfl rfl (hts _ m_z_RX5) (hts _ m_m_RL_91) ⟨by decide +kernel, by decide +kernel, by decide +kernel⟩ ⟨Nat.le_of_ble_eq_true rfl, Nat.le_of_ble_eq_true rfl⟩, hts _ m_i_yX5_rests, hts _ m_e_yX5_rests⟩ (zPreV hK hN hZ hP hD hS hA [0, 1] (by decide) rfl rfl 5 0 rfl rfl) rfl rfl hl.1 rfl (lv_room (Nat.le_of_ble_eq_true rfl)) dL_law_666 ⟨Nat.le_of_ble_eq_true rfl, Nat.le_of_ble_eq_true rfl⟩) (fun r u H locs hw hP hD hS => ?_)
    rcases hw with ⟨i_10, rfl⟩ | ⟨i_11, i_12, rfl⟩ | ⟨i_13, i_14, rfl⟩
    · exfalso; omega
    · exfalso; omega
    · skip
      have hP : va_P g.1 vwCl [] H := hP
      have hD : va_D (fun q : Nat => s.heap.size ≤ q) [] := hD
      refine lv_icmp_eq (tgt := 1054) hx hb dL_law_669 (by decide) (fun _ => ?_) (fun h => absurd h (by decide +kernel))
      exact lc_tail ⟨hx, hb, hml, hr, hlocks, hown, hts, hK, hN, hZ, hX, hbl⟩ hS (lv_sub hl [0, 1, 2, 3] rfl)
  · skip
    have hP : va_P g.1 vwCl [((am 0), .inr (5, [.ref (am 1), .int 0, .ref (am 2), .int 0, .int 0, .ref (am 3), .ref (am 4), .ref (am 5), .ref (am 6), .int 0, .ref (am 7), .ref (am 8), .ref (am 9), .int 0, .ref (am 10), .ref (am 11), .ref (am 12), .ref (am 13), .ref (am 14), .ref (am 15), .ref (am 16), .ref (am 17), .ref (am 18), .ref (am 19), .ref (am 20), .ref (am 21), .ref (am 22)])), ((am 1), .inl (zI g, 180, .inl (upd (upd (upd (fun _ => 0) 0 60) 1 1) 2 1)))] H := hP
    have hD : va_D (fun q : Nat => s.heap.size ≤ q) [((am 0), .inr (5, [.ref (am 1), .int 0, .ref (am 2), .int 0, .int 0, .ref (am 3), .ref (am 4), .ref (am 5), .ref (am 6), .int 0, .ref (am 7), .ref (am 8), .ref (am 9), .int 0, .ref (am 10), .ref (am 11), .ref (am 12), .ref (am 13), .ref (am 14), .ref (am 15), .ref (am 16), .ref (am 17), .ref (am 18), .ref (am 19), .ref (am 20), .ref (am 21), .ref (am 22)])), ((am 1), .inl (zI g, 180, .inl (upd (upd (upd (fun _ => 0) 0 60) 1 1) 2 1)))] := hD
    refine lv_aload_n hx hb dL_law_660 rfl (lv_at hl 2 rfl) ?_
    refine lv_aload_n hx hb dL_law_661 rfl (lv_at hl 0 rfl) ?_
    refine lv_iload_n hx hb dL_law_662 rfl (lv_at hl 3 rfl) ?_
    refine lv_iconst (v := 1) hx hb dL_law_663 (by decide) ?_
    refine lv_iadd hx hb dL_law_664 ?_
    refine lv_topi (nm_r (e' := 1) (by decide +kernel) ?_)
    refine va_sld hx hb hX hbl hbA hS (vp_in_iff.mpr (by decide +kernel)) dL_law_665 ?_
    refine lv_topi (nm_r (e' := (xs 1)) (by rfl) ?_)
    refine z_calli (wr := []) hP hD hS hA [0, 1] [] (by decide) rfl rfl (by decide) (va_runV (As := [.int (xs 1)]) (rest := [.int (-1)]) ⟨hx, hb, hml, hown, hts⟩ (kX5_rests l g (am 0) (am 1) (am 2) (am 3) (am 4) (am 5) (am 6) (am 7) (am 8) (am 9) (am 10) (am 11) (am 12) (am 13) (am 14) (am 15) (am 16) (am 17) (am 18) (am 19) (am 20) (am 21) (am 22) H.size (xs 1)) ⟨callB_of 1 hts (zGood m_o_yX5_rests) rfl rfl rfl (hts _ m_z_RX5) (hts _ m_m_RL_91) ⟨by decide +kernel, by decide +kernel, by decide +kernel⟩ ⟨Nat.le_of_ble_eq_true rfl, Nat.le_of_ble_eq_true rfl⟩, hts _ m_i_yX5_rests, hts _ m_e_yX5_rests⟩ (zPreV hK hN hZ hP hD hS hA [0, 1] (by decide) rfl rfl 5 0 rfl rfl) rfl rfl hl.1 rfl (lv_room (Nat.le_of_ble_eq_true rfl)) dL_law_666 ⟨Nat.le_of_ble_eq_true rfl, Nat.le_of_ble_eq_true rfl⟩) (fun r u H locs hw hP hD hS => ?_)
    rcases hw with ⟨i_15, rfl⟩ | ⟨i_16, i_17, rfl⟩ | ⟨i_18, i_19, rfl⟩
    · exfalso; omega
    · skip
      have hP : va_P g.1 vwCl [] H := hP
      have hD : va_D (fun q : Nat => s.heap.size ≤ q) [] := hD
      refine lv_icmp_eq (tgt := 1054) hx hb dL_law_669 (by decide) (fun _ => ?_) (fun h => absurd h (by decide +kernel))
      exact lc_tail ⟨hx, hb, hml, hr, hlocks, hown, hts, hK, hN, hZ, hX, hbl⟩ hS (lv_sub hl [0, 1, 2, 3] rfl)
    · exfalso; omega
set_option maxHeartbeats 4000000 in
set_option maxRecDepth 100000 in
theorem lc_order {p : Program} {l : Launch} {e : Env} {s : State} {m : MethodId} {below : List Frame} {meth : Method} {c : Code} {b : Nat} {xs : Nat → Int32} {g : zG} (C0 : lC g p s m meth c b xs) {ax am : Nat → Nat} {H : Heap} {locs : List Loc} (hP : va_P g.1 vwCl (lW g ax am) H) (hD : va_D (fun q : Nat => s.heap.size ≤ q) (lW g ax am)) (hS : va_S (fun q : Nat => s.heap.size ≤ q) s.heap H locs) {ls : Array Slot} (hl : lv_has ls 4 [(0, .ref b), (1, .ref (ax 0)), (2, .ref (am 0)), (3, .int 0)]) : W p l e room_1 s m #[Value.ref b] below meth c H locs 600000 7302250 (lw_Z below #[Value.ref b] s) (F0 m 674 ls []) := by
  obtain ⟨hx, hb, hml, hr, hlocks, hown, hts, hK, hN, hZ, hX, hbl⟩ := C0
  have hA : ∀ q : Nat, s.heap.size ≤ q → (fun q : Nat => s.heap.size ≤ q) q := fun _ h => h
  have hbA : ¬ (fun q : Nat => s.heap.size ≤ q) b := Nat.not_le.mpr hbl
  have hP := hP.sub (ws' := [((ax 0), .inr (4, [.ref (ax 1), .ref (ax 10), .int 0, .ref (ax 19), .ref (ax 30), .ref (ax 32), .ref (ax 36), .int (-1), .ref (ax 37), .ref (ax 38), .ref (ax 39), .ref (ax 40)])), ((ax 1), .inr (0, [.ref (ax 2), .int 0, .ref (ax 3), .int 0, .ref (ax 4), .ref (ax 5), .ref (ax 6), .ref (ax 7), .ref (ax 8), .ref (ax 9), .int 0])), ((am 0), .inr (5, [.ref (am 1), .int 0, .ref (am 2), .int 0, .int 0, .ref (am 3), .ref (am 4), .ref (am 5), .ref (am 6), .int 0, .ref (am 7), .ref (am 8), .ref (am 9), .int 0, .ref (am 10), .ref (am 11), .ref (am 12), .ref (am 13), .ref (am 14), .ref (am 15), .ref (am 16), .ref (am 17), .ref (am 18), .ref (am 19), .ref (am 20), .ref (am 21), .ref (am 22)])), ((am 1), .inl (zI g, 180, .inl (upd (upd (upd (fun _ => 0) 0 60) 1 1) 2 1)))]) [0, 1, 41, 42] rfl
  have hD := hD.sub (ws' := [((ax 0), .inr (4, [.ref (ax 1), .ref (ax 10), .int 0, .ref (ax 19), .ref (ax 30), .ref (ax 32), .ref (ax 36), .int (-1), .ref (ax 37), .ref (ax 38), .ref (ax 39), .ref (ax 40)])), ((ax 1), .inr (0, [.ref (ax 2), .int 0, .ref (ax 3), .int 0, .ref (ax 4), .ref (ax 5), .ref (ax 6), .ref (ax 7), .ref (ax 8), .ref (ax 9), .int 0])), ((am 0), .inr (5, [.ref (am 1), .int 0, .ref (am 2), .int 0, .int 0, .ref (am 3), .ref (am 4), .ref (am 5), .ref (am 6), .int 0, .ref (am 7), .ref (am 8), .ref (am 9), .int 0, .ref (am 10), .ref (am 11), .ref (am 12), .ref (am 13), .ref (am 14), .ref (am 15), .ref (am 16), .ref (am 17), .ref (am 18), .ref (am 19), .ref (am 20), .ref (am 21), .ref (am 22)])), ((am 1), .inl (zI g, 180, .inl (upd (upd (upd (fun _ => 0) 0 60) 1 1) 2 1)))]) [0, 1, 41, 42] (by decide) rfl
  refine lv_aload_n hx hb dL_law_674 rfl (lv_at hl 1 rfl) ?_
  refine lv_aload_n hx hb dL_law_675 rfl (lv_at hl 0 rfl) ?_
  refine lv_iload_n hx hb dL_law_676 rfl (lv_at hl 3 rfl) ?_
  refine lv_iconst (v := 1) hx hb dL_law_677 (by decide) ?_
  refine lv_iadd hx hb dL_law_678 ?_
  refine lv_topi (nm_r (e' := 1) (by decide +kernel) ?_)
  refine va_sld hx hb hX hbl hbA hS (vp_in_iff.mpr (by decide +kernel)) dL_law_679 ?_
  refine lv_topi (nm_r (e' := (xs 1)) (by rfl) ?_)
  refine z_calli (wr := [((am 0), .inr (5, [.ref (am 1), .int 0, .ref (am 2), .int 0, .int 0, .ref (am 3), .ref (am 4), .ref (am 5), .ref (am 6), .int 0, .ref (am 7), .ref (am 8), .ref (am 9), .int 0, .ref (am 10), .ref (am 11), .ref (am 12), .ref (am 13), .ref (am 14), .ref (am 15), .ref (am 16), .ref (am 17), .ref (am 18), .ref (am 19), .ref (am 20), .ref (am 21), .ref (am 22)])), ((am 1), .inl (zI g, 180, .inl (upd (upd (upd (fun _ => 0) 0 60) 1 1) 2 1)))]) hP hD hS hA [0, 1] [2, 3] (by decide) rfl rfl (by decide) (va_runV (As := [.int (xs 1)]) (rest := []) ⟨hx, hb, hml, hown, hts⟩ (kX4_order l g (ax 0) (ax 1) (ax 10) (ax 19) (ax 30) (ax 32) (ax 36) (ax 37) (ax 38) (ax 39) (ax 40) (ax 2) (ax 3) (ax 4) (ax 5) (ax 6) (ax 7) (ax 8) (ax 9) H.size (xs 1)) ⟨callB_of 1 hts (zGood m_o_yX4_order) rfl rfl rfl (hts _ m_z_RX4) (hts _ m_m_RL_92) ⟨by decide +kernel, by decide +kernel, by decide +kernel⟩ ⟨Nat.le_of_ble_eq_true rfl, Nat.le_of_ble_eq_true rfl⟩, hts _ m_i_yX4_order, hts _ m_e_yX4_order⟩ (zPreV hK hN hZ hP hD hS hA [0, 1] (by decide) rfl rfl 4 0 rfl rfl) rfl rfl hl.1 rfl (lv_room (Nat.le_of_ble_eq_true rfl)) dL_law_680 ⟨Nat.le_of_ble_eq_true rfl, Nat.le_of_ble_eq_true rfl⟩) (fun r u H locs hw hP hD hS => ?_)
  rcases hw with ⟨i_0, rfl⟩ | ⟨i_1, i_2, rfl⟩ | ⟨i_3, i_4, rfl⟩
  · skip
    have hP : va_P g.1 vwCl [((am 0), .inr (5, [.ref (am 1), .int 0, .ref (am 2), .int 0, .int 0, .ref (am 3), .ref (am 4), .ref (am 5), .ref (am 6), .int 0, .ref (am 7), .ref (am 8), .ref (am 9), .int 0, .ref (am 10), .ref (am 11), .ref (am 12), .ref (am 13), .ref (am 14), .ref (am 15), .ref (am 16), .ref (am 17), .ref (am 18), .ref (am 19), .ref (am 20), .ref (am 21), .ref (am 22)])), ((am 1), .inl (zI g, 180, .inl (upd (upd (upd (fun _ => 0) 0 60) 1 1) 2 1)))] H := hP
    have hD : va_D (fun q : Nat => s.heap.size ≤ q) [((am 0), .inr (5, [.ref (am 1), .int 0, .ref (am 2), .int 0, .int 0, .ref (am 3), .ref (am 4), .ref (am 5), .ref (am 6), .int 0, .ref (am 7), .ref (am 8), .ref (am 9), .int 0, .ref (am 10), .ref (am 11), .ref (am 12), .ref (am 13), .ref (am 14), .ref (am 15), .ref (am 16), .ref (am 17), .ref (am 18), .ref (am 19), .ref (am 20), .ref (am 21), .ref (am 22)])), ((am 1), .inl (zI g, 180, .inl (upd (upd (upd (fun _ => 0) 0 60) 1 1) 2 1)))] := hD
    refine lv_aload_n hx hb dL_law_683 rfl (lv_at hl 2 rfl) ?_
    refine lv_aload_n hx hb dL_law_684 rfl (lv_at hl 0 rfl) ?_
    refine lv_iload_n hx hb dL_law_685 rfl (lv_at hl 3 rfl) ?_
    refine lv_iconst (v := 1) hx hb dL_law_686 (by decide) ?_
    refine lv_iadd hx hb dL_law_687 ?_
    refine lv_topi (nm_r (e' := 1) (by decide +kernel) ?_)
    refine va_sld hx hb hX hbl hbA hS (vp_in_iff.mpr (by decide +kernel)) dL_law_688 ?_
    refine lv_topi (nm_r (e' := (xs 1)) (by rfl) ?_)
    refine z_calli (wr := []) hP hD hS hA [0, 1] [] (by decide) rfl rfl (by decide) (va_runV (As := [.int (xs 1)]) (rest := [.int (-1)]) ⟨hx, hb, hml, hown, hts⟩ (kX5_order l g (am 0) (am 1) (am 2) (am 3) (am 4) (am 5) (am 6) (am 7) (am 8) (am 9) (am 10) (am 11) (am 12) (am 13) (am 14) (am 15) (am 16) (am 17) (am 18) (am 19) (am 20) (am 21) (am 22) H.size (xs 1)) ⟨callB_of 1 hts (zGood m_o_yX5_order) rfl rfl rfl (hts _ m_z_RX5) (hts _ m_m_RL_95) ⟨by decide +kernel, by decide +kernel, by decide +kernel⟩ ⟨Nat.le_of_ble_eq_true rfl, Nat.le_of_ble_eq_true rfl⟩, hts _ m_i_yX5_order, hts _ m_e_yX5_order⟩ (zPreV hK hN hZ hP hD hS hA [0, 1] (by decide) rfl rfl 5 0 rfl rfl) rfl rfl hl.1 rfl (lv_room (Nat.le_of_ble_eq_true rfl)) dL_law_689 ⟨Nat.le_of_ble_eq_true rfl, Nat.le_of_ble_eq_true rfl⟩) (fun r u H locs hw hP hD hS => ?_)
    rcases hw with ⟨i_5, rfl⟩ | ⟨i_6, i_7, rfl⟩ | ⟨i_8, i_9, rfl⟩
    · skip
      have hP : va_P g.1 vwCl [] H := hP
      have hD : va_D (fun q : Nat => s.heap.size ≤ q) [] := hD
      refine lv_icmp_eq (tgt := 1054) hx hb dL_law_692 (by decide) (fun _ => ?_) (fun h => absurd h (by decide +kernel))
      exact lc_tail ⟨hx, hb, hml, hr, hlocks, hown, hts, hK, hN, hZ, hX, hbl⟩ hS (lv_sub hl [0, 1, 2, 3] rfl)
    · exfalso; omega
    · exfalso; omega
  · skip
    have hP : va_P g.1 vwCl [((am 0), .inr (5, [.ref (am 1), .int 0, .ref (am 2), .int 0, .int 0, .ref (am 3), .ref (am 4), .ref (am 5), .ref (am 6), .int 0, .ref (am 7), .ref (am 8), .ref (am 9), .int 0, .ref (am 10), .ref (am 11), .ref (am 12), .ref (am 13), .ref (am 14), .ref (am 15), .ref (am 16), .ref (am 17), .ref (am 18), .ref (am 19), .ref (am 20), .ref (am 21), .ref (am 22)])), ((am 1), .inl (zI g, 180, .inl (upd (upd (upd (fun _ => 0) 0 60) 1 1) 2 1)))] H := hP
    have hD : va_D (fun q : Nat => s.heap.size ≤ q) [((am 0), .inr (5, [.ref (am 1), .int 0, .ref (am 2), .int 0, .int 0, .ref (am 3), .ref (am 4), .ref (am 5), .ref (am 6), .int 0, .ref (am 7), .ref (am 8), .ref (am 9), .int 0, .ref (am 10), .ref (am 11), .ref (am 12), .ref (am 13), .ref (am 14), .ref (am 15), .ref (am 16), .ref (am 17), .ref (am 18), .ref (am 19), .ref (am 20), .ref (am 21), .ref (am 22)])), ((am 1), .inl (zI g, 180, .inl (upd (upd (upd (fun _ => 0) 0 60) 1 1) 2 1)))] := hD
    refine lv_aload_n hx hb dL_law_683 rfl (lv_at hl 2 rfl) ?_
    refine lv_aload_n hx hb dL_law_684 rfl (lv_at hl 0 rfl) ?_
    refine lv_iload_n hx hb dL_law_685 rfl (lv_at hl 3 rfl) ?_
    refine lv_iconst (v := 1) hx hb dL_law_686 (by decide) ?_
    refine lv_iadd hx hb dL_law_687 ?_
    refine lv_topi (nm_r (e' := 1) (by decide +kernel) ?_)
    refine va_sld hx hb hX hbl hbA hS (vp_in_iff.mpr (by decide +kernel)) dL_law_688 ?_
    refine lv_topi (nm_r (e' := (xs 1)) (by rfl) ?_)
    refine z_calli (wr := []) hP hD hS hA [0, 1] [] (by decide) rfl rfl (by decide) (va_runV (As := [.int (xs 1)]) (rest := [.int (-2)]) ⟨hx, hb, hml, hown, hts⟩ (kX5_order l g (am 0) (am 1) (am 2) (am 3) (am 4) (am 5) (am 6) (am 7) (am 8) (am 9) (am 10) (am 11) (am 12) (am 13) (am 14) (am 15) (am 16) (am 17) (am 18) (am 19) (am 20) (am 21) (am 22) H.size (xs 1)) ⟨callB_of 1 hts (zGood m_o_yX5_order) rfl rfl rfl (hts _ m_z_RX5) (hts _ m_m_RL_95) ⟨by decide +kernel, by decide +kernel, by decide +kernel⟩ ⟨Nat.le_of_ble_eq_true rfl, Nat.le_of_ble_eq_true rfl⟩, hts _ m_i_yX5_order, hts _ m_e_yX5_order⟩ (zPreV hK hN hZ hP hD hS hA [0, 1] (by decide) rfl rfl 5 0 rfl rfl) rfl rfl hl.1 rfl (lv_room (Nat.le_of_ble_eq_true rfl)) dL_law_689 ⟨Nat.le_of_ble_eq_true rfl, Nat.le_of_ble_eq_true rfl⟩) (fun r u H locs hw hP hD hS => ?_)
    rcases hw with ⟨i_10, rfl⟩ | ⟨i_11, i_12, rfl⟩ | ⟨i_13, i_14, rfl⟩
    · exfalso; omega
    · exfalso; omega
    · skip
      have hP : va_P g.1 vwCl [] H := hP
      have hD : va_D (fun q : Nat => s.heap.size ≤ q) [] := hD
      refine lv_icmp_eq (tgt := 1054) hx hb dL_law_692 (by decide) (fun _ => ?_) (fun h => absurd h (by decide +kernel))
      exact lc_tail ⟨hx, hb, hml, hr, hlocks, hown, hts, hK, hN, hZ, hX, hbl⟩ hS (lv_sub hl [0, 1, 2, 3] rfl)
  · skip
    have hP : va_P g.1 vwCl [((am 0), .inr (5, [.ref (am 1), .int 0, .ref (am 2), .int 0, .int 0, .ref (am 3), .ref (am 4), .ref (am 5), .ref (am 6), .int 0, .ref (am 7), .ref (am 8), .ref (am 9), .int 0, .ref (am 10), .ref (am 11), .ref (am 12), .ref (am 13), .ref (am 14), .ref (am 15), .ref (am 16), .ref (am 17), .ref (am 18), .ref (am 19), .ref (am 20), .ref (am 21), .ref (am 22)])), ((am 1), .inl (zI g, 180, .inl (upd (upd (upd (fun _ => 0) 0 60) 1 1) 2 1)))] H := hP
    have hD : va_D (fun q : Nat => s.heap.size ≤ q) [((am 0), .inr (5, [.ref (am 1), .int 0, .ref (am 2), .int 0, .int 0, .ref (am 3), .ref (am 4), .ref (am 5), .ref (am 6), .int 0, .ref (am 7), .ref (am 8), .ref (am 9), .int 0, .ref (am 10), .ref (am 11), .ref (am 12), .ref (am 13), .ref (am 14), .ref (am 15), .ref (am 16), .ref (am 17), .ref (am 18), .ref (am 19), .ref (am 20), .ref (am 21), .ref (am 22)])), ((am 1), .inl (zI g, 180, .inl (upd (upd (upd (fun _ => 0) 0 60) 1 1) 2 1)))] := hD
    refine lv_aload_n hx hb dL_law_683 rfl (lv_at hl 2 rfl) ?_
    refine lv_aload_n hx hb dL_law_684 rfl (lv_at hl 0 rfl) ?_
    refine lv_iload_n hx hb dL_law_685 rfl (lv_at hl 3 rfl) ?_
    refine lv_iconst (v := 1) hx hb dL_law_686 (by decide) ?_
    refine lv_iadd hx hb dL_law_687 ?_
    refine lv_topi (nm_r (e' := 1) (by decide +kernel) ?_)
    refine va_sld hx hb hX hbl hbA hS (vp_in_iff.mpr (by decide +kernel)) dL_law_688 ?_
    refine lv_topi (nm_r (e' := (xs 1)) (by rfl) ?_)
    refine z_calli (wr := []) hP hD hS hA [0, 1] [] (by decide) rfl rfl (by decide) (va_runV (As := [.int (xs 1)]) (rest := [.int (-1)]) ⟨hx, hb, hml, hown, hts⟩ (kX5_order l g (am 0) (am 1) (am 2) (am 3) (am 4) (am 5) (am 6) (am 7) (am 8) (am 9) (am 10) (am 11) (am 12) (am 13) (am 14) (am 15) (am 16) (am 17) (am 18) (am 19) (am 20) (am 21) (am 22) H.size (xs 1)) ⟨callB_of 1 hts (zGood m_o_yX5_order) rfl rfl rfl (hts _ m_z_RX5) (hts _ m_m_RL_95) ⟨by decide +kernel, by decide +kernel, by decide +kernel⟩ ⟨Nat.le_of_ble_eq_true rfl, Nat.le_of_ble_eq_true rfl⟩, hts _ m_i_yX5_order, hts _ m_e_yX5_order⟩ (zPreV hK hN hZ hP hD hS hA [0, 1] (by decide) rfl rfl 5 0 rfl rfl) rfl rfl hl.1 rfl (lv_room (Nat.le_of_ble_eq_true rfl)) dL_law_689 ⟨Nat.le_of_ble_eq_true rfl, Nat.le_of_ble_eq_true rfl⟩) (fun r u H locs hw hP hD hS => ?_)
    rcases hw with ⟨i_15, rfl⟩ | ⟨i_16, i_17, rfl⟩ | ⟨i_18, i_19, rfl⟩
    · exfalso; omega
    · skip
      have hP : va_P g.1 vwCl [] H := hP
      have hD : va_D (fun q : Nat => s.heap.size ≤ q) [] := hD
      refine lv_icmp_eq (tgt := 1054) hx hb dL_law_692 (by decide) (fun _ => ?_) (fun h => absurd h (by decide +kernel))
      exact lc_tail ⟨hx, hb, hml, hr, hlocks, hown, hts, hK, hN, hZ, hX, hbl⟩ hS (lv_sub hl [0, 1, 2, 3] rfl)
    · exfalso; omega
set_option maxHeartbeats 4000000 in
set_option maxRecDepth 100000 in
theorem lc_ring {p : Program} {l : Launch} {e : Env} {s : State} {m : MethodId} {below : List Frame} {meth : Method} {c : Code} {b : Nat} {xs : Nat → Int32} {g : zG} (C0 : lC g p s m meth c b xs) {ax am : Nat → Nat} {H : Heap} {locs : List Loc} (hP : va_P g.1 vwCl (lW g ax am) H) (hD : va_D (fun q : Nat => s.heap.size ≤ q) (lW g ax am)) (hS : va_S (fun q : Nat => s.heap.size ≤ q) s.heap H locs) {ls : Array Slot} (hl : lv_has ls 4 [(0, .ref b), (1, .ref (ax 0)), (2, .ref (am 0)), (3, .int 0)]) : W p l e room_1 s m #[Value.ref b] below meth c H locs 600000 7302250 (lw_Z below #[Value.ref b] s) (F0 m 697 ls []) := by
  obtain ⟨hx, hb, hml, hr, hlocks, hown, hts, hK, hN, hZ, hX, hbl⟩ := C0
  have hA : ∀ q : Nat, s.heap.size ≤ q → (fun q : Nat => s.heap.size ≤ q) q := fun _ h => h
  have hbA : ¬ (fun q : Nat => s.heap.size ≤ q) b := Nat.not_le.mpr hbl
  have hP := hP.sub (ws' := [((ax 0), .inr (4, [.ref (ax 1), .ref (ax 10), .int 0, .ref (ax 19), .ref (ax 30), .ref (ax 32), .ref (ax 36), .int (-1), .ref (ax 37), .ref (ax 38), .ref (ax 39), .ref (ax 40)])), ((ax 1), .inr (0, [.ref (ax 2), .int 0, .ref (ax 3), .int 0, .ref (ax 4), .ref (ax 5), .ref (ax 6), .ref (ax 7), .ref (ax 8), .ref (ax 9), .int 0])), ((am 0), .inr (5, [.ref (am 1), .int 0, .ref (am 2), .int 0, .int 0, .ref (am 3), .ref (am 4), .ref (am 5), .ref (am 6), .int 0, .ref (am 7), .ref (am 8), .ref (am 9), .int 0, .ref (am 10), .ref (am 11), .ref (am 12), .ref (am 13), .ref (am 14), .ref (am 15), .ref (am 16), .ref (am 17), .ref (am 18), .ref (am 19), .ref (am 20), .ref (am 21), .ref (am 22)])), ((am 1), .inl (zI g, 180, .inl (upd (upd (upd (fun _ => 0) 0 60) 1 1) 2 1)))]) [0, 1, 41, 42] rfl
  have hD := hD.sub (ws' := [((ax 0), .inr (4, [.ref (ax 1), .ref (ax 10), .int 0, .ref (ax 19), .ref (ax 30), .ref (ax 32), .ref (ax 36), .int (-1), .ref (ax 37), .ref (ax 38), .ref (ax 39), .ref (ax 40)])), ((ax 1), .inr (0, [.ref (ax 2), .int 0, .ref (ax 3), .int 0, .ref (ax 4), .ref (ax 5), .ref (ax 6), .ref (ax 7), .ref (ax 8), .ref (ax 9), .int 0])), ((am 0), .inr (5, [.ref (am 1), .int 0, .ref (am 2), .int 0, .int 0, .ref (am 3), .ref (am 4), .ref (am 5), .ref (am 6), .int 0, .ref (am 7), .ref (am 8), .ref (am 9), .int 0, .ref (am 10), .ref (am 11), .ref (am 12), .ref (am 13), .ref (am 14), .ref (am 15), .ref (am 16), .ref (am 17), .ref (am 18), .ref (am 19), .ref (am 20), .ref (am 21), .ref (am 22)])), ((am 1), .inl (zI g, 180, .inl (upd (upd (upd (fun _ => 0) 0 60) 1 1) 2 1)))]) [0, 1, 41, 42] (by decide) rfl
  refine lv_aload_n hx hb dL_law_697 rfl (lv_at hl 1 rfl) ?_
  refine lv_aload_n hx hb dL_law_698 rfl (lv_at hl 0 rfl) ?_
  refine lv_iload_n hx hb dL_law_699 rfl (lv_at hl 3 rfl) ?_
  refine lv_iconst (v := 1) hx hb dL_law_700 (by decide) ?_
  refine lv_iadd hx hb dL_law_701 ?_
  refine lv_topi (nm_r (e' := 1) (by decide +kernel) ?_)
  refine va_sld hx hb hX hbl hbA hS (vp_in_iff.mpr (by decide +kernel)) dL_law_702 ?_
  refine lv_topi (nm_r (e' := (xs 1)) (by rfl) ?_)
  refine z_calli (wr := [((am 0), .inr (5, [.ref (am 1), .int 0, .ref (am 2), .int 0, .int 0, .ref (am 3), .ref (am 4), .ref (am 5), .ref (am 6), .int 0, .ref (am 7), .ref (am 8), .ref (am 9), .int 0, .ref (am 10), .ref (am 11), .ref (am 12), .ref (am 13), .ref (am 14), .ref (am 15), .ref (am 16), .ref (am 17), .ref (am 18), .ref (am 19), .ref (am 20), .ref (am 21), .ref (am 22)])), ((am 1), .inl (zI g, 180, .inl (upd (upd (upd (fun _ => 0) 0 60) 1 1) 2 1)))]) hP hD hS hA [0, 1] [2, 3] (by decide) rfl rfl (by decide) (va_runV (As := [.int (xs 1)]) (rest := []) ⟨hx, hb, hml, hown, hts⟩ (kX4_ring l g (ax 0) (ax 1) (ax 10) (ax 19) (ax 30) (ax 32) (ax 36) (ax 37) (ax 38) (ax 39) (ax 40) (ax 2) (ax 3) (ax 4) (ax 5) (ax 6) (ax 7) (ax 8) (ax 9) H.size (xs 1)) ⟨callB_of 1 hts (zGood m_o_yX4_ring) rfl rfl rfl (hts _ m_z_RX4) (hts _ m_m_RL_96) ⟨by decide +kernel, by decide +kernel, by decide +kernel⟩ ⟨Nat.le_of_ble_eq_true rfl, Nat.le_of_ble_eq_true rfl⟩, hts _ m_i_yX4_ring, hts _ m_e_yX4_ring⟩ (zPreV hK hN hZ hP hD hS hA [0, 1] (by decide) rfl rfl 4 0 rfl rfl) rfl rfl hl.1 rfl (lv_room (Nat.le_of_ble_eq_true rfl)) dL_law_703 ⟨Nat.le_of_ble_eq_true rfl, Nat.le_of_ble_eq_true rfl⟩) (fun r u H locs hw hP hD hS => ?_)
  rcases hw with ⟨i_0, rfl⟩ | ⟨i_1, i_2, rfl⟩ | ⟨i_3, i_4, rfl⟩
  · skip
    have hP : va_P g.1 vwCl [((am 0), .inr (5, [.ref (am 1), .int 0, .ref (am 2), .int 0, .int 0, .ref (am 3), .ref (am 4), .ref (am 5), .ref (am 6), .int 0, .ref (am 7), .ref (am 8), .ref (am 9), .int 0, .ref (am 10), .ref (am 11), .ref (am 12), .ref (am 13), .ref (am 14), .ref (am 15), .ref (am 16), .ref (am 17), .ref (am 18), .ref (am 19), .ref (am 20), .ref (am 21), .ref (am 22)])), ((am 1), .inl (zI g, 180, .inl (upd (upd (upd (fun _ => 0) 0 60) 1 1) 2 1)))] H := hP
    have hD : va_D (fun q : Nat => s.heap.size ≤ q) [((am 0), .inr (5, [.ref (am 1), .int 0, .ref (am 2), .int 0, .int 0, .ref (am 3), .ref (am 4), .ref (am 5), .ref (am 6), .int 0, .ref (am 7), .ref (am 8), .ref (am 9), .int 0, .ref (am 10), .ref (am 11), .ref (am 12), .ref (am 13), .ref (am 14), .ref (am 15), .ref (am 16), .ref (am 17), .ref (am 18), .ref (am 19), .ref (am 20), .ref (am 21), .ref (am 22)])), ((am 1), .inl (zI g, 180, .inl (upd (upd (upd (fun _ => 0) 0 60) 1 1) 2 1)))] := hD
    refine lv_aload_n hx hb dL_law_706 rfl (lv_at hl 2 rfl) ?_
    refine lv_aload_n hx hb dL_law_707 rfl (lv_at hl 0 rfl) ?_
    refine lv_iload_n hx hb dL_law_708 rfl (lv_at hl 3 rfl) ?_
    refine lv_iconst (v := 1) hx hb dL_law_709 (by decide) ?_
    refine lv_iadd hx hb dL_law_710 ?_
    refine lv_topi (nm_r (e' := 1) (by decide +kernel) ?_)
    refine va_sld hx hb hX hbl hbA hS (vp_in_iff.mpr (by decide +kernel)) dL_law_711 ?_
    refine lv_topi (nm_r (e' := (xs 1)) (by rfl) ?_)
    refine z_calli (wr := []) hP hD hS hA [0, 1] [] (by decide) rfl rfl (by decide) (va_runV (As := [.int (xs 1)]) (rest := [.int (-100001)]) ⟨hx, hb, hml, hown, hts⟩ (kX5_ring l g (am 0) (am 1) (am 2) (am 3) (am 4) (am 5) (am 6) (am 7) (am 8) (am 9) (am 10) (am 11) (am 12) (am 13) (am 14) (am 15) (am 16) (am 17) (am 18) (am 19) (am 20) (am 21) (am 22) H.size (xs 1)) ⟨callB_of 1 hts (zGood m_o_yX5_ring) rfl rfl rfl (hts _ m_z_RX5) (hts _ m_m_RL_99) ⟨by decide +kernel, by decide +kernel, by decide +kernel⟩ ⟨Nat.le_of_ble_eq_true rfl, Nat.le_of_ble_eq_true rfl⟩, hts _ m_i_yX5_ring, hts _ m_e_yX5_ring⟩ (zPreV hK hN hZ hP hD hS hA [0, 1] (by decide) rfl rfl 5 0 rfl rfl) rfl rfl hl.1 rfl (lv_room (Nat.le_of_ble_eq_true rfl)) dL_law_712 ⟨Nat.le_of_ble_eq_true rfl, Nat.le_of_ble_eq_true rfl⟩) (fun r u H locs hw hP hD hS => ?_)
    rcases hw with ⟨i_5, rfl⟩ | ⟨i_6, i_7, rfl⟩ | ⟨i_8, i_9, rfl⟩
    · skip
      have hP : va_P g.1 vwCl [] H := hP
      have hD : va_D (fun q : Nat => s.heap.size ≤ q) [] := hD
      refine lv_icmp_eq (tgt := 1054) hx hb dL_law_715 (by decide) (fun _ => ?_) (fun h => absurd h (by decide +kernel))
      exact lc_tail ⟨hx, hb, hml, hr, hlocks, hown, hts, hK, hN, hZ, hX, hbl⟩ hS (lv_sub hl [0, 1, 2, 3] rfl)
    · exfalso; omega
    · exfalso; omega
  · skip
    have hP : va_P g.1 vwCl [((am 0), .inr (5, [.ref (am 1), .int 0, .ref (am 2), .int 0, .int 0, .ref (am 3), .ref (am 4), .ref (am 5), .ref (am 6), .int 0, .ref (am 7), .ref (am 8), .ref (am 9), .int 0, .ref (am 10), .ref (am 11), .ref (am 12), .ref (am 13), .ref (am 14), .ref (am 15), .ref (am 16), .ref (am 17), .ref (am 18), .ref (am 19), .ref (am 20), .ref (am 21), .ref (am 22)])), ((am 1), .inl (zI g, 180, .inl (upd (upd (upd (fun _ => 0) 0 60) 1 1) 2 1)))] H := hP
    have hD : va_D (fun q : Nat => s.heap.size ≤ q) [((am 0), .inr (5, [.ref (am 1), .int 0, .ref (am 2), .int 0, .int 0, .ref (am 3), .ref (am 4), .ref (am 5), .ref (am 6), .int 0, .ref (am 7), .ref (am 8), .ref (am 9), .int 0, .ref (am 10), .ref (am 11), .ref (am 12), .ref (am 13), .ref (am 14), .ref (am 15), .ref (am 16), .ref (am 17), .ref (am 18), .ref (am 19), .ref (am 20), .ref (am 21), .ref (am 22)])), ((am 1), .inl (zI g, 180, .inl (upd (upd (upd (fun _ => 0) 0 60) 1 1) 2 1)))] := hD
    refine lv_aload_n hx hb dL_law_706 rfl (lv_at hl 2 rfl) ?_
    refine lv_aload_n hx hb dL_law_707 rfl (lv_at hl 0 rfl) ?_
    refine lv_iload_n hx hb dL_law_708 rfl (lv_at hl 3 rfl) ?_
    refine lv_iconst (v := 1) hx hb dL_law_709 (by decide) ?_
    refine lv_iadd hx hb dL_law_710 ?_
    refine lv_topi (nm_r (e' := 1) (by decide +kernel) ?_)
    refine va_sld hx hb hX hbl hbA hS (vp_in_iff.mpr (by decide +kernel)) dL_law_711 ?_
    refine lv_topi (nm_r (e' := (xs 1)) (by rfl) ?_)
    refine z_calli (wr := []) hP hD hS hA [0, 1] [] (by decide) rfl rfl (by decide) (va_runV (As := [.int (xs 1)]) (rest := [.int (-100001)]) ⟨hx, hb, hml, hown, hts⟩ (kX5_ring l g (am 0) (am 1) (am 2) (am 3) (am 4) (am 5) (am 6) (am 7) (am 8) (am 9) (am 10) (am 11) (am 12) (am 13) (am 14) (am 15) (am 16) (am 17) (am 18) (am 19) (am 20) (am 21) (am 22) H.size (xs 1)) ⟨callB_of 1 hts (zGood m_o_yX5_ring) rfl rfl rfl (hts _ m_z_RX5) (hts _ m_m_RL_99) ⟨by decide +kernel, by decide +kernel, by decide +kernel⟩ ⟨Nat.le_of_ble_eq_true rfl, Nat.le_of_ble_eq_true rfl⟩, hts _ m_i_yX5_ring, hts _ m_e_yX5_ring⟩ (zPreV hK hN hZ hP hD hS hA [0, 1] (by decide) rfl rfl 5 0 rfl rfl) rfl rfl hl.1 rfl (lv_room (Nat.le_of_ble_eq_true rfl)) dL_law_712 ⟨Nat.le_of_ble_eq_true rfl, Nat.le_of_ble_eq_true rfl⟩) (fun r u H locs hw hP hD hS => ?_)
    rcases hw with ⟨i_10, rfl⟩ | ⟨i_11, i_12, rfl⟩ | ⟨i_13, i_14, rfl⟩
    · exfalso; omega
    · skip
      have hP : va_P g.1 vwCl [] H := hP
      have hD : va_D (fun q : Nat => s.heap.size ≤ q) [] := hD
      refine lv_icmp_eq (tgt := 1054) hx hb dL_law_715 (by decide) (fun _ => ?_) (fun h => absurd h (by decide +kernel))
      exact lc_tail ⟨hx, hb, hml, hr, hlocks, hown, hts, hK, hN, hZ, hX, hbl⟩ hS (lv_sub hl [0, 1, 2, 3] rfl)
    · exfalso; omega
  · skip
    have hP : va_P g.1 vwCl [((am 0), .inr (5, [.ref (am 1), .int 0, .ref (am 2), .int 0, .int 0, .ref (am 3), .ref (am 4), .ref (am 5), .ref (am 6), .int 0, .ref (am 7), .ref (am 8), .ref (am 9), .int 0, .ref (am 10), .ref (am 11), .ref (am 12), .ref (am 13), .ref (am 14), .ref (am 15), .ref (am 16), .ref (am 17), .ref (am 18), .ref (am 19), .ref (am 20), .ref (am 21), .ref (am 22)])), ((am 1), .inl (zI g, 180, .inl (upd (upd (upd (fun _ => 0) 0 60) 1 1) 2 1)))] H := hP
    have hD : va_D (fun q : Nat => s.heap.size ≤ q) [((am 0), .inr (5, [.ref (am 1), .int 0, .ref (am 2), .int 0, .int 0, .ref (am 3), .ref (am 4), .ref (am 5), .ref (am 6), .int 0, .ref (am 7), .ref (am 8), .ref (am 9), .int 0, .ref (am 10), .ref (am 11), .ref (am 12), .ref (am 13), .ref (am 14), .ref (am 15), .ref (am 16), .ref (am 17), .ref (am 18), .ref (am 19), .ref (am 20), .ref (am 21), .ref (am 22)])), ((am 1), .inl (zI g, 180, .inl (upd (upd (upd (fun _ => 0) 0 60) 1 1) 2 1)))] := hD
    refine lv_aload_n hx hb dL_law_706 rfl (lv_at hl 2 rfl) ?_
    refine lv_aload_n hx hb dL_law_707 rfl (lv_at hl 0 rfl) ?_
    refine lv_iload_n hx hb dL_law_708 rfl (lv_at hl 3 rfl) ?_
    refine lv_iconst (v := 1) hx hb dL_law_709 (by decide) ?_
    refine lv_iadd hx hb dL_law_710 ?_
    refine lv_topi (nm_r (e' := 1) (by decide +kernel) ?_)
    refine va_sld hx hb hX hbl hbA hS (vp_in_iff.mpr (by decide +kernel)) dL_law_711 ?_
    refine lv_topi (nm_r (e' := (xs 1)) (by rfl) ?_)
    refine z_calli (wr := []) hP hD hS hA [0, 1] [] (by decide) rfl rfl (by decide) (va_runV (As := [.int (xs 1)]) (rest := [.int (-100001)]) ⟨hx, hb, hml, hown, hts⟩ (kX5_ring l g (am 0) (am 1) (am 2) (am 3) (am 4) (am 5) (am 6) (am 7) (am 8) (am 9) (am 10) (am 11) (am 12) (am 13) (am 14) (am 15) (am 16) (am 17) (am 18) (am 19) (am 20) (am 21) (am 22) H.size (xs 1)) ⟨callB_of 1 hts (zGood m_o_yX5_ring) rfl rfl rfl (hts _ m_z_RX5) (hts _ m_m_RL_99) ⟨by decide +kernel, by decide +kernel, by decide +kernel⟩ ⟨Nat.le_of_ble_eq_true rfl, Nat.le_of_ble_eq_true rfl⟩, hts _ m_i_yX5_ring, hts _ m_e_yX5_ring⟩ (zPreV hK hN hZ hP hD hS hA [0, 1] (by decide) rfl rfl 5 0 rfl rfl) rfl rfl hl.1 rfl (lv_room (Nat.le_of_ble_eq_true rfl)) dL_law_712 ⟨Nat.le_of_ble_eq_true rfl, Nat.le_of_ble_eq_true rfl⟩) (fun r u H locs hw hP hD hS => ?_)
    rcases hw with ⟨i_15, rfl⟩ | ⟨i_16, i_17, rfl⟩ | ⟨i_18, i_19, rfl⟩
    · exfalso; omega
    · exfalso; omega
    · skip
      have hP : va_P g.1 vwCl [] H := hP
      have hD : va_D (fun q : Nat => s.heap.size ≤ q) [] := hD
      refine lv_icmp_eq (tgt := 1054) hx hb dL_law_715 (by decide) (fun _ => ?_) (fun h => absurd h (by decide +kernel))
      exact lc_tail ⟨hx, hb, hml, hr, hlocks, hown, hts, hK, hN, hZ, hX, hbl⟩ hS (lv_sub hl [0, 1, 2, 3] rfl)
set_option maxHeartbeats 4000000 in
set_option maxRecDepth 100000 in
theorem lc_image {p : Program} {l : Launch} {e : Env} {s : State} {m : MethodId} {below : List Frame} {meth : Method} {c : Code} {b : Nat} {xs : Nat → Int32} {g : zG} (C0 : lC g p s m meth c b xs) {ax am : Nat → Nat} {H : Heap} {locs : List Loc} (hP : va_P g.1 vwCl (lW g ax am) H) (hD : va_D (fun q : Nat => s.heap.size ≤ q) (lW g ax am)) (hS : va_S (fun q : Nat => s.heap.size ≤ q) s.heap H locs) {ls : Array Slot} (hl : lv_has ls 4 [(0, .ref b), (1, .ref (ax 0)), (2, .ref (am 0)), (3, .int 0)]) : W p l e room_1 s m #[Value.ref b] below meth c H locs 600000 7302250 (lw_Z below #[Value.ref b] s) (F0 m 720 ls []) := by
  obtain ⟨hx, hb, hml, hr, hlocks, hown, hts, hK, hN, hZ, hX, hbl⟩ := C0
  have hA : ∀ q : Nat, s.heap.size ≤ q → (fun q : Nat => s.heap.size ≤ q) q := fun _ h => h
  have hbA : ¬ (fun q : Nat => s.heap.size ≤ q) b := Nat.not_le.mpr hbl
  have hP := hP.sub (ws' := [((ax 0), .inr (4, [.ref (ax 1), .ref (ax 10), .int 0, .ref (ax 19), .ref (ax 30), .ref (ax 32), .ref (ax 36), .int (-1), .ref (ax 37), .ref (ax 38), .ref (ax 39), .ref (ax 40)])), ((ax 1), .inr (0, [.ref (ax 2), .int 0, .ref (ax 3), .int 0, .ref (ax 4), .ref (ax 5), .ref (ax 6), .ref (ax 7), .ref (ax 8), .ref (ax 9), .int 0])), ((ax 2), .inl (zI g, 5, .inl (zA [60, 1, 1, 0, 0]))), ((ax 3), .inl (zI g, 6, .inl (fun _ => 0))), ((ax 4), .inl (zI g, 5, .inl (fun _ => 0))), ((ax 5), .inl (zI g, 5, .inl (fun _ => 0))), ((ax 6), .inl (zI g, 5, .inl (fun _ => 0))), ((ax 7), .inl (zI g, 20, .inl (fun _ => 0))), ((ax 8), .inl (zI g, 20, .inl (fun _ => 0))), ((ax 9), .inl (zI g, 20, .inl (fun _ => 99))), ((ax 10), .inr (0, [.ref (ax 11), .int 0, .ref (ax 12), .int 0, .ref (ax 13), .ref (ax 14), .ref (ax 15), .ref (ax 16), .ref (ax 17), .ref (ax 18), .int 0])), ((ax 11), .inl (zI g, 5, .inl (zA [60, 1, 1, 0, 0]))), ((ax 12), .inl (zI g, 6, .inl (fun _ => 0))), ((ax 13), .inl (zI g, 5, .inl (fun _ => 0))), ((ax 14), .inl (zI g, 5, .inl (fun _ => 0))), ((ax 15), .inl (zI g, 5, .inl (fun _ => 0))), ((ax 16), .inl (zI g, 20, .inl (fun _ => 0))), ((ax 17), .inl (zI g, 20, .inl (fun _ => 0))), ((ax 18), .inl (zI g, 20, .inl (fun _ => 99))), ((am 0), .inr (5, [.ref (am 1), .int 0, .ref (am 2), .int 0, .int 0, .ref (am 3), .ref (am 4), .ref (am 5), .ref (am 6), .int 0, .ref (am 7), .ref (am 8), .ref (am 9), .int 0, .ref (am 10), .ref (am 11), .ref (am 12), .ref (am 13), .ref (am 14), .ref (am 15), .ref (am 16), .ref (am 17), .ref (am 18), .ref (am 19), .ref (am 20), .ref (am 21), .ref (am 22)])), ((am 1), .inl (zI g, 180, .inl (upd (upd (upd (fun _ => 0) 0 60) 1 1) 2 1)))]) [0, 1, 2, 3, 4, 5, 6, 7, 8, 9, 10, 11, 12, 13, 14, 15, 16, 17, 18, 41, 42] rfl
  have hD := hD.sub (ws' := [((ax 0), .inr (4, [.ref (ax 1), .ref (ax 10), .int 0, .ref (ax 19), .ref (ax 30), .ref (ax 32), .ref (ax 36), .int (-1), .ref (ax 37), .ref (ax 38), .ref (ax 39), .ref (ax 40)])), ((ax 1), .inr (0, [.ref (ax 2), .int 0, .ref (ax 3), .int 0, .ref (ax 4), .ref (ax 5), .ref (ax 6), .ref (ax 7), .ref (ax 8), .ref (ax 9), .int 0])), ((ax 2), .inl (zI g, 5, .inl (zA [60, 1, 1, 0, 0]))), ((ax 3), .inl (zI g, 6, .inl (fun _ => 0))), ((ax 4), .inl (zI g, 5, .inl (fun _ => 0))), ((ax 5), .inl (zI g, 5, .inl (fun _ => 0))), ((ax 6), .inl (zI g, 5, .inl (fun _ => 0))), ((ax 7), .inl (zI g, 20, .inl (fun _ => 0))), ((ax 8), .inl (zI g, 20, .inl (fun _ => 0))), ((ax 9), .inl (zI g, 20, .inl (fun _ => 99))), ((ax 10), .inr (0, [.ref (ax 11), .int 0, .ref (ax 12), .int 0, .ref (ax 13), .ref (ax 14), .ref (ax 15), .ref (ax 16), .ref (ax 17), .ref (ax 18), .int 0])), ((ax 11), .inl (zI g, 5, .inl (zA [60, 1, 1, 0, 0]))), ((ax 12), .inl (zI g, 6, .inl (fun _ => 0))), ((ax 13), .inl (zI g, 5, .inl (fun _ => 0))), ((ax 14), .inl (zI g, 5, .inl (fun _ => 0))), ((ax 15), .inl (zI g, 5, .inl (fun _ => 0))), ((ax 16), .inl (zI g, 20, .inl (fun _ => 0))), ((ax 17), .inl (zI g, 20, .inl (fun _ => 0))), ((ax 18), .inl (zI g, 20, .inl (fun _ => 99))), ((am 0), .inr (5, [.ref (am 1), .int 0, .ref (am 2), .int 0, .int 0, .ref (am 3), .ref (am 4), .ref (am 5), .ref (am 6), .int 0, .ref (am 7), .ref (am 8), .ref (am 9), .int 0, .ref (am 10), .ref (am 11), .ref (am 12), .ref (am 13), .ref (am 14), .ref (am 15), .ref (am 16), .ref (am 17), .ref (am 18), .ref (am 19), .ref (am 20), .ref (am 21), .ref (am 22)])), ((am 1), .inl (zI g, 180, .inl (upd (upd (upd (fun _ => 0) 0 60) 1 1) 2 1)))]) [0, 1, 2, 3, 4, 5, 6, 7, 8, 9, 10, 11, 12, 13, 14, 15, 16, 17, 18, 41, 42] (by decide) rfl
  refine lv_aload_n hx hb dL_law_720 rfl (lv_at hl 1 rfl) ?_
  refine z_calli (wr := [((am 0), .inr (5, [.ref (am 1), .int 0, .ref (am 2), .int 0, .int 0, .ref (am 3), .ref (am 4), .ref (am 5), .ref (am 6), .int 0, .ref (am 7), .ref (am 8), .ref (am 9), .int 0, .ref (am 10), .ref (am 11), .ref (am 12), .ref (am 13), .ref (am 14), .ref (am 15), .ref (am 16), .ref (am 17), .ref (am 18), .ref (am 19), .ref (am 20), .ref (am 21), .ref (am 22)])), ((am 1), .inl (zI g, 180, .inl (upd (upd (upd (fun _ => 0) 0 60) 1 1) 2 1)))]) hP hD hS hA [0, 1, 2, 3, 4, 5, 6, 7, 8, 9, 10, 11, 12, 13, 14, 15, 16, 17, 18] [19, 20] (by decide) rfl rfl (by decide) (va_runV (As := []) (rest := []) ⟨hx, hb, hml, hown, hts⟩ (kX4_image l g (ax 0) (ax 1) (ax 10) (ax 19) (ax 30) (ax 32) (ax 36) (ax 37) (ax 38) (ax 39) (ax 40) (ax 2) (ax 3) (ax 4) (ax 5) (ax 6) (ax 7) (ax 8) (ax 9) (ax 11) (ax 12) (ax 13) (ax 14) (ax 15) (ax 16) (ax 17) (ax 18) H.size) ⟨callB_of 0 hts (zGood m_o_yX4_image) rfl rfl rfl (hts _ m_z_RX4) (hts _ m_m_RL_100) ⟨by decide +kernel, by decide +kernel, by decide +kernel⟩ ⟨Nat.le_of_ble_eq_true rfl, Nat.le_of_ble_eq_true rfl⟩, hts _ m_i_yX4_image, hts _ m_e_yX4_image⟩ (zPreV hK hN hZ hP hD hS hA [0, 1, 2, 3, 4, 5, 6, 7, 8, 9, 10, 11, 12, 13, 14, 15, 16, 17, 18] (by decide) rfl rfl 4 0 rfl rfl) rfl rfl hl.1 rfl (lv_room (Nat.le_of_ble_eq_true rfl)) dL_law_721 ⟨Nat.le_of_ble_eq_true rfl, Nat.le_of_ble_eq_true rfl⟩) (fun r u H locs hw hP hD hS => ?_)
  obtain rfl := hw
  have hP : va_P g.1 vwCl [((am 0), .inr (5, [.ref (am 1), .int 0, .ref (am 2), .int 0, .int 0, .ref (am 3), .ref (am 4), .ref (am 5), .ref (am 6), .int 0, .ref (am 7), .ref (am 8), .ref (am 9), .int 0, .ref (am 10), .ref (am 11), .ref (am 12), .ref (am 13), .ref (am 14), .ref (am 15), .ref (am 16), .ref (am 17), .ref (am 18), .ref (am 19), .ref (am 20), .ref (am 21), .ref (am 22)])), ((am 1), .inl (zI g, 180, .inl (upd (upd (upd (fun _ => 0) 0 60) 1 1) 2 1)))] H := hP
  have hD : va_D (fun q : Nat => s.heap.size ≤ q) [((am 0), .inr (5, [.ref (am 1), .int 0, .ref (am 2), .int 0, .int 0, .ref (am 3), .ref (am 4), .ref (am 5), .ref (am 6), .int 0, .ref (am 7), .ref (am 8), .ref (am 9), .int 0, .ref (am 10), .ref (am 11), .ref (am 12), .ref (am 13), .ref (am 14), .ref (am 15), .ref (am 16), .ref (am 17), .ref (am 18), .ref (am 19), .ref (am 20), .ref (am 21), .ref (am 22)])), ((am 1), .inl (zI g, 180, .inl (upd (upd (upd (fun _ => 0) 0 60) 1 1) 2 1)))] := hD
  refine lv_aload_n hx hb dL_law_724 rfl (lv_at hl 2 rfl) ?_
  refine z_calli (wr := []) hP hD hS hA [0, 1] [] (by decide) rfl rfl (by decide) (va_runV (As := []) (rest := [.int 1]) ⟨hx, hb, hml, hown, hts⟩ (kX5_image l g (am 0) (am 1) (am 2) (am 3) (am 4) (am 5) (am 6) (am 7) (am 8) (am 9) (am 10) (am 11) (am 12) (am 13) (am 14) (am 15) (am 16) (am 17) (am 18) (am 19) (am 20) (am 21) (am 22) H.size) ⟨callB_of 0 hts (zGood m_o_yX5_image) rfl rfl rfl (hts _ m_z_RX5) (hts _ m_m_RL_103) ⟨by decide +kernel, by decide +kernel, by decide +kernel⟩ ⟨Nat.le_of_ble_eq_true rfl, Nat.le_of_ble_eq_true rfl⟩, hts _ m_i_yX5_image, hts _ m_e_yX5_image⟩ (zPreV hK hN hZ hP hD hS hA [0, 1] (by decide) rfl rfl 5 0 rfl rfl) rfl rfl hl.1 rfl (lv_room (Nat.le_of_ble_eq_true rfl)) dL_law_725 ⟨Nat.le_of_ble_eq_true rfl, Nat.le_of_ble_eq_true rfl⟩) (fun r u H locs hw hP hD hS => ?_)
  obtain rfl := hw
  have hP : va_P g.1 vwCl [] H := hP
  have hD : va_D (fun q : Nat => s.heap.size ≤ q) [] := hD
  refine lv_icmp_eq (tgt := 1054) hx hb dL_law_728 (by decide) (fun _ => ?_) (fun h => absurd h (by decide +kernel))
  exact lc_tail ⟨hx, hb, hml, hr, hlocks, hown, hts, hK, hN, hZ, hX, hbl⟩ hS (lv_sub hl [0, 1, 2, 3] rfl)
set_option maxHeartbeats 4000000 in
set_option maxRecDepth 100000 in
theorem lc_restore {p : Program} {l : Launch} {e : Env} {s : State} {m : MethodId} {below : List Frame} {meth : Method} {c : Code} {b : Nat} {xs : Nat → Int32} {g : zG} (C0 : lC g p s m meth c b xs) {ax am : Nat → Nat} {H : Heap} {locs : List Loc} (hP : va_P g.1 vwCl (lW g ax am) H) (hD : va_D (fun q : Nat => s.heap.size ≤ q) (lW g ax am)) (hS : va_S (fun q : Nat => s.heap.size ≤ q) s.heap H locs) {ls : Array Slot} (hl : lv_has ls 4 [(0, .ref b), (1, .ref (ax 0)), (2, .ref (am 0)), (3, .int 0)]) : W p l e room_1 s m #[Value.ref b] below meth c H locs 600000 7302250 (lw_Z below #[Value.ref b] s) (F0 m 733 ls []) := by
  obtain ⟨hx, hb, hml, hr, hlocks, hown, hts, hK, hN, hZ, hX, hbl⟩ := C0
  have hA : ∀ q : Nat, s.heap.size ≤ q → (fun q : Nat => s.heap.size ≤ q) q := fun _ h => h
  have hbA : ¬ (fun q : Nat => s.heap.size ≤ q) b := Nat.not_le.mpr hbl
  have hP := hP.sub (ws' := [((ax 0), .inr (4, [.ref (ax 1), .ref (ax 10), .int 0, .ref (ax 19), .ref (ax 30), .ref (ax 32), .ref (ax 36), .int (-1), .ref (ax 37), .ref (ax 38), .ref (ax 39), .ref (ax 40)])), ((am 0), .inr (5, [.ref (am 1), .int 0, .ref (am 2), .int 0, .int 0, .ref (am 3), .ref (am 4), .ref (am 5), .ref (am 6), .int 0, .ref (am 7), .ref (am 8), .ref (am 9), .int 0, .ref (am 10), .ref (am 11), .ref (am 12), .ref (am 13), .ref (am 14), .ref (am 15), .ref (am 16), .ref (am 17), .ref (am 18), .ref (am 19), .ref (am 20), .ref (am 21), .ref (am 22)]))]) [0, 41] rfl
  have hD := hD.sub (ws' := [((ax 0), .inr (4, [.ref (ax 1), .ref (ax 10), .int 0, .ref (ax 19), .ref (ax 30), .ref (ax 32), .ref (ax 36), .int (-1), .ref (ax 37), .ref (ax 38), .ref (ax 39), .ref (ax 40)])), ((am 0), .inr (5, [.ref (am 1), .int 0, .ref (am 2), .int 0, .int 0, .ref (am 3), .ref (am 4), .ref (am 5), .ref (am 6), .int 0, .ref (am 7), .ref (am 8), .ref (am 9), .int 0, .ref (am 10), .ref (am 11), .ref (am 12), .ref (am 13), .ref (am 14), .ref (am 15), .ref (am 16), .ref (am 17), .ref (am 18), .ref (am 19), .ref (am 20), .ref (am 21), .ref (am 22)]))]) [0, 41] (by decide) rfl
  refine lv_aload_n hx hb dL_law_733 rfl (lv_at hl 1 rfl) ?_
  refine z_calli (wr := [((am 0), .inr (5, [.ref (am 1), .int 0, .ref (am 2), .int 0, .int 0, .ref (am 3), .ref (am 4), .ref (am 5), .ref (am 6), .int 0, .ref (am 7), .ref (am 8), .ref (am 9), .int 0, .ref (am 10), .ref (am 11), .ref (am 12), .ref (am 13), .ref (am 14), .ref (am 15), .ref (am 16), .ref (am 17), .ref (am 18), .ref (am 19), .ref (am 20), .ref (am 21), .ref (am 22)]))]) hP hD hS hA [0] [1] (by decide) rfl rfl (by decide) (va_runV (As := []) (rest := []) ⟨hx, hb, hml, hown, hts⟩ (kX4_restore l g (ax 0) (ax 1) (ax 10) (ax 19) (ax 30) (ax 32) (ax 36) (ax 37) (ax 38) (ax 39) (ax 40) H.size) ⟨callB_of 0 hts (zGood m_o_yX4_restore) rfl rfl rfl (hts _ m_z_RX4) (hts _ m_m_RL_104) ⟨by decide +kernel, by decide +kernel, by decide +kernel⟩ ⟨Nat.le_of_ble_eq_true rfl, Nat.le_of_ble_eq_true rfl⟩, hts _ m_i_yX4_restore, hts _ m_e_yX4_restore⟩ (zPreV hK hN hZ hP hD hS hA [0] (by decide) rfl rfl 4 0 rfl rfl) rfl rfl hl.1 rfl (lv_room (Nat.le_of_ble_eq_true rfl)) dL_law_734 ⟨Nat.le_of_ble_eq_true rfl, Nat.le_of_ble_eq_true rfl⟩) (fun r u H locs hw hP hD hS => ?_)
  obtain rfl := hw
  have hP : va_P g.1 vwCl [((am 0), .inr (5, [.ref (am 1), .int 0, .ref (am 2), .int 0, .int 0, .ref (am 3), .ref (am 4), .ref (am 5), .ref (am 6), .int 0, .ref (am 7), .ref (am 8), .ref (am 9), .int 0, .ref (am 10), .ref (am 11), .ref (am 12), .ref (am 13), .ref (am 14), .ref (am 15), .ref (am 16), .ref (am 17), .ref (am 18), .ref (am 19), .ref (am 20), .ref (am 21), .ref (am 22)]))] H := hP
  have hD : va_D (fun q : Nat => s.heap.size ≤ q) [((am 0), .inr (5, [.ref (am 1), .int 0, .ref (am 2), .int 0, .int 0, .ref (am 3), .ref (am 4), .ref (am 5), .ref (am 6), .int 0, .ref (am 7), .ref (am 8), .ref (am 9), .int 0, .ref (am 10), .ref (am 11), .ref (am 12), .ref (am 13), .ref (am 14), .ref (am 15), .ref (am 16), .ref (am 17), .ref (am 18), .ref (am 19), .ref (am 20), .ref (am 21), .ref (am 22)]))] := hD
  refine lv_aload_n hx hb dL_law_737 rfl (lv_at hl 2 rfl) ?_
  refine z_calli (wr := []) hP hD hS hA [0] [] (by decide) rfl rfl (by decide) (va_runV (As := []) (rest := [.int (-4)]) ⟨hx, hb, hml, hown, hts⟩ (kX5_restore l g (am 0) (am 1) (am 2) (am 3) (am 4) (am 5) (am 6) (am 7) (am 8) (am 9) (am 10) (am 11) (am 12) (am 13) (am 14) (am 15) (am 16) (am 17) (am 18) (am 19) (am 20) (am 21) (am 22) H.size) ⟨callB_of 0 hts (zGood m_o_yX5_restore) rfl rfl rfl (hts _ m_z_RX5) (hts _ m_m_RL_107) ⟨by decide +kernel, by decide +kernel, by decide +kernel⟩ ⟨Nat.le_of_ble_eq_true rfl, Nat.le_of_ble_eq_true rfl⟩, hts _ m_i_yX5_restore, hts _ m_e_yX5_restore⟩ (zPreV hK hN hZ hP hD hS hA [0] (by decide) rfl rfl 5 0 rfl rfl) rfl rfl hl.1 rfl (lv_room (Nat.le_of_ble_eq_true rfl)) dL_law_738 ⟨Nat.le_of_ble_eq_true rfl, Nat.le_of_ble_eq_true rfl⟩) (fun r u H locs hw hP hD hS => ?_)
  obtain rfl := hw
  have hP : va_P g.1 vwCl [] H := hP
  have hD : va_D (fun q : Nat => s.heap.size ≤ q) [] := hD
  refine lv_icmp_eq (tgt := 1054) hx hb dL_law_741 (by decide) (fun _ => ?_) (fun h => absurd h (by decide +kernel))
  exact lc_tail ⟨hx, hb, hml, hr, hlocks, hown, hts, hK, hN, hZ, hX, hbl⟩ hS (lv_sub hl [0, 1, 2, 3] rfl)
set_option maxHeartbeats 4000000 in
set_option maxRecDepth 100000 in
theorem lc_which {p : Program} {l : Launch} {e : Env} {s : State} {m : MethodId} {below : List Frame} {meth : Method} {c : Code} {b : Nat} {xs : Nat → Int32} {g : zG} (C0 : lC g p s m meth c b xs) {ax am : Nat → Nat} {H : Heap} {locs : List Loc} (hP : va_P g.1 vwCl (lW g ax am) H) (hD : va_D (fun q : Nat => s.heap.size ≤ q) (lW g ax am)) (hS : va_S (fun q : Nat => s.heap.size ≤ q) s.heap H locs) {ls : Array Slot} (hl : lv_has ls 4 [(0, .ref b), (1, .ref (ax 0)), (2, .ref (am 0)), (3, .int 0)]) : W p l e room_1 s m #[Value.ref b] below meth c H locs 600000 7302250 (lw_Z below #[Value.ref b] s) (F0 m 746 ls []) := by
  obtain ⟨hx, hb, hml, hr, hlocks, hown, hts, hK, hN, hZ, hX, hbl⟩ := C0
  have hA : ∀ q : Nat, s.heap.size ≤ q → (fun q : Nat => s.heap.size ≤ q) q := fun _ h => h
  have hbA : ¬ (fun q : Nat => s.heap.size ≤ q) b := Nat.not_le.mpr hbl
  have hP := hP.sub (ws' := [((ax 0), .inr (4, [.ref (ax 1), .ref (ax 10), .int 0, .ref (ax 19), .ref (ax 30), .ref (ax 32), .ref (ax 36), .int (-1), .ref (ax 37), .ref (ax 38), .ref (ax 39), .ref (ax 40)])), ((ax 1), .inr (0, [.ref (ax 2), .int 0, .ref (ax 3), .int 0, .ref (ax 4), .ref (ax 5), .ref (ax 6), .ref (ax 7), .ref (ax 8), .ref (ax 9), .int 0])), ((ax 32), .inr (1, [.ref (ax 33), .ref (ax 34), .ref (ax 35)])), ((ax 33), .inl (zI g, 4, .inl (upd (upd (upd (upd (fun _ => 0) 0 (-1)) 1 (-1)) 2 (-1)) 3 (-1)))), ((am 0), .inr (5, [.ref (am 1), .int 0, .ref (am 2), .int 0, .int 0, .ref (am 3), .ref (am 4), .ref (am 5), .ref (am 6), .int 0, .ref (am 7), .ref (am 8), .ref (am 9), .int 0, .ref (am 10), .ref (am 11), .ref (am 12), .ref (am 13), .ref (am 14), .ref (am 15), .ref (am 16), .ref (am 17), .ref (am 18), .ref (am 19), .ref (am 20), .ref (am 21), .ref (am 22)])), ((am 1), .inl (zI g, 180, .inl (upd (upd (upd (fun _ => 0) 0 60) 1 1) 2 1))), ((am 19), .inl (zI g, 4, .inl (upd (upd (upd (upd (fun _ => 0) 0 (-1)) 1 (-1)) 2 (-1)) 3 (-1))))]) [0, 1, 32, 33, 41, 42, 60] rfl
  have hD := hD.sub (ws' := [((ax 0), .inr (4, [.ref (ax 1), .ref (ax 10), .int 0, .ref (ax 19), .ref (ax 30), .ref (ax 32), .ref (ax 36), .int (-1), .ref (ax 37), .ref (ax 38), .ref (ax 39), .ref (ax 40)])), ((ax 1), .inr (0, [.ref (ax 2), .int 0, .ref (ax 3), .int 0, .ref (ax 4), .ref (ax 5), .ref (ax 6), .ref (ax 7), .ref (ax 8), .ref (ax 9), .int 0])), ((ax 32), .inr (1, [.ref (ax 33), .ref (ax 34), .ref (ax 35)])), ((ax 33), .inl (zI g, 4, .inl (upd (upd (upd (upd (fun _ => 0) 0 (-1)) 1 (-1)) 2 (-1)) 3 (-1)))), ((am 0), .inr (5, [.ref (am 1), .int 0, .ref (am 2), .int 0, .int 0, .ref (am 3), .ref (am 4), .ref (am 5), .ref (am 6), .int 0, .ref (am 7), .ref (am 8), .ref (am 9), .int 0, .ref (am 10), .ref (am 11), .ref (am 12), .ref (am 13), .ref (am 14), .ref (am 15), .ref (am 16), .ref (am 17), .ref (am 18), .ref (am 19), .ref (am 20), .ref (am 21), .ref (am 22)])), ((am 1), .inl (zI g, 180, .inl (upd (upd (upd (fun _ => 0) 0 60) 1 1) 2 1))), ((am 19), .inl (zI g, 4, .inl (upd (upd (upd (upd (fun _ => 0) 0 (-1)) 1 (-1)) 2 (-1)) 3 (-1))))]) [0, 1, 32, 33, 41, 42, 60] (by decide) rfl
  refine lv_aload_n hx hb dL_law_746 rfl (lv_at hl 1 rfl) ?_
  refine lv_aload_n hx hb dL_law_747 rfl (lv_at hl 0 rfl) ?_
  refine lv_iload_n hx hb dL_law_748 rfl (lv_at hl 3 rfl) ?_
  refine lv_iconst (v := 1) hx hb dL_law_749 (by decide) ?_
  refine lv_iadd hx hb dL_law_750 ?_
  refine lv_topi (nm_r (e' := 1) (by decide +kernel) ?_)
  refine va_sld hx hb hX hbl hbA hS (vp_in_iff.mpr (by decide +kernel)) dL_law_751 ?_
  refine lv_topi (nm_r (e' := (xs 1)) (by rfl) ?_)
  refine lv_aload_n hx hb dL_law_752 rfl (lv_at hl 0 rfl) ?_
  refine lv_iload_n hx hb dL_law_753 rfl (lv_at hl 3 rfl) ?_
  refine lv_iconst (v := 2) hx hb dL_law_754 (by decide) ?_
  refine lv_iadd hx hb dL_law_755 ?_
  refine lv_topi (nm_r (e' := 2) (by decide +kernel) ?_)
  refine va_sld hx hb hX hbl hbA hS (vp_in_iff.mpr (by decide +kernel)) dL_law_756 ?_
  refine lv_topi (nm_r (e' := (xs 2)) (by rfl) ?_)
  refine lv_aload_n hx hb dL_law_757 rfl (lv_at hl 0 rfl) ?_
  refine lv_iload_n hx hb dL_law_758 rfl (lv_at hl 3 rfl) ?_
  refine lv_iconst (v := 3) hx hb dL_law_759 (by decide) ?_
  refine lv_iadd hx hb dL_law_760 ?_
  refine lv_topi (nm_r (e' := 3) (by decide +kernel) ?_)
  refine va_sld hx hb hX hbl hbA hS (vp_in_iff.mpr (by decide +kernel)) dL_law_761 ?_
  refine lv_topi (nm_r (e' := (xs 3)) (by rfl) ?_)
  refine lv_aload_n hx hb dL_law_762 rfl (lv_at hl 0 rfl) ?_
  refine lv_iload_n hx hb dL_law_763 rfl (lv_at hl 3 rfl) ?_
  refine lv_iconst (v := 4) hx hb dL_law_764 (by decide) ?_
  refine lv_iadd hx hb dL_law_765 ?_
  refine lv_topi (nm_r (e' := 4) (by decide +kernel) ?_)
  refine va_sld hx hb hX hbl hbA hS (vp_in_iff.mpr (by decide +kernel)) dL_law_766 ?_
  refine lv_topi (nm_r (e' := (xs 4)) (by rfl) ?_)
  refine z_calli (wr := [((am 0), .inr (5, [.ref (am 1), .int 0, .ref (am 2), .int 0, .int 0, .ref (am 3), .ref (am 4), .ref (am 5), .ref (am 6), .int 0, .ref (am 7), .ref (am 8), .ref (am 9), .int 0, .ref (am 10), .ref (am 11), .ref (am 12), .ref (am 13), .ref (am 14), .ref (am 15), .ref (am 16), .ref (am 17), .ref (am 18), .ref (am 19), .ref (am 20), .ref (am 21), .ref (am 22)])), ((am 1), .inl (zI g, 180, .inl (upd (upd (upd (fun _ => 0) 0 60) 1 1) 2 1))), ((am 19), .inl (zI g, 4, .inl (upd (upd (upd (upd (fun _ => 0) 0 (-1)) 1 (-1)) 2 (-1)) 3 (-1))))]) hP hD hS hA [0, 1, 2, 3] [4, 5, 6] (by decide) rfl rfl (by decide) (va_runV (As := [.int (xs 1), .int (xs 2), .int (xs 3), .int (xs 4)]) (rest := []) ⟨hx, hb, hml, hown, hts⟩ (kX4_which l g (ax 0) (ax 1) (ax 10) (ax 19) (ax 30) (ax 32) (ax 36) (ax 37) (ax 38) (ax 39) (ax 40) (ax 2) (ax 3) (ax 4) (ax 5) (ax 6) (ax 7) (ax 8) (ax 9) (ax 33) (ax 34) (ax 35) H.size (xs 1) (xs 2) (xs 3) (xs 4)) ⟨callB_of 4 hts (zGood m_o_yX4_which) rfl rfl rfl (hts _ m_z_RX4) (hts _ m_m_RL_108) ⟨by decide +kernel, by decide +kernel, by decide +kernel⟩ ⟨Nat.le_of_ble_eq_true rfl, Nat.le_of_ble_eq_true rfl⟩, hts _ m_i_yX4_which, hts _ m_e_yX4_which⟩ (zPreV hK hN hZ hP hD hS hA [0, 1, 2, 3] (by decide) rfl rfl 4 0 rfl rfl) rfl rfl hl.1 rfl (lv_room (Nat.le_of_ble_eq_true rfl)) dL_law_767 ⟨Nat.le_of_ble_eq_true rfl, Nat.le_of_ble_eq_true rfl⟩) (fun r u H locs hw hP hD hS => ?_)
  rcases hw with ⟨i_0, rfl⟩ | ⟨i_1, i_2, i_3, rfl⟩ | ⟨i_4, i_5, i_6, i_7, rfl⟩ | ⟨i_8, i_9, i_10, i_11, i_12, rfl⟩ | ⟨i_13, i_14, i_15, i_16, i_17, i_18, rfl⟩ | ⟨i_19, i_20, i_21, i_22, i_23, i_24, i_25, rfl⟩ | ⟨i_26, i_27, i_28, i_29, i_30, i_31, i_32, rfl⟩ | ⟨i_33, i_34, i_35, i_36, i_37, i_38, i_39, rfl⟩ | ⟨i_40, i_41, i_42, i_43, i_44, i_45, i_46, rfl⟩ | ⟨i_47, i_48, rfl⟩
  · skip
    have hP : va_P g.1 vwCl [((am 0), .inr (5, [.ref (am 1), .int 0, .ref (am 2), .int 0, .int 0, .ref (am 3), .ref (am 4), .ref (am 5), .ref (am 6), .int 0, .ref (am 7), .ref (am 8), .ref (am 9), .int 0, .ref (am 10), .ref (am 11), .ref (am 12), .ref (am 13), .ref (am 14), .ref (am 15), .ref (am 16), .ref (am 17), .ref (am 18), .ref (am 19), .ref (am 20), .ref (am 21), .ref (am 22)])), ((am 1), .inl (zI g, 180, .inl (upd (upd (upd (fun _ => 0) 0 60) 1 1) 2 1))), ((am 19), .inl (zI g, 4, .inl (upd (upd (upd (upd (fun _ => 0) 0 (-1)) 1 (-1)) 2 (-1)) 3 (-1))))] H := hP
    have hD : va_D (fun q : Nat => s.heap.size ≤ q) [((am 0), .inr (5, [.ref (am 1), .int 0, .ref (am 2), .int 0, .int 0, .ref (am 3), .ref (am 4), .ref (am 5), .ref (am 6), .int 0, .ref (am 7), .ref (am 8), .ref (am 9), .int 0, .ref (am 10), .ref (am 11), .ref (am 12), .ref (am 13), .ref (am 14), .ref (am 15), .ref (am 16), .ref (am 17), .ref (am 18), .ref (am 19), .ref (am 20), .ref (am 21), .ref (am 22)])), ((am 1), .inl (zI g, 180, .inl (upd (upd (upd (fun _ => 0) 0 60) 1 1) 2 1))), ((am 19), .inl (zI g, 4, .inl (upd (upd (upd (upd (fun _ => 0) 0 (-1)) 1 (-1)) 2 (-1)) 3 (-1))))] := hD
    refine lv_aload_n hx hb dL_law_770 rfl (lv_at hl 2 rfl) ?_
    refine lv_aload_n hx hb dL_law_771 rfl (lv_at hl 0 rfl) ?_
    refine lv_iload_n hx hb dL_law_772 rfl (lv_at hl 3 rfl) ?_
    refine lv_iconst (v := 1) hx hb dL_law_773 (by decide) ?_
    refine lv_iadd hx hb dL_law_774 ?_
    refine lv_topi (nm_r (e' := 1) (by decide +kernel) ?_)
    refine va_sld hx hb hX hbl hbA hS (vp_in_iff.mpr (by decide +kernel)) dL_law_775 ?_
    refine lv_topi (nm_r (e' := (xs 1)) (by rfl) ?_)
    refine lv_aload_n hx hb dL_law_776 rfl (lv_at hl 0 rfl) ?_
    refine lv_iload_n hx hb dL_law_777 rfl (lv_at hl 3 rfl) ?_
    refine lv_iconst (v := 2) hx hb dL_law_778 (by decide) ?_
    refine lv_iadd hx hb dL_law_779 ?_
    refine lv_topi (nm_r (e' := 2) (by decide +kernel) ?_)
    refine va_sld hx hb hX hbl hbA hS (vp_in_iff.mpr (by decide +kernel)) dL_law_780 ?_
    refine lv_topi (nm_r (e' := (xs 2)) (by rfl) ?_)
    refine lv_aload_n hx hb dL_law_781 rfl (lv_at hl 0 rfl) ?_
    refine lv_iload_n hx hb dL_law_782 rfl (lv_at hl 3 rfl) ?_
    refine lv_iconst (v := 3) hx hb dL_law_783 (by decide) ?_
    refine lv_iadd hx hb dL_law_784 ?_
    refine lv_topi (nm_r (e' := 3) (by decide +kernel) ?_)
    refine va_sld hx hb hX hbl hbA hS (vp_in_iff.mpr (by decide +kernel)) dL_law_785 ?_
    refine lv_topi (nm_r (e' := (xs 3)) (by rfl) ?_)
    refine lv_aload_n hx hb dL_law_786 rfl (lv_at hl 0 rfl) ?_
    refine lv_iload_n hx hb dL_law_787 rfl (lv_at hl 3 rfl) ?_
    refine lv_iconst (v := 4) hx hb dL_law_788 (by decide) ?_
    refine lv_iadd hx hb dL_law_789 ?_
    refine lv_topi (nm_r (e' := 4) (by decide +kernel) ?_)
    refine va_sld hx hb hX hbl hbA hS (vp_in_iff.mpr (by decide +kernel)) dL_law_790 ?_
    refine lv_topi (nm_r (e' := (xs 4)) (by rfl) ?_)
    refine z_calli (wr := []) hP hD hS hA [0, 1, 2] [] (by decide) rfl rfl (by decide) (va_runV (As := [.int (xs 1), .int (xs 2), .int (xs 3), .int (xs 4)]) (rest := [.int (-1)]) ⟨hx, hb, hml, hown, hts⟩ (kX5_which l g (am 0) (am 1) (am 2) (am 3) (am 4) (am 5) (am 6) (am 7) (am 8) (am 9) (am 10) (am 11) (am 12) (am 13) (am 14) (am 15) (am 16) (am 17) (am 18) (am 19) (am 20) (am 21) (am 22) H.size (xs 1) (xs 2) (xs 3) (xs 4)) ⟨callB_of 4 hts (zGood m_o_yX5_which) rfl rfl rfl (hts _ m_z_RX5) (hts _ m_m_RL_112) ⟨by decide +kernel, by decide +kernel, by decide +kernel⟩ ⟨Nat.le_of_ble_eq_true rfl, Nat.le_of_ble_eq_true rfl⟩, hts _ m_i_yX5_which, hts _ m_e_yX5_which⟩ (zPreV hK hN hZ hP hD hS hA [0, 1, 2] (by decide) rfl rfl 5 0 rfl rfl) rfl rfl hl.1 rfl (lv_room (Nat.le_of_ble_eq_true rfl)) dL_law_791 ⟨Nat.le_of_ble_eq_true rfl, Nat.le_of_ble_eq_true rfl⟩) (fun r u H locs hw hP hD hS => ?_)
    rcases hw with ⟨i_49, rfl⟩ | ⟨i_50, i_51, rfl⟩ | ⟨i_52, i_53, i_54, rfl⟩ | ⟨i_55, i_56, i_57, i_58, rfl⟩ | ⟨i_59, i_60, i_61, i_62, i_63, rfl⟩ | ⟨i_64, i_65, i_66, i_67, i_68, i_69, rfl⟩ | ⟨i_70, i_71, i_72, i_73, i_74, i_75, i_76, rfl⟩ | ⟨i_77, i_78, i_79, i_80, i_81, i_82, i_83, rfl⟩ | ⟨i_84, i_85, i_86, i_87, i_88, i_89, i_90, rfl⟩ | ⟨i_91, i_92, i_93, i_94, i_95, i_96, i_97, rfl⟩
    · skip
      have hP : va_P g.1 vwCl [] H := hP
      have hD : va_D (fun q : Nat => s.heap.size ≤ q) [] := hD
      refine lv_icmp_eq (tgt := 1054) hx hb dL_law_794 (by decide) (fun _ => ?_) (fun h => absurd h (by decide +kernel))
      exact lc_tail ⟨hx, hb, hml, hr, hlocks, hown, hts, hK, hN, hZ, hX, hbl⟩ hS (lv_sub hl [0, 1, 2, 3] rfl)
    · skip
      have hP : va_P g.1 vwCl [] H := hP
      have hD : va_D (fun q : Nat => s.heap.size ≤ q) [] := hD
      refine lv_icmp_eq (tgt := 1054) hx hb dL_law_794 (by decide) (fun _ => ?_) (fun h => absurd h (by decide +kernel))
      exact lc_tail ⟨hx, hb, hml, hr, hlocks, hown, hts, hK, hN, hZ, hX, hbl⟩ hS (lv_sub hl [0, 1, 2, 3] rfl)
    · skip
      have hP : va_P g.1 vwCl [] H := hP
      have hD : va_D (fun q : Nat => s.heap.size ≤ q) [] := hD
      refine lv_icmp_eq (tgt := 1054) hx hb dL_law_794 (by decide) (fun _ => ?_) (fun h => absurd h (by decide +kernel))
      exact lc_tail ⟨hx, hb, hml, hr, hlocks, hown, hts, hK, hN, hZ, hX, hbl⟩ hS (lv_sub hl [0, 1, 2, 3] rfl)
    · skip
      have hP : va_P g.1 vwCl [] H := hP
      have hD : va_D (fun q : Nat => s.heap.size ≤ q) [] := hD
      refine lv_icmp_eq (tgt := 1054) hx hb dL_law_794 (by decide) (fun _ => ?_) (fun h => absurd h (by decide +kernel))
      exact lc_tail ⟨hx, hb, hml, hr, hlocks, hown, hts, hK, hN, hZ, hX, hbl⟩ hS (lv_sub hl [0, 1, 2, 3] rfl)
    · skip
      have hP : va_P g.1 vwCl [] H := hP
      have hD : va_D (fun q : Nat => s.heap.size ≤ q) [] := hD
      refine lv_icmp_eq (tgt := 1054) hx hb dL_law_794 (by decide) (fun _ => ?_) (fun h => absurd h (by decide +kernel))
      exact lc_tail ⟨hx, hb, hml, hr, hlocks, hown, hts, hK, hN, hZ, hX, hbl⟩ hS (lv_sub hl [0, 1, 2, 3] rfl)
    · exfalso; omega
    · exfalso; omega
    · exfalso; omega
    · exfalso; omega
    · exfalso; omega
  · skip
    have hP : va_P g.1 vwCl [((am 0), .inr (5, [.ref (am 1), .int 0, .ref (am 2), .int 0, .int 0, .ref (am 3), .ref (am 4), .ref (am 5), .ref (am 6), .int 0, .ref (am 7), .ref (am 8), .ref (am 9), .int 0, .ref (am 10), .ref (am 11), .ref (am 12), .ref (am 13), .ref (am 14), .ref (am 15), .ref (am 16), .ref (am 17), .ref (am 18), .ref (am 19), .ref (am 20), .ref (am 21), .ref (am 22)])), ((am 1), .inl (zI g, 180, .inl (upd (upd (upd (fun _ => 0) 0 60) 1 1) 2 1))), ((am 19), .inl (zI g, 4, .inl (upd (upd (upd (upd (fun _ => 0) 0 (-1)) 1 (-1)) 2 (-1)) 3 (-1))))] H := hP
    have hD : va_D (fun q : Nat => s.heap.size ≤ q) [((am 0), .inr (5, [.ref (am 1), .int 0, .ref (am 2), .int 0, .int 0, .ref (am 3), .ref (am 4), .ref (am 5), .ref (am 6), .int 0, .ref (am 7), .ref (am 8), .ref (am 9), .int 0, .ref (am 10), .ref (am 11), .ref (am 12), .ref (am 13), .ref (am 14), .ref (am 15), .ref (am 16), .ref (am 17), .ref (am 18), .ref (am 19), .ref (am 20), .ref (am 21), .ref (am 22)])), ((am 1), .inl (zI g, 180, .inl (upd (upd (upd (fun _ => 0) 0 60) 1 1) 2 1))), ((am 19), .inl (zI g, 4, .inl (upd (upd (upd (upd (fun _ => 0) 0 (-1)) 1 (-1)) 2 (-1)) 3 (-1))))] := hD
    refine lv_aload_n hx hb dL_law_770 rfl (lv_at hl 2 rfl) ?_
    refine lv_aload_n hx hb dL_law_771 rfl (lv_at hl 0 rfl) ?_
    refine lv_iload_n hx hb dL_law_772 rfl (lv_at hl 3 rfl) ?_
    refine lv_iconst (v := 1) hx hb dL_law_773 (by decide) ?_
    refine lv_iadd hx hb dL_law_774 ?_
    refine lv_topi (nm_r (e' := 1) (by decide +kernel) ?_)
    refine va_sld hx hb hX hbl hbA hS (vp_in_iff.mpr (by decide +kernel)) dL_law_775 ?_
    refine lv_topi (nm_r (e' := (xs 1)) (by rfl) ?_)
    refine lv_aload_n hx hb dL_law_776 rfl (lv_at hl 0 rfl) ?_
    refine lv_iload_n hx hb dL_law_777 rfl (lv_at hl 3 rfl) ?_
    refine lv_iconst (v := 2) hx hb dL_law_778 (by decide) ?_
    refine lv_iadd hx hb dL_law_779 ?_
    refine lv_topi (nm_r (e' := 2) (by decide +kernel) ?_)
    refine va_sld hx hb hX hbl hbA hS (vp_in_iff.mpr (by decide +kernel)) dL_law_780 ?_
    refine lv_topi (nm_r (e' := (xs 2)) (by rfl) ?_)
    refine lv_aload_n hx hb dL_law_781 rfl (lv_at hl 0 rfl) ?_
    refine lv_iload_n hx hb dL_law_782 rfl (lv_at hl 3 rfl) ?_
    refine lv_iconst (v := 3) hx hb dL_law_783 (by decide) ?_
    refine lv_iadd hx hb dL_law_784 ?_
    refine lv_topi (nm_r (e' := 3) (by decide +kernel) ?_)
    refine va_sld hx hb hX hbl hbA hS (vp_in_iff.mpr (by decide +kernel)) dL_law_785 ?_
    refine lv_topi (nm_r (e' := (xs 3)) (by rfl) ?_)
    refine lv_aload_n hx hb dL_law_786 rfl (lv_at hl 0 rfl) ?_
    refine lv_iload_n hx hb dL_law_787 rfl (lv_at hl 3 rfl) ?_
    refine lv_iconst (v := 4) hx hb dL_law_788 (by decide) ?_
    refine lv_iadd hx hb dL_law_789 ?_
    refine lv_topi (nm_r (e' := 4) (by decide +kernel) ?_)
    refine va_sld hx hb hX hbl hbA hS (vp_in_iff.mpr (by decide +kernel)) dL_law_790 ?_
    refine lv_topi (nm_r (e' := (xs 4)) (by rfl) ?_)
    refine z_calli (wr := []) hP hD hS hA [0, 1, 2] [] (by decide) rfl rfl (by decide) (va_runV (As := [.int (xs 1), .int (xs 2), .int (xs 3), .int (xs 4)]) (rest := [.int (-1)]) ⟨hx, hb, hml, hown, hts⟩ (kX5_which l g (am 0) (am 1) (am 2) (am 3) (am 4) (am 5) (am 6) (am 7) (am 8) (am 9) (am 10) (am 11) (am 12) (am 13) (am 14) (am 15) (am 16) (am 17) (am 18) (am 19) (am 20) (am 21) (am 22) H.size (xs 1) (xs 2) (xs 3) (xs 4)) ⟨callB_of 4 hts (zGood m_o_yX5_which) rfl rfl rfl (hts _ m_z_RX5) (hts _ m_m_RL_112) ⟨by decide +kernel, by decide +kernel, by decide +kernel⟩ ⟨Nat.le_of_ble_eq_true rfl, Nat.le_of_ble_eq_true rfl⟩, hts _ m_i_yX5_which, hts _ m_e_yX5_which⟩ (zPreV hK hN hZ hP hD hS hA [0, 1, 2] (by decide) rfl rfl 5 0 rfl rfl) rfl rfl hl.1 rfl (lv_room (Nat.le_of_ble_eq_true rfl)) dL_law_791 ⟨Nat.le_of_ble_eq_true rfl, Nat.le_of_ble_eq_true rfl⟩) (fun r u H locs hw hP hD hS => ?_)
    rcases hw with ⟨i_98, rfl⟩ | ⟨i_99, i_100, rfl⟩ | ⟨i_101, i_102, i_103, rfl⟩ | ⟨i_104, i_105, i_106, i_107, rfl⟩ | ⟨i_108, i_109, i_110, i_111, i_112, rfl⟩ | ⟨i_113, i_114, i_115, i_116, i_117, i_118, rfl⟩ | ⟨i_119, i_120, i_121, i_122, i_123, i_124, i_125, rfl⟩ | ⟨i_126, i_127, i_128, i_129, i_130, i_131, i_132, rfl⟩ | ⟨i_133, i_134, i_135, i_136, i_137, i_138, i_139, rfl⟩ | ⟨i_140, i_141, i_142, i_143, i_144, i_145, i_146, rfl⟩
    · skip
      have hP : va_P g.1 vwCl [] H := hP
      have hD : va_D (fun q : Nat => s.heap.size ≤ q) [] := hD
      refine lv_icmp_eq (tgt := 1054) hx hb dL_law_794 (by decide) (fun _ => ?_) (fun h => absurd h (by decide +kernel))
      exact lc_tail ⟨hx, hb, hml, hr, hlocks, hown, hts, hK, hN, hZ, hX, hbl⟩ hS (lv_sub hl [0, 1, 2, 3] rfl)
    · exfalso; omega
    · exfalso; omega
    · exfalso; omega
    · exfalso; omega
    · exfalso; omega
    · exfalso; omega
    · exfalso; omega
    · exfalso; omega
    · exfalso; omega
  · skip
    have hP : va_P g.1 vwCl [((am 0), .inr (5, [.ref (am 1), .int 0, .ref (am 2), .int 0, .int 0, .ref (am 3), .ref (am 4), .ref (am 5), .ref (am 6), .int 0, .ref (am 7), .ref (am 8), .ref (am 9), .int 0, .ref (am 10), .ref (am 11), .ref (am 12), .ref (am 13), .ref (am 14), .ref (am 15), .ref (am 16), .ref (am 17), .ref (am 18), .ref (am 19), .ref (am 20), .ref (am 21), .ref (am 22)])), ((am 1), .inl (zI g, 180, .inl (upd (upd (upd (fun _ => 0) 0 60) 1 1) 2 1))), ((am 19), .inl (zI g, 4, .inl (upd (upd (upd (upd (fun _ => 0) 0 (-1)) 1 (-1)) 2 (-1)) 3 (-1))))] H := hP
    have hD : va_D (fun q : Nat => s.heap.size ≤ q) [((am 0), .inr (5, [.ref (am 1), .int 0, .ref (am 2), .int 0, .int 0, .ref (am 3), .ref (am 4), .ref (am 5), .ref (am 6), .int 0, .ref (am 7), .ref (am 8), .ref (am 9), .int 0, .ref (am 10), .ref (am 11), .ref (am 12), .ref (am 13), .ref (am 14), .ref (am 15), .ref (am 16), .ref (am 17), .ref (am 18), .ref (am 19), .ref (am 20), .ref (am 21), .ref (am 22)])), ((am 1), .inl (zI g, 180, .inl (upd (upd (upd (fun _ => 0) 0 60) 1 1) 2 1))), ((am 19), .inl (zI g, 4, .inl (upd (upd (upd (upd (fun _ => 0) 0 (-1)) 1 (-1)) 2 (-1)) 3 (-1))))] := hD
    refine lv_aload_n hx hb dL_law_770 rfl (lv_at hl 2 rfl) ?_
    refine lv_aload_n hx hb dL_law_771 rfl (lv_at hl 0 rfl) ?_
    refine lv_iload_n hx hb dL_law_772 rfl (lv_at hl 3 rfl) ?_
    refine lv_iconst (v := 1) hx hb dL_law_773 (by decide) ?_
    refine lv_iadd hx hb dL_law_774 ?_
    refine lv_topi (nm_r (e' := 1) (by decide +kernel) ?_)
    refine va_sld hx hb hX hbl hbA hS (vp_in_iff.mpr (by decide +kernel)) dL_law_775 ?_
    refine lv_topi (nm_r (e' := (xs 1)) (by rfl) ?_)
    refine lv_aload_n hx hb dL_law_776 rfl (lv_at hl 0 rfl) ?_
    refine lv_iload_n hx hb dL_law_777 rfl (lv_at hl 3 rfl) ?_
    refine lv_iconst (v := 2) hx hb dL_law_778 (by decide) ?_
    refine lv_iadd hx hb dL_law_779 ?_
    refine lv_topi (nm_r (e' := 2) (by decide +kernel) ?_)
    refine va_sld hx hb hX hbl hbA hS (vp_in_iff.mpr (by decide +kernel)) dL_law_780 ?_
    refine lv_topi (nm_r (e' := (xs 2)) (by rfl) ?_)
    refine lv_aload_n hx hb dL_law_781 rfl (lv_at hl 0 rfl) ?_
    refine lv_iload_n hx hb dL_law_782 rfl (lv_at hl 3 rfl) ?_
    refine lv_iconst (v := 3) hx hb dL_law_783 (by decide) ?_
    refine lv_iadd hx hb dL_law_784 ?_
    refine lv_topi (nm_r (e' := 3) (by decide +kernel) ?_)
    refine va_sld hx hb hX hbl hbA hS (vp_in_iff.mpr (by decide +kernel)) dL_law_785 ?_
    refine lv_topi (nm_r (e' := (xs 3)) (by rfl) ?_)
    refine lv_aload_n hx hb dL_law_786 rfl (lv_at hl 0 rfl) ?_
    refine lv_iload_n hx hb dL_law_787 rfl (lv_at hl 3 rfl) ?_
    refine lv_iconst (v := 4) hx hb dL_law_788 (by decide) ?_
    refine lv_iadd hx hb dL_law_789 ?_
    refine lv_topi (nm_r (e' := 4) (by decide +kernel) ?_)
    refine va_sld hx hb hX hbl hbA hS (vp_in_iff.mpr (by decide +kernel)) dL_law_790 ?_
    refine lv_topi (nm_r (e' := (xs 4)) (by rfl) ?_)
    refine z_calli (wr := []) hP hD hS hA [0, 1, 2] [] (by decide) rfl rfl (by decide) (va_runV (As := [.int (xs 1), .int (xs 2), .int (xs 3), .int (xs 4)]) (rest := [.int (-1)]) ⟨hx, hb, hml, hown, hts⟩ (kX5_which l g (am 0) (am 1) (am 2) (am 3) (am 4) (am 5) (am 6) (am 7) (am 8) (am 9) (am 10) (am 11) (am 12) (am 13) (am 14) (am 15) (am 16) (am 17) (am 18) (am 19) (am 20) (am 21) (am 22) H.size (xs 1) (xs 2) (xs 3) (xs 4)) ⟨callB_of 4 hts (zGood m_o_yX5_which) rfl rfl rfl (hts _ m_z_RX5) (hts _ m_m_RL_112) ⟨by decide +kernel, by decide +kernel, by decide +kernel⟩ ⟨Nat.le_of_ble_eq_true rfl, Nat.le_of_ble_eq_true rfl⟩, hts _ m_i_yX5_which, hts _ m_e_yX5_which⟩ (zPreV hK hN hZ hP hD hS hA [0, 1, 2] (by decide) rfl rfl 5 0 rfl rfl) rfl rfl hl.1 rfl (lv_room (Nat.le_of_ble_eq_true rfl)) dL_law_791 ⟨Nat.le_of_ble_eq_true rfl, Nat.le_of_ble_eq_true rfl⟩) (fun r u H locs hw hP hD hS => ?_)
    rcases hw with ⟨i_147, rfl⟩ | ⟨i_148, i_149, rfl⟩ | ⟨i_150, i_151, i_152, rfl⟩ | ⟨i_153, i_154, i_155, i_156, rfl⟩ | ⟨i_157, i_158, i_159, i_160, i_161, rfl⟩ | ⟨i_162, i_163, i_164, i_165, i_166, i_167, rfl⟩ | ⟨i_168, i_169, i_170, i_171, i_172, i_173, i_174, rfl⟩ | ⟨i_175, i_176, i_177, i_178, i_179, i_180, i_181, rfl⟩ | ⟨i_182, i_183, i_184, i_185, i_186, i_187, i_188, rfl⟩ | ⟨i_189, i_190, i_191, i_192, i_193, i_194, i_195, rfl⟩
    · exfalso; omega
    · skip
      have hP : va_P g.1 vwCl [] H := hP
      have hD : va_D (fun q : Nat => s.heap.size ≤ q) [] := hD
      refine lv_icmp_eq (tgt := 1054) hx hb dL_law_794 (by decide) (fun _ => ?_) (fun h => absurd h (by decide +kernel))
      exact lc_tail ⟨hx, hb, hml, hr, hlocks, hown, hts, hK, hN, hZ, hX, hbl⟩ hS (lv_sub hl [0, 1, 2, 3] rfl)
    · exfalso; omega
    · exfalso; omega
    · exfalso; omega
    · exfalso; omega
    · exfalso; omega
    · exfalso; omega
    · exfalso; omega
    · exfalso; omega
  · skip
    have hP : va_P g.1 vwCl [((am 0), .inr (5, [.ref (am 1), .int 0, .ref (am 2), .int 0, .int 0, .ref (am 3), .ref (am 4), .ref (am 5), .ref (am 6), .int 0, .ref (am 7), .ref (am 8), .ref (am 9), .int 0, .ref (am 10), .ref (am 11), .ref (am 12), .ref (am 13), .ref (am 14), .ref (am 15), .ref (am 16), .ref (am 17), .ref (am 18), .ref (am 19), .ref (am 20), .ref (am 21), .ref (am 22)])), ((am 1), .inl (zI g, 180, .inl (upd (upd (upd (fun _ => 0) 0 60) 1 1) 2 1))), ((am 19), .inl (zI g, 4, .inl (upd (upd (upd (upd (fun _ => 0) 0 (-1)) 1 (-1)) 2 (-1)) 3 (-1))))] H := hP
    have hD : va_D (fun q : Nat => s.heap.size ≤ q) [((am 0), .inr (5, [.ref (am 1), .int 0, .ref (am 2), .int 0, .int 0, .ref (am 3), .ref (am 4), .ref (am 5), .ref (am 6), .int 0, .ref (am 7), .ref (am 8), .ref (am 9), .int 0, .ref (am 10), .ref (am 11), .ref (am 12), .ref (am 13), .ref (am 14), .ref (am 15), .ref (am 16), .ref (am 17), .ref (am 18), .ref (am 19), .ref (am 20), .ref (am 21), .ref (am 22)])), ((am 1), .inl (zI g, 180, .inl (upd (upd (upd (fun _ => 0) 0 60) 1 1) 2 1))), ((am 19), .inl (zI g, 4, .inl (upd (upd (upd (upd (fun _ => 0) 0 (-1)) 1 (-1)) 2 (-1)) 3 (-1))))] := hD
    refine lv_aload_n hx hb dL_law_770 rfl (lv_at hl 2 rfl) ?_
    refine lv_aload_n hx hb dL_law_771 rfl (lv_at hl 0 rfl) ?_
    refine lv_iload_n hx hb dL_law_772 rfl (lv_at hl 3 rfl) ?_
    refine lv_iconst (v := 1) hx hb dL_law_773 (by decide) ?_
    refine lv_iadd hx hb dL_law_774 ?_
    refine lv_topi (nm_r (e' := 1) (by decide +kernel) ?_)
    refine va_sld hx hb hX hbl hbA hS (vp_in_iff.mpr (by decide +kernel)) dL_law_775 ?_
    refine lv_topi (nm_r (e' := (xs 1)) (by rfl) ?_)
    refine lv_aload_n hx hb dL_law_776 rfl (lv_at hl 0 rfl) ?_
    refine lv_iload_n hx hb dL_law_777 rfl (lv_at hl 3 rfl) ?_
    refine lv_iconst (v := 2) hx hb dL_law_778 (by decide) ?_
    refine lv_iadd hx hb dL_law_779 ?_
    refine lv_topi (nm_r (e' := 2) (by decide +kernel) ?_)
    refine va_sld hx hb hX hbl hbA hS (vp_in_iff.mpr (by decide +kernel)) dL_law_780 ?_
    refine lv_topi (nm_r (e' := (xs 2)) (by rfl) ?_)
    refine lv_aload_n hx hb dL_law_781 rfl (lv_at hl 0 rfl) ?_
    refine lv_iload_n hx hb dL_law_782 rfl (lv_at hl 3 rfl) ?_
    refine lv_iconst (v := 3) hx hb dL_law_783 (by decide) ?_
    refine lv_iadd hx hb dL_law_784 ?_
    refine lv_topi (nm_r (e' := 3) (by decide +kernel) ?_)
    refine va_sld hx hb hX hbl hbA hS (vp_in_iff.mpr (by decide +kernel)) dL_law_785 ?_
    refine lv_topi (nm_r (e' := (xs 3)) (by rfl) ?_)
    refine lv_aload_n hx hb dL_law_786 rfl (lv_at hl 0 rfl) ?_
    refine lv_iload_n hx hb dL_law_787 rfl (lv_at hl 3 rfl) ?_
    refine lv_iconst (v := 4) hx hb dL_law_788 (by decide) ?_
    refine lv_iadd hx hb dL_law_789 ?_
    refine lv_topi (nm_r (e' := 4) (by decide +kernel) ?_)
    refine va_sld hx hb hX hbl hbA hS (vp_in_iff.mpr (by decide +kernel)) dL_law_790 ?_
    refine lv_topi (nm_r (e' := (xs 4)) (by rfl) ?_)
    refine z_calli (wr := []) hP hD hS hA [0, 1, 2] [] (by decide) rfl rfl (by decide) (va_runV (As := [.int (xs 1), .int (xs 2), .int (xs 3), .int (xs 4)]) (rest := [.int (-1)]) ⟨hx, hb, hml, hown, hts⟩ (kX5_which l g (am 0) (am 1) (am 2) (am 3) (am 4) (am 5) (am 6) (am 7) (am 8) (am 9) (am 10) (am 11) (am 12) (am 13) (am 14) (am 15) (am 16) (am 17) (am 18) (am 19) (am 20) (am 21) (am 22) H.size (xs 1) (xs 2) (xs 3) (xs 4)) ⟨callB_of 4 hts (zGood m_o_yX5_which) rfl rfl rfl (hts _ m_z_RX5) (hts _ m_m_RL_112) ⟨by decide +kernel, by decide +kernel, by decide +kernel⟩ ⟨Nat.le_of_ble_eq_true rfl, Nat.le_of_ble_eq_true rfl⟩, hts _ m_i_yX5_which, hts _ m_e_yX5_which⟩ (zPreV hK hN hZ hP hD hS hA [0, 1, 2] (by decide) rfl rfl 5 0 rfl rfl) rfl rfl hl.1 rfl (lv_room (Nat.le_of_ble_eq_true rfl)) dL_law_791 ⟨Nat.le_of_ble_eq_true rfl, Nat.le_of_ble_eq_true rfl⟩) (fun r u H locs hw hP hD hS => ?_)
    rcases hw with ⟨i_196, rfl⟩ | ⟨i_197, i_198, rfl⟩ | ⟨i_199, i_200, i_201, rfl⟩ | ⟨i_202, i_203, i_204, i_205, rfl⟩ | ⟨i_206, i_207, i_208, i_209, i_210, rfl⟩ | ⟨i_211, i_212, i_213, i_214, i_215, i_216, rfl⟩ | ⟨i_217, i_218, i_219, i_220, i_221, i_222, i_223, rfl⟩ | ⟨i_224, i_225, i_226, i_227, i_228, i_229, i_230, rfl⟩ | ⟨i_231, i_232, i_233, i_234, i_235, i_236, i_237, rfl⟩ | ⟨i_238, i_239, i_240, i_241, i_242, i_243, i_244, rfl⟩
    · exfalso; omega
    · exfalso; omega
    · skip
      have hP : va_P g.1 vwCl [] H := hP
      have hD : va_D (fun q : Nat => s.heap.size ≤ q) [] := hD
      refine lv_icmp_eq (tgt := 1054) hx hb dL_law_794 (by decide) (fun _ => ?_) (fun h => absurd h (by decide +kernel))
      exact lc_tail ⟨hx, hb, hml, hr, hlocks, hown, hts, hK, hN, hZ, hX, hbl⟩ hS (lv_sub hl [0, 1, 2, 3] rfl)
    · exfalso; omega
    · exfalso; omega
    · exfalso; omega
    · exfalso; omega
    · exfalso; omega
    · exfalso; omega
    · exfalso; omega
  · skip
    have hP : va_P g.1 vwCl [((am 0), .inr (5, [.ref (am 1), .int 0, .ref (am 2), .int 0, .int 0, .ref (am 3), .ref (am 4), .ref (am 5), .ref (am 6), .int 0, .ref (am 7), .ref (am 8), .ref (am 9), .int 0, .ref (am 10), .ref (am 11), .ref (am 12), .ref (am 13), .ref (am 14), .ref (am 15), .ref (am 16), .ref (am 17), .ref (am 18), .ref (am 19), .ref (am 20), .ref (am 21), .ref (am 22)])), ((am 1), .inl (zI g, 180, .inl (upd (upd (upd (fun _ => 0) 0 60) 1 1) 2 1))), ((am 19), .inl (zI g, 4, .inl (upd (upd (upd (upd (fun _ => 0) 0 (-1)) 1 (-1)) 2 (-1)) 3 (-1))))] H := hP
    have hD : va_D (fun q : Nat => s.heap.size ≤ q) [((am 0), .inr (5, [.ref (am 1), .int 0, .ref (am 2), .int 0, .int 0, .ref (am 3), .ref (am 4), .ref (am 5), .ref (am 6), .int 0, .ref (am 7), .ref (am 8), .ref (am 9), .int 0, .ref (am 10), .ref (am 11), .ref (am 12), .ref (am 13), .ref (am 14), .ref (am 15), .ref (am 16), .ref (am 17), .ref (am 18), .ref (am 19), .ref (am 20), .ref (am 21), .ref (am 22)])), ((am 1), .inl (zI g, 180, .inl (upd (upd (upd (fun _ => 0) 0 60) 1 1) 2 1))), ((am 19), .inl (zI g, 4, .inl (upd (upd (upd (upd (fun _ => 0) 0 (-1)) 1 (-1)) 2 (-1)) 3 (-1))))] := hD
    refine lv_aload_n hx hb dL_law_770 rfl (lv_at hl 2 rfl) ?_
    refine lv_aload_n hx hb dL_law_771 rfl (lv_at hl 0 rfl) ?_
    refine lv_iload_n hx hb dL_law_772 rfl (lv_at hl 3 rfl) ?_
    refine lv_iconst (v := 1) hx hb dL_law_773 (by decide) ?_
    refine lv_iadd hx hb dL_law_774 ?_
    refine lv_topi (nm_r (e' := 1) (by decide +kernel) ?_)
    refine va_sld hx hb hX hbl hbA hS (vp_in_iff.mpr (by decide +kernel)) dL_law_775 ?_
    refine lv_topi (nm_r (e' := (xs 1)) (by rfl) ?_)
    refine lv_aload_n hx hb dL_law_776 rfl (lv_at hl 0 rfl) ?_
    refine lv_iload_n hx hb dL_law_777 rfl (lv_at hl 3 rfl) ?_
    refine lv_iconst (v := 2) hx hb dL_law_778 (by decide) ?_
    refine lv_iadd hx hb dL_law_779 ?_
    refine lv_topi (nm_r (e' := 2) (by decide +kernel) ?_)
    refine va_sld hx hb hX hbl hbA hS (vp_in_iff.mpr (by decide +kernel)) dL_law_780 ?_
    refine lv_topi (nm_r (e' := (xs 2)) (by rfl) ?_)
    refine lv_aload_n hx hb dL_law_781 rfl (lv_at hl 0 rfl) ?_
    refine lv_iload_n hx hb dL_law_782 rfl (lv_at hl 3 rfl) ?_
    refine lv_iconst (v := 3) hx hb dL_law_783 (by decide) ?_
    refine lv_iadd hx hb dL_law_784 ?_
    refine lv_topi (nm_r (e' := 3) (by decide +kernel) ?_)
    refine va_sld hx hb hX hbl hbA hS (vp_in_iff.mpr (by decide +kernel)) dL_law_785 ?_
    refine lv_topi (nm_r (e' := (xs 3)) (by rfl) ?_)
    refine lv_aload_n hx hb dL_law_786 rfl (lv_at hl 0 rfl) ?_
    refine lv_iload_n hx hb dL_law_787 rfl (lv_at hl 3 rfl) ?_
    refine lv_iconst (v := 4) hx hb dL_law_788 (by decide) ?_
    refine lv_iadd hx hb dL_law_789 ?_
    refine lv_topi (nm_r (e' := 4) (by decide +kernel) ?_)
    refine va_sld hx hb hX hbl hbA hS (vp_in_iff.mpr (by decide +kernel)) dL_law_790 ?_
    refine lv_topi (nm_r (e' := (xs 4)) (by rfl) ?_)
    refine z_calli (wr := []) hP hD hS hA [0, 1, 2] [] (by decide) rfl rfl (by decide) (va_runV (As := [.int (xs 1), .int (xs 2), .int (xs 3), .int (xs 4)]) (rest := [.int (-1)]) ⟨hx, hb, hml, hown, hts⟩ (kX5_which l g (am 0) (am 1) (am 2) (am 3) (am 4) (am 5) (am 6) (am 7) (am 8) (am 9) (am 10) (am 11) (am 12) (am 13) (am 14) (am 15) (am 16) (am 17) (am 18) (am 19) (am 20) (am 21) (am 22) H.size (xs 1) (xs 2) (xs 3) (xs 4)) ⟨callB_of 4 hts (zGood m_o_yX5_which) rfl rfl rfl (hts _ m_z_RX5) (hts _ m_m_RL_112) ⟨by decide +kernel, by decide +kernel, by decide +kernel⟩ ⟨Nat.le_of_ble_eq_true rfl, Nat.le_of_ble_eq_true rfl⟩, hts _ m_i_yX5_which, hts _ m_e_yX5_which⟩ (zPreV hK hN hZ hP hD hS hA [0, 1, 2] (by decide) rfl rfl 5 0 rfl rfl) rfl rfl hl.1 rfl (lv_room (Nat.le_of_ble_eq_true rfl)) dL_law_791 ⟨Nat.le_of_ble_eq_true rfl, Nat.le_of_ble_eq_true rfl⟩) (fun r u H locs hw hP hD hS => ?_)
    rcases hw with ⟨i_245, rfl⟩ | ⟨i_246, i_247, rfl⟩ | ⟨i_248, i_249, i_250, rfl⟩ | ⟨i_251, i_252, i_253, i_254, rfl⟩ | ⟨i_255, i_256, i_257, i_258, i_259, rfl⟩ | ⟨i_260, i_261, i_262, i_263, i_264, i_265, rfl⟩ | ⟨i_266, i_267, i_268, i_269, i_270, i_271, i_272, rfl⟩ | ⟨i_273, i_274, i_275, i_276, i_277, i_278, i_279, rfl⟩ | ⟨i_280, i_281, i_282, i_283, i_284, i_285, i_286, rfl⟩ | ⟨i_287, i_288, i_289, i_290, i_291, i_292, i_293, rfl⟩
    · exfalso; omega
    · exfalso; omega
    · exfalso; omega
    · skip
      have hP : va_P g.1 vwCl [] H := hP
      have hD : va_D (fun q : Nat => s.heap.size ≤ q) [] := hD
      refine lv_icmp_eq (tgt := 1054) hx hb dL_law_794 (by decide) (fun _ => ?_) (fun h => absurd h (by decide +kernel))
      exact lc_tail ⟨hx, hb, hml, hr, hlocks, hown, hts, hK, hN, hZ, hX, hbl⟩ hS (lv_sub hl [0, 1, 2, 3] rfl)
    · exfalso; omega
    · exfalso; omega
    · exfalso; omega
    · exfalso; omega
    · exfalso; omega
    · exfalso; omega
  · skip
    have hP : va_P g.1 vwCl [((am 0), .inr (5, [.ref (am 1), .int 0, .ref (am 2), .int 0, .int 0, .ref (am 3), .ref (am 4), .ref (am 5), .ref (am 6), .int 0, .ref (am 7), .ref (am 8), .ref (am 9), .int 0, .ref (am 10), .ref (am 11), .ref (am 12), .ref (am 13), .ref (am 14), .ref (am 15), .ref (am 16), .ref (am 17), .ref (am 18), .ref (am 19), .ref (am 20), .ref (am 21), .ref (am 22)])), ((am 1), .inl (zI g, 180, .inl (upd (upd (upd (fun _ => 0) 0 60) 1 1) 2 1))), ((am 19), .inl (zI g, 4, .inl (upd (upd (upd (upd (fun _ => 0) 0 (-1)) 1 (-1)) 2 (-1)) 3 (-1))))] H := hP
    have hD : va_D (fun q : Nat => s.heap.size ≤ q) [((am 0), .inr (5, [.ref (am 1), .int 0, .ref (am 2), .int 0, .int 0, .ref (am 3), .ref (am 4), .ref (am 5), .ref (am 6), .int 0, .ref (am 7), .ref (am 8), .ref (am 9), .int 0, .ref (am 10), .ref (am 11), .ref (am 12), .ref (am 13), .ref (am 14), .ref (am 15), .ref (am 16), .ref (am 17), .ref (am 18), .ref (am 19), .ref (am 20), .ref (am 21), .ref (am 22)])), ((am 1), .inl (zI g, 180, .inl (upd (upd (upd (fun _ => 0) 0 60) 1 1) 2 1))), ((am 19), .inl (zI g, 4, .inl (upd (upd (upd (upd (fun _ => 0) 0 (-1)) 1 (-1)) 2 (-1)) 3 (-1))))] := hD
    refine lv_aload_n hx hb dL_law_770 rfl (lv_at hl 2 rfl) ?_
    refine lv_aload_n hx hb dL_law_771 rfl (lv_at hl 0 rfl) ?_
    refine lv_iload_n hx hb dL_law_772 rfl (lv_at hl 3 rfl) ?_
    refine lv_iconst (v := 1) hx hb dL_law_773 (by decide) ?_
    refine lv_iadd hx hb dL_law_774 ?_
    refine lv_topi (nm_r (e' := 1) (by decide +kernel) ?_)
    refine va_sld hx hb hX hbl hbA hS (vp_in_iff.mpr (by decide +kernel)) dL_law_775 ?_
    refine lv_topi (nm_r (e' := (xs 1)) (by rfl) ?_)
    refine lv_aload_n hx hb dL_law_776 rfl (lv_at hl 0 rfl) ?_
    refine lv_iload_n hx hb dL_law_777 rfl (lv_at hl 3 rfl) ?_
    refine lv_iconst (v := 2) hx hb dL_law_778 (by decide) ?_
    refine lv_iadd hx hb dL_law_779 ?_
    refine lv_topi (nm_r (e' := 2) (by decide +kernel) ?_)
    refine va_sld hx hb hX hbl hbA hS (vp_in_iff.mpr (by decide +kernel)) dL_law_780 ?_
    refine lv_topi (nm_r (e' := (xs 2)) (by rfl) ?_)
    refine lv_aload_n hx hb dL_law_781 rfl (lv_at hl 0 rfl) ?_
    refine lv_iload_n hx hb dL_law_782 rfl (lv_at hl 3 rfl) ?_
    refine lv_iconst (v := 3) hx hb dL_law_783 (by decide) ?_
    refine lv_iadd hx hb dL_law_784 ?_
    refine lv_topi (nm_r (e' := 3) (by decide +kernel) ?_)
    refine va_sld hx hb hX hbl hbA hS (vp_in_iff.mpr (by decide +kernel)) dL_law_785 ?_
    refine lv_topi (nm_r (e' := (xs 3)) (by rfl) ?_)
    refine lv_aload_n hx hb dL_law_786 rfl (lv_at hl 0 rfl) ?_
    refine lv_iload_n hx hb dL_law_787 rfl (lv_at hl 3 rfl) ?_
    refine lv_iconst (v := 4) hx hb dL_law_788 (by decide) ?_
    refine lv_iadd hx hb dL_law_789 ?_
    refine lv_topi (nm_r (e' := 4) (by decide +kernel) ?_)
    refine va_sld hx hb hX hbl hbA hS (vp_in_iff.mpr (by decide +kernel)) dL_law_790 ?_
    refine lv_topi (nm_r (e' := (xs 4)) (by rfl) ?_)
    refine z_calli (wr := []) hP hD hS hA [0, 1, 2] [] (by decide) rfl rfl (by decide) (va_runV (As := [.int (xs 1), .int (xs 2), .int (xs 3), .int (xs 4)]) (rest := [.int (-11)]) ⟨hx, hb, hml, hown, hts⟩ (kX5_which l g (am 0) (am 1) (am 2) (am 3) (am 4) (am 5) (am 6) (am 7) (am 8) (am 9) (am 10) (am 11) (am 12) (am 13) (am 14) (am 15) (am 16) (am 17) (am 18) (am 19) (am 20) (am 21) (am 22) H.size (xs 1) (xs 2) (xs 3) (xs 4)) ⟨callB_of 4 hts (zGood m_o_yX5_which) rfl rfl rfl (hts _ m_z_RX5) (hts _ m_m_RL_112) ⟨by decide +kernel, by decide +kernel, by decide +kernel⟩ ⟨Nat.le_of_ble_eq_true rfl, Nat.le_of_ble_eq_true rfl⟩, hts _ m_i_yX5_which, hts _ m_e_yX5_which⟩ (zPreV hK hN hZ hP hD hS hA [0, 1, 2] (by decide) rfl rfl 5 0 rfl rfl) rfl rfl hl.1 rfl (lv_room (Nat.le_of_ble_eq_true rfl)) dL_law_791 ⟨Nat.le_of_ble_eq_true rfl, Nat.le_of_ble_eq_true rfl⟩) (fun r u H locs hw hP hD hS => ?_)
    rcases hw with ⟨i_294, rfl⟩ | ⟨i_295, i_296, rfl⟩ | ⟨i_297, i_298, i_299, rfl⟩ | ⟨i_300, i_301, i_302, i_303, rfl⟩ | ⟨i_304, i_305, i_306, i_307, i_308, rfl⟩ | ⟨i_309, i_310, i_311, i_312, i_313, i_314, rfl⟩ | ⟨i_315, i_316, i_317, i_318, i_319, i_320, i_321, rfl⟩ | ⟨i_322, i_323, i_324, i_325, i_326, i_327, i_328, rfl⟩ | ⟨i_329, i_330, i_331, i_332, i_333, i_334, i_335, rfl⟩ | ⟨i_336, i_337, i_338, i_339, i_340, i_341, i_342, rfl⟩
    · exfalso; omega
    · exfalso; omega
    · exfalso; omega
    · exfalso; omega
    · exfalso; omega
    · exfalso; omega
    · skip
      have hP : va_P g.1 vwCl [] H := hP
      have hD : va_D (fun q : Nat => s.heap.size ≤ q) [] := hD
      refine lv_icmp_eq (tgt := 1054) hx hb dL_law_794 (by decide) (fun _ => ?_) (fun h => absurd h (by decide +kernel))
      exact lc_tail ⟨hx, hb, hml, hr, hlocks, hown, hts, hK, hN, hZ, hX, hbl⟩ hS (lv_sub hl [0, 1, 2, 3] rfl)
    · exfalso; omega
    · exfalso; omega
    · exfalso; omega
  · skip
    have hP : va_P g.1 vwCl [((am 0), .inr (5, [.ref (am 1), .int 0, .ref (am 2), .int 0, .int 0, .ref (am 3), .ref (am 4), .ref (am 5), .ref (am 6), .int 0, .ref (am 7), .ref (am 8), .ref (am 9), .int 0, .ref (am 10), .ref (am 11), .ref (am 12), .ref (am 13), .ref (am 14), .ref (am 15), .ref (am 16), .ref (am 17), .ref (am 18), .ref (am 19), .ref (am 20), .ref (am 21), .ref (am 22)])), ((am 1), .inl (zI g, 180, .inl (upd (upd (upd (fun _ => 0) 0 60) 1 1) 2 1))), ((am 19), .inl (zI g, 4, .inl (upd (upd (upd (upd (fun _ => 0) 0 (-1)) 1 (-1)) 2 (-1)) 3 (-1))))] H := hP
    have hD : va_D (fun q : Nat => s.heap.size ≤ q) [((am 0), .inr (5, [.ref (am 1), .int 0, .ref (am 2), .int 0, .int 0, .ref (am 3), .ref (am 4), .ref (am 5), .ref (am 6), .int 0, .ref (am 7), .ref (am 8), .ref (am 9), .int 0, .ref (am 10), .ref (am 11), .ref (am 12), .ref (am 13), .ref (am 14), .ref (am 15), .ref (am 16), .ref (am 17), .ref (am 18), .ref (am 19), .ref (am 20), .ref (am 21), .ref (am 22)])), ((am 1), .inl (zI g, 180, .inl (upd (upd (upd (fun _ => 0) 0 60) 1 1) 2 1))), ((am 19), .inl (zI g, 4, .inl (upd (upd (upd (upd (fun _ => 0) 0 (-1)) 1 (-1)) 2 (-1)) 3 (-1))))] := hD
    refine lv_aload_n hx hb dL_law_770 rfl (lv_at hl 2 rfl) ?_
    refine lv_aload_n hx hb dL_law_771 rfl (lv_at hl 0 rfl) ?_
    refine lv_iload_n hx hb dL_law_772 rfl (lv_at hl 3 rfl) ?_
    refine lv_iconst (v := 1) hx hb dL_law_773 (by decide) ?_
    refine lv_iadd hx hb dL_law_774 ?_
    refine lv_topi (nm_r (e' := 1) (by decide +kernel) ?_)
    refine va_sld hx hb hX hbl hbA hS (vp_in_iff.mpr (by decide +kernel)) dL_law_775 ?_
    refine lv_topi (nm_r (e' := (xs 1)) (by rfl) ?_)
    refine lv_aload_n hx hb dL_law_776 rfl (lv_at hl 0 rfl) ?_
    refine lv_iload_n hx hb dL_law_777 rfl (lv_at hl 3 rfl) ?_
    refine lv_iconst (v := 2) hx hb dL_law_778 (by decide) ?_
    refine lv_iadd hx hb dL_law_779 ?_
    refine lv_topi (nm_r (e' := 2) (by decide +kernel) ?_)
    refine va_sld hx hb hX hbl hbA hS (vp_in_iff.mpr (by decide +kernel)) dL_law_780 ?_
    refine lv_topi (nm_r (e' := (xs 2)) (by rfl) ?_)
    refine lv_aload_n hx hb dL_law_781 rfl (lv_at hl 0 rfl) ?_
    refine lv_iload_n hx hb dL_law_782 rfl (lv_at hl 3 rfl) ?_
    refine lv_iconst (v := 3) hx hb dL_law_783 (by decide) ?_
    refine lv_iadd hx hb dL_law_784 ?_
    refine lv_topi (nm_r (e' := 3) (by decide +kernel) ?_)
    refine va_sld hx hb hX hbl hbA hS (vp_in_iff.mpr (by decide +kernel)) dL_law_785 ?_
    refine lv_topi (nm_r (e' := (xs 3)) (by rfl) ?_)
    refine lv_aload_n hx hb dL_law_786 rfl (lv_at hl 0 rfl) ?_
    refine lv_iload_n hx hb dL_law_787 rfl (lv_at hl 3 rfl) ?_
    refine lv_iconst (v := 4) hx hb dL_law_788 (by decide) ?_
    refine lv_iadd hx hb dL_law_789 ?_
    refine lv_topi (nm_r (e' := 4) (by decide +kernel) ?_)
    refine va_sld hx hb hX hbl hbA hS (vp_in_iff.mpr (by decide +kernel)) dL_law_790 ?_
    refine lv_topi (nm_r (e' := (xs 4)) (by rfl) ?_)
    refine z_calli (wr := []) hP hD hS hA [0, 1, 2] [] (by decide) rfl rfl (by decide) (va_runV (As := [.int (xs 1), .int (xs 2), .int (xs 3), .int (xs 4)]) (rest := [.int (-11)]) ⟨hx, hb, hml, hown, hts⟩ (kX5_which l g (am 0) (am 1) (am 2) (am 3) (am 4) (am 5) (am 6) (am 7) (am 8) (am 9) (am 10) (am 11) (am 12) (am 13) (am 14) (am 15) (am 16) (am 17) (am 18) (am 19) (am 20) (am 21) (am 22) H.size (xs 1) (xs 2) (xs 3) (xs 4)) ⟨callB_of 4 hts (zGood m_o_yX5_which) rfl rfl rfl (hts _ m_z_RX5) (hts _ m_m_RL_112) ⟨by decide +kernel, by decide +kernel, by decide +kernel⟩ ⟨Nat.le_of_ble_eq_true rfl, Nat.le_of_ble_eq_true rfl⟩, hts _ m_i_yX5_which, hts _ m_e_yX5_which⟩ (zPreV hK hN hZ hP hD hS hA [0, 1, 2] (by decide) rfl rfl 5 0 rfl rfl) rfl rfl hl.1 rfl (lv_room (Nat.le_of_ble_eq_true rfl)) dL_law_791 ⟨Nat.le_of_ble_eq_true rfl, Nat.le_of_ble_eq_true rfl⟩) (fun r u H locs hw hP hD hS => ?_)
    rcases hw with ⟨i_343, rfl⟩ | ⟨i_344, i_345, rfl⟩ | ⟨i_346, i_347, i_348, rfl⟩ | ⟨i_349, i_350, i_351, i_352, rfl⟩ | ⟨i_353, i_354, i_355, i_356, i_357, rfl⟩ | ⟨i_358, i_359, i_360, i_361, i_362, i_363, rfl⟩ | ⟨i_364, i_365, i_366, i_367, i_368, i_369, i_370, rfl⟩ | ⟨i_371, i_372, i_373, i_374, i_375, i_376, i_377, rfl⟩ | ⟨i_378, i_379, i_380, i_381, i_382, i_383, i_384, rfl⟩ | ⟨i_385, i_386, i_387, i_388, i_389, i_390, i_391, rfl⟩
    · exfalso; omega
    · exfalso; omega
    · exfalso; omega
    · exfalso; omega
    · exfalso; omega
    · exfalso; omega
    · exfalso; omega
    · skip
      have hP : va_P g.1 vwCl [] H := hP
      have hD : va_D (fun q : Nat => s.heap.size ≤ q) [] := hD
      refine lv_icmp_eq (tgt := 1054) hx hb dL_law_794 (by decide) (fun _ => ?_) (fun h => absurd h (by decide +kernel))
      exact lc_tail ⟨hx, hb, hml, hr, hlocks, hown, hts, hK, hN, hZ, hX, hbl⟩ hS (lv_sub hl [0, 1, 2, 3] rfl)
    · exfalso; omega
    · exfalso; omega
  · skip
    have hP : va_P g.1 vwCl [((am 0), .inr (5, [.ref (am 1), .int 0, .ref (am 2), .int 0, .int 0, .ref (am 3), .ref (am 4), .ref (am 5), .ref (am 6), .int 0, .ref (am 7), .ref (am 8), .ref (am 9), .int 0, .ref (am 10), .ref (am 11), .ref (am 12), .ref (am 13), .ref (am 14), .ref (am 15), .ref (am 16), .ref (am 17), .ref (am 18), .ref (am 19), .ref (am 20), .ref (am 21), .ref (am 22)])), ((am 1), .inl (zI g, 180, .inl (upd (upd (upd (fun _ => 0) 0 60) 1 1) 2 1))), ((am 19), .inl (zI g, 4, .inl (upd (upd (upd (upd (fun _ => 0) 0 (-1)) 1 (-1)) 2 (-1)) 3 (-1))))] H := hP
    have hD : va_D (fun q : Nat => s.heap.size ≤ q) [((am 0), .inr (5, [.ref (am 1), .int 0, .ref (am 2), .int 0, .int 0, .ref (am 3), .ref (am 4), .ref (am 5), .ref (am 6), .int 0, .ref (am 7), .ref (am 8), .ref (am 9), .int 0, .ref (am 10), .ref (am 11), .ref (am 12), .ref (am 13), .ref (am 14), .ref (am 15), .ref (am 16), .ref (am 17), .ref (am 18), .ref (am 19), .ref (am 20), .ref (am 21), .ref (am 22)])), ((am 1), .inl (zI g, 180, .inl (upd (upd (upd (fun _ => 0) 0 60) 1 1) 2 1))), ((am 19), .inl (zI g, 4, .inl (upd (upd (upd (upd (fun _ => 0) 0 (-1)) 1 (-1)) 2 (-1)) 3 (-1))))] := hD
    refine lv_aload_n hx hb dL_law_770 rfl (lv_at hl 2 rfl) ?_
    refine lv_aload_n hx hb dL_law_771 rfl (lv_at hl 0 rfl) ?_
    refine lv_iload_n hx hb dL_law_772 rfl (lv_at hl 3 rfl) ?_
    refine lv_iconst (v := 1) hx hb dL_law_773 (by decide) ?_
    refine lv_iadd hx hb dL_law_774 ?_
    refine lv_topi (nm_r (e' := 1) (by decide +kernel) ?_)
    refine va_sld hx hb hX hbl hbA hS (vp_in_iff.mpr (by decide +kernel)) dL_law_775 ?_
    refine lv_topi (nm_r (e' := (xs 1)) (by rfl) ?_)
    refine lv_aload_n hx hb dL_law_776 rfl (lv_at hl 0 rfl) ?_
    refine lv_iload_n hx hb dL_law_777 rfl (lv_at hl 3 rfl) ?_
    refine lv_iconst (v := 2) hx hb dL_law_778 (by decide) ?_
    refine lv_iadd hx hb dL_law_779 ?_
    refine lv_topi (nm_r (e' := 2) (by decide +kernel) ?_)
    refine va_sld hx hb hX hbl hbA hS (vp_in_iff.mpr (by decide +kernel)) dL_law_780 ?_
    refine lv_topi (nm_r (e' := (xs 2)) (by rfl) ?_)
    refine lv_aload_n hx hb dL_law_781 rfl (lv_at hl 0 rfl) ?_
    refine lv_iload_n hx hb dL_law_782 rfl (lv_at hl 3 rfl) ?_
    refine lv_iconst (v := 3) hx hb dL_law_783 (by decide) ?_
    refine lv_iadd hx hb dL_law_784 ?_
    refine lv_topi (nm_r (e' := 3) (by decide +kernel) ?_)
    refine va_sld hx hb hX hbl hbA hS (vp_in_iff.mpr (by decide +kernel)) dL_law_785 ?_
    refine lv_topi (nm_r (e' := (xs 3)) (by rfl) ?_)
    refine lv_aload_n hx hb dL_law_786 rfl (lv_at hl 0 rfl) ?_
    refine lv_iload_n hx hb dL_law_787 rfl (lv_at hl 3 rfl) ?_
    refine lv_iconst (v := 4) hx hb dL_law_788 (by decide) ?_
    refine lv_iadd hx hb dL_law_789 ?_
    refine lv_topi (nm_r (e' := 4) (by decide +kernel) ?_)
    refine va_sld hx hb hX hbl hbA hS (vp_in_iff.mpr (by decide +kernel)) dL_law_790 ?_
    refine lv_topi (nm_r (e' := (xs 4)) (by rfl) ?_)
    refine z_calli (wr := []) hP hD hS hA [0, 1, 2] [] (by decide) rfl rfl (by decide) (va_runV (As := [.int (xs 1), .int (xs 2), .int (xs 3), .int (xs 4)]) (rest := [.int (-11)]) ⟨hx, hb, hml, hown, hts⟩ (kX5_which l g (am 0) (am 1) (am 2) (am 3) (am 4) (am 5) (am 6) (am 7) (am 8) (am 9) (am 10) (am 11) (am 12) (am 13) (am 14) (am 15) (am 16) (am 17) (am 18) (am 19) (am 20) (am 21) (am 22) H.size (xs 1) (xs 2) (xs 3) (xs 4)) ⟨callB_of 4 hts (zGood m_o_yX5_which) rfl rfl rfl (hts _ m_z_RX5) (hts _ m_m_RL_112) ⟨by decide +kernel, by decide +kernel, by decide +kernel⟩ ⟨Nat.le_of_ble_eq_true rfl, Nat.le_of_ble_eq_true rfl⟩, hts _ m_i_yX5_which, hts _ m_e_yX5_which⟩ (zPreV hK hN hZ hP hD hS hA [0, 1, 2] (by decide) rfl rfl 5 0 rfl rfl) rfl rfl hl.1 rfl (lv_room (Nat.le_of_ble_eq_true rfl)) dL_law_791 ⟨Nat.le_of_ble_eq_true rfl, Nat.le_of_ble_eq_true rfl⟩) (fun r u H locs hw hP hD hS => ?_)
    rcases hw with ⟨i_392, rfl⟩ | ⟨i_393, i_394, rfl⟩ | ⟨i_395, i_396, i_397, rfl⟩ | ⟨i_398, i_399, i_400, i_401, rfl⟩ | ⟨i_402, i_403, i_404, i_405, i_406, rfl⟩ | ⟨i_407, i_408, i_409, i_410, i_411, i_412, rfl⟩ | ⟨i_413, i_414, i_415, i_416, i_417, i_418, i_419, rfl⟩ | ⟨i_420, i_421, i_422, i_423, i_424, i_425, i_426, rfl⟩ | ⟨i_427, i_428, i_429, i_430, i_431, i_432, i_433, rfl⟩ | ⟨i_434, i_435, i_436, i_437, i_438, i_439, i_440, rfl⟩
    · exfalso; omega
    · exfalso; omega
    · exfalso; omega
    · exfalso; omega
    · exfalso; omega
    · exfalso; omega
    · exfalso; omega
    · exfalso; omega
    · skip
      have hP : va_P g.1 vwCl [] H := hP
      have hD : va_D (fun q : Nat => s.heap.size ≤ q) [] := hD
      refine lv_icmp_eq (tgt := 1054) hx hb dL_law_794 (by decide) (fun _ => ?_) (fun h => absurd h (by decide +kernel))
      exact lc_tail ⟨hx, hb, hml, hr, hlocks, hown, hts, hK, hN, hZ, hX, hbl⟩ hS (lv_sub hl [0, 1, 2, 3] rfl)
    · exfalso; omega
  · skip
    have hP : va_P g.1 vwCl [((am 0), .inr (5, [.ref (am 1), .int 0, .ref (am 2), .int 0, .int 0, .ref (am 3), .ref (am 4), .ref (am 5), .ref (am 6), .int 0, .ref (am 7), .ref (am 8), .ref (am 9), .int 0, .ref (am 10), .ref (am 11), .ref (am 12), .ref (am 13), .ref (am 14), .ref (am 15), .ref (am 16), .ref (am 17), .ref (am 18), .ref (am 19), .ref (am 20), .ref (am 21), .ref (am 22)])), ((am 1), .inl (zI g, 180, .inl (upd (upd (upd (fun _ => 0) 0 60) 1 1) 2 1))), ((am 19), .inl (zI g, 4, .inl (upd (upd (upd (upd (fun _ => 0) 0 (-1)) 1 (-1)) 2 (-1)) 3 (-1))))] H := hP
    have hD : va_D (fun q : Nat => s.heap.size ≤ q) [((am 0), .inr (5, [.ref (am 1), .int 0, .ref (am 2), .int 0, .int 0, .ref (am 3), .ref (am 4), .ref (am 5), .ref (am 6), .int 0, .ref (am 7), .ref (am 8), .ref (am 9), .int 0, .ref (am 10), .ref (am 11), .ref (am 12), .ref (am 13), .ref (am 14), .ref (am 15), .ref (am 16), .ref (am 17), .ref (am 18), .ref (am 19), .ref (am 20), .ref (am 21), .ref (am 22)])), ((am 1), .inl (zI g, 180, .inl (upd (upd (upd (fun _ => 0) 0 60) 1 1) 2 1))), ((am 19), .inl (zI g, 4, .inl (upd (upd (upd (upd (fun _ => 0) 0 (-1)) 1 (-1)) 2 (-1)) 3 (-1))))] := hD
    refine lv_aload_n hx hb dL_law_770 rfl (lv_at hl 2 rfl) ?_
    refine lv_aload_n hx hb dL_law_771 rfl (lv_at hl 0 rfl) ?_
    refine lv_iload_n hx hb dL_law_772 rfl (lv_at hl 3 rfl) ?_
    refine lv_iconst (v := 1) hx hb dL_law_773 (by decide) ?_
    refine lv_iadd hx hb dL_law_774 ?_
    refine lv_topi (nm_r (e' := 1) (by decide +kernel) ?_)
    refine va_sld hx hb hX hbl hbA hS (vp_in_iff.mpr (by decide +kernel)) dL_law_775 ?_
    refine lv_topi (nm_r (e' := (xs 1)) (by rfl) ?_)
    refine lv_aload_n hx hb dL_law_776 rfl (lv_at hl 0 rfl) ?_
    refine lv_iload_n hx hb dL_law_777 rfl (lv_at hl 3 rfl) ?_
    refine lv_iconst (v := 2) hx hb dL_law_778 (by decide) ?_
    refine lv_iadd hx hb dL_law_779 ?_
    refine lv_topi (nm_r (e' := 2) (by decide +kernel) ?_)
    refine va_sld hx hb hX hbl hbA hS (vp_in_iff.mpr (by decide +kernel)) dL_law_780 ?_
    refine lv_topi (nm_r (e' := (xs 2)) (by rfl) ?_)
    refine lv_aload_n hx hb dL_law_781 rfl (lv_at hl 0 rfl) ?_
    refine lv_iload_n hx hb dL_law_782 rfl (lv_at hl 3 rfl) ?_
    refine lv_iconst (v := 3) hx hb dL_law_783 (by decide) ?_
    refine lv_iadd hx hb dL_law_784 ?_
    refine lv_topi (nm_r (e' := 3) (by decide +kernel) ?_)
    refine va_sld hx hb hX hbl hbA hS (vp_in_iff.mpr (by decide +kernel)) dL_law_785 ?_
    refine lv_topi (nm_r (e' := (xs 3)) (by rfl) ?_)
    refine lv_aload_n hx hb dL_law_786 rfl (lv_at hl 0 rfl) ?_
    refine lv_iload_n hx hb dL_law_787 rfl (lv_at hl 3 rfl) ?_
    refine lv_iconst (v := 4) hx hb dL_law_788 (by decide) ?_
    refine lv_iadd hx hb dL_law_789 ?_
    refine lv_topi (nm_r (e' := 4) (by decide +kernel) ?_)
    refine va_sld hx hb hX hbl hbA hS (vp_in_iff.mpr (by decide +kernel)) dL_law_790 ?_
    refine lv_topi (nm_r (e' := (xs 4)) (by rfl) ?_)
    refine z_calli (wr := []) hP hD hS hA [0, 1, 2] [] (by decide) rfl rfl (by decide) (va_runV (As := [.int (xs 1), .int (xs 2), .int (xs 3), .int (xs 4)]) (rest := [.int (-11)]) ⟨hx, hb, hml, hown, hts⟩ (kX5_which l g (am 0) (am 1) (am 2) (am 3) (am 4) (am 5) (am 6) (am 7) (am 8) (am 9) (am 10) (am 11) (am 12) (am 13) (am 14) (am 15) (am 16) (am 17) (am 18) (am 19) (am 20) (am 21) (am 22) H.size (xs 1) (xs 2) (xs 3) (xs 4)) ⟨callB_of 4 hts (zGood m_o_yX5_which) rfl rfl rfl (hts _ m_z_RX5) (hts _ m_m_RL_112) ⟨by decide +kernel, by decide +kernel, by decide +kernel⟩ ⟨Nat.le_of_ble_eq_true rfl, Nat.le_of_ble_eq_true rfl⟩, hts _ m_i_yX5_which, hts _ m_e_yX5_which⟩ (zPreV hK hN hZ hP hD hS hA [0, 1, 2] (by decide) rfl rfl 5 0 rfl rfl) rfl rfl hl.1 rfl (lv_room (Nat.le_of_ble_eq_true rfl)) dL_law_791 ⟨Nat.le_of_ble_eq_true rfl, Nat.le_of_ble_eq_true rfl⟩) (fun r u H locs hw hP hD hS => ?_)
    rcases hw with ⟨i_441, rfl⟩ | ⟨i_442, i_443, rfl⟩ | ⟨i_444, i_445, i_446, rfl⟩ | ⟨i_447, i_448, i_449, i_450, rfl⟩ | ⟨i_451, i_452, i_453, i_454, i_455, rfl⟩ | ⟨i_456, i_457, i_458, i_459, i_460, i_461, rfl⟩ | ⟨i_462, i_463, i_464, i_465, i_466, i_467, i_468, rfl⟩ | ⟨i_469, i_470, i_471, i_472, i_473, i_474, i_475, rfl⟩ | ⟨i_476, i_477, i_478, i_479, i_480, i_481, i_482, rfl⟩ | ⟨i_483, i_484, i_485, i_486, i_487, i_488, i_489, rfl⟩
    · exfalso; omega
    · exfalso; omega
    · exfalso; omega
    · exfalso; omega
    · exfalso; omega
    · exfalso; omega
    · exfalso; omega
    · exfalso; omega
    · exfalso; omega
    · skip
      have hP : va_P g.1 vwCl [] H := hP
      have hD : va_D (fun q : Nat => s.heap.size ≤ q) [] := hD
      refine lv_icmp_eq (tgt := 1054) hx hb dL_law_794 (by decide) (fun _ => ?_) (fun h => absurd h (by decide +kernel))
      exact lc_tail ⟨hx, hb, hml, hr, hlocks, hown, hts, hK, hN, hZ, hX, hbl⟩ hS (lv_sub hl [0, 1, 2, 3] rfl)
  · skip
    have hP : va_P g.1 vwCl [((am 0), .inr (5, [.ref (am 1), .int 0, .ref (am 2), .int 0, .int 0, .ref (am 3), .ref (am 4), .ref (am 5), .ref (am 6), .int 0, .ref (am 7), .ref (am 8), .ref (am 9), .int 0, .ref (am 10), .ref (am 11), .ref (am 12), .ref (am 13), .ref (am 14), .ref (am 15), .ref (am 16), .ref (am 17), .ref (am 18), .ref (am 19), .ref (am 20), .ref (am 21), .ref (am 22)])), ((am 1), .inl (zI g, 180, .inl (upd (upd (upd (fun _ => 0) 0 60) 1 1) 2 1))), ((am 19), .inl (zI g, 4, .inl (upd (upd (upd (upd (fun _ => 0) 0 (-1)) 1 (-1)) 2 (-1)) 3 (-1))))] H := hP
    have hD : va_D (fun q : Nat => s.heap.size ≤ q) [((am 0), .inr (5, [.ref (am 1), .int 0, .ref (am 2), .int 0, .int 0, .ref (am 3), .ref (am 4), .ref (am 5), .ref (am 6), .int 0, .ref (am 7), .ref (am 8), .ref (am 9), .int 0, .ref (am 10), .ref (am 11), .ref (am 12), .ref (am 13), .ref (am 14), .ref (am 15), .ref (am 16), .ref (am 17), .ref (am 18), .ref (am 19), .ref (am 20), .ref (am 21), .ref (am 22)])), ((am 1), .inl (zI g, 180, .inl (upd (upd (upd (fun _ => 0) 0 60) 1 1) 2 1))), ((am 19), .inl (zI g, 4, .inl (upd (upd (upd (upd (fun _ => 0) 0 (-1)) 1 (-1)) 2 (-1)) 3 (-1))))] := hD
    refine lv_aload_n hx hb dL_law_770 rfl (lv_at hl 2 rfl) ?_
    refine lv_aload_n hx hb dL_law_771 rfl (lv_at hl 0 rfl) ?_
    refine lv_iload_n hx hb dL_law_772 rfl (lv_at hl 3 rfl) ?_
    refine lv_iconst (v := 1) hx hb dL_law_773 (by decide) ?_
    refine lv_iadd hx hb dL_law_774 ?_
    refine lv_topi (nm_r (e' := 1) (by decide +kernel) ?_)
    refine va_sld hx hb hX hbl hbA hS (vp_in_iff.mpr (by decide +kernel)) dL_law_775 ?_
    refine lv_topi (nm_r (e' := (xs 1)) (by rfl) ?_)
    refine lv_aload_n hx hb dL_law_776 rfl (lv_at hl 0 rfl) ?_
    refine lv_iload_n hx hb dL_law_777 rfl (lv_at hl 3 rfl) ?_
    refine lv_iconst (v := 2) hx hb dL_law_778 (by decide) ?_
    refine lv_iadd hx hb dL_law_779 ?_
    refine lv_topi (nm_r (e' := 2) (by decide +kernel) ?_)
    refine va_sld hx hb hX hbl hbA hS (vp_in_iff.mpr (by decide +kernel)) dL_law_780 ?_
    refine lv_topi (nm_r (e' := (xs 2)) (by rfl) ?_)
    refine lv_aload_n hx hb dL_law_781 rfl (lv_at hl 0 rfl) ?_
    refine lv_iload_n hx hb dL_law_782 rfl (lv_at hl 3 rfl) ?_
    refine lv_iconst (v := 3) hx hb dL_law_783 (by decide) ?_
    refine lv_iadd hx hb dL_law_784 ?_
    refine lv_topi (nm_r (e' := 3) (by decide +kernel) ?_)
    refine va_sld hx hb hX hbl hbA hS (vp_in_iff.mpr (by decide +kernel)) dL_law_785 ?_
    refine lv_topi (nm_r (e' := (xs 3)) (by rfl) ?_)
    refine lv_aload_n hx hb dL_law_786 rfl (lv_at hl 0 rfl) ?_
    refine lv_iload_n hx hb dL_law_787 rfl (lv_at hl 3 rfl) ?_
    refine lv_iconst (v := 4) hx hb dL_law_788 (by decide) ?_
    refine lv_iadd hx hb dL_law_789 ?_
    refine lv_topi (nm_r (e' := 4) (by decide +kernel) ?_)
    refine va_sld hx hb hX hbl hbA hS (vp_in_iff.mpr (by decide +kernel)) dL_law_790 ?_
    refine lv_topi (nm_r (e' := (xs 4)) (by rfl) ?_)
    refine z_calli (wr := []) hP hD hS hA [0, 1, 2] [] (by decide) rfl rfl (by decide) (va_runV (As := [.int (xs 1), .int (xs 2), .int (xs 3), .int (xs 4)]) (rest := [.int (-1)]) ⟨hx, hb, hml, hown, hts⟩ (kX5_which l g (am 0) (am 1) (am 2) (am 3) (am 4) (am 5) (am 6) (am 7) (am 8) (am 9) (am 10) (am 11) (am 12) (am 13) (am 14) (am 15) (am 16) (am 17) (am 18) (am 19) (am 20) (am 21) (am 22) H.size (xs 1) (xs 2) (xs 3) (xs 4)) ⟨callB_of 4 hts (zGood m_o_yX5_which) rfl rfl rfl (hts _ m_z_RX5) (hts _ m_m_RL_112) ⟨by decide +kernel, by decide +kernel, by decide +kernel⟩ ⟨Nat.le_of_ble_eq_true rfl, Nat.le_of_ble_eq_true rfl⟩, hts _ m_i_yX5_which, hts _ m_e_yX5_which⟩ (zPreV hK hN hZ hP hD hS hA [0, 1, 2] (by decide) rfl rfl 5 0 rfl rfl) rfl rfl hl.1 rfl (lv_room (Nat.le_of_ble_eq_true rfl)) dL_law_791 ⟨Nat.le_of_ble_eq_true rfl, Nat.le_of_ble_eq_true rfl⟩) (fun r u H locs hw hP hD hS => ?_)
    rcases hw with ⟨i_490, rfl⟩ | ⟨i_491, i_492, rfl⟩ | ⟨i_493, i_494, i_495, rfl⟩ | ⟨i_496, i_497, i_498, i_499, rfl⟩ | ⟨i_500, i_501, i_502, i_503, i_504, rfl⟩ | ⟨i_505, i_506, i_507, i_508, i_509, i_510, rfl⟩ | ⟨i_511, i_512, i_513, i_514, i_515, i_516, i_517, rfl⟩ | ⟨i_518, i_519, i_520, i_521, i_522, i_523, i_524, rfl⟩ | ⟨i_525, i_526, i_527, i_528, i_529, i_530, i_531, rfl⟩ | ⟨i_532, i_533, i_534, i_535, i_536, i_537, i_538, rfl⟩
    · skip
      have hP : va_P g.1 vwCl [] H := hP
      have hD : va_D (fun q : Nat => s.heap.size ≤ q) [] := hD
      refine lv_icmp_eq (tgt := 1054) hx hb dL_law_794 (by decide) (fun _ => ?_) (fun h => absurd h (by decide +kernel))
      exact lc_tail ⟨hx, hb, hml, hr, hlocks, hown, hts, hK, hN, hZ, hX, hbl⟩ hS (lv_sub hl [0, 1, 2, 3] rfl)
    · skip
      have hP : va_P g.1 vwCl [] H := hP
      have hD : va_D (fun q : Nat => s.heap.size ≤ q) [] := hD
      refine lv_icmp_eq (tgt := 1054) hx hb dL_law_794 (by decide) (fun _ => ?_) (fun h => absurd h (by decide +kernel))
      exact lc_tail ⟨hx, hb, hml, hr, hlocks, hown, hts, hK, hN, hZ, hX, hbl⟩ hS (lv_sub hl [0, 1, 2, 3] rfl)
    · skip
      have hP : va_P g.1 vwCl [] H := hP
      have hD : va_D (fun q : Nat => s.heap.size ≤ q) [] := hD
      refine lv_icmp_eq (tgt := 1054) hx hb dL_law_794 (by decide) (fun _ => ?_) (fun h => absurd h (by decide +kernel))
      exact lc_tail ⟨hx, hb, hml, hr, hlocks, hown, hts, hK, hN, hZ, hX, hbl⟩ hS (lv_sub hl [0, 1, 2, 3] rfl)
    · skip
      have hP : va_P g.1 vwCl [] H := hP
      have hD : va_D (fun q : Nat => s.heap.size ≤ q) [] := hD
      refine lv_icmp_eq (tgt := 1054) hx hb dL_law_794 (by decide) (fun _ => ?_) (fun h => absurd h (by decide +kernel))
      exact lc_tail ⟨hx, hb, hml, hr, hlocks, hown, hts, hK, hN, hZ, hX, hbl⟩ hS (lv_sub hl [0, 1, 2, 3] rfl)
    · exfalso; omega
    · skip
      have hP : va_P g.1 vwCl [] H := hP
      have hD : va_D (fun q : Nat => s.heap.size ≤ q) [] := hD
      refine lv_icmp_eq (tgt := 1054) hx hb dL_law_794 (by decide) (fun _ => ?_) (fun h => absurd h (by decide +kernel))
      exact lc_tail ⟨hx, hb, hml, hr, hlocks, hown, hts, hK, hN, hZ, hX, hbl⟩ hS (lv_sub hl [0, 1, 2, 3] rfl)
    · exfalso; omega
    · exfalso; omega
    · exfalso; omega
    · exfalso; omega

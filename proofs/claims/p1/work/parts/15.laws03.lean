set_option maxHeartbeats 4000000 in
set_option maxRecDepth 100000 in
theorem lc_film {p : Program} {l : Launch} {e : Env} {s : State} {m : MethodId} {below : List Frame} {meth : Method} {c : Code} {b : Nat} {xs : Nat → Int32} {g : zG} (C0 : lC g p s m meth c b xs) {ax am : Nat → Nat} {H : Heap} {locs : List Loc} (hP : va_P g.1 vwCl (lW g ax am) H) (hD : va_D (fun q : Nat => s.heap.size ≤ q) (lW g ax am)) (hS : va_S (fun q : Nat => s.heap.size ≤ q) s.heap H locs) {ls : Array Slot} (hl : lv_has ls 4 [(0, .ref b), (1, .ref (ax 0)), (2, .ref (am 0)), (3, .int 0)]) : W p l e room_1 s m #[Value.ref b] below meth c H locs 600000 7302250 (lw_Z below #[Value.ref b] s) (F0 m 799 ls []) := by
  obtain ⟨hx, hb, hml, hr, hlocks, hown, hts, hK, hN, hZ, hX, hbl⟩ := C0
  have hA : ∀ q : Nat, s.heap.size ≤ q → (fun q : Nat => s.heap.size ≤ q) q := fun _ h => h
  have hbA : ¬ (fun q : Nat => s.heap.size ≤ q) b := Nat.not_le.mpr hbl
  have hP := hP.sub (ws' := [((ax 0), .inr (4, [.ref (ax 1), .ref (ax 10), .int 0, .ref (ax 19), .ref (ax 30), .ref (ax 32), .ref (ax 36), .int (-1), .ref (ax 37), .ref (ax 38), .ref (ax 39), .ref (ax 40)])), ((ax 1), .inr (0, [.ref (ax 2), .int 0, .ref (ax 3), .int 0, .ref (ax 4), .ref (ax 5), .ref (ax 6), .ref (ax 7), .ref (ax 8), .ref (ax 9), .int 0])), ((ax 32), .inr (1, [.ref (ax 33), .ref (ax 34), .ref (ax 35)])), ((ax 33), .inl (zI g, 4, .inl (upd (upd (upd (upd (fun _ => 0) 0 (-1)) 1 (-1)) 2 (-1)) 3 (-1)))), ((am 0), .inr (5, [.ref (am 1), .int 0, .ref (am 2), .int 0, .int 0, .ref (am 3), .ref (am 4), .ref (am 5), .ref (am 6), .int 0, .ref (am 7), .ref (am 8), .ref (am 9), .int 0, .ref (am 10), .ref (am 11), .ref (am 12), .ref (am 13), .ref (am 14), .ref (am 15), .ref (am 16), .ref (am 17), .ref (am 18), .ref (am 19), .ref (am 20), .ref (am 21), .ref (am 22)])), ((am 1), .inl (zI g, 180, .inl (upd (upd (upd (fun _ => 0) 0 60) 1 1) 2 1))), ((am 19), .inl (zI g, 4, .inl (upd (upd (upd (upd (fun _ => 0) 0 (-1)) 1 (-1)) 2 (-1)) 3 (-1))))]) [0, 1, 32, 33, 41, 42, 60] rfl
  have hD := hD.sub (ws' := [((ax 0), .inr (4, [.ref (ax 1), .ref (ax 10), .int 0, .ref (ax 19), .ref (ax 30), .ref (ax 32), .ref (ax 36), .int (-1), .ref (ax 37), .ref (ax 38), .ref (ax 39), .ref (ax 40)])), ((ax 1), .inr (0, [.ref (ax 2), .int 0, .ref (ax 3), .int 0, .ref (ax 4), .ref (ax 5), .ref (ax 6), .ref (ax 7), .ref (ax 8), .ref (ax 9), .int 0])), ((ax 32), .inr (1, [.ref (ax 33), .ref (ax 34), .ref (ax 35)])), ((ax 33), .inl (zI g, 4, .inl (upd (upd (upd (upd (fun _ => 0) 0 (-1)) 1 (-1)) 2 (-1)) 3 (-1)))), ((am 0), .inr (5, [.ref (am 1), .int 0, .ref (am 2), .int 0, .int 0, .ref (am 3), .ref (am 4), .ref (am 5), .ref (am 6), .int 0, .ref (am 7), .ref (am 8), .ref (am 9), .int 0, .ref (am 10), .ref (am 11), .ref (am 12), .ref (am 13), .ref (am 14), .ref (am 15), .ref (am 16), .ref (am 17), .ref (am 18), .ref (am 19), .ref (am 20), .ref (am 21), .ref (am 22)])), ((am 1), .inl (zI g, 180, .inl (upd (upd (upd (fun _ => 0) 0 60) 1 1) 2 1))), ((am 19), .inl (zI g, 4, .inl (upd (upd (upd (upd (fun _ => 0) 0 (-1)) 1 (-1)) 2 (-1)) 3 (-1))))]) [0, 1, 32, 33, 41, 42, 60] (by decide) rfl
  refine lv_aload_n hx hb dL_law_799 rfl (lv_at hl 1 rfl) ?_
  refine lv_aload_n hx hb dL_law_800 rfl (lv_at hl 0 rfl) ?_
  refine lv_iload_n hx hb dL_law_801 rfl (lv_at hl 3 rfl) ?_
  refine lv_iconst (v := 1) hx hb dL_law_802 (by decide) ?_
  refine lv_iadd hx hb dL_law_803 ?_
  refine lv_topi (nm_r (e' := 1) (by decide +kernel) ?_)
  refine va_sld hx hb hX hbl hbA hS (vp_in_iff.mpr (by decide +kernel)) dL_law_804 ?_
  refine lv_topi (nm_r (e' := (xs 1)) (by rfl) ?_)
  refine lv_aload_n hx hb dL_law_805 rfl (lv_at hl 0 rfl) ?_
  refine lv_iload_n hx hb dL_law_806 rfl (lv_at hl 3 rfl) ?_
  refine lv_iconst (v := 2) hx hb dL_law_807 (by decide) ?_
  refine lv_iadd hx hb dL_law_808 ?_
  refine lv_topi (nm_r (e' := 2) (by decide +kernel) ?_)
  refine va_sld hx hb hX hbl hbA hS (vp_in_iff.mpr (by decide +kernel)) dL_law_809 ?_
  refine lv_topi (nm_r (e' := (xs 2)) (by rfl) ?_)
  refine lv_aload_n hx hb dL_law_810 rfl (lv_at hl 0 rfl) ?_
  refine lv_iload_n hx hb dL_law_811 rfl (lv_at hl 3 rfl) ?_
  refine lv_iconst (v := 3) hx hb dL_law_812 (by decide) ?_
  refine lv_iadd hx hb dL_law_813 ?_
  refine lv_topi (nm_r (e' := 3) (by decide +kernel) ?_)
  refine va_sld hx hb hX hbl hbA hS (vp_in_iff.mpr (by decide +kernel)) dL_law_814 ?_
  refine lv_topi (nm_r (e' := (xs 3)) (by rfl) ?_)
  refine z_calli (wr := [((am 0), .inr (5, [.ref (am 1), .int 0, .ref (am 2), .int 0, .int 0, .ref (am 3), .ref (am 4), .ref (am 5), .ref (am 6), .int 0, .ref (am 7), .ref (am 8), .ref (am 9), .int 0, .ref (am 10), .ref (am 11), .ref (am 12), .ref (am 13), .ref (am 14), .ref (am 15), .ref (am 16), .ref (am 17), .ref (am 18), .ref (am 19), .ref (am 20), .ref (am 21), .ref (am 22)])), ((am 1), .inl (zI g, 180, .inl (upd (upd (upd (fun _ => 0) 0 60) 1 1) 2 1))), ((am 19), .inl (zI g, 4, .inl (upd (upd (upd (upd (fun _ => 0) 0 (-1)) 1 (-1)) 2 (-1)) 3 (-1))))]) hP hD hS hA [0, 1, 2, 3] [4, 5, 6] (by decide) rfl rfl (by decide) (va_runV (As := [.int (xs 1), .int (xs 2), .int (xs 3)]) (rest := []) ⟨hx, hb, hml, hown, hts⟩ (kX4_film l g (ax 0) (ax 1) (ax 10) (ax 19) (ax 30) (ax 32) (ax 36) (ax 37) (ax 38) (ax 39) (ax 40) (ax 2) (ax 3) (ax 4) (ax 5) (ax 6) (ax 7) (ax 8) (ax 9) (ax 33) (ax 34) (ax 35) H.size (xs 1) (xs 2) (xs 3)) ⟨callB_of 3 hts (zGood m_o_yX4_film) rfl rfl rfl (hts _ m_z_RX4) (hts _ m_m_RL_113) ⟨by decide +kernel, by decide +kernel, by decide +kernel⟩ ⟨Nat.le_of_ble_eq_true rfl, Nat.le_of_ble_eq_true rfl⟩, hts _ m_i_yX4_film, hts _ m_e_yX4_film⟩ (zPreV hK hN hZ hP hD hS hA [0, 1, 2, 3] (by decide) rfl rfl 4 0 rfl rfl) rfl rfl hl.1 rfl (lv_room (Nat.le_of_ble_eq_true rfl)) dL_law_815 ⟨Nat.le_of_ble_eq_true rfl, Nat.le_of_ble_eq_true rfl⟩) (fun r u H locs hw hP hD hS => ?_)
  rcases hw with ⟨i_0, rfl⟩ | ⟨i_1, i_2, rfl⟩ | ⟨i_3, i_4, i_5, rfl⟩ | ⟨i_6, i_7, i_8, i_9, rfl⟩ | ⟨i_10, i_11, i_12, i_13, i_14, rfl⟩ | ⟨i_15, i_16, i_17, i_18, i_19, rfl⟩ | ⟨i_20, i_21, i_22, i_23, i_24, rfl⟩ | ⟨i_25, i_26, i_27, i_28, i_29, rfl⟩
  · skip
    have hP : va_P g.1 vwCl [((am 0), .inr (5, [.ref (am 1), .int 0, .ref (am 2), .int 0, .int 0, .ref (am 3), .ref (am 4), .ref (am 5), .ref (am 6), .int 0, .ref (am 7), .ref (am 8), .ref (am 9), .int 0, .ref (am 10), .ref (am 11), .ref (am 12), .ref (am 13), .ref (am 14), .ref (am 15), .ref (am 16), .ref (am 17), .ref (am 18), .ref (am 19), .ref (am 20), .ref (am 21), .ref (am 22)])), ((am 1), .inl (zI g, 180, .inl (upd (upd (upd (fun _ => 0) 0 60) 1 1) 2 1))), ((am 19), .inl (zI g, 4, .inl (upd (upd (upd (upd (fun _ => 0) 0 (-1)) 1 (-1)) 2 (-1)) 3 (-1))))] H := hP
    have hD : va_D (fun q : Nat => s.heap.size ≤ q) [((am 0), .inr (5, [.ref (am 1), .int 0, .ref (am 2), .int 0, .int 0, .ref (am 3), .ref (am 4), .ref (am 5), .ref (am 6), .int 0, .ref (am 7), .ref (am 8), .ref (am 9), .int 0, .ref (am 10), .ref (am 11), .ref (am 12), .ref (am 13), .ref (am 14), .ref (am 15), .ref (am 16), .ref (am 17), .ref (am 18), .ref (am 19), .ref (am 20), .ref (am 21), .ref (am 22)])), ((am 1), .inl (zI g, 180, .inl (upd (upd (upd (fun _ => 0) 0 60) 1 1) 2 1))), ((am 19), .inl (zI g, 4, .inl (upd (upd (upd (upd (fun _ => 0) 0 (-1)) 1 (-1)) 2 (-1)) 3 (-1))))] := hD
    refine lv_aload_n hx hb dL_law_818 rfl (lv_at hl 2 rfl) ?_
    refine lv_aload_n hx hb dL_law_819 rfl (lv_at hl 0 rfl) ?_
    refine lv_iload_n hx hb dL_law_820 rfl (lv_at hl 3 rfl) ?_
    refine lv_iconst (v := 1) hx hb dL_law_821 (by decide) ?_
    refine lv_iadd hx hb dL_law_822 ?_
    refine lv_topi (nm_r (e' := 1) (by decide +kernel) ?_)
    refine va_sld hx hb hX hbl hbA hS (vp_in_iff.mpr (by decide +kernel)) dL_law_823 ?_
    refine lv_topi (nm_r (e' := (xs 1)) (by rfl) ?_)
    refine lv_aload_n hx hb dL_law_824 rfl (lv_at hl 0 rfl) ?_
    refine lv_iload_n hx hb dL_law_825 rfl (lv_at hl 3 rfl) ?_
    refine lv_iconst (v := 2) hx hb dL_law_826 (by decide) ?_
    refine lv_iadd hx hb dL_law_827 ?_
    refine lv_topi (nm_r (e' := 2) (by decide +kernel) ?_)
    refine va_sld hx hb hX hbl hbA hS (vp_in_iff.mpr (by decide +kernel)) dL_law_828 ?_
    refine lv_topi (nm_r (e' := (xs 2)) (by rfl) ?_)
    refine lv_aload_n hx hb dL_law_829 rfl (lv_at hl 0 rfl) ?_
    refine lv_iload_n hx hb dL_law_830 rfl (lv_at hl 3 rfl) ?_
    refine lv_iconst (v := 3) hx hb dL_law_831 (by decide) ?_
    refine lv_iadd hx hb dL_law_832 ?_
    refine lv_topi (nm_r (e' := 3) (by decide +kernel) ?_)
    refine va_sld hx hb hX hbl hbA hS (vp_in_iff.mpr (by decide +kernel)) dL_law_833 ?_
    refine lv_topi (nm_r (e' := (xs 3)) (by rfl) ?_)
    refine z_calli (wr := []) hP hD hS hA [0, 1, 2] [] (by decide) rfl rfl (by decide) (va_runV (As := [.int (xs 1), .int (xs 2), .int (xs 3)]) (rest := [.int (-1)]) ⟨hx, hb, hml, hown, hts⟩ (kX5_film l g (am 0) (am 1) (am 2) (am 3) (am 4) (am 5) (am 6) (am 7) (am 8) (am 9) (am 10) (am 11) (am 12) (am 13) (am 14) (am 15) (am 16) (am 17) (am 18) (am 19) (am 20) (am 21) (am 22) H.size (xs 1) (xs 2) (xs 3)) ⟨callB_of 3 hts (zGood m_o_yX5_film) rfl rfl rfl (hts _ m_z_RX5) (hts _ m_m_RL_116) ⟨by decide +kernel, by decide +kernel, by decide +kernel⟩ ⟨Nat.le_of_ble_eq_true rfl, Nat.le_of_ble_eq_true rfl⟩, hts _ m_i_yX5_film, hts _ m_e_yX5_film⟩ (zPreV hK hN hZ hP hD hS hA [0, 1, 2] (by decide) rfl rfl 5 0 rfl rfl) rfl rfl hl.1 rfl (lv_room (Nat.le_of_ble_eq_true rfl)) dL_law_834 ⟨Nat.le_of_ble_eq_true rfl, Nat.le_of_ble_eq_true rfl⟩) (fun r u H locs hw hP hD hS => ?_)
    rcases hw with ⟨i_30, rfl⟩ | ⟨i_31, i_32, rfl⟩ | ⟨i_33, i_34, i_35, rfl⟩ | ⟨i_36, i_37, i_38, i_39, rfl⟩ | ⟨i_40, i_41, i_42, i_43, i_44, rfl⟩ | ⟨i_45, i_46, i_47, i_48, i_49, rfl⟩ | ⟨i_50, i_51, i_52, i_53, i_54, rfl⟩ | ⟨i_55, i_56, i_57, i_58, i_59, rfl⟩
    · skip
      have hP : va_P g.1 vwCl [] H := hP
      have hD : va_D (fun q : Nat => s.heap.size ≤ q) [] := hD
      refine lv_icmp_eq (tgt := 1054) hx hb dL_law_837 (by decide) (fun _ => ?_) (fun h => absurd h (by decide +kernel))
      exact lc_tail ⟨hx, hb, hml, hr, hlocks, hown, hts, hK, hN, hZ, hX, hbl⟩ hS (lv_sub hl [0, 1, 2, 3] rfl)
    · exfalso; omega
    · exfalso; omega
    · exfalso; omega
    · exfalso; omega
    · exfalso; omega
    · exfalso; omega
    · exfalso; omega
  · skip
    have hP : va_P g.1 vwCl [((am 0), .inr (5, [.ref (am 1), .int 0, .ref (am 2), .int 0, .int 0, .ref (am 3), .ref (am 4), .ref (am 5), .ref (am 6), .int 0, .ref (am 7), .ref (am 8), .ref (am 9), .int 0, .ref (am 10), .ref (am 11), .ref (am 12), .ref (am 13), .ref (am 14), .ref (am 15), .ref (am 16), .ref (am 17), .ref (am 18), .ref (am 19), .ref (am 20), .ref (am 21), .ref (am 22)])), ((am 1), .inl (zI g, 180, .inl (upd (upd (upd (fun _ => 0) 0 60) 1 1) 2 1))), ((am 19), .inl (zI g, 4, .inl (upd (upd (upd (upd (fun _ => 0) 0 (-1)) 1 (-1)) 2 (-1)) 3 (-1))))] H := hP
    have hD : va_D (fun q : Nat => s.heap.size ≤ q) [((am 0), .inr (5, [.ref (am 1), .int 0, .ref (am 2), .int 0, .int 0, .ref (am 3), .ref (am 4), .ref (am 5), .ref (am 6), .int 0, .ref (am 7), .ref (am 8), .ref (am 9), .int 0, .ref (am 10), .ref (am 11), .ref (am 12), .ref (am 13), .ref (am 14), .ref (am 15), .ref (am 16), .ref (am 17), .ref (am 18), .ref (am 19), .ref (am 20), .ref (am 21), .ref (am 22)])), ((am 1), .inl (zI g, 180, .inl (upd (upd (upd (fun _ => 0) 0 60) 1 1) 2 1))), ((am 19), .inl (zI g, 4, .inl (upd (upd (upd (upd (fun _ => 0) 0 (-1)) 1 (-1)) 2 (-1)) 3 (-1))))] := hD
    refine lv_aload_n hx hb dL_law_818 rfl (lv_at hl 2 rfl) ?_
    refine lv_aload_n hx hb dL_law_819 rfl (lv_at hl 0 rfl) ?_
    refine lv_iload_n hx hb dL_law_820 rfl (lv_at hl 3 rfl) ?_
    refine lv_iconst (v := 1) hx hb dL_law_821 (by decide) ?_
    refine lv_iadd hx hb dL_law_822 ?_
    refine lv_topi (nm_r (e' := 1) (by decide +kernel) ?_)
    refine va_sld hx hb hX hbl hbA hS (vp_in_iff.mpr (by decide +kernel)) dL_law_823 ?_
    refine lv_topi (nm_r (e' := (xs 1)) (by rfl) ?_)
    refine lv_aload_n hx hb dL_law_824 rfl (lv_at hl 0 rfl) ?_
    refine lv_iload_n hx hb dL_law_825 rfl (lv_at hl 3 rfl) ?_
    refine lv_iconst (v := 2) hx hb dL_law_826 (by decide) ?_
    refine lv_iadd hx hb dL_law_827 ?_
    refine lv_topi (nm_r (e' := 2) (by decide +kernel) ?_)
    refine va_sld hx hb hX hbl hbA hS (vp_in_iff.mpr (by decide +kernel)) dL_law_828 ?_
    refine lv_topi (nm_r (e' := (xs 2)) (by rfl) ?_)
    refine lv_aload_n hx hb dL_law_829 rfl (lv_at hl 0 rfl) ?_
    refine lv_iload_n hx hb dL_law_830 rfl (lv_at hl 3 rfl) ?_
    refine lv_iconst (v := 3) hx hb dL_law_831 (by decide) ?_
    refine lv_iadd hx hb dL_law_832 ?_
    refine lv_topi (nm_r (e' := 3) (by decide +kernel) ?_)
    refine va_sld hx hb hX hbl hbA hS (vp_in_iff.mpr (by decide +kernel)) dL_law_833 ?_
    refine lv_topi (nm_r (e' := (xs 3)) (by rfl) ?_)
    refine z_calli (wr := []) hP hD hS hA [0, 1, 2] [] (by decide) rfl rfl (by decide) (va_runV (As := [.int (xs 1), .int (xs 2), .int (xs 3)]) (rest := [.int (-1)]) ⟨hx, hb, hml, hown, hts⟩ (kX5_film l g (am 0) (am 1) (am 2) (am 3) (am 4) (am 5) (am 6) (am 7) (am 8) (am 9) (am 10) (am 11) (am 12) (am 13) (am 14) (am 15) (am 16) (am 17) (am 18) (am 19) (am 20) (am 21) (am 22) H.size (xs 1) (xs 2) (xs 3)) ⟨callB_of 3 hts (zGood m_o_yX5_film) rfl rfl rfl (hts _ m_z_RX5) (hts _ m_m_RL_116) ⟨by decide +kernel, by decide +kernel, by decide +kernel⟩ ⟨Nat.le_of_ble_eq_true rfl, Nat.le_of_ble_eq_true rfl⟩, hts _ m_i_yX5_film, hts _ m_e_yX5_film⟩ (zPreV hK hN hZ hP hD hS hA [0, 1, 2] (by decide) rfl rfl 5 0 rfl rfl) rfl rfl hl.1 rfl (lv_room (Nat.le_of_ble_eq_true rfl)) dL_law_834 ⟨Nat.le_of_ble_eq_true rfl, Nat.le_of_ble_eq_true rfl⟩) (fun r u H locs hw hP hD hS => ?_)
    rcases hw with ⟨i_60, rfl⟩ | ⟨i_61, i_62, rfl⟩ | ⟨i_63, i_64, i_65, rfl⟩ | ⟨i_66, i_67, i_68, i_69, rfl⟩ | ⟨i_70, i_71, i_72, i_73, i_74, rfl⟩ | ⟨i_75, i_76, i_77, i_78, i_79, rfl⟩ | ⟨i_80, i_81, i_82, i_83, i_84, rfl⟩ | ⟨i_85, i_86, i_87, i_88, i_89, rfl⟩
    · exfalso; omega
    · skip
      have hP : va_P g.1 vwCl [] H := hP
      have hD : va_D (fun q : Nat => s.heap.size ≤ q) [] := hD
      refine lv_icmp_eq (tgt := 1054) hx hb dL_law_837 (by decide) (fun _ => ?_) (fun h => absurd h (by decide +kernel))
      exact lc_tail ⟨hx, hb, hml, hr, hlocks, hown, hts, hK, hN, hZ, hX, hbl⟩ hS (lv_sub hl [0, 1, 2, 3] rfl)
    · exfalso; omega
    · exfalso; omega
    · exfalso; omega
    · exfalso; omega
    · exfalso; omega
    · exfalso; omega
  · skip
    have hP : va_P g.1 vwCl [((am 0), .inr (5, [.ref (am 1), .int 0, .ref (am 2), .int 0, .int 0, .ref (am 3), .ref (am 4), .ref (am 5), .ref (am 6), .int 0, .ref (am 7), .ref (am 8), .ref (am 9), .int 0, .ref (am 10), .ref (am 11), .ref (am 12), .ref (am 13), .ref (am 14), .ref (am 15), .ref (am 16), .ref (am 17), .ref (am 18), .ref (am 19), .ref (am 20), .ref (am 21), .ref (am 22)])), ((am 1), .inl (zI g, 180, .inl (upd (upd (upd (fun _ => 0) 0 60) 1 1) 2 1))), ((am 19), .inl (zI g, 4, .inl (upd (upd (upd (upd (fun _ => 0) 0 (-1)) 1 (-1)) 2 (-1)) 3 (-1))))] H := hP
    have hD : va_D (fun q : Nat => s.heap.size ≤ q) [((am 0), .inr (5, [.ref (am 1), .int 0, .ref (am 2), .int 0, .int 0, .ref (am 3), .ref (am 4), .ref (am 5), .ref (am 6), .int 0, .ref (am 7), .ref (am 8), .ref (am 9), .int 0, .ref (am 10), .ref (am 11), .ref (am 12), .ref (am 13), .ref (am 14), .ref (am 15), .ref (am 16), .ref (am 17), .ref (am 18), .ref (am 19), .ref (am 20), .ref (am 21), .ref (am 22)])), ((am 1), .inl (zI g, 180, .inl (upd (upd (upd (fun _ => 0) 0 60) 1 1) 2 1))), ((am 19), .inl (zI g, 4, .inl (upd (upd (upd (upd (fun _ => 0) 0 (-1)) 1 (-1)) 2 (-1)) 3 (-1))))] := hD
    refine lv_aload_n hx hb dL_law_818 rfl (lv_at hl 2 rfl) ?_
    refine lv_aload_n hx hb dL_law_819 rfl (lv_at hl 0 rfl) ?_
    refine lv_iload_n hx hb dL_law_820 rfl (lv_at hl 3 rfl) ?_
    refine lv_iconst (v := 1) hx hb dL_law_821 (by decide) ?_
    refine lv_iadd hx hb dL_law_822 ?_
    refine lv_topi (nm_r (e' := 1) (by decide +kernel) ?_)
    refine va_sld hx hb hX hbl hbA hS (vp_in_iff.mpr (by decide +kernel)) dL_law_823 ?_
    refine lv_topi (nm_r (e' := (xs 1)) (by rfl) ?_)
    refine lv_aload_n hx hb dL_law_824 rfl (lv_at hl 0 rfl) ?_
    refine lv_iload_n hx hb dL_law_825 rfl (lv_at hl 3 rfl) ?_
    refine lv_iconst (v := 2) hx hb dL_law_826 (by decide) ?_
    refine lv_iadd hx hb dL_law_827 ?_
    refine lv_topi (nm_r (e' := 2) (by decide +kernel) ?_)
    refine va_sld hx hb hX hbl hbA hS (vp_in_iff.mpr (by decide +kernel)) dL_law_828 ?_
    refine lv_topi (nm_r (e' := (xs 2)) (by rfl) ?_)
    refine lv_aload_n hx hb dL_law_829 rfl (lv_at hl 0 rfl) ?_
    refine lv_iload_n hx hb dL_law_830 rfl (lv_at hl 3 rfl) ?_
    refine lv_iconst (v := 3) hx hb dL_law_831 (by decide) ?_
    refine lv_iadd hx hb dL_law_832 ?_
    refine lv_topi (nm_r (e' := 3) (by decide +kernel) ?_)
    refine va_sld hx hb hX hbl hbA hS (vp_in_iff.mpr (by decide +kernel)) dL_law_833 ?_
    refine lv_topi (nm_r (e' := (xs 3)) (by rfl) ?_)
    refine z_calli (wr := []) hP hD hS hA [0, 1, 2] [] (by decide) rfl rfl (by decide) (va_runV (As := [.int (xs 1), .int (xs 2), .int (xs 3)]) (rest := [.int (-1)]) ⟨hx, hb, hml, hown, hts⟩ (kX5_film l g (am 0) (am 1) (am 2) (am 3) (am 4) (am 5) (am 6) (am 7) (am 8) (am 9) (am 10) (am 11) (am 12) (am 13) (am 14) (am 15) (am 16) (am 17) (am 18) (am 19) (am 20) (am 21) (am 22) H.size (xs 1) (xs 2) (xs 3)) ⟨callB_of 3 hts (zGood m_o_yX5_film) rfl rfl rfl (hts _ m_z_RX5) (hts _ m_m_RL_116) ⟨by decide +kernel, by decide +kernel, by decide +kernel⟩ ⟨Nat.le_of_ble_eq_true rfl, Nat.le_of_ble_eq_true rfl⟩, hts _ m_i_yX5_film, hts _ m_e_yX5_film⟩ (zPreV hK hN hZ hP hD hS hA [0, 1, 2] (by decide) rfl rfl 5 0 rfl rfl) rfl rfl hl.1 rfl (lv_room (Nat.le_of_ble_eq_true rfl)) dL_law_834 ⟨Nat.le_of_ble_eq_true rfl, Nat.le_of_ble_eq_true rfl⟩) (fun r u H locs hw hP hD hS => ?_)
    rcases hw with ⟨i_90, rfl⟩ | ⟨i_91, i_92, rfl⟩ | ⟨i_93, i_94, i_95, rfl⟩ | ⟨i_96, i_97, i_98, i_99, rfl⟩ | ⟨i_100, i_101, i_102, i_103, i_104, rfl⟩ | ⟨i_105, i_106, i_107, i_108, i_109, rfl⟩ | ⟨i_110, i_111, i_112, i_113, i_114, rfl⟩ | ⟨i_115, i_116, i_117, i_118, i_119, rfl⟩
    · exfalso; omega
    · exfalso; omega
    · skip
      have hP : va_P g.1 vwCl [] H := hP
      have hD : va_D (fun q : Nat => s.heap.size ≤ q) [] := hD
      refine lv_icmp_eq (tgt := 1054) hx hb dL_law_837 (by decide) (fun _ => ?_) (fun h => absurd h (by decide +kernel))
      exact lc_tail ⟨hx, hb, hml, hr, hlocks, hown, hts, hK, hN, hZ, hX, hbl⟩ hS (lv_sub hl [0, 1, 2, 3] rfl)
    · exfalso; omega
    · exfalso; omega
    · exfalso; omega
    · exfalso; omega
    · exfalso; omega
  · skip
    have hP : va_P g.1 vwCl [((am 0), .inr (5, [.ref (am 1), .int 0, .ref (am 2), .int 0, .int 0, .ref (am 3), .ref (am 4), .ref (am 5), .ref (am 6), .int 0, .ref (am 7), .ref (am 8), .ref (am 9), .int 0, .ref (am 10), .ref (am 11), .ref (am 12), .ref (am 13), .ref (am 14), .ref (am 15), .ref (am 16), .ref (am 17), .ref (am 18), .ref (am 19), .ref (am 20), .ref (am 21), .ref (am 22)])), ((am 1), .inl (zI g, 180, .inl (upd (upd (upd (fun _ => 0) 0 60) 1 1) 2 1))), ((am 19), .inl (zI g, 4, .inl (upd (upd (upd (upd (fun _ => 0) 0 (-1)) 1 (-1)) 2 (-1)) 3 (-1))))] H := hP
    have hD : va_D (fun q : Nat => s.heap.size ≤ q) [((am 0), .inr (5, [.ref (am 1), .int 0, .ref (am 2), .int 0, .int 0, .ref (am 3), .ref (am 4), .ref (am 5), .ref (am 6), .int 0, .ref (am 7), .ref (am 8), .ref (am 9), .int 0, .ref (am 10), .ref (am 11), .ref (am 12), .ref (am 13), .ref (am 14), .ref (am 15), .ref (am 16), .ref (am 17), .ref (am 18), .ref (am 19), .ref (am 20), .ref (am 21), .ref (am 22)])), ((am 1), .inl (zI g, 180, .inl (upd (upd (upd (fun _ => 0) 0 60) 1 1) 2 1))), ((am 19), .inl (zI g, 4, .inl (upd (upd (upd (upd (fun _ => 0) 0 (-1)) 1 (-1)) 2 (-1)) 3 (-1))))] := hD
    refine lv_aload_n hx hb dL_law_818 rfl (lv_at hl 2 rfl) ?_
    refine lv_aload_n hx hb dL_law_819 rfl (lv_at hl 0 rfl) ?_
    refine lv_iload_n hx hb dL_law_820 rfl (lv_at hl 3 rfl) ?_
    refine lv_iconst (v := 1) hx hb dL_law_821 (by decide) ?_
    refine lv_iadd hx hb dL_law_822 ?_
    refine lv_topi (nm_r (e' := 1) (by decide +kernel) ?_)
    refine va_sld hx hb hX hbl hbA hS (vp_in_iff.mpr (by decide +kernel)) dL_law_823 ?_
    refine lv_topi (nm_r (e' := (xs 1)) (by rfl) ?_)
    refine lv_aload_n hx hb dL_law_824 rfl (lv_at hl 0 rfl) ?_
    refine lv_iload_n hx hb dL_law_825 rfl (lv_at hl 3 rfl) ?_
    refine lv_iconst (v := 2) hx hb dL_law_826 (by decide) ?_
    refine lv_iadd hx hb dL_law_827 ?_
    refine lv_topi (nm_r (e' := 2) (by decide +kernel) ?_)
    refine va_sld hx hb hX hbl hbA hS (vp_in_iff.mpr (by decide +kernel)) dL_law_828 ?_
    refine lv_topi (nm_r (e' := (xs 2)) (by rfl) ?_)
    refine lv_aload_n hx hb dL_law_829 rfl (lv_at hl 0 rfl) ?_
    refine lv_iload_n hx hb dL_law_830 rfl (lv_at hl 3 rfl) ?_
    refine lv_iconst (v := 3) hx hb dL_law_831 (by decide) ?_
    refine lv_iadd hx hb dL_law_832 ?_
    refine lv_topi (nm_r (e' := 3) (by decide +kernel) ?_)
    refine va_sld hx hb hX hbl hbA hS (vp_in_iff.mpr (by decide +kernel)) dL_law_833 ?_
    refine lv_topi (nm_r (e' := (xs 3)) (by rfl) ?_)
    refine z_calli (wr := []) hP hD hS hA [0, 1, 2] [] (by decide) rfl rfl (by decide) (va_runV (As := [.int (xs 1), .int (xs 2), .int (xs 3)]) (rest := [.int (-1)]) ⟨hx, hb, hml, hown, hts⟩ (kX5_film l g (am 0) (am 1) (am 2) (am 3) (am 4) (am 5) (am 6) (am 7) (am 8) (am 9) (am 10) (am 11) (am 12) (am 13) (am 14) (am 15) (am 16) (am 17) (am 18) (am 19) (am 20) (am 21) (am 22) H.size (xs 1) (xs 2) (xs 3)) ⟨callB_of 3 hts (zGood m_o_yX5_film) rfl rfl rfl (hts _ m_z_RX5) (hts _ m_m_RL_116) ⟨by decide +kernel, by decide +kernel, by decide +kernel⟩ ⟨Nat.le_of_ble_eq_true rfl, Nat.le_of_ble_eq_true rfl⟩, hts _ m_i_yX5_film, hts _ m_e_yX5_film⟩ (zPreV hK hN hZ hP hD hS hA [0, 1, 2] (by decide) rfl rfl 5 0 rfl rfl) rfl rfl hl.1 rfl (lv_room (Nat.le_of_ble_eq_true rfl)) dL_law_834 ⟨Nat.le_of_ble_eq_true rfl, Nat.le_of_ble_eq_true rfl⟩) (fun r u H locs hw hP hD hS => ?_)
    rcases hw with ⟨i_120, rfl⟩ | ⟨i_121, i_122, rfl⟩ | ⟨i_123, i_124, i_125, rfl⟩ | ⟨i_126, i_127, i_128, i_129, rfl⟩ | ⟨i_130, i_131, i_132, i_133, i_134, rfl⟩ | ⟨i_135, i_136, i_137, i_138, i_139, rfl⟩ | ⟨i_140, i_141, i_142, i_143, i_144, rfl⟩ | ⟨i_145, i_146, i_147, i_148, i_149, rfl⟩
    · exfalso; omega
    · exfalso; omega
    · exfalso; omega
    · skip
      have hP : va_P g.1 vwCl [] H := hP
      have hD : va_D (fun q : Nat => s.heap.size ≤ q) [] := hD
      refine lv_icmp_eq (tgt := 1054) hx hb dL_law_837 (by decide) (fun _ => ?_) (fun h => absurd h (by decide +kernel))
      exact lc_tail ⟨hx, hb, hml, hr, hlocks, hown, hts, hK, hN, hZ, hX, hbl⟩ hS (lv_sub hl [0, 1, 2, 3] rfl)
    · exfalso; omega
    · exfalso; omega
    · exfalso; omega
    · exfalso; omega
  · skip
    have hP : va_P g.1 vwCl [((am 0), .inr (5, [.ref (am 1), .int 0, .ref (am 2), .int 0, .int 0, .ref (am 3), .ref (am 4), .ref (am 5), .ref (am 6), .int 0, .ref (am 7), .ref (am 8), .ref (am 9), .int 0, .ref (am 10), .ref (am 11), .ref (am 12), .ref (am 13), .ref (am 14), .ref (am 15), .ref (am 16), .ref (am 17), .ref (am 18), .ref (am 19), .ref (am 20), .ref (am 21), .ref (am 22)])), ((am 1), .inl (zI g, 180, .inl (upd (upd (upd (fun _ => 0) 0 60) 1 1) 2 1))), ((am 19), .inl (zI g, 4, .inl (upd (upd (upd (upd (fun _ => 0) 0 (-1)) 1 (-1)) 2 (-1)) 3 (-1))))] H := hP
    have hD : va_D (fun q : Nat => s.heap.size ≤ q) [((am 0), .inr (5, [.ref (am 1), .int 0, .ref (am 2), .int 0, .int 0, .ref (am 3), .ref (am 4), .ref (am 5), .ref (am 6), .int 0, .ref (am 7), .ref (am 8), .ref (am 9), .int 0, .ref (am 10), .ref (am 11), .ref (am 12), .ref (am 13), .ref (am 14), .ref (am 15), .ref (am 16), .ref (am 17), .ref (am 18), .ref (am 19), .ref (am 20), .ref (am 21), .ref (am 22)])), ((am 1), .inl (zI g, 180, .inl (upd (upd (upd (fun _ => 0) 0 60) 1 1) 2 1))), ((am 19), .inl (zI g, 4, .inl (upd (upd (upd (upd (fun _ => 0) 0 (-1)) 1 (-1)) 2 (-1)) 3 (-1))))] := hD
    refine lv_aload_n hx hb dL_law_818 rfl (lv_at hl 2 rfl) ?_
    refine lv_aload_n hx hb dL_law_819 rfl (lv_at hl 0 rfl) ?_
    refine lv_iload_n hx hb dL_law_820 rfl (lv_at hl 3 rfl) ?_
    refine lv_iconst (v := 1) hx hb dL_law_821 (by decide) ?_
    refine lv_iadd hx hb dL_law_822 ?_
    refine lv_topi (nm_r (e' := 1) (by decide +kernel) ?_)
    refine va_sld hx hb hX hbl hbA hS (vp_in_iff.mpr (by decide +kernel)) dL_law_823 ?_
    refine lv_topi (nm_r (e' := (xs 1)) (by rfl) ?_)
    refine lv_aload_n hx hb dL_law_824 rfl (lv_at hl 0 rfl) ?_
    refine lv_iload_n hx hb dL_law_825 rfl (lv_at hl 3 rfl) ?_
    refine lv_iconst (v := 2) hx hb dL_law_826 (by decide) ?_
    refine lv_iadd hx hb dL_law_827 ?_
    refine lv_topi (nm_r (e' := 2) (by decide +kernel) ?_)
    refine va_sld hx hb hX hbl hbA hS (vp_in_iff.mpr (by decide +kernel)) dL_law_828 ?_
    refine lv_topi (nm_r (e' := (xs 2)) (by rfl) ?_)
    refine lv_aload_n hx hb dL_law_829 rfl (lv_at hl 0 rfl) ?_
    refine lv_iload_n hx hb dL_law_830 rfl (lv_at hl 3 rfl) ?_
    refine lv_iconst (v := 3) hx hb dL_law_831 (by decide) ?_
    refine lv_iadd hx hb dL_law_832 ?_
    refine lv_topi (nm_r (e' := 3) (by decide +kernel) ?_)
    refine va_sld hx hb hX hbl hbA hS (vp_in_iff.mpr (by decide +kernel)) dL_law_833 ?_
    refine lv_topi (nm_r (e' := (xs 3)) (by rfl) ?_)
    refine z_calli (wr := []) hP hD hS hA [0, 1, 2] [] (by decide) rfl rfl (by decide) (va_runV (As := [.int (xs 1), .int (xs 2), .int (xs 3)]) (rest := [.int (-11)]) ⟨hx, hb, hml, hown, hts⟩ (kX5_film l g (am 0) (am 1) (am 2) (am 3) (am 4) (am 5) (am 6) (am 7) (am 8) (am 9) (am 10) (am 11) (am 12) (am 13) (am 14) (am 15) (am 16) (am 17) (am 18) (am 19) (am 20) (am 21) (am 22) H.size (xs 1) (xs 2) (xs 3)) ⟨callB_of 3 hts (zGood m_o_yX5_film) rfl rfl rfl (hts _ m_z_RX5) (hts _ m_m_RL_116) ⟨by decide +kernel, by decide +kernel, by decide +kernel⟩ ⟨Nat.le_of_ble_eq_true rfl, Nat.le_of_ble_eq_true rfl⟩, hts _ m_i_yX5_film, hts _ m_e_yX5_film⟩ (zPreV hK hN hZ hP hD hS hA [0, 1, 2] (by decide) rfl rfl 5 0 rfl rfl) rfl rfl hl.1 rfl (lv_room (Nat.le_of_ble_eq_true rfl)) dL_law_834 ⟨Nat.le_of_ble_eq_true rfl, Nat.le_of_ble_eq_true rfl⟩) (fun r u H locs hw hP hD hS => ?_)
    rcases hw with ⟨i_150, rfl⟩ | ⟨i_151, i_152, rfl⟩ | ⟨i_153, i_154, i_155, rfl⟩ | ⟨i_156, i_157, i_158, i_159, rfl⟩ | ⟨i_160, i_161, i_162, i_163, i_164, rfl⟩ | ⟨i_165, i_166, i_167, i_168, i_169, rfl⟩ | ⟨i_170, i_171, i_172, i_173, i_174, rfl⟩ | ⟨i_175, i_176, i_177, i_178, i_179, rfl⟩
    · exfalso; omega
    · exfalso; omega
    · exfalso; omega
    · exfalso; omega
    · skip
      have hP : va_P g.1 vwCl [] H := hP
      have hD : va_D (fun q : Nat => s.heap.size ≤ q) [] := hD
      refine lv_icmp_eq (tgt := 1054) hx hb dL_law_837 (by decide) (fun _ => ?_) (fun h => absurd h (by decide +kernel))
      exact lc_tail ⟨hx, hb, hml, hr, hlocks, hown, hts, hK, hN, hZ, hX, hbl⟩ hS (lv_sub hl [0, 1, 2, 3] rfl)
    · exfalso; omega
    · exfalso; omega
    · exfalso; omega
  · skip
    have hP : va_P g.1 vwCl [((am 0), .inr (5, [.ref (am 1), .int 0, .ref (am 2), .int 0, .int 0, .ref (am 3), .ref (am 4), .ref (am 5), .ref (am 6), .int 0, .ref (am 7), .ref (am 8), .ref (am 9), .int 0, .ref (am 10), .ref (am 11), .ref (am 12), .ref (am 13), .ref (am 14), .ref (am 15), .ref (am 16), .ref (am 17), .ref (am 18), .ref (am 19), .ref (am 20), .ref (am 21), .ref (am 22)])), ((am 1), .inl (zI g, 180, .inl (upd (upd (upd (fun _ => 0) 0 60) 1 1) 2 1))), ((am 19), .inl (zI g, 4, .inl (upd (upd (upd (upd (fun _ => 0) 0 (-1)) 1 (-1)) 2 (-1)) 3 (-1))))] H := hP
    have hD : va_D (fun q : Nat => s.heap.size ≤ q) [((am 0), .inr (5, [.ref (am 1), .int 0, .ref (am 2), .int 0, .int 0, .ref (am 3), .ref (am 4), .ref (am 5), .ref (am 6), .int 0, .ref (am 7), .ref (am 8), .ref (am 9), .int 0, .ref (am 10), .ref (am 11), .ref (am 12), .ref (am 13), .ref (am 14), .ref (am 15), .ref (am 16), .ref (am 17), .ref (am 18), .ref (am 19), .ref (am 20), .ref (am 21), .ref (am 22)])), ((am 1), .inl (zI g, 180, .inl (upd (upd (upd (fun _ => 0) 0 60) 1 1) 2 1))), ((am 19), .inl (zI g, 4, .inl (upd (upd (upd (upd (fun _ => 0) 0 (-1)) 1 (-1)) 2 (-1)) 3 (-1))))] := hD
    refine lv_aload_n hx hb dL_law_818 rfl (lv_at hl 2 rfl) ?_
    refine lv_aload_n hx hb dL_law_819 rfl (lv_at hl 0 rfl) ?_
    refine lv_iload_n hx hb dL_law_820 rfl (lv_at hl 3 rfl) ?_
    refine lv_iconst (v := 1) hx hb dL_law_821 (by decide) ?_
    refine lv_iadd hx hb dL_law_822 ?_
    refine lv_topi (nm_r (e' := 1) (by decide +kernel) ?_)
    refine va_sld hx hb hX hbl hbA hS (vp_in_iff.mpr (by decide +kernel)) dL_law_823 ?_
    refine lv_topi (nm_r (e' := (xs 1)) (by rfl) ?_)
    refine lv_aload_n hx hb dL_law_824 rfl (lv_at hl 0 rfl) ?_
    refine lv_iload_n hx hb dL_law_825 rfl (lv_at hl 3 rfl) ?_
    refine lv_iconst (v := 2) hx hb dL_law_826 (by decide) ?_
    refine lv_iadd hx hb dL_law_827 ?_
    refine lv_topi (nm_r (e' := 2) (by decide +kernel) ?_)
    refine va_sld hx hb hX hbl hbA hS (vp_in_iff.mpr (by decide +kernel)) dL_law_828 ?_
    refine lv_topi (nm_r (e' := (xs 2)) (by rfl) ?_)
    refine lv_aload_n hx hb dL_law_829 rfl (lv_at hl 0 rfl) ?_
    refine lv_iload_n hx hb dL_law_830 rfl (lv_at hl 3 rfl) ?_
    refine lv_iconst (v := 3) hx hb dL_law_831 (by decide) ?_
    refine lv_iadd hx hb dL_law_832 ?_
    refine lv_topi (nm_r (e' := 3) (by decide +kernel) ?_)
    refine va_sld hx hb hX hbl hbA hS (vp_in_iff.mpr (by decide +kernel)) dL_law_833 ?_
    refine lv_topi (nm_r (e' := (xs 3)) (by rfl) ?_)
    refine z_calli (wr := []) hP hD hS hA [0, 1, 2] [] (by decide) rfl rfl (by decide) (va_runV (As := [.int (xs 1), .int (xs 2), .int (xs 3)]) (rest := [.int (-11)]) ⟨hx, hb, hml, hown, hts⟩ (kX5_film l g (am 0) (am 1) (am 2) (am 3) (am 4) (am 5) (am 6) (am 7) (am 8) (am 9) (am 10) (am 11) (am 12) (am 13) (am 14) (am 15) (am 16) (am 17) (am 18) (am 19) (am 20) (am 21) (am 22) H.size (xs 1) (xs 2) (xs 3)) ⟨callB_of 3 hts (zGood m_o_yX5_film) rfl rfl rfl (hts _ m_z_RX5) (hts _ m_m_RL_116) ⟨by decide +kernel, by decide +kernel, by decide +kernel⟩ ⟨Nat.le_of_ble_eq_true rfl, Nat.le_of_ble_eq_true rfl⟩, hts _ m_i_yX5_film, hts _ m_e_yX5_film⟩ (zPreV hK hN hZ hP hD hS hA [0, 1, 2] (by decide) rfl rfl 5 0 rfl rfl) rfl rfl hl.1 rfl (lv_room (Nat.le_of_ble_eq_true rfl)) dL_law_834 ⟨Nat.le_of_ble_eq_true rfl, Nat.le_of_ble_eq_true rfl⟩) (fun r u H locs hw hP hD hS => ?_)
    rcases hw with ⟨i_180, rfl⟩ | ⟨i_181, i_182, rfl⟩ | ⟨i_183, i_184, i_185, rfl⟩ | ⟨i_186, i_187, i_188, i_189, rfl⟩ | ⟨i_190, i_191, i_192, i_193, i_194, rfl⟩ | ⟨i_195, i_196, i_197, i_198, i_199, rfl⟩ | ⟨i_200, i_201, i_202, i_203, i_204, rfl⟩ | ⟨i_205, i_206, i_207, i_208, i_209, rfl⟩
    · exfalso; omega
    · exfalso; omega
    · exfalso; omega
    · exfalso; omega
    · exfalso; omega
    · skip
      have hP : va_P g.1 vwCl [] H := hP
      have hD : va_D (fun q : Nat => s.heap.size ≤ q) [] := hD
      refine lv_icmp_eq (tgt := 1054) hx hb dL_law_837 (by decide) (fun _ => ?_) (fun h => absurd h (by decide +kernel))
      exact lc_tail ⟨hx, hb, hml, hr, hlocks, hown, hts, hK, hN, hZ, hX, hbl⟩ hS (lv_sub hl [0, 1, 2, 3] rfl)
    · exfalso; omega
    · exfalso; omega
  · skip
    have hP : va_P g.1 vwCl [((am 0), .inr (5, [.ref (am 1), .int 0, .ref (am 2), .int 0, .int 0, .ref (am 3), .ref (am 4), .ref (am 5), .ref (am 6), .int 0, .ref (am 7), .ref (am 8), .ref (am 9), .int 0, .ref (am 10), .ref (am 11), .ref (am 12), .ref (am 13), .ref (am 14), .ref (am 15), .ref (am 16), .ref (am 17), .ref (am 18), .ref (am 19), .ref (am 20), .ref (am 21), .ref (am 22)])), ((am 1), .inl (zI g, 180, .inl (upd (upd (upd (fun _ => 0) 0 60) 1 1) 2 1))), ((am 19), .inl (zI g, 4, .inl (upd (upd (upd (upd (fun _ => 0) 0 (-1)) 1 (-1)) 2 (-1)) 3 (-1))))] H := hP
    have hD : va_D (fun q : Nat => s.heap.size ≤ q) [((am 0), .inr (5, [.ref (am 1), .int 0, .ref (am 2), .int 0, .int 0, .ref (am 3), .ref (am 4), .ref (am 5), .ref (am 6), .int 0, .ref (am 7), .ref (am 8), .ref (am 9), .int 0, .ref (am 10), .ref (am 11), .ref (am 12), .ref (am 13), .ref (am 14), .ref (am 15), .ref (am 16), .ref (am 17), .ref (am 18), .ref (am 19), .ref (am 20), .ref (am 21), .ref (am 22)])), ((am 1), .inl (zI g, 180, .inl (upd (upd (upd (fun _ => 0) 0 60) 1 1) 2 1))), ((am 19), .inl (zI g, 4, .inl (upd (upd (upd (upd (fun _ => 0) 0 (-1)) 1 (-1)) 2 (-1)) 3 (-1))))] := hD
    refine lv_aload_n hx hb dL_law_818 rfl (lv_at hl 2 rfl) ?_
    refine lv_aload_n hx hb dL_law_819 rfl (lv_at hl 0 rfl) ?_
    refine lv_iload_n hx hb dL_law_820 rfl (lv_at hl 3 rfl) ?_
    refine lv_iconst (v := 1) hx hb dL_law_821 (by decide) ?_
    refine lv_iadd hx hb dL_law_822 ?_
    refine lv_topi (nm_r (e' := 1) (by decide +kernel) ?_)
    refine va_sld hx hb hX hbl hbA hS (vp_in_iff.mpr (by decide +kernel)) dL_law_823 ?_
    refine lv_topi (nm_r (e' := (xs 1)) (by rfl) ?_)
    refine lv_aload_n hx hb dL_law_824 rfl (lv_at hl 0 rfl) ?_
    refine lv_iload_n hx hb dL_law_825 rfl (lv_at hl 3 rfl) ?_
    refine lv_iconst (v := 2) hx hb dL_law_826 (by decide) ?_
    refine lv_iadd hx hb dL_law_827 ?_
    refine lv_topi (nm_r (e' := 2) (by decide +kernel) ?_)
    refine va_sld hx hb hX hbl hbA hS (vp_in_iff.mpr (by decide +kernel)) dL_law_828 ?_
    refine lv_topi (nm_r (e' := (xs 2)) (by rfl) ?_)
    refine lv_aload_n hx hb dL_law_829 rfl (lv_at hl 0 rfl) ?_
    refine lv_iload_n hx hb dL_law_830 rfl (lv_at hl 3 rfl) ?_
    refine lv_iconst (v := 3) hx hb dL_law_831 (by decide) ?_
    refine lv_iadd hx hb dL_law_832 ?_
    refine lv_topi (nm_r (e' := 3) (by decide +kernel) ?_)
    refine va_sld hx hb hX hbl hbA hS (vp_in_iff.mpr (by decide +kernel)) dL_law_833 ?_
    refine lv_topi (nm_r (e' := (xs 3)) (by rfl) ?_)
    refine z_calli (wr := []) hP hD hS hA [0, 1, 2] [] (by decide) rfl rfl (by decide) (va_runV (As := [.int (xs 1), .int (xs 2), .int (xs 3)]) (rest := [.int (-11)]) ⟨hx, hb, hml, hown, hts⟩ (kX5_film l g (am 0) (am 1) (am 2) (am 3) (am 4) (am 5) (am 6) (am 7) (am 8) (am 9) (am 10) (am 11) (am 12) (am 13) (am 14) (am 15) (am 16) (am 17) (am 18) (am 19) (am 20) (am 21) (am 22) H.size (xs 1) (xs 2) (xs 3)) ⟨callB_of 3 hts (zGood m_o_yX5_film) rfl rfl rfl (hts _ m_z_RX5) (hts _ m_m_RL_116) ⟨by decide +kernel, by decide +kernel, by decide +kernel⟩ ⟨Nat.le_of_ble_eq_true rfl, Nat.le_of_ble_eq_true rfl⟩, hts _ m_i_yX5_film, hts _ m_e_yX5_film⟩ (zPreV hK hN hZ hP hD hS hA [0, 1, 2] (by decide) rfl rfl 5 0 rfl rfl) rfl rfl hl.1 rfl (lv_room (Nat.le_of_ble_eq_true rfl)) dL_law_834 ⟨Nat.le_of_ble_eq_true rfl, Nat.le_of_ble_eq_true rfl⟩) (fun r u H locs hw hP hD hS => ?_)
    rcases hw with ⟨i_210, rfl⟩ | ⟨i_211, i_212, rfl⟩ | ⟨i_213, i_214, i_215, rfl⟩ | ⟨i_216, i_217, i_218, i_219, rfl⟩ | ⟨i_220, i_221, i_222, i_223, i_224, rfl⟩ | ⟨i_225, i_226, i_227, i_228, i_229, rfl⟩ | ⟨i_230, i_231, i_232, i_233, i_234, rfl⟩ | ⟨i_235, i_236, i_237, i_238, i_239, rfl⟩
    · exfalso; omega
    · exfalso; omega
    · exfalso; omega
    · exfalso; omega
    · exfalso; omega
    · exfalso; omega
    · skip
      have hP : va_P g.1 vwCl [] H := hP
      have hD : va_D (fun q : Nat => s.heap.size ≤ q) [] := hD
      refine lv_icmp_eq (tgt := 1054) hx hb dL_law_837 (by decide) (fun _ => ?_) (fun h => absurd h (by decide +kernel))
      exact lc_tail ⟨hx, hb, hml, hr, hlocks, hown, hts, hK, hN, hZ, hX, hbl⟩ hS (lv_sub hl [0, 1, 2, 3] rfl)
    · exfalso; omega
  · skip
    have hP : va_P g.1 vwCl [((am 0), .inr (5, [.ref (am 1), .int 0, .ref (am 2), .int 0, .int 0, .ref (am 3), .ref (am 4), .ref (am 5), .ref (am 6), .int 0, .ref (am 7), .ref (am 8), .ref (am 9), .int 0, .ref (am 10), .ref (am 11), .ref (am 12), .ref (am 13), .ref (am 14), .ref (am 15), .ref (am 16), .ref (am 17), .ref (am 18), .ref (am 19), .ref (am 20), .ref (am 21), .ref (am 22)])), ((am 1), .inl (zI g, 180, .inl (upd (upd (upd (fun _ => 0) 0 60) 1 1) 2 1))), ((am 19), .inl (zI g, 4, .inl (upd (upd (upd (upd (fun _ => 0) 0 (-1)) 1 (-1)) 2 (-1)) 3 (-1))))] H := hP
    have hD : va_D (fun q : Nat => s.heap.size ≤ q) [((am 0), .inr (5, [.ref (am 1), .int 0, .ref (am 2), .int 0, .int 0, .ref (am 3), .ref (am 4), .ref (am 5), .ref (am 6), .int 0, .ref (am 7), .ref (am 8), .ref (am 9), .int 0, .ref (am 10), .ref (am 11), .ref (am 12), .ref (am 13), .ref (am 14), .ref (am 15), .ref (am 16), .ref (am 17), .ref (am 18), .ref (am 19), .ref (am 20), .ref (am 21), .ref (am 22)])), ((am 1), .inl (zI g, 180, .inl (upd (upd (upd (fun _ => 0) 0 60) 1 1) 2 1))), ((am 19), .inl (zI g, 4, .inl (upd (upd (upd (upd (fun _ => 0) 0 (-1)) 1 (-1)) 2 (-1)) 3 (-1))))] := hD
    refine lv_aload_n hx hb dL_law_818 rfl (lv_at hl 2 rfl) ?_
    refine lv_aload_n hx hb dL_law_819 rfl (lv_at hl 0 rfl) ?_
    refine lv_iload_n hx hb dL_law_820 rfl (lv_at hl 3 rfl) ?_
    refine lv_iconst (v := 1) hx hb dL_law_821 (by decide) ?_
    refine lv_iadd hx hb dL_law_822 ?_
    refine lv_topi (nm_r (e' := 1) (by decide +kernel) ?_)
    refine va_sld hx hb hX hbl hbA hS (vp_in_iff.mpr (by decide +kernel)) dL_law_823 ?_
    refine lv_topi (nm_r (e' := (xs 1)) (by rfl) ?_)
    refine lv_aload_n hx hb dL_law_824 rfl (lv_at hl 0 rfl) ?_
    refine lv_iload_n hx hb dL_law_825 rfl (lv_at hl 3 rfl) ?_
    refine lv_iconst (v := 2) hx hb dL_law_826 (by decide) ?_
    refine lv_iadd hx hb dL_law_827 ?_
    refine lv_topi (nm_r (e' := 2) (by decide +kernel) ?_)
    refine va_sld hx hb hX hbl hbA hS (vp_in_iff.mpr (by decide +kernel)) dL_law_828 ?_
    refine lv_topi (nm_r (e' := (xs 2)) (by rfl) ?_)
    refine lv_aload_n hx hb dL_law_829 rfl (lv_at hl 0 rfl) ?_
    refine lv_iload_n hx hb dL_law_830 rfl (lv_at hl 3 rfl) ?_
    refine lv_iconst (v := 3) hx hb dL_law_831 (by decide) ?_
    refine lv_iadd hx hb dL_law_832 ?_
    refine lv_topi (nm_r (e' := 3) (by decide +kernel) ?_)
    refine va_sld hx hb hX hbl hbA hS (vp_in_iff.mpr (by decide +kernel)) dL_law_833 ?_
    refine lv_topi (nm_r (e' := (xs 3)) (by rfl) ?_)
    refine z_calli (wr := []) hP hD hS hA [0, 1, 2] [] (by decide) rfl rfl (by decide) (va_runV (As := [.int (xs 1), .int (xs 2), .int (xs 3)]) (rest := [.int (-11)]) ⟨hx, hb, hml, hown, hts⟩ (kX5_film l g (am 0) (am 1) (am 2) (am 3) (am 4) (am 5) (am 6) (am 7) (am 8) (am 9) (am 10) (am 11) (am 12) (am 13) (am 14) (am 15) (am 16) (am 17) (am 18) (am 19) (am 20) (am 21) (am 22) H.size (xs 1) (xs 2) (xs 3)) ⟨callB_of 3 hts (zGood m_o_yX5_film) rfl rfl rfl (hts _ m_z_RX5) (hts _ m_m_RL_116) ⟨by decide +kernel, by decide +kernel, by decide +kernel⟩ ⟨Nat.le_of_ble_eq_true rfl, Nat.le_of_ble_eq_true rfl⟩, hts _ m_i_yX5_film, hts _ m_e_yX5_film⟩ (zPreV hK hN hZ hP hD hS hA [0, 1, 2] (by decide) rfl rfl 5 0 rfl rfl) rfl rfl hl.1 rfl (lv_room (Nat.le_of_ble_eq_true rfl)) dL_law_834 ⟨Nat.le_of_ble_eq_true rfl, Nat.le_of_ble_eq_true rfl⟩) (fun r u H locs hw hP hD hS => ?_)
    rcases hw with ⟨i_240, rfl⟩ | ⟨i_241, i_242, rfl⟩ | ⟨i_243, i_244, i_245, rfl⟩ | ⟨i_246, i_247, i_248, i_249, rfl⟩ | ⟨i_250, i_251, i_252, i_253, i_254, rfl⟩ | ⟨i_255, i_256, i_257, i_258, i_259, rfl⟩ | ⟨i_260, i_261, i_262, i_263, i_264, rfl⟩ | ⟨i_265, i_266, i_267, i_268, i_269, rfl⟩
    · exfalso; omega
    · exfalso; omega
    · exfalso; omega
    · exfalso; omega
    · exfalso; omega
    · exfalso; omega
    · exfalso; omega
    · skip
      have hP : va_P g.1 vwCl [] H := hP
      have hD : va_D (fun q : Nat => s.heap.size ≤ q) [] := hD
      refine lv_icmp_eq (tgt := 1054) hx hb dL_law_837 (by decide) (fun _ => ?_) (fun h => absurd h (by decide +kernel))
      exact lc_tail ⟨hx, hb, hml, hr, hlocks, hown, hts, hK, hN, hZ, hX, hbl⟩ hS (lv_sub hl [0, 1, 2, 3] rfl)
set_option maxHeartbeats 4000000 in
set_option maxRecDepth 100000 in
theorem lc_sheet {p : Program} {l : Launch} {e : Env} {s : State} {m : MethodId} {below : List Frame} {meth : Method} {c : Code} {b : Nat} {xs : Nat → Int32} {g : zG} (C0 : lC g p s m meth c b xs) {ax am : Nat → Nat} {H : Heap} {locs : List Loc} (hP : va_P g.1 vwCl (lW g ax am) H) (hD : va_D (fun q : Nat => s.heap.size ≤ q) (lW g ax am)) (hS : va_S (fun q : Nat => s.heap.size ≤ q) s.heap H locs) {ls : Array Slot} (hl : lv_has ls 4 [(0, .ref b), (1, .ref (ax 0)), (2, .ref (am 0)), (3, .int 0)]) : W p l e room_1 s m #[Value.ref b] below meth c H locs 600000 7302250 (lw_Z below #[Value.ref b] s) (F0 m 842 ls []) := by
  obtain ⟨hx, hb, hml, hr, hlocks, hown, hts, hK, hN, hZ, hX, hbl⟩ := C0
  have hA : ∀ q : Nat, s.heap.size ≤ q → (fun q : Nat => s.heap.size ≤ q) q := fun _ h => h
  have hbA : ¬ (fun q : Nat => s.heap.size ≤ q) b := Nat.not_le.mpr hbl
  have hP := hP.sub (ws' := [((ax 0), .inr (4, [.ref (ax 1), .ref (ax 10), .int 0, .ref (ax 19), .ref (ax 30), .ref (ax 32), .ref (ax 36), .int (-1), .ref (ax 37), .ref (ax 38), .ref (ax 39), .ref (ax 40)])), ((ax 32), .inr (1, [.ref (ax 33), .ref (ax 34), .ref (ax 35)])), ((ax 33), .inl (zI g, 4, .inl (upd (upd (upd (upd (fun _ => 0) 0 (-1)) 1 (-1)) 2 (-1)) 3 (-1)))), ((ax 34), .inl (zI g, 4, .inl (fun _ => 0))), ((ax 35), .inl (zJ g, 64, .inr (.inl (fun _ => 0)))), ((am 0), .inr (5, [.ref (am 1), .int 0, .ref (am 2), .int 0, .int 0, .ref (am 3), .ref (am 4), .ref (am 5), .ref (am 6), .int 0, .ref (am 7), .ref (am 8), .ref (am 9), .int 0, .ref (am 10), .ref (am 11), .ref (am 12), .ref (am 13), .ref (am 14), .ref (am 15), .ref (am 16), .ref (am 17), .ref (am 18), .ref (am 19), .ref (am 20), .ref (am 21), .ref (am 22)])), ((am 19), .inl (zI g, 4, .inl (upd (upd (upd (upd (fun _ => 0) 0 (-1)) 1 (-1)) 2 (-1)) 3 (-1)))), ((am 20), .inl (zI g, 4, .inl (fun _ => 0))), ((am 21), .inl (zJ g, 64, .inr (.inl (fun _ => 0))))]) [0, 32, 33, 34, 35, 41, 60, 61, 62] rfl
  have hD := hD.sub (ws' := [((ax 0), .inr (4, [.ref (ax 1), .ref (ax 10), .int 0, .ref (ax 19), .ref (ax 30), .ref (ax 32), .ref (ax 36), .int (-1), .ref (ax 37), .ref (ax 38), .ref (ax 39), .ref (ax 40)])), ((ax 32), .inr (1, [.ref (ax 33), .ref (ax 34), .ref (ax 35)])), ((ax 33), .inl (zI g, 4, .inl (upd (upd (upd (upd (fun _ => 0) 0 (-1)) 1 (-1)) 2 (-1)) 3 (-1)))), ((ax 34), .inl (zI g, 4, .inl (fun _ => 0))), ((ax 35), .inl (zJ g, 64, .inr (.inl (fun _ => 0)))), ((am 0), .inr (5, [.ref (am 1), .int 0, .ref (am 2), .int 0, .int 0, .ref (am 3), .ref (am 4), .ref (am 5), .ref (am 6), .int 0, .ref (am 7), .ref (am 8), .ref (am 9), .int 0, .ref (am 10), .ref (am 11), .ref (am 12), .ref (am 13), .ref (am 14), .ref (am 15), .ref (am 16), .ref (am 17), .ref (am 18), .ref (am 19), .ref (am 20), .ref (am 21), .ref (am 22)])), ((am 19), .inl (zI g, 4, .inl (upd (upd (upd (upd (fun _ => 0) 0 (-1)) 1 (-1)) 2 (-1)) 3 (-1)))), ((am 20), .inl (zI g, 4, .inl (fun _ => 0))), ((am 21), .inl (zJ g, 64, .inr (.inl (fun _ => 0))))]) [0, 32, 33, 34, 35, 41, 60, 61, 62] (by decide) rfl
  refine lv_aload_n hx hb dL_law_842 rfl (lv_at hl 1 rfl) ?_
  refine lv_aload_n hx hb dL_law_843 rfl (lv_at hl 0 rfl) ?_
  refine lv_iload_n hx hb dL_law_844 rfl (lv_at hl 3 rfl) ?_
  refine lv_iconst (v := 1) hx hb dL_law_845 (by decide) ?_
  refine lv_iadd hx hb dL_law_846 ?_
  refine lv_topi (nm_r (e' := 1) (by decide +kernel) ?_)
  refine va_sld hx hb hX hbl hbA hS (vp_in_iff.mpr (by decide +kernel)) dL_law_847 ?_
  refine lv_topi (nm_r (e' := (xs 1)) (by rfl) ?_)
  refine lv_aload_n hx hb dL_law_848 rfl (lv_at hl 0 rfl) ?_
  refine lv_iload_n hx hb dL_law_849 rfl (lv_at hl 3 rfl) ?_
  refine lv_iconst (v := 2) hx hb dL_law_850 (by decide) ?_
  refine lv_iadd hx hb dL_law_851 ?_
  refine lv_topi (nm_r (e' := 2) (by decide +kernel) ?_)
  refine va_sld hx hb hX hbl hbA hS (vp_in_iff.mpr (by decide +kernel)) dL_law_852 ?_
  refine lv_topi (nm_r (e' := (xs 2)) (by rfl) ?_)
  refine lv_aload_n hx hb dL_law_853 rfl (lv_at hl 0 rfl) ?_
  refine lv_iload_n hx hb dL_law_854 rfl (lv_at hl 3 rfl) ?_
  refine lv_iconst (v := 3) hx hb dL_law_855 (by decide) ?_
  refine lv_iadd hx hb dL_law_856 ?_
  refine lv_topi (nm_r (e' := 3) (by decide +kernel) ?_)
  refine va_sld hx hb hX hbl hbA hS (vp_in_iff.mpr (by decide +kernel)) dL_law_857 ?_
  refine lv_topi (nm_r (e' := (xs 3)) (by rfl) ?_)
  refine z_calli (wr := [((am 0), .inr (5, [.ref (am 1), .int 0, .ref (am 2), .int 0, .int 0, .ref (am 3), .ref (am 4), .ref (am 5), .ref (am 6), .int 0, .ref (am 7), .ref (am 8), .ref (am 9), .int 0, .ref (am 10), .ref (am 11), .ref (am 12), .ref (am 13), .ref (am 14), .ref (am 15), .ref (am 16), .ref (am 17), .ref (am 18), .ref (am 19), .ref (am 20), .ref (am 21), .ref (am 22)])), ((am 19), .inl (zI g, 4, .inl (upd (upd (upd (upd (fun _ => 0) 0 (-1)) 1 (-1)) 2 (-1)) 3 (-1)))), ((am 20), .inl (zI g, 4, .inl (fun _ => 0))), ((am 21), .inl (zJ g, 64, .inr (.inl (fun _ => 0))))]) hP hD hS hA [0, 1, 2, 3, 4] [5, 6, 7, 8] (by decide) rfl rfl (by decide) (va_runV (As := [.int (xs 1), .int (xs 2), .int (xs 3)]) (rest := []) ⟨hx, hb, hml, hown, hts⟩ (kX4_sheet l g (ax 0) (ax 1) (ax 10) (ax 19) (ax 30) (ax 32) (ax 36) (ax 37) (ax 38) (ax 39) (ax 40) (ax 33) (ax 34) (ax 35) H.size (xs 1) (xs 2) (xs 3)) ⟨callB_of 3 hts (zGood m_o_yX4_sheet) rfl rfl rfl (hts _ m_z_RX4) (hts _ m_m_RL_117) ⟨by decide +kernel, by decide +kernel, by decide +kernel⟩ ⟨Nat.le_of_ble_eq_true rfl, Nat.le_of_ble_eq_true rfl⟩, hts _ m_i_yX4_sheet, hts _ m_e_yX4_sheet⟩ (zPreV hK hN hZ hP hD hS hA [0, 1, 2, 3, 4] (by decide) rfl rfl 4 0 rfl rfl) rfl rfl hl.1 rfl (lv_room (Nat.le_of_ble_eq_true rfl)) dL_law_858 ⟨Nat.le_of_ble_eq_true rfl, Nat.le_of_ble_eq_true rfl⟩) (fun r u H locs hw hP hD hS => ?_)
  rcases hw with ⟨i_0, rfl⟩ | ⟨i_1, i_2, rfl⟩ | ⟨i_3, i_4, i_5, rfl⟩ | ⟨i_6, i_7, i_8, i_9, rfl⟩ | ⟨i_10, i_11, i_12, i_13, i_14, i_15, i_16, i_17, i_18, i_19, i_20, i_21, i_22, rfl⟩ | ⟨i_23, i_24, i_25, i_26, i_27, i_28, i_29, i_30, i_31, i_32, i_33, i_34, i_35, rfl⟩ | ⟨i_36, i_37, i_38, i_39, i_40, i_41, i_42, i_43, i_44, i_45, i_46, i_47, i_48, rfl⟩ | ⟨i_49, i_50, i_51, i_52, i_53, i_54, i_55, i_56, i_57, i_58, i_59, i_60, i_61, rfl⟩ | ⟨i_62, i_63, i_64, i_65, i_66, i_67, rfl⟩ | ⟨i_68, i_69, i_70, i_71, i_72, rfl⟩
  · skip
    have hP : va_P g.1 vwCl [((am 0), .inr (5, [.ref (am 1), .int 0, .ref (am 2), .int 0, .int 0, .ref (am 3), .ref (am 4), .ref (am 5), .ref (am 6), .int 0, .ref (am 7), .ref (am 8), .ref (am 9), .int 0, .ref (am 10), .ref (am 11), .ref (am 12), .ref (am 13), .ref (am 14), .ref (am 15), .ref (am 16), .ref (am 17), .ref (am 18), .ref (am 19), .ref (am 20), .ref (am 21), .ref (am 22)])), ((am 19), .inl (zI g, 4, .inl (upd (upd (upd (upd (fun _ => 0) 0 (-1)) 1 (-1)) 2 (-1)) 3 (-1)))), ((am 20), .inl (zI g, 4, .inl (fun _ => 0))), ((am 21), .inl (zJ g, 64, .inr (.inl (fun _ => 0))))] H := hP
    have hD : va_D (fun q : Nat => s.heap.size ≤ q) [((am 0), .inr (5, [.ref (am 1), .int 0, .ref (am 2), .int 0, .int 0, .ref (am 3), .ref (am 4), .ref (am 5), .ref (am 6), .int 0, .ref (am 7), .ref (am 8), .ref (am 9), .int 0, .ref (am 10), .ref (am 11), .ref (am 12), .ref (am 13), .ref (am 14), .ref (am 15), .ref (am 16), .ref (am 17), .ref (am 18), .ref (am 19), .ref (am 20), .ref (am 21), .ref (am 22)])), ((am 19), .inl (zI g, 4, .inl (upd (upd (upd (upd (fun _ => 0) 0 (-1)) 1 (-1)) 2 (-1)) 3 (-1)))), ((am 20), .inl (zI g, 4, .inl (fun _ => 0))), ((am 21), .inl (zJ g, 64, .inr (.inl (fun _ => 0))))] := hD
    refine lv_aload_n hx hb dL_law_861 rfl (lv_at hl 2 rfl) ?_
    refine lv_aload_n hx hb dL_law_862 rfl (lv_at hl 0 rfl) ?_
    refine lv_iload_n hx hb dL_law_863 rfl (lv_at hl 3 rfl) ?_
    refine lv_iconst (v := 1) hx hb dL_law_864 (by decide) ?_
    refine lv_iadd hx hb dL_law_865 ?_
    refine lv_topi (nm_r (e' := 1) (by decide +kernel) ?_)
    refine va_sld hx hb hX hbl hbA hS (vp_in_iff.mpr (by decide +kernel)) dL_law_866 ?_
    refine lv_topi (nm_r (e' := (xs 1)) (by rfl) ?_)
    refine lv_aload_n hx hb dL_law_867 rfl (lv_at hl 0 rfl) ?_
    refine lv_iload_n hx hb dL_law_868 rfl (lv_at hl 3 rfl) ?_
    refine lv_iconst (v := 2) hx hb dL_law_869 (by decide) ?_
    refine lv_iadd hx hb dL_law_870 ?_
    refine lv_topi (nm_r (e' := 2) (by decide +kernel) ?_)
    refine va_sld hx hb hX hbl hbA hS (vp_in_iff.mpr (by decide +kernel)) dL_law_871 ?_
    refine lv_topi (nm_r (e' := (xs 2)) (by rfl) ?_)
    refine lv_aload_n hx hb dL_law_872 rfl (lv_at hl 0 rfl) ?_
    refine lv_iload_n hx hb dL_law_873 rfl (lv_at hl 3 rfl) ?_
    refine lv_iconst (v := 3) hx hb dL_law_874 (by decide) ?_
    refine lv_iadd hx hb dL_law_875 ?_
    refine lv_topi (nm_r (e' := 3) (by decide +kernel) ?_)
    refine va_sld hx hb hX hbl hbA hS (vp_in_iff.mpr (by decide +kernel)) dL_law_876 ?_
    refine lv_topi (nm_r (e' := (xs 3)) (by rfl) ?_)
    refine z_calli (wr := []) hP hD hS hA [0, 1, 2, 3] [] (by decide) rfl rfl (by decide) (va_runV (As := [.int (xs 1), .int (xs 2), .int (xs 3)]) (rest := [.int (-1)]) ⟨hx, hb, hml, hown, hts⟩ (kX5_sheet l g (am 0) (am 1) (am 2) (am 3) (am 4) (am 5) (am 6) (am 7) (am 8) (am 9) (am 10) (am 11) (am 12) (am 13) (am 14) (am 15) (am 16) (am 17) (am 18) (am 19) (am 20) (am 21) (am 22) H.size (xs 1) (xs 2) (xs 3)) ⟨callB_of 3 hts (zGood m_o_yX5_sheet) rfl rfl rfl (hts _ m_z_RX5) (hts _ m_m_RL_120) ⟨by decide +kernel, by decide +kernel, by decide +kernel⟩ ⟨Nat.le_of_ble_eq_true rfl, Nat.le_of_ble_eq_true rfl⟩, hts _ m_i_yX5_sheet, hts _ m_e_yX5_sheet⟩ (zPreV hK hN hZ hP hD hS hA [0, 1, 2, 3] (by decide) rfl rfl 5 0 rfl rfl) rfl rfl hl.1 rfl (lv_room (Nat.le_of_ble_eq_true rfl)) dL_law_877 ⟨Nat.le_of_ble_eq_true rfl, Nat.le_of_ble_eq_true rfl⟩) (fun r u H locs hw hP hD hS => ?_)
    rcases hw with ⟨i_73, rfl⟩ | ⟨i_74, i_75, rfl⟩ | ⟨i_76, i_77, i_78, rfl⟩ | ⟨i_79, i_80, i_81, i_82, rfl⟩ | ⟨i_83, i_84, i_85, i_86, i_87, i_88, i_89, rfl⟩ | ⟨i_90, i_91, i_92, i_93, i_94, i_95, i_96, rfl⟩ | ⟨i_97, i_98, i_99, i_100, i_101, i_102, i_103, rfl⟩ | ⟨i_104, i_105, i_106, i_107, i_108, i_109, i_110, rfl⟩ | ⟨i_111, i_112, i_113, i_114, i_115, i_116, rfl⟩ | ⟨i_117, i_118, i_119, i_120, i_121, rfl⟩
    · skip
      have hP : va_P g.1 vwCl [] H := hP
      have hD : va_D (fun q : Nat => s.heap.size ≤ q) [] := hD
      refine lv_icmp_eq (tgt := 1054) hx hb dL_law_880 (by decide) (fun _ => ?_) (fun h => absurd h (by decide +kernel))
      exact lc_tail ⟨hx, hb, hml, hr, hlocks, hown, hts, hK, hN, hZ, hX, hbl⟩ hS (lv_sub hl [0, 1, 2, 3] rfl)
    · exfalso; omega
    · exfalso; omega
    · exfalso; omega
    · exfalso; omega
    · exfalso; omega
    · exfalso; omega
    · exfalso; omega
    · exfalso; omega
    · exfalso; omega
  · skip
    have hP : va_P g.1 vwCl [((am 0), .inr (5, [.ref (am 1), .int 0, .ref (am 2), .int 0, .int 0, .ref (am 3), .ref (am 4), .ref (am 5), .ref (am 6), .int 0, .ref (am 7), .ref (am 8), .ref (am 9), .int 0, .ref (am 10), .ref (am 11), .ref (am 12), .ref (am 13), .ref (am 14), .ref (am 15), .ref (am 16), .ref (am 17), .ref (am 18), .ref (am 19), .ref (am 20), .ref (am 21), .ref (am 22)])), ((am 19), .inl (zI g, 4, .inl (upd (upd (upd (upd (fun _ => 0) 0 (-1)) 1 (-1)) 2 (-1)) 3 (-1)))), ((am 20), .inl (zI g, 4, .inl (fun _ => 0))), ((am 21), .inl (zJ g, 64, .inr (.inl (fun _ => 0))))] H := hP
    have hD : va_D (fun q : Nat => s.heap.size ≤ q) [((am 0), .inr (5, [.ref (am 1), .int 0, .ref (am 2), .int 0, .int 0, .ref (am 3), .ref (am 4), .ref (am 5), .ref (am 6), .int 0, .ref (am 7), .ref (am 8), .ref (am 9), .int 0, .ref (am 10), .ref (am 11), .ref (am 12), .ref (am 13), .ref (am 14), .ref (am 15), .ref (am 16), .ref (am 17), .ref (am 18), .ref (am 19), .ref (am 20), .ref (am 21), .ref (am 22)])), ((am 19), .inl (zI g, 4, .inl (upd (upd (upd (upd (fun _ => 0) 0 (-1)) 1 (-1)) 2 (-1)) 3 (-1)))), ((am 20), .inl (zI g, 4, .inl (fun _ => 0))), ((am 21), .inl (zJ g, 64, .inr (.inl (fun _ => 0))))] := hD
    refine lv_aload_n hx hb dL_law_861 rfl (lv_at hl 2 rfl) ?_
    refine lv_aload_n hx hb dL_law_862 rfl (lv_at hl 0 rfl) ?_
    refine lv_iload_n hx hb dL_law_863 rfl (lv_at hl 3 rfl) ?_
    refine lv_iconst (v := 1) hx hb dL_law_864 (by decide) ?_
    refine lv_iadd hx hb dL_law_865 ?_
    refine lv_topi (nm_r (e' := 1) (by decide +kernel) ?_)
    refine va_sld hx hb hX hbl hbA hS (vp_in_iff.mpr (by decide +kernel)) dL_law_866 ?_
    refine lv_topi (nm_r (e' := (xs 1)) (by rfl) ?_)
    refine lv_aload_n hx hb dL_law_867 rfl (lv_at hl 0 rfl) ?_
    refine lv_iload_n hx hb dL_law_868 rfl (lv_at hl 3 rfl) ?_
    refine lv_iconst (v := 2) hx hb dL_law_869 (by decide) ?_
    refine lv_iadd hx hb dL_law_870 ?_
    refine lv_topi (nm_r (e' := 2) (by decide +kernel) ?_)
    refine va_sld hx hb hX hbl hbA hS (vp_in_iff.mpr (by decide +kernel)) dL_law_871 ?_
    refine lv_topi (nm_r (e' := (xs 2)) (by rfl) ?_)
    refine lv_aload_n hx hb dL_law_872 rfl (lv_at hl 0 rfl) ?_
    refine lv_iload_n hx hb dL_law_873 rfl (lv_at hl 3 rfl) ?_
    refine lv_iconst (v := 3) hx hb dL_law_874 (by decide) ?_
    refine lv_iadd hx hb dL_law_875 ?_
    refine lv_topi (nm_r (e' := 3) (by decide +kernel) ?_)
    refine va_sld hx hb hX hbl hbA hS (vp_in_iff.mpr (by decide +kernel)) dL_law_876 ?_
    refine lv_topi (nm_r (e' := (xs 3)) (by rfl) ?_)
    refine z_calli (wr := []) hP hD hS hA [0, 1, 2, 3] [] (by decide) rfl rfl (by decide) (va_runV (As := [.int (xs 1), .int (xs 2), .int (xs 3)]) (rest := [.int (-1)]) ⟨hx, hb, hml, hown, hts⟩ (kX5_sheet l g (am 0) (am 1) (am 2) (am 3) (am 4) (am 5) (am 6) (am 7) (am 8) (am 9) (am 10) (am 11) (am 12) (am 13) (am 14) (am 15) (am 16) (am 17) (am 18) (am 19) (am 20) (am 21) (am 22) H.size (xs 1) (xs 2) (xs 3)) ⟨callB_of 3 hts (zGood m_o_yX5_sheet) rfl rfl rfl (hts _ m_z_RX5) (hts _ m_m_RL_120) ⟨by decide +kernel, by decide +kernel, by decide +kernel⟩ ⟨Nat.le_of_ble_eq_true rfl, Nat.le_of_ble_eq_true rfl⟩, hts _ m_i_yX5_sheet, hts _ m_e_yX5_sheet⟩ (zPreV hK hN hZ hP hD hS hA [0, 1, 2, 3] (by decide) rfl rfl 5 0 rfl rfl) rfl rfl hl.1 rfl (lv_room (Nat.le_of_ble_eq_true rfl)) dL_law_877 ⟨Nat.le_of_ble_eq_true rfl, Nat.le_of_ble_eq_true rfl⟩) (fun r u H locs hw hP hD hS => ?_)
    rcases hw with ⟨i_122, rfl⟩ | ⟨i_123, i_124, rfl⟩ | ⟨i_125, i_126, i_127, rfl⟩ | ⟨i_128, i_129, i_130, i_131, rfl⟩ | ⟨i_132, i_133, i_134, i_135, i_136, i_137, i_138, rfl⟩ | ⟨i_139, i_140, i_141, i_142, i_143, i_144, i_145, rfl⟩ | ⟨i_146, i_147, i_148, i_149, i_150, i_151, i_152, rfl⟩ | ⟨i_153, i_154, i_155, i_156, i_157, i_158, i_159, rfl⟩ | ⟨i_160, i_161, i_162, i_163, i_164, i_165, rfl⟩ | ⟨i_166, i_167, i_168, i_169, i_170, rfl⟩
    · exfalso; omega
    · skip
      have hP : va_P g.1 vwCl [] H := hP
      have hD : va_D (fun q : Nat => s.heap.size ≤ q) [] := hD
      refine lv_icmp_eq (tgt := 1054) hx hb dL_law_880 (by decide) (fun _ => ?_) (fun h => absurd h (by decide +kernel))
      exact lc_tail ⟨hx, hb, hml, hr, hlocks, hown, hts, hK, hN, hZ, hX, hbl⟩ hS (lv_sub hl [0, 1, 2, 3] rfl)
    · exfalso; omega
    · exfalso; omega
    · exfalso; omega
    · exfalso; omega
    · exfalso; omega
    · exfalso; omega
    · exfalso; omega
    · exfalso; omega
  · skip
    have hP : va_P g.1 vwCl [((am 0), .inr (5, [.ref (am 1), .int 0, .ref (am 2), .int 0, .int 0, .ref (am 3), .ref (am 4), .ref (am 5), .ref (am 6), .int 0, .ref (am 7), .ref (am 8), .ref (am 9), .int 0, .ref (am 10), .ref (am 11), .ref (am 12), .ref (am 13), .ref (am 14), .ref (am 15), .ref (am 16), .ref (am 17), .ref (am 18), .ref (am 19), .ref (am 20), .ref (am 21), .ref (am 22)])), ((am 19), .inl (zI g, 4, .inl (upd (upd (upd (upd (fun _ => 0) 0 (-1)) 1 (-1)) 2 (-1)) 3 (-1)))), ((am 20), .inl (zI g, 4, .inl (fun _ => 0))), ((am 21), .inl (zJ g, 64, .inr (.inl (fun _ => 0))))] H := hP
    have hD : va_D (fun q : Nat => s.heap.size ≤ q) [((am 0), .inr (5, [.ref (am 1), .int 0, .ref (am 2), .int 0, .int 0, .ref (am 3), .ref (am 4), .ref (am 5), .ref (am 6), .int 0, .ref (am 7), .ref (am 8), .ref (am 9), .int 0, .ref (am 10), .ref (am 11), .ref (am 12), .ref (am 13), .ref (am 14), .ref (am 15), .ref (am 16), .ref (am 17), .ref (am 18), .ref (am 19), .ref (am 20), .ref (am 21), .ref (am 22)])), ((am 19), .inl (zI g, 4, .inl (upd (upd (upd (upd (fun _ => 0) 0 (-1)) 1 (-1)) 2 (-1)) 3 (-1)))), ((am 20), .inl (zI g, 4, .inl (fun _ => 0))), ((am 21), .inl (zJ g, 64, .inr (.inl (fun _ => 0))))] := hD
    refine lv_aload_n hx hb dL_law_861 rfl (lv_at hl 2 rfl) ?_
    refine lv_aload_n hx hb dL_law_862 rfl (lv_at hl 0 rfl) ?_
    refine lv_iload_n hx hb dL_law_863 rfl (lv_at hl 3 rfl) ?_
    refine lv_iconst (v := 1) hx hb dL_law_864 (by decide) ?_
    refine lv_iadd hx hb dL_law_865 ?_
    refine lv_topi (nm_r (e' := 1) (by decide +kernel) ?_)
    refine va_sld hx hb hX hbl hbA hS (vp_in_iff.mpr (by decide +kernel)) dL_law_866 ?_
    refine lv_topi (nm_r (e' := (xs 1)) (by rfl) ?_)
    refine lv_aload_n hx hb dL_law_867 rfl (lv_at hl 0 rfl) ?_
    refine lv_iload_n hx hb dL_law_868 rfl (lv_at hl 3 rfl) ?_
    refine lv_iconst (v := 2) hx hb dL_law_869 (by decide) ?_
    refine lv_iadd hx hb dL_law_870 ?_
    refine lv_topi (nm_r (e' := 2) (by decide +kernel) ?_)
    refine va_sld hx hb hX hbl hbA hS (vp_in_iff.mpr (by decide +kernel)) dL_law_871 ?_
    refine lv_topi (nm_r (e' := (xs 2)) (by rfl) ?_)
    refine lv_aload_n hx hb dL_law_872 rfl (lv_at hl 0 rfl) ?_
    refine lv_iload_n hx hb dL_law_873 rfl (lv_at hl 3 rfl) ?_
    refine lv_iconst (v := 3) hx hb dL_law_874 (by decide) ?_
    refine lv_iadd hx hb dL_law_875 ?_
    refine lv_topi (nm_r (e' := 3) (by decide +kernel) ?_)
    refine va_sld hx hb hX hbl hbA hS (vp_in_iff.mpr (by decide +kernel)) dL_law_876 ?_
    refine lv_topi (nm_r (e' := (xs 3)) (by rfl) ?_)
    refine z_calli (wr := []) hP hD hS hA [0, 1, 2, 3] [] (by decide) rfl rfl (by decide) (va_runV (As := [.int (xs 1), .int (xs 2), .int (xs 3)]) (rest := [.int (-1)]) ⟨hx, hb, hml, hown, hts⟩ (kX5_sheet l g (am 0) (am 1) (am 2) (am 3) (am 4) (am 5) (am 6) (am 7) (am 8) (am 9) (am 10) (am 11) (am 12) (am 13) (am 14) (am 15) (am 16) (am 17) (am 18) (am 19) (am 20) (am 21) (am 22) H.size (xs 1) (xs 2) (xs 3)) ⟨callB_of 3 hts (zGood m_o_yX5_sheet) rfl rfl rfl (hts _ m_z_RX5) (hts _ m_m_RL_120) ⟨by decide +kernel, by decide +kernel, by decide +kernel⟩ ⟨Nat.le_of_ble_eq_true rfl, Nat.le_of_ble_eq_true rfl⟩, hts _ m_i_yX5_sheet, hts _ m_e_yX5_sheet⟩ (zPreV hK hN hZ hP hD hS hA [0, 1, 2, 3] (by decide) rfl rfl 5 0 rfl rfl) rfl rfl hl.1 rfl (lv_room (Nat.le_of_ble_eq_true rfl)) dL_law_877 ⟨Nat.le_of_ble_eq_true rfl, Nat.le_of_ble_eq_true rfl⟩) (fun r u H locs hw hP hD hS => ?_)
    rcases hw with ⟨i_171, rfl⟩ | ⟨i_172, i_173, rfl⟩ | ⟨i_174, i_175, i_176, rfl⟩ | ⟨i_177, i_178, i_179, i_180, rfl⟩ | ⟨i_181, i_182, i_183, i_184, i_185, i_186, i_187, rfl⟩ | ⟨i_188, i_189, i_190, i_191, i_192, i_193, i_194, rfl⟩ | ⟨i_195, i_196, i_197, i_198, i_199, i_200, i_201, rfl⟩ | ⟨i_202, i_203, i_204, i_205, i_206, i_207, i_208, rfl⟩ | ⟨i_209, i_210, i_211, i_212, i_213, i_214, rfl⟩ | ⟨i_215, i_216, i_217, i_218, i_219, rfl⟩
    · exfalso; omega
    · exfalso; omega
    · skip
      have hP : va_P g.1 vwCl [] H := hP
      have hD : va_D (fun q : Nat => s.heap.size ≤ q) [] := hD
      refine lv_icmp_eq (tgt := 1054) hx hb dL_law_880 (by decide) (fun _ => ?_) (fun h => absurd h (by decide +kernel))
      exact lc_tail ⟨hx, hb, hml, hr, hlocks, hown, hts, hK, hN, hZ, hX, hbl⟩ hS (lv_sub hl [0, 1, 2, 3] rfl)
    · exfalso; omega
    · exfalso; omega
    · exfalso; omega
    · exfalso; omega
    · exfalso; omega
    · exfalso; omega
    · exfalso; omega
  · skip
    have hP : va_P g.1 vwCl [((am 0), .inr (5, [.ref (am 1), .int 0, .ref (am 2), .int 0, .int 0, .ref (am 3), .ref (am 4), .ref (am 5), .ref (am 6), .int 0, .ref (am 7), .ref (am 8), .ref (am 9), .int 0, .ref (am 10), .ref (am 11), .ref (am 12), .ref (am 13), .ref (am 14), .ref (am 15), .ref (am 16), .ref (am 17), .ref (am 18), .ref (am 19), .ref (am 20), .ref (am 21), .ref (am 22)])), ((am 19), .inl (zI g, 4, .inl (upd (upd (upd (upd (fun _ => 0) 0 (-1)) 1 (-1)) 2 (-1)) 3 (-1)))), ((am 20), .inl (zI g, 4, .inl (fun _ => 0))), ((am 21), .inl (zJ g, 64, .inr (.inl (fun _ => 0))))] H := hP
    have hD : va_D (fun q : Nat => s.heap.size ≤ q) [((am 0), .inr (5, [.ref (am 1), .int 0, .ref (am 2), .int 0, .int 0, .ref (am 3), .ref (am 4), .ref (am 5), .ref (am 6), .int 0, .ref (am 7), .ref (am 8), .ref (am 9), .int 0, .ref (am 10), .ref (am 11), .ref (am 12), .ref (am 13), .ref (am 14), .ref (am 15), .ref (am 16), .ref (am 17), .ref (am 18), .ref (am 19), .ref (am 20), .ref (am 21), .ref (am 22)])), ((am 19), .inl (zI g, 4, .inl (upd (upd (upd (upd (fun _ => 0) 0 (-1)) 1 (-1)) 2 (-1)) 3 (-1)))), ((am 20), .inl (zI g, 4, .inl (fun _ => 0))), ((am 21), .inl (zJ g, 64, .inr (.inl (fun _ => 0))))] := hD
    refine lv_aload_n hx hb dL_law_861 rfl (lv_at hl 2 rfl) ?_
    refine lv_aload_n hx hb dL_law_862 rfl (lv_at hl 0 rfl) ?_
    refine lv_iload_n hx hb dL_law_863 rfl (lv_at hl 3 rfl) ?_
    refine lv_iconst (v := 1) hx hb dL_law_864 (by decide) ?_
    refine lv_iadd hx hb dL_law_865 ?_
    refine lv_topi (nm_r (e' := 1) (by decide +kernel) ?_)
    refine va_sld hx hb hX hbl hbA hS (vp_in_iff.mpr (by decide +kernel)) dL_law_866 ?_
    refine lv_topi (nm_r (e' := (xs 1)) (by rfl) ?_)
    refine lv_aload_n hx hb dL_law_867 rfl (lv_at hl 0 rfl) ?_
    refine lv_iload_n hx hb dL_law_868 rfl (lv_at hl 3 rfl) ?_
    refine lv_iconst (v := 2) hx hb dL_law_869 (by decide) ?_
    refine lv_iadd hx hb dL_law_870 ?_
    refine lv_topi (nm_r (e' := 2) (by decide +kernel) ?_)
    refine va_sld hx hb hX hbl hbA hS (vp_in_iff.mpr (by decide +kernel)) dL_law_871 ?_
    refine lv_topi (nm_r (e' := (xs 2)) (by rfl) ?_)
    refine lv_aload_n hx hb dL_law_872 rfl (lv_at hl 0 rfl) ?_
    refine lv_iload_n hx hb dL_law_873 rfl (lv_at hl 3 rfl) ?_
    refine lv_iconst (v := 3) hx hb dL_law_874 (by decide) ?_
    refine lv_iadd hx hb dL_law_875 ?_
    refine lv_topi (nm_r (e' := 3) (by decide +kernel) ?_)
    refine va_sld hx hb hX hbl hbA hS (vp_in_iff.mpr (by decide +kernel)) dL_law_876 ?_
    refine lv_topi (nm_r (e' := (xs 3)) (by rfl) ?_)
    refine z_calli (wr := []) hP hD hS hA [0, 1, 2, 3] [] (by decide) rfl rfl (by decide) (va_runV (As := [.int (xs 1), .int (xs 2), .int (xs 3)]) (rest := [.int (-1)]) ⟨hx, hb, hml, hown, hts⟩ (kX5_sheet l g (am 0) (am 1) (am 2) (am 3) (am 4) (am 5) (am 6) (am 7) (am 8) (am 9) (am 10) (am 11) (am 12) (am 13) (am 14) (am 15) (am 16) (am 17) (am 18) (am 19) (am 20) (am 21) (am 22) H.size (xs 1) (xs 2) (xs 3)) ⟨callB_of 3 hts (zGood m_o_yX5_sheet) rfl rfl rfl (hts _ m_z_RX5) (hts _ m_m_RL_120) ⟨by decide +kernel, by decide +kernel, by decide +kernel⟩ ⟨Nat.le_of_ble_eq_true rfl, Nat.le_of_ble_eq_true rfl⟩, hts _ m_i_yX5_sheet, hts _ m_e_yX5_sheet⟩ (zPreV hK hN hZ hP hD hS hA [0, 1, 2, 3] (by decide) rfl rfl 5 0 rfl rfl) rfl rfl hl.1 rfl (lv_room (Nat.le_of_ble_eq_true rfl)) dL_law_877 ⟨Nat.le_of_ble_eq_true rfl, Nat.le_of_ble_eq_true rfl⟩) (fun r u H locs hw hP hD hS => ?_)
    rcases hw with ⟨i_220, rfl⟩ | ⟨i_221, i_222, rfl⟩ | ⟨i_223, i_224, i_225, rfl⟩ | ⟨i_226, i_227, i_228, i_229, rfl⟩ | ⟨i_230, i_231, i_232, i_233, i_234, i_235, i_236, rfl⟩ | ⟨i_237, i_238, i_239, i_240, i_241, i_242, i_243, rfl⟩ | ⟨i_244, i_245, i_246, i_247, i_248, i_249, i_250, rfl⟩ | ⟨i_251, i_252, i_253, i_254, i_255, i_256, i_257, rfl⟩ | ⟨i_258, i_259, i_260, i_261, i_262, i_263, rfl⟩ | ⟨i_264, i_265, i_266, i_267, i_268, rfl⟩
    · exfalso; omega
    · exfalso; omega
    · exfalso; omega
    · skip
      have hP : va_P g.1 vwCl [] H := hP
      have hD : va_D (fun q : Nat => s.heap.size ≤ q) [] := hD
      refine lv_icmp_eq (tgt := 1054) hx hb dL_law_880 (by decide) (fun _ => ?_) (fun h => absurd h (by decide +kernel))
      exact lc_tail ⟨hx, hb, hml, hr, hlocks, hown, hts, hK, hN, hZ, hX, hbl⟩ hS (lv_sub hl [0, 1, 2, 3] rfl)
    · exfalso; omega
    · exfalso; omega
    · exfalso; omega
    · exfalso; omega
    · exfalso; omega
    · exfalso; omega
  · skip
    have hP : va_P g.1 vwCl [((am 0), .inr (5, [.ref (am 1), .int 0, .ref (am 2), .int 0, .int 0, .ref (am 3), .ref (am 4), .ref (am 5), .ref (am 6), .int 0, .ref (am 7), .ref (am 8), .ref (am 9), .int 0, .ref (am 10), .ref (am 11), .ref (am 12), .ref (am 13), .ref (am 14), .ref (am 15), .ref (am 16), .ref (am 17), .ref (am 18), .ref (am 19), .ref (am 20), .ref (am 21), .ref (am 22)])), ((am 19), .inl (zI g, 4, .inl (upd (upd (upd (upd (fun _ => 0) 0 (-1)) 1 (-1)) 2 (-1)) 3 (-1)))), ((am 20), .inl (zI g, 4, .inl (fun _ => 0))), ((am 21), .inl (zJ g, 64, .inr (.inl (fun _ => 0))))] H := hP
    have hD : va_D (fun q : Nat => s.heap.size ≤ q) [((am 0), .inr (5, [.ref (am 1), .int 0, .ref (am 2), .int 0, .int 0, .ref (am 3), .ref (am 4), .ref (am 5), .ref (am 6), .int 0, .ref (am 7), .ref (am 8), .ref (am 9), .int 0, .ref (am 10), .ref (am 11), .ref (am 12), .ref (am 13), .ref (am 14), .ref (am 15), .ref (am 16), .ref (am 17), .ref (am 18), .ref (am 19), .ref (am 20), .ref (am 21), .ref (am 22)])), ((am 19), .inl (zI g, 4, .inl (upd (upd (upd (upd (fun _ => 0) 0 (-1)) 1 (-1)) 2 (-1)) 3 (-1)))), ((am 20), .inl (zI g, 4, .inl (fun _ => 0))), ((am 21), .inl (zJ g, 64, .inr (.inl (fun _ => 0))))] := hD
    refine lv_aload_n hx hb dL_law_861 rfl (lv_at hl 2 rfl) ?_
    refine lv_aload_n hx hb dL_law_862 rfl (lv_at hl 0 rfl) ?_
    refine lv_iload_n hx hb dL_law_863 rfl (lv_at hl 3 rfl) ?_
    refine lv_iconst (v := 1) hx hb dL_law_864 (by decide) ?_
    refine lv_iadd hx hb dL_law_865 ?_
    refine lv_topi (nm_r (e' := 1) (by decide +kernel) ?_)
    refine va_sld hx hb hX hbl hbA hS (vp_in_iff.mpr (by decide +kernel)) dL_law_866 ?_
    refine lv_topi (nm_r (e' := (xs 1)) (by rfl) ?_)
    refine lv_aload_n hx hb dL_law_867 rfl (lv_at hl 0 rfl) ?_
    refine lv_iload_n hx hb dL_law_868 rfl (lv_at hl 3 rfl) ?_
    refine lv_iconst (v := 2) hx hb dL_law_869 (by decide) ?_
    refine lv_iadd hx hb dL_law_870 ?_
    refine lv_topi (nm_r (e' := 2) (by decide +kernel) ?_)
    refine va_sld hx hb hX hbl hbA hS (vp_in_iff.mpr (by decide +kernel)) dL_law_871 ?_
    refine lv_topi (nm_r (e' := (xs 2)) (by rfl) ?_)
    refine lv_aload_n hx hb dL_law_872 rfl (lv_at hl 0 rfl) ?_
    refine lv_iload_n hx hb dL_law_873 rfl (lv_at hl 3 rfl) ?_
    refine lv_iconst (v := 3) hx hb dL_law_874 (by decide) ?_
    refine lv_iadd hx hb dL_law_875 ?_
    refine lv_topi (nm_r (e' := 3) (by decide +kernel) ?_)
    refine va_sld hx hb hX hbl hbA hS (vp_in_iff.mpr (by decide +kernel)) dL_law_876 ?_
    refine lv_topi (nm_r (e' := (xs 3)) (by rfl) ?_)
    refine z_calli (wr := []) hP hD hS hA [0, 1, 2, 3] [] (by decide) rfl rfl (by decide) (va_runV (As := [.int (xs 1), .int (xs 2), .int (xs 3)]) (rest := [.int (xs 3)]) ⟨hx, hb, hml, hown, hts⟩ (kX5_sheet l g (am 0) (am 1) (am 2) (am 3) (am 4) (am 5) (am 6) (am 7) (am 8) (am 9) (am 10) (am 11) (am 12) (am 13) (am 14) (am 15) (am 16) (am 17) (am 18) (am 19) (am 20) (am 21) (am 22) H.size (xs 1) (xs 2) (xs 3)) ⟨callB_of 3 hts (zGood m_o_yX5_sheet) rfl rfl rfl (hts _ m_z_RX5) (hts _ m_m_RL_120) ⟨by decide +kernel, by decide +kernel, by decide +kernel⟩ ⟨Nat.le_of_ble_eq_true rfl, Nat.le_of_ble_eq_true rfl⟩, hts _ m_i_yX5_sheet, hts _ m_e_yX5_sheet⟩ (zPreV hK hN hZ hP hD hS hA [0, 1, 2, 3] (by decide) rfl rfl 5 0 rfl rfl) rfl rfl hl.1 rfl (lv_room (Nat.le_of_ble_eq_true rfl)) dL_law_877 ⟨Nat.le_of_ble_eq_true rfl, Nat.le_of_ble_eq_true rfl⟩) (fun r u H locs hw hP hD hS => ?_)
    rcases hw with ⟨i_269, rfl⟩ | ⟨i_270, i_271, rfl⟩ | ⟨i_272, i_273, i_274, rfl⟩ | ⟨i_275, i_276, i_277, i_278, rfl⟩ | ⟨i_279, i_280, i_281, i_282, i_283, i_284, i_285, rfl⟩ | ⟨i_286, i_287, i_288, i_289, i_290, i_291, i_292, rfl⟩ | ⟨i_293, i_294, i_295, i_296, i_297, i_298, i_299, rfl⟩ | ⟨i_300, i_301, i_302, i_303, i_304, i_305, i_306, rfl⟩ | ⟨i_307, i_308, i_309, i_310, i_311, i_312, rfl⟩ | ⟨i_313, i_314, i_315, i_316, i_317, rfl⟩
    · exfalso; omega
    · exfalso; omega
    · exfalso; omega
    · exfalso; omega
    · skip
      have hP : va_P g.1 vwCl [] H := hP
      have hD : va_D (fun q : Nat => s.heap.size ≤ q) [] := hD
      refine lv_icmp_eq (tgt := 1054) hx hb dL_law_880 (by decide) (fun _ => ?_) (fun h => absurd rfl h)
      exact lc_tail ⟨hx, hb, hml, hr, hlocks, hown, hts, hK, hN, hZ, hX, hbl⟩ hS (lv_sub hl [0, 1, 2, 3] rfl)
    · exfalso; omega
    · exfalso; omega
    · exfalso; omega
    · exfalso; omega
    · exfalso; omega
  · skip
    have hP : va_P g.1 vwCl [((am 0), .inr (5, [.ref (am 1), .int 0, .ref (am 2), .int 0, .int 0, .ref (am 3), .ref (am 4), .ref (am 5), .ref (am 6), .int 0, .ref (am 7), .ref (am 8), .ref (am 9), .int 0, .ref (am 10), .ref (am 11), .ref (am 12), .ref (am 13), .ref (am 14), .ref (am 15), .ref (am 16), .ref (am 17), .ref (am 18), .ref (am 19), .ref (am 20), .ref (am 21), .ref (am 22)])), ((am 19), .inl (zI g, 4, .inl (upd (upd (upd (upd (fun _ => 0) 0 (-1)) 1 (-1)) 2 (-1)) 3 (-1)))), ((am 20), .inl (zI g, 4, .inl (fun _ => 0))), ((am 21), .inl (zJ g, 64, .inr (.inl (fun _ => 0))))] H := hP
    have hD : va_D (fun q : Nat => s.heap.size ≤ q) [((am 0), .inr (5, [.ref (am 1), .int 0, .ref (am 2), .int 0, .int 0, .ref (am 3), .ref (am 4), .ref (am 5), .ref (am 6), .int 0, .ref (am 7), .ref (am 8), .ref (am 9), .int 0, .ref (am 10), .ref (am 11), .ref (am 12), .ref (am 13), .ref (am 14), .ref (am 15), .ref (am 16), .ref (am 17), .ref (am 18), .ref (am 19), .ref (am 20), .ref (am 21), .ref (am 22)])), ((am 19), .inl (zI g, 4, .inl (upd (upd (upd (upd (fun _ => 0) 0 (-1)) 1 (-1)) 2 (-1)) 3 (-1)))), ((am 20), .inl (zI g, 4, .inl (fun _ => 0))), ((am 21), .inl (zJ g, 64, .inr (.inl (fun _ => 0))))] := hD
    refine lv_aload_n hx hb dL_law_861 rfl (lv_at hl 2 rfl) ?_
    refine lv_aload_n hx hb dL_law_862 rfl (lv_at hl 0 rfl) ?_
    refine lv_iload_n hx hb dL_law_863 rfl (lv_at hl 3 rfl) ?_
    refine lv_iconst (v := 1) hx hb dL_law_864 (by decide) ?_
    refine lv_iadd hx hb dL_law_865 ?_
    refine lv_topi (nm_r (e' := 1) (by decide +kernel) ?_)
    refine va_sld hx hb hX hbl hbA hS (vp_in_iff.mpr (by decide +kernel)) dL_law_866 ?_
    refine lv_topi (nm_r (e' := (xs 1)) (by rfl) ?_)
    refine lv_aload_n hx hb dL_law_867 rfl (lv_at hl 0 rfl) ?_
    refine lv_iload_n hx hb dL_law_868 rfl (lv_at hl 3 rfl) ?_
    refine lv_iconst (v := 2) hx hb dL_law_869 (by decide) ?_
    refine lv_iadd hx hb dL_law_870 ?_
    refine lv_topi (nm_r (e' := 2) (by decide +kernel) ?_)
    refine va_sld hx hb hX hbl hbA hS (vp_in_iff.mpr (by decide +kernel)) dL_law_871 ?_
    refine lv_topi (nm_r (e' := (xs 2)) (by rfl) ?_)
    refine lv_aload_n hx hb dL_law_872 rfl (lv_at hl 0 rfl) ?_
    refine lv_iload_n hx hb dL_law_873 rfl (lv_at hl 3 rfl) ?_
    refine lv_iconst (v := 3) hx hb dL_law_874 (by decide) ?_
    refine lv_iadd hx hb dL_law_875 ?_
    refine lv_topi (nm_r (e' := 3) (by decide +kernel) ?_)
    refine va_sld hx hb hX hbl hbA hS (vp_in_iff.mpr (by decide +kernel)) dL_law_876 ?_
    refine lv_topi (nm_r (e' := (xs 3)) (by rfl) ?_)
    refine z_calli (wr := []) hP hD hS hA [0, 1, 2, 3] [] (by decide) rfl rfl (by decide) (va_runV (As := [.int (xs 1), .int (xs 2), .int (xs 3)]) (rest := [.int (xs 3)]) ⟨hx, hb, hml, hown, hts⟩ (kX5_sheet l g (am 0) (am 1) (am 2) (am 3) (am 4) (am 5) (am 6) (am 7) (am 8) (am 9) (am 10) (am 11) (am 12) (am 13) (am 14) (am 15) (am 16) (am 17) (am 18) (am 19) (am 20) (am 21) (am 22) H.size (xs 1) (xs 2) (xs 3)) ⟨callB_of 3 hts (zGood m_o_yX5_sheet) rfl rfl rfl (hts _ m_z_RX5) (hts _ m_m_RL_120) ⟨by decide +kernel, by decide +kernel, by decide +kernel⟩ ⟨Nat.le_of_ble_eq_true rfl, Nat.le_of_ble_eq_true rfl⟩, hts _ m_i_yX5_sheet, hts _ m_e_yX5_sheet⟩ (zPreV hK hN hZ hP hD hS hA [0, 1, 2, 3] (by decide) rfl rfl 5 0 rfl rfl) rfl rfl hl.1 rfl (lv_room (Nat.le_of_ble_eq_true rfl)) dL_law_877 ⟨Nat.le_of_ble_eq_true rfl, Nat.le_of_ble_eq_true rfl⟩) (fun r u H locs hw hP hD hS => ?_)
    rcases hw with ⟨i_318, rfl⟩ | ⟨i_319, i_320, rfl⟩ | ⟨i_321, i_322, i_323, rfl⟩ | ⟨i_324, i_325, i_326, i_327, rfl⟩ | ⟨i_328, i_329, i_330, i_331, i_332, i_333, i_334, rfl⟩ | ⟨i_335, i_336, i_337, i_338, i_339, i_340, i_341, rfl⟩ | ⟨i_342, i_343, i_344, i_345, i_346, i_347, i_348, rfl⟩ | ⟨i_349, i_350, i_351, i_352, i_353, i_354, i_355, rfl⟩ | ⟨i_356, i_357, i_358, i_359, i_360, i_361, rfl⟩ | ⟨i_362, i_363, i_364, i_365, i_366, rfl⟩
    · exfalso; omega
    · exfalso; omega
    · exfalso; omega
    · exfalso; omega
    · exfalso; omega
    · skip
      have hP : va_P g.1 vwCl [] H := hP
      have hD : va_D (fun q : Nat => s.heap.size ≤ q) [] := hD
      refine lv_icmp_eq (tgt := 1054) hx hb dL_law_880 (by decide) (fun _ => ?_) (fun h => absurd rfl h)
      exact lc_tail ⟨hx, hb, hml, hr, hlocks, hown, hts, hK, hN, hZ, hX, hbl⟩ hS (lv_sub hl [0, 1, 2, 3] rfl)
    · exfalso; omega
    · exfalso; omega
    · exfalso; omega
    · exfalso; omega
  · skip
    have hP : va_P g.1 vwCl [((am 0), .inr (5, [.ref (am 1), .int 0, .ref (am 2), .int 0, .int 0, .ref (am 3), .ref (am 4), .ref (am 5), .ref (am 6), .int 0, .ref (am 7), .ref (am 8), .ref (am 9), .int 0, .ref (am 10), .ref (am 11), .ref (am 12), .ref (am 13), .ref (am 14), .ref (am 15), .ref (am 16), .ref (am 17), .ref (am 18), .ref (am 19), .ref (am 20), .ref (am 21), .ref (am 22)])), ((am 19), .inl (zI g, 4, .inl (upd (upd (upd (upd (fun _ => 0) 0 (-1)) 1 (-1)) 2 (-1)) 3 (-1)))), ((am 20), .inl (zI g, 4, .inl (fun _ => 0))), ((am 21), .inl (zJ g, 64, .inr (.inl (fun _ => 0))))] H := hP
    have hD : va_D (fun q : Nat => s.heap.size ≤ q) [((am 0), .inr (5, [.ref (am 1), .int 0, .ref (am 2), .int 0, .int 0, .ref (am 3), .ref (am 4), .ref (am 5), .ref (am 6), .int 0, .ref (am 7), .ref (am 8), .ref (am 9), .int 0, .ref (am 10), .ref (am 11), .ref (am 12), .ref (am 13), .ref (am 14), .ref (am 15), .ref (am 16), .ref (am 17), .ref (am 18), .ref (am 19), .ref (am 20), .ref (am 21), .ref (am 22)])), ((am 19), .inl (zI g, 4, .inl (upd (upd (upd (upd (fun _ => 0) 0 (-1)) 1 (-1)) 2 (-1)) 3 (-1)))), ((am 20), .inl (zI g, 4, .inl (fun _ => 0))), ((am 21), .inl (zJ g, 64, .inr (.inl (fun _ => 0))))] := hD
    refine lv_aload_n hx hb dL_law_861 rfl (lv_at hl 2 rfl) ?_
    refine lv_aload_n hx hb dL_law_862 rfl (lv_at hl 0 rfl) ?_
    refine lv_iload_n hx hb dL_law_863 rfl (lv_at hl 3 rfl) ?_
    refine lv_iconst (v := 1) hx hb dL_law_864 (by decide) ?_
    refine lv_iadd hx hb dL_law_865 ?_
    refine lv_topi (nm_r (e' := 1) (by decide +kernel) ?_)
    refine va_sld hx hb hX hbl hbA hS (vp_in_iff.mpr (by decide +kernel)) dL_law_866 ?_
    refine lv_topi (nm_r (e' := (xs 1)) (by rfl) ?_)
    refine lv_aload_n hx hb dL_law_867 rfl (lv_at hl 0 rfl) ?_
    refine lv_iload_n hx hb dL_law_868 rfl (lv_at hl 3 rfl) ?_
    refine lv_iconst (v := 2) hx hb dL_law_869 (by decide) ?_
    refine lv_iadd hx hb dL_law_870 ?_
    refine lv_topi (nm_r (e' := 2) (by decide +kernel) ?_)
    refine va_sld hx hb hX hbl hbA hS (vp_in_iff.mpr (by decide +kernel)) dL_law_871 ?_
    refine lv_topi (nm_r (e' := (xs 2)) (by rfl) ?_)
    refine lv_aload_n hx hb dL_law_872 rfl (lv_at hl 0 rfl) ?_
    refine lv_iload_n hx hb dL_law_873 rfl (lv_at hl 3 rfl) ?_
    refine lv_iconst (v := 3) hx hb dL_law_874 (by decide) ?_
    refine lv_iadd hx hb dL_law_875 ?_
    refine lv_topi (nm_r (e' := 3) (by decide +kernel) ?_)
    refine va_sld hx hb hX hbl hbA hS (vp_in_iff.mpr (by decide +kernel)) dL_law_876 ?_
    refine lv_topi (nm_r (e' := (xs 3)) (by rfl) ?_)
    refine z_calli (wr := []) hP hD hS hA [0, 1, 2, 3] [] (by decide) rfl rfl (by decide) (va_runV (As := [.int (xs 1), .int (xs 2), .int (xs 3)]) (rest := [.int (xs 3)]) ⟨hx, hb, hml, hown, hts⟩ (kX5_sheet l g (am 0) (am 1) (am 2) (am 3) (am 4) (am 5) (am 6) (am 7) (am 8) (am 9) (am 10) (am 11) (am 12) (am 13) (am 14) (am 15) (am 16) (am 17) (am 18) (am 19) (am 20) (am 21) (am 22) H.size (xs 1) (xs 2) (xs 3)) ⟨callB_of 3 hts (zGood m_o_yX5_sheet) rfl rfl rfl (hts _ m_z_RX5) (hts _ m_m_RL_120) ⟨by decide +kernel, by decide +kernel, by decide +kernel⟩ ⟨Nat.le_of_ble_eq_true rfl, Nat.le_of_ble_eq_true rfl⟩, hts _ m_i_yX5_sheet, hts _ m_e_yX5_sheet⟩ (zPreV hK hN hZ hP hD hS hA [0, 1, 2, 3] (by decide) rfl rfl 5 0 rfl rfl) rfl rfl hl.1 rfl (lv_room (Nat.le_of_ble_eq_true rfl)) dL_law_877 ⟨Nat.le_of_ble_eq_true rfl, Nat.le_of_ble_eq_true rfl⟩) (fun r u H locs hw hP hD hS => ?_)
    rcases hw with ⟨i_367, rfl⟩ | ⟨i_368, i_369, rfl⟩ | ⟨i_370, i_371, i_372, rfl⟩ | ⟨i_373, i_374, i_375, i_376, rfl⟩ | ⟨i_377, i_378, i_379, i_380, i_381, i_382, i_383, rfl⟩ | ⟨i_384, i_385, i_386, i_387, i_388, i_389, i_390, rfl⟩ | ⟨i_391, i_392, i_393, i_394, i_395, i_396, i_397, rfl⟩ | ⟨i_398, i_399, i_400, i_401, i_402, i_403, i_404, rfl⟩ | ⟨i_405, i_406, i_407, i_408, i_409, i_410, rfl⟩ | ⟨i_411, i_412, i_413, i_414, i_415, rfl⟩
    · exfalso; omega
    · exfalso; omega
    · exfalso; omega
    · exfalso; omega
    · exfalso; omega
    · exfalso; omega
    · skip
      have hP : va_P g.1 vwCl [] H := hP
      have hD : va_D (fun q : Nat => s.heap.size ≤ q) [] := hD
      refine lv_icmp_eq (tgt := 1054) hx hb dL_law_880 (by decide) (fun _ => ?_) (fun h => absurd rfl h)
      exact lc_tail ⟨hx, hb, hml, hr, hlocks, hown, hts, hK, hN, hZ, hX, hbl⟩ hS (lv_sub hl [0, 1, 2, 3] rfl)
    · exfalso; omega
    · exfalso; omega
    · exfalso; omega
  · skip
    have hP : va_P g.1 vwCl [((am 0), .inr (5, [.ref (am 1), .int 0, .ref (am 2), .int 0, .int 0, .ref (am 3), .ref (am 4), .ref (am 5), .ref (am 6), .int 0, .ref (am 7), .ref (am 8), .ref (am 9), .int 0, .ref (am 10), .ref (am 11), .ref (am 12), .ref (am 13), .ref (am 14), .ref (am 15), .ref (am 16), .ref (am 17), .ref (am 18), .ref (am 19), .ref (am 20), .ref (am 21), .ref (am 22)])), ((am 19), .inl (zI g, 4, .inl (upd (upd (upd (upd (fun _ => 0) 0 (-1)) 1 (-1)) 2 (-1)) 3 (-1)))), ((am 20), .inl (zI g, 4, .inl (fun _ => 0))), ((am 21), .inl (zJ g, 64, .inr (.inl (fun _ => 0))))] H := hP
    have hD : va_D (fun q : Nat => s.heap.size ≤ q) [((am 0), .inr (5, [.ref (am 1), .int 0, .ref (am 2), .int 0, .int 0, .ref (am 3), .ref (am 4), .ref (am 5), .ref (am 6), .int 0, .ref (am 7), .ref (am 8), .ref (am 9), .int 0, .ref (am 10), .ref (am 11), .ref (am 12), .ref (am 13), .ref (am 14), .ref (am 15), .ref (am 16), .ref (am 17), .ref (am 18), .ref (am 19), .ref (am 20), .ref (am 21), .ref (am 22)])), ((am 19), .inl (zI g, 4, .inl (upd (upd (upd (upd (fun _ => 0) 0 (-1)) 1 (-1)) 2 (-1)) 3 (-1)))), ((am 20), .inl (zI g, 4, .inl (fun _ => 0))), ((am 21), .inl (zJ g, 64, .inr (.inl (fun _ => 0))))] := hD
    refine lv_aload_n hx hb dL_law_861 rfl (lv_at hl 2 rfl) ?_
    refine lv_aload_n hx hb dL_law_862 rfl (lv_at hl 0 rfl) ?_
    refine lv_iload_n hx hb dL_law_863 rfl (lv_at hl 3 rfl) ?_
    refine lv_iconst (v := 1) hx hb dL_law_864 (by decide) ?_
    refine lv_iadd hx hb dL_law_865 ?_
    refine lv_topi (nm_r (e' := 1) (by decide +kernel) ?_)
    refine va_sld hx hb hX hbl hbA hS (vp_in_iff.mpr (by decide +kernel)) dL_law_866 ?_
    refine lv_topi (nm_r (e' := (xs 1)) (by rfl) ?_)
    refine lv_aload_n hx hb dL_law_867 rfl (lv_at hl 0 rfl) ?_
    refine lv_iload_n hx hb dL_law_868 rfl (lv_at hl 3 rfl) ?_
    refine lv_iconst (v := 2) hx hb dL_law_869 (by decide) ?_
    refine lv_iadd hx hb dL_law_870 ?_
    refine lv_topi (nm_r (e' := 2) (by decide +kernel) ?_)
    refine va_sld hx hb hX hbl hbA hS (vp_in_iff.mpr (by decide +kernel)) dL_law_871 ?_
    refine lv_topi (nm_r (e' := (xs 2)) (by rfl) ?_)
    refine lv_aload_n hx hb dL_law_872 rfl (lv_at hl 0 rfl) ?_
    refine lv_iload_n hx hb dL_law_873 rfl (lv_at hl 3 rfl) ?_
    refine lv_iconst (v := 3) hx hb dL_law_874 (by decide) ?_
    refine lv_iadd hx hb dL_law_875 ?_
    refine lv_topi (nm_r (e' := 3) (by decide +kernel) ?_)
    refine va_sld hx hb hX hbl hbA hS (vp_in_iff.mpr (by decide +kernel)) dL_law_876 ?_
    refine lv_topi (nm_r (e' := (xs 3)) (by rfl) ?_)
    refine z_calli (wr := []) hP hD hS hA [0, 1, 2, 3] [] (by decide) rfl rfl (by decide) (va_runV (As := [.int (xs 1), .int (xs 2), .int (xs 3)]) (rest := [.int (xs 3)]) ⟨hx, hb, hml, hown, hts⟩ (kX5_sheet l g (am 0) (am 1) (am 2) (am 3) (am 4) (am 5) (am 6) (am 7) (am 8) (am 9) (am 10) (am 11) (am 12) (am 13) (am 14) (am 15) (am 16) (am 17) (am 18) (am 19) (am 20) (am 21) (am 22) H.size (xs 1) (xs 2) (xs 3)) ⟨callB_of 3 hts (zGood m_o_yX5_sheet) rfl rfl rfl (hts _ m_z_RX5) (hts _ m_m_RL_120) ⟨by decide +kernel, by decide +kernel, by decide +kernel⟩ ⟨Nat.le_of_ble_eq_true rfl, Nat.le_of_ble_eq_true rfl⟩, hts _ m_i_yX5_sheet, hts _ m_e_yX5_sheet⟩ (zPreV hK hN hZ hP hD hS hA [0, 1, 2, 3] (by decide) rfl rfl 5 0 rfl rfl) rfl rfl hl.1 rfl (lv_room (Nat.le_of_ble_eq_true rfl)) dL_law_877 ⟨Nat.le_of_ble_eq_true rfl, Nat.le_of_ble_eq_true rfl⟩) (fun r u H locs hw hP hD hS => ?_)
    rcases hw with ⟨i_416, rfl⟩ | ⟨i_417, i_418, rfl⟩ | ⟨i_419, i_420, i_421, rfl⟩ | ⟨i_422, i_423, i_424, i_425, rfl⟩ | ⟨i_426, i_427, i_428, i_429, i_430, i_431, i_432, rfl⟩ | ⟨i_433, i_434, i_435, i_436, i_437, i_438, i_439, rfl⟩ | ⟨i_440, i_441, i_442, i_443, i_444, i_445, i_446, rfl⟩ | ⟨i_447, i_448, i_449, i_450, i_451, i_452, i_453, rfl⟩ | ⟨i_454, i_455, i_456, i_457, i_458, i_459, rfl⟩ | ⟨i_460, i_461, i_462, i_463, i_464, rfl⟩
    · exfalso; omega
    · exfalso; omega
    · exfalso; omega
    · exfalso; omega
    · exfalso; omega
    · exfalso; omega
    · exfalso; omega
    · skip
      have hP : va_P g.1 vwCl [] H := hP
      have hD : va_D (fun q : Nat => s.heap.size ≤ q) [] := hD
      refine lv_icmp_eq (tgt := 1054) hx hb dL_law_880 (by decide) (fun _ => ?_) (fun h => absurd rfl h)
      exact lc_tail ⟨hx, hb, hml, hr, hlocks, hown, hts, hK, hN, hZ, hX, hbl⟩ hS (lv_sub hl [0, 1, 2, 3] rfl)
    · exfalso; omega
    · exfalso; omega
  · skip
    have hP : va_P g.1 vwCl [((am 0), .inr (5, [.ref (am 1), .int 0, .ref (am 2), .int 0, .int 0, .ref (am 3), .ref (am 4), .ref (am 5), .ref (am 6), .int 0, .ref (am 7), .ref (am 8), .ref (am 9), .int 0, .ref (am 10), .ref (am 11), .ref (am 12), .ref (am 13), .ref (am 14), .ref (am 15), .ref (am 16), .ref (am 17), .ref (am 18), .ref (am 19), .ref (am 20), .ref (am 21), .ref (am 22)])), ((am 19), .inl (zI g, 4, .inl (upd (upd (upd (upd (fun _ => 0) 0 (-1)) 1 (-1)) 2 (-1)) 3 (-1)))), ((am 20), .inl (zI g, 4, .inl (fun _ => 0))), ((am 21), .inl (zJ g, 64, .inr (.inl (fun _ => 0))))] H := hP
    have hD : va_D (fun q : Nat => s.heap.size ≤ q) [((am 0), .inr (5, [.ref (am 1), .int 0, .ref (am 2), .int 0, .int 0, .ref (am 3), .ref (am 4), .ref (am 5), .ref (am 6), .int 0, .ref (am 7), .ref (am 8), .ref (am 9), .int 0, .ref (am 10), .ref (am 11), .ref (am 12), .ref (am 13), .ref (am 14), .ref (am 15), .ref (am 16), .ref (am 17), .ref (am 18), .ref (am 19), .ref (am 20), .ref (am 21), .ref (am 22)])), ((am 19), .inl (zI g, 4, .inl (upd (upd (upd (upd (fun _ => 0) 0 (-1)) 1 (-1)) 2 (-1)) 3 (-1)))), ((am 20), .inl (zI g, 4, .inl (fun _ => 0))), ((am 21), .inl (zJ g, 64, .inr (.inl (fun _ => 0))))] := hD
    refine lv_aload_n hx hb dL_law_861 rfl (lv_at hl 2 rfl) ?_
    refine lv_aload_n hx hb dL_law_862 rfl (lv_at hl 0 rfl) ?_
    refine lv_iload_n hx hb dL_law_863 rfl (lv_at hl 3 rfl) ?_
    refine lv_iconst (v := 1) hx hb dL_law_864 (by decide) ?_
    refine lv_iadd hx hb dL_law_865 ?_
    refine lv_topi (nm_r (e' := 1) (by decide +kernel) ?_)
    refine va_sld hx hb hX hbl hbA hS (vp_in_iff.mpr (by decide +kernel)) dL_law_866 ?_
    refine lv_topi (nm_r (e' := (xs 1)) (by rfl) ?_)
    refine lv_aload_n hx hb dL_law_867 rfl (lv_at hl 0 rfl) ?_
    refine lv_iload_n hx hb dL_law_868 rfl (lv_at hl 3 rfl) ?_
    refine lv_iconst (v := 2) hx hb dL_law_869 (by decide) ?_
    refine lv_iadd hx hb dL_law_870 ?_
    refine lv_topi (nm_r (e' := 2) (by decide +kernel) ?_)
    refine va_sld hx hb hX hbl hbA hS (vp_in_iff.mpr (by decide +kernel)) dL_law_871 ?_
    refine lv_topi (nm_r (e' := (xs 2)) (by rfl) ?_)
    refine lv_aload_n hx hb dL_law_872 rfl (lv_at hl 0 rfl) ?_
    refine lv_iload_n hx hb dL_law_873 rfl (lv_at hl 3 rfl) ?_
    refine lv_iconst (v := 3) hx hb dL_law_874 (by decide) ?_
    refine lv_iadd hx hb dL_law_875 ?_
    refine lv_topi (nm_r (e' := 3) (by decide +kernel) ?_)
    refine va_sld hx hb hX hbl hbA hS (vp_in_iff.mpr (by decide +kernel)) dL_law_876 ?_
    refine lv_topi (nm_r (e' := (xs 3)) (by rfl) ?_)
    refine z_calli (wr := []) hP hD hS hA [0, 1, 2, 3] [] (by decide) rfl rfl (by decide) (va_runV (As := [.int (xs 1), .int (xs 2), .int (xs 3)]) (rest := [.int (-14)]) ⟨hx, hb, hml, hown, hts⟩ (kX5_sheet l g (am 0) (am 1) (am 2) (am 3) (am 4) (am 5) (am 6) (am 7) (am 8) (am 9) (am 10) (am 11) (am 12) (am 13) (am 14) (am 15) (am 16) (am 17) (am 18) (am 19) (am 20) (am 21) (am 22) H.size (xs 1) (xs 2) (xs 3)) ⟨callB_of 3 hts (zGood m_o_yX5_sheet) rfl rfl rfl (hts _ m_z_RX5) (hts _ m_m_RL_120) ⟨by decide +kernel, by decide +kernel, by decide +kernel⟩ ⟨Nat.le_of_ble_eq_true rfl, Nat.le_of_ble_eq_true rfl⟩, hts _ m_i_yX5_sheet, hts _ m_e_yX5_sheet⟩ (zPreV hK hN hZ hP hD hS hA [0, 1, 2, 3] (by decide) rfl rfl 5 0 rfl rfl) rfl rfl hl.1 rfl (lv_room (Nat.le_of_ble_eq_true rfl)) dL_law_877 ⟨Nat.le_of_ble_eq_true rfl, Nat.le_of_ble_eq_true rfl⟩) (fun r u H locs hw hP hD hS => ?_)
    rcases hw with ⟨i_465, rfl⟩ | ⟨i_466, i_467, rfl⟩ | ⟨i_468, i_469, i_470, rfl⟩ | ⟨i_471, i_472, i_473, i_474, rfl⟩ | ⟨i_475, i_476, i_477, i_478, i_479, i_480, i_481, rfl⟩ | ⟨i_482, i_483, i_484, i_485, i_486, i_487, i_488, rfl⟩ | ⟨i_489, i_490, i_491, i_492, i_493, i_494, i_495, rfl⟩ | ⟨i_496, i_497, i_498, i_499, i_500, i_501, i_502, rfl⟩ | ⟨i_503, i_504, i_505, i_506, i_507, i_508, rfl⟩ | ⟨i_509, i_510, i_511, i_512, i_513, rfl⟩
    · exfalso; omega
    · exfalso; omega
    · exfalso; omega
    · exfalso; omega
    · exfalso; omega
    · exfalso; omega
    · exfalso; omega
    · exfalso; omega
    · skip
      have hP : va_P g.1 vwCl [] H := hP
      have hD : va_D (fun q : Nat => s.heap.size ≤ q) [] := hD
      refine lv_icmp_eq (tgt := 1054) hx hb dL_law_880 (by decide) (fun _ => ?_) (fun h => absurd h (by decide +kernel))
      exact lc_tail ⟨hx, hb, hml, hr, hlocks, hown, hts, hK, hN, hZ, hX, hbl⟩ hS (lv_sub hl [0, 1, 2, 3] rfl)
    · exfalso; omega
  · skip
    have hP : va_P g.1 vwCl [((am 0), .inr (5, [.ref (am 1), .int 0, .ref (am 2), .int 0, .int 0, .ref (am 3), .ref (am 4), .ref (am 5), .ref (am 6), .int 0, .ref (am 7), .ref (am 8), .ref (am 9), .int 0, .ref (am 10), .ref (am 11), .ref (am 12), .ref (am 13), .ref (am 14), .ref (am 15), .ref (am 16), .ref (am 17), .ref (am 18), .ref (am 19), .ref (am 20), .ref (am 21), .ref (am 22)])), ((am 19), .inl (zI g, 4, .inl (upd (upd (upd (upd (fun _ => 0) 0 (-1)) 1 (-1)) 2 (-1)) 3 (-1)))), ((am 20), .inl (zI g, 4, .inl (fun _ => 0))), ((am 21), .inl (zJ g, 64, .inr (.inl (fun _ => 0))))] H := hP
    have hD : va_D (fun q : Nat => s.heap.size ≤ q) [((am 0), .inr (5, [.ref (am 1), .int 0, .ref (am 2), .int 0, .int 0, .ref (am 3), .ref (am 4), .ref (am 5), .ref (am 6), .int 0, .ref (am 7), .ref (am 8), .ref (am 9), .int 0, .ref (am 10), .ref (am 11), .ref (am 12), .ref (am 13), .ref (am 14), .ref (am 15), .ref (am 16), .ref (am 17), .ref (am 18), .ref (am 19), .ref (am 20), .ref (am 21), .ref (am 22)])), ((am 19), .inl (zI g, 4, .inl (upd (upd (upd (upd (fun _ => 0) 0 (-1)) 1 (-1)) 2 (-1)) 3 (-1)))), ((am 20), .inl (zI g, 4, .inl (fun _ => 0))), ((am 21), .inl (zJ g, 64, .inr (.inl (fun _ => 0))))] := hD
    refine lv_aload_n hx hb dL_law_861 rfl (lv_at hl 2 rfl) ?_
    refine lv_aload_n hx hb dL_law_862 rfl (lv_at hl 0 rfl) ?_
    refine lv_iload_n hx hb dL_law_863 rfl (lv_at hl 3 rfl) ?_
    refine lv_iconst (v := 1) hx hb dL_law_864 (by decide) ?_
    refine lv_iadd hx hb dL_law_865 ?_
    refine lv_topi (nm_r (e' := 1) (by decide +kernel) ?_)
    refine va_sld hx hb hX hbl hbA hS (vp_in_iff.mpr (by decide +kernel)) dL_law_866 ?_
    refine lv_topi (nm_r (e' := (xs 1)) (by rfl) ?_)
    refine lv_aload_n hx hb dL_law_867 rfl (lv_at hl 0 rfl) ?_
    refine lv_iload_n hx hb dL_law_868 rfl (lv_at hl 3 rfl) ?_
    refine lv_iconst (v := 2) hx hb dL_law_869 (by decide) ?_
    refine lv_iadd hx hb dL_law_870 ?_
    refine lv_topi (nm_r (e' := 2) (by decide +kernel) ?_)
    refine va_sld hx hb hX hbl hbA hS (vp_in_iff.mpr (by decide +kernel)) dL_law_871 ?_
    refine lv_topi (nm_r (e' := (xs 2)) (by rfl) ?_)
    refine lv_aload_n hx hb dL_law_872 rfl (lv_at hl 0 rfl) ?_
    refine lv_iload_n hx hb dL_law_873 rfl (lv_at hl 3 rfl) ?_
    refine lv_iconst (v := 3) hx hb dL_law_874 (by decide) ?_
    refine lv_iadd hx hb dL_law_875 ?_
    refine lv_topi (nm_r (e' := 3) (by decide +kernel) ?_)
    refine va_sld hx hb hX hbl hbA hS (vp_in_iff.mpr (by decide +kernel)) dL_law_876 ?_
    refine lv_topi (nm_r (e' := (xs 3)) (by rfl) ?_)
    refine z_calli (wr := []) hP hD hS hA [0, 1, 2, 3] [] (by decide) rfl rfl (by decide) (va_runV (As := [.int (xs 1), .int (xs 2), .int (xs 3)]) (rest := [.int (-1)]) ⟨hx, hb, hml, hown, hts⟩ (kX5_sheet l g (am 0) (am 1) (am 2) (am 3) (am 4) (am 5) (am 6) (am 7) (am 8) (am 9) (am 10) (am 11) (am 12) (am 13) (am 14) (am 15) (am 16) (am 17) (am 18) (am 19) (am 20) (am 21) (am 22) H.size (xs 1) (xs 2) (xs 3)) ⟨callB_of 3 hts (zGood m_o_yX5_sheet) rfl rfl rfl (hts _ m_z_RX5) (hts _ m_m_RL_120) ⟨by decide +kernel, by decide +kernel, by decide +kernel⟩ ⟨Nat.le_of_ble_eq_true rfl, Nat.le_of_ble_eq_true rfl⟩, hts _ m_i_yX5_sheet, hts _ m_e_yX5_sheet⟩ (zPreV hK hN hZ hP hD hS hA [0, 1, 2, 3] (by decide) rfl rfl 5 0 rfl rfl) rfl rfl hl.1 rfl (lv_room (Nat.le_of_ble_eq_true rfl)) dL_law_877 ⟨Nat.le_of_ble_eq_true rfl, Nat.le_of_ble_eq_true rfl⟩) (fun r u H locs hw hP hD hS => ?_)
    rcases hw with ⟨i_514, rfl⟩ | ⟨i_515, i_516, rfl⟩ | ⟨i_517, i_518, i_519, rfl⟩ | ⟨i_520, i_521, i_522, i_523, rfl⟩ | ⟨i_524, i_525, i_526, i_527, i_528, i_529, i_530, rfl⟩ | ⟨i_531, i_532, i_533, i_534, i_535, i_536, i_537, rfl⟩ | ⟨i_538, i_539, i_540, i_541, i_542, i_543, i_544, rfl⟩ | ⟨i_545, i_546, i_547, i_548, i_549, i_550, i_551, rfl⟩ | ⟨i_552, i_553, i_554, i_555, i_556, i_557, rfl⟩ | ⟨i_558, i_559, i_560, i_561, i_562, rfl⟩
    · exfalso; omega
    · exfalso; omega
    · exfalso; omega
    · exfalso; omega
    · exfalso; omega
    · exfalso; omega
    · exfalso; omega
    · exfalso; omega
    · exfalso; omega
    · skip
      have hP : va_P g.1 vwCl [] H := hP
      have hD : va_D (fun q : Nat => s.heap.size ≤ q) [] := hD
      refine lv_icmp_eq (tgt := 1054) hx hb dL_law_880 (by decide) (fun _ => ?_) (fun h => absurd h (by decide +kernel))
      exact lc_tail ⟨hx, hb, hml, hr, hlocks, hown, hts, hK, hN, hZ, hX, hbl⟩ hS (lv_sub hl [0, 1, 2, 3] rfl)
set_option maxHeartbeats 4000000 in
set_option maxRecDepth 100000 in
theorem lc_drop {p : Program} {l : Launch} {e : Env} {s : State} {m : MethodId} {below : List Frame} {meth : Method} {c : Code} {b : Nat} {xs : Nat → Int32} {g : zG} (C0 : lC g p s m meth c b xs) {ax am : Nat → Nat} {H : Heap} {locs : List Loc} (hP : va_P g.1 vwCl (lW g ax am) H) (hD : va_D (fun q : Nat => s.heap.size ≤ q) (lW g ax am)) (hS : va_S (fun q : Nat => s.heap.size ≤ q) s.heap H locs) {ls : Array Slot} (hl : lv_has ls 4 [(0, .ref b), (1, .ref (ax 0)), (2, .ref (am 0)), (3, .int 0)]) : W p l e room_1 s m #[Value.ref b] below meth c H locs 600000 7302250 (lw_Z below #[Value.ref b] s) (F0 m 885 ls []) := by
  obtain ⟨hx, hb, hml, hr, hlocks, hown, hts, hK, hN, hZ, hX, hbl⟩ := C0
  have hA : ∀ q : Nat, s.heap.size ≤ q → (fun q : Nat => s.heap.size ≤ q) q := fun _ h => h
  have hbA : ¬ (fun q : Nat => s.heap.size ≤ q) b := Nat.not_le.mpr hbl
  have hP := hP.sub (ws' := [((ax 0), .inr (4, [.ref (ax 1), .ref (ax 10), .int 0, .ref (ax 19), .ref (ax 30), .ref (ax 32), .ref (ax 36), .int (-1), .ref (ax 37), .ref (ax 38), .ref (ax 39), .ref (ax 40)])), ((ax 32), .inr (1, [.ref (ax 33), .ref (ax 34), .ref (ax 35)])), ((ax 33), .inl (zI g, 4, .inl (upd (upd (upd (upd (fun _ => 0) 0 (-1)) 1 (-1)) 2 (-1)) 3 (-1)))), ((am 0), .inr (5, [.ref (am 1), .int 0, .ref (am 2), .int 0, .int 0, .ref (am 3), .ref (am 4), .ref (am 5), .ref (am 6), .int 0, .ref (am 7), .ref (am 8), .ref (am 9), .int 0, .ref (am 10), .ref (am 11), .ref (am 12), .ref (am 13), .ref (am 14), .ref (am 15), .ref (am 16), .ref (am 17), .ref (am 18), .ref (am 19), .ref (am 20), .ref (am 21), .ref (am 22)])), ((am 19), .inl (zI g, 4, .inl (upd (upd (upd (upd (fun _ => 0) 0 (-1)) 1 (-1)) 2 (-1)) 3 (-1))))]) [0, 32, 33, 41, 60] rfl
  have hD := hD.sub (ws' := [((ax 0), .inr (4, [.ref (ax 1), .ref (ax 10), .int 0, .ref (ax 19), .ref (ax 30), .ref (ax 32), .ref (ax 36), .int (-1), .ref (ax 37), .ref (ax 38), .ref (ax 39), .ref (ax 40)])), ((ax 32), .inr (1, [.ref (ax 33), .ref (ax 34), .ref (ax 35)])), ((ax 33), .inl (zI g, 4, .inl (upd (upd (upd (upd (fun _ => 0) 0 (-1)) 1 (-1)) 2 (-1)) 3 (-1)))), ((am 0), .inr (5, [.ref (am 1), .int 0, .ref (am 2), .int 0, .int 0, .ref (am 3), .ref (am 4), .ref (am 5), .ref (am 6), .int 0, .ref (am 7), .ref (am 8), .ref (am 9), .int 0, .ref (am 10), .ref (am 11), .ref (am 12), .ref (am 13), .ref (am 14), .ref (am 15), .ref (am 16), .ref (am 17), .ref (am 18), .ref (am 19), .ref (am 20), .ref (am 21), .ref (am 22)])), ((am 19), .inl (zI g, 4, .inl (upd (upd (upd (upd (fun _ => 0) 0 (-1)) 1 (-1)) 2 (-1)) 3 (-1))))]) [0, 32, 33, 41, 60] (by decide) rfl
  refine lv_aload_n hx hb dL_law_885 rfl (lv_at hl 1 rfl) ?_
  refine lv_aload_n hx hb dL_law_886 rfl (lv_at hl 0 rfl) ?_
  refine lv_iload_n hx hb dL_law_887 rfl (lv_at hl 3 rfl) ?_
  refine lv_iconst (v := 1) hx hb dL_law_888 (by decide) ?_
  refine lv_iadd hx hb dL_law_889 ?_
  refine lv_topi (nm_r (e' := 1) (by decide +kernel) ?_)
  refine va_sld hx hb hX hbl hbA hS (vp_in_iff.mpr (by decide +kernel)) dL_law_890 ?_
  refine lv_topi (nm_r (e' := (xs 1)) (by rfl) ?_)
  refine z_calli (wr := [((am 0), .inr (5, [.ref (am 1), .int 0, .ref (am 2), .int 0, .int 0, .ref (am 3), .ref (am 4), .ref (am 5), .ref (am 6), .int 0, .ref (am 7), .ref (am 8), .ref (am 9), .int 0, .ref (am 10), .ref (am 11), .ref (am 12), .ref (am 13), .ref (am 14), .ref (am 15), .ref (am 16), .ref (am 17), .ref (am 18), .ref (am 19), .ref (am 20), .ref (am 21), .ref (am 22)])), ((am 19), .inl (zI g, 4, .inl (upd (upd (upd (upd (fun _ => 0) 0 (-1)) 1 (-1)) 2 (-1)) 3 (-1))))]) hP hD hS hA [0, 1, 2] [3, 4] (by decide) rfl rfl (by decide) (va_runV (As := [.int (xs 1)]) (rest := []) ⟨hx, hb, hml, hown, hts⟩ (kX4_drop l g (ax 0) (ax 1) (ax 10) (ax 19) (ax 30) (ax 32) (ax 36) (ax 37) (ax 38) (ax 39) (ax 40) (ax 33) (ax 34) (ax 35) H.size (xs 1)) ⟨callB_of 1 hts (zGood m_o_yX4_drop) rfl rfl rfl (hts _ m_z_RX4) (hts _ m_m_RL_121) ⟨by decide +kernel, by decide +kernel, by decide +kernel⟩ ⟨Nat.le_of_ble_eq_true rfl, Nat.le_of_ble_eq_true rfl⟩, hts _ m_i_yX4_drop, hts _ m_e_yX4_drop⟩ (zPreV hK hN hZ hP hD hS hA [0, 1, 2] (by decide) rfl rfl 4 0 rfl rfl) rfl rfl hl.1 rfl (lv_room (Nat.le_of_ble_eq_true rfl)) dL_law_891 ⟨Nat.le_of_ble_eq_true rfl, Nat.le_of_ble_eq_true rfl⟩) (fun r u H locs hw hP hD hS => ?_)
  rcases hw with ⟨i_0, rfl⟩ | ⟨i_1, i_2, rfl⟩ | ⟨i_3, i_4, i_5, rfl⟩ | ⟨i_6, i_7, i_8, rfl⟩ | ⟨i_9, i_10, i_11, rfl⟩ | ⟨i_12, i_13, i_14, rfl⟩
  · skip
    have hP : va_P g.1 vwCl [((am 0), .inr (5, [.ref (am 1), .int 0, .ref (am 2), .int 0, .int 0, .ref (am 3), .ref (am 4), .ref (am 5), .ref (am 6), .int 0, .ref (am 7), .ref (am 8), .ref (am 9), .int 0, .ref (am 10), .ref (am 11), .ref (am 12), .ref (am 13), .ref (am 14), .ref (am 15), .ref (am 16), .ref (am 17), .ref (am 18), .ref (am 19), .ref (am 20), .ref (am 21), .ref (am 22)])), ((am 19), .inl (zI g, 4, .inl (upd (upd (upd (upd (fun _ => 0) 0 (-1)) 1 (-1)) 2 (-1)) 3 (-1))))] H := hP
    have hD : va_D (fun q : Nat => s.heap.size ≤ q) [((am 0), .inr (5, [.ref (am 1), .int 0, .ref (am 2), .int 0, .int 0, .ref (am 3), .ref (am 4), .ref (am 5), .ref (am 6), .int 0, .ref (am 7), .ref (am 8), .ref (am 9), .int 0, .ref (am 10), .ref (am 11), .ref (am 12), .ref (am 13), .ref (am 14), .ref (am 15), .ref (am 16), .ref (am 17), .ref (am 18), .ref (am 19), .ref (am 20), .ref (am 21), .ref (am 22)])), ((am 19), .inl (zI g, 4, .inl (upd (upd (upd (upd (fun _ => 0) 0 (-1)) 1 (-1)) 2 (-1)) 3 (-1))))] := hD
    refine lv_aload_n hx hb dL_law_894 rfl (lv_at hl 2 rfl) ?_
    refine lv_aload_n hx hb dL_law_895 rfl (lv_at hl 0 rfl) ?_
    refine lv_iload_n hx hb dL_law_896 rfl (lv_at hl 3 rfl) ?_
    refine lv_iconst (v := 1) hx hb dL_law_897 (by decide) ?_
    refine lv_iadd hx hb dL_law_898 ?_
    refine lv_topi (nm_r (e' := 1) (by decide +kernel) ?_)
    refine va_sld hx hb hX hbl hbA hS (vp_in_iff.mpr (by decide +kernel)) dL_law_899 ?_
    refine lv_topi (nm_r (e' := (xs 1)) (by rfl) ?_)
    refine z_calli (wr := []) hP hD hS hA [0, 1] [] (by decide) rfl rfl (by decide) (va_runV (As := [.int (xs 1)]) (rest := [.int (-1)]) ⟨hx, hb, hml, hown, hts⟩ (kX5_drop l g (am 0) (am 1) (am 2) (am 3) (am 4) (am 5) (am 6) (am 7) (am 8) (am 9) (am 10) (am 11) (am 12) (am 13) (am 14) (am 15) (am 16) (am 17) (am 18) (am 19) (am 20) (am 21) (am 22) H.size (xs 1)) ⟨callB_of 1 hts (zGood m_o_yX5_drop) rfl rfl rfl (hts _ m_z_RX5) (hts _ m_m_RL_124) ⟨by decide +kernel, by decide +kernel, by decide +kernel⟩ ⟨Nat.le_of_ble_eq_true rfl, Nat.le_of_ble_eq_true rfl⟩, hts _ m_i_yX5_drop, hts _ m_e_yX5_drop⟩ (zPreV hK hN hZ hP hD hS hA [0, 1] (by decide) rfl rfl 5 0 rfl rfl) rfl rfl hl.1 rfl (lv_room (Nat.le_of_ble_eq_true rfl)) dL_law_900 ⟨Nat.le_of_ble_eq_true rfl, Nat.le_of_ble_eq_true rfl⟩) (fun r u H locs hw hP hD hS => ?_)
    rcases hw with ⟨i_15, rfl⟩ | ⟨i_16, i_17, rfl⟩ | ⟨i_18, i_19, i_20, rfl⟩ | ⟨i_21, i_22, i_23, rfl⟩ | ⟨i_24, i_25, i_26, rfl⟩ | ⟨i_27, i_28, i_29, rfl⟩
    · skip
      have hP : va_P g.1 vwCl [] H := hP
      have hD : va_D (fun q : Nat => s.heap.size ≤ q) [] := hD
      refine lv_icmp_eq (tgt := 1054) hx hb dL_law_903 (by decide) (fun _ => ?_) (fun h => absurd h (by decide +kernel))
      exact lc_tail ⟨hx, hb, hml, hr, hlocks, hown, hts, hK, hN, hZ, hX, hbl⟩ hS (lv_sub hl [0, 1, 2, 3] rfl)
    · exfalso; omega
    · exfalso; omega
    · exfalso; omega
    · exfalso; omega
    · exfalso; omega
  · skip
    have hP : va_P g.1 vwCl [((am 0), .inr (5, [.ref (am 1), .int 0, .ref (am 2), .int 0, .int 0, .ref (am 3), .ref (am 4), .ref (am 5), .ref (am 6), .int 0, .ref (am 7), .ref (am 8), .ref (am 9), .int 0, .ref (am 10), .ref (am 11), .ref (am 12), .ref (am 13), .ref (am 14), .ref (am 15), .ref (am 16), .ref (am 17), .ref (am 18), .ref (am 19), .ref (am 20), .ref (am 21), .ref (am 22)])), ((am 19), .inl (zI g, 4, .inl (upd (upd (upd (upd (fun _ => 0) 0 (-1)) 1 (-1)) 2 (-1)) 3 (-1))))] H := hP
    have hD : va_D (fun q : Nat => s.heap.size ≤ q) [((am 0), .inr (5, [.ref (am 1), .int 0, .ref (am 2), .int 0, .int 0, .ref (am 3), .ref (am 4), .ref (am 5), .ref (am 6), .int 0, .ref (am 7), .ref (am 8), .ref (am 9), .int 0, .ref (am 10), .ref (am 11), .ref (am 12), .ref (am 13), .ref (am 14), .ref (am 15), .ref (am 16), .ref (am 17), .ref (am 18), .ref (am 19), .ref (am 20), .ref (am 21), .ref (am 22)])), ((am 19), .inl (zI g, 4, .inl (upd (upd (upd (upd (fun _ => 0) 0 (-1)) 1 (-1)) 2 (-1)) 3 (-1))))] := hD
    refine lv_aload_n hx hb dL_law_894 rfl (lv_at hl 2 rfl) ?_
    refine lv_aload_n hx hb dL_law_895 rfl (lv_at hl 0 rfl) ?_
    refine lv_iload_n hx hb dL_law_896 rfl (lv_at hl 3 rfl) ?_
    refine lv_iconst (v := 1) hx hb dL_law_897 (by decide) ?_
    refine lv_iadd hx hb dL_law_898 ?_
    refine lv_topi (nm_r (e' := 1) (by decide +kernel) ?_)
    refine va_sld hx hb hX hbl hbA hS (vp_in_iff.mpr (by decide +kernel)) dL_law_899 ?_
    refine lv_topi (nm_r (e' := (xs 1)) (by rfl) ?_)
    refine z_calli (wr := []) hP hD hS hA [0, 1] [] (by decide) rfl rfl (by decide) (va_runV (As := [.int (xs 1)]) (rest := [.int (-1)]) ⟨hx, hb, hml, hown, hts⟩ (kX5_drop l g (am 0) (am 1) (am 2) (am 3) (am 4) (am 5) (am 6) (am 7) (am 8) (am 9) (am 10) (am 11) (am 12) (am 13) (am 14) (am 15) (am 16) (am 17) (am 18) (am 19) (am 20) (am 21) (am 22) H.size (xs 1)) ⟨callB_of 1 hts (zGood m_o_yX5_drop) rfl rfl rfl (hts _ m_z_RX5) (hts _ m_m_RL_124) ⟨by decide +kernel, by decide +kernel, by decide +kernel⟩ ⟨Nat.le_of_ble_eq_true rfl, Nat.le_of_ble_eq_true rfl⟩, hts _ m_i_yX5_drop, hts _ m_e_yX5_drop⟩ (zPreV hK hN hZ hP hD hS hA [0, 1] (by decide) rfl rfl 5 0 rfl rfl) rfl rfl hl.1 rfl (lv_room (Nat.le_of_ble_eq_true rfl)) dL_law_900 ⟨Nat.le_of_ble_eq_true rfl, Nat.le_of_ble_eq_true rfl⟩) (fun r u H locs hw hP hD hS => ?_)
    rcases hw with ⟨i_30, rfl⟩ | ⟨i_31, i_32, rfl⟩ | ⟨i_33, i_34, i_35, rfl⟩ | ⟨i_36, i_37, i_38, rfl⟩ | ⟨i_39, i_40, i_41, rfl⟩ | ⟨i_42, i_43, i_44, rfl⟩
    · exfalso; omega
    · skip
      have hP : va_P g.1 vwCl [] H := hP
      have hD : va_D (fun q : Nat => s.heap.size ≤ q) [] := hD
      refine lv_icmp_eq (tgt := 1054) hx hb dL_law_903 (by decide) (fun _ => ?_) (fun h => absurd h (by decide +kernel))
      exact lc_tail ⟨hx, hb, hml, hr, hlocks, hown, hts, hK, hN, hZ, hX, hbl⟩ hS (lv_sub hl [0, 1, 2, 3] rfl)
    · exfalso; omega
    · exfalso; omega
    · exfalso; omega
    · exfalso; omega
  · skip
    have hP : va_P g.1 vwCl [((am 0), .inr (5, [.ref (am 1), .int 0, .ref (am 2), .int 0, .int 0, .ref (am 3), .ref (am 4), .ref (am 5), .ref (am 6), .int 0, .ref (am 7), .ref (am 8), .ref (am 9), .int 0, .ref (am 10), .ref (am 11), .ref (am 12), .ref (am 13), .ref (am 14), .ref (am 15), .ref (am 16), .ref (am 17), .ref (am 18), .ref (am 19), .ref (am 20), .ref (am 21), .ref (am 22)])), ((am 19), .inl (zI g, 4, .inl (upd (upd (upd (upd (fun _ => 0) 0 (-1)) 1 (-1)) 2 (-1)) 3 (-1))))] H := hP
    have hD : va_D (fun q : Nat => s.heap.size ≤ q) [((am 0), .inr (5, [.ref (am 1), .int 0, .ref (am 2), .int 0, .int 0, .ref (am 3), .ref (am 4), .ref (am 5), .ref (am 6), .int 0, .ref (am 7), .ref (am 8), .ref (am 9), .int 0, .ref (am 10), .ref (am 11), .ref (am 12), .ref (am 13), .ref (am 14), .ref (am 15), .ref (am 16), .ref (am 17), .ref (am 18), .ref (am 19), .ref (am 20), .ref (am 21), .ref (am 22)])), ((am 19), .inl (zI g, 4, .inl (upd (upd (upd (upd (fun _ => 0) 0 (-1)) 1 (-1)) 2 (-1)) 3 (-1))))] := hD
    refine lv_aload_n hx hb dL_law_894 rfl (lv_at hl 2 rfl) ?_
    refine lv_aload_n hx hb dL_law_895 rfl (lv_at hl 0 rfl) ?_
    refine lv_iload_n hx hb dL_law_896 rfl (lv_at hl 3 rfl) ?_
    refine lv_iconst (v := 1) hx hb dL_law_897 (by decide) ?_
    refine lv_iadd hx hb dL_law_898 ?_
    refine lv_topi (nm_r (e' := 1) (by decide +kernel) ?_)
    refine va_sld hx hb hX hbl hbA hS (vp_in_iff.mpr (by decide +kernel)) dL_law_899 ?_
    refine lv_topi (nm_r (e' := (xs 1)) (by rfl) ?_)
    refine z_calli (wr := []) hP hD hS hA [0, 1] [] (by decide) rfl rfl (by decide) (va_runV (As := [.int (xs 1)]) (rest := [.int (-11)]) ⟨hx, hb, hml, hown, hts⟩ (kX5_drop l g (am 0) (am 1) (am 2) (am 3) (am 4) (am 5) (am 6) (am 7) (am 8) (am 9) (am 10) (am 11) (am 12) (am 13) (am 14) (am 15) (am 16) (am 17) (am 18) (am 19) (am 20) (am 21) (am 22) H.size (xs 1)) ⟨callB_of 1 hts (zGood m_o_yX5_drop) rfl rfl rfl (hts _ m_z_RX5) (hts _ m_m_RL_124) ⟨by decide +kernel, by decide +kernel, by decide +kernel⟩ ⟨Nat.le_of_ble_eq_true rfl, Nat.le_of_ble_eq_true rfl⟩, hts _ m_i_yX5_drop, hts _ m_e_yX5_drop⟩ (zPreV hK hN hZ hP hD hS hA [0, 1] (by decide) rfl rfl 5 0 rfl rfl) rfl rfl hl.1 rfl (lv_room (Nat.le_of_ble_eq_true rfl)) dL_law_900 ⟨Nat.le_of_ble_eq_true rfl, Nat.le_of_ble_eq_true rfl⟩) (fun r u H locs hw hP hD hS => ?_)
    rcases hw with ⟨i_45, rfl⟩ | ⟨i_46, i_47, rfl⟩ | ⟨i_48, i_49, i_50, rfl⟩ | ⟨i_51, i_52, i_53, rfl⟩ | ⟨i_54, i_55, i_56, rfl⟩ | ⟨i_57, i_58, i_59, rfl⟩
    · exfalso; omega
    · exfalso; omega
    · skip
      have hP : va_P g.1 vwCl [] H := hP
      have hD : va_D (fun q : Nat => s.heap.size ≤ q) [] := hD
      refine lv_icmp_eq (tgt := 1054) hx hb dL_law_903 (by decide) (fun _ => ?_) (fun h => absurd h (by decide +kernel))
      exact lc_tail ⟨hx, hb, hml, hr, hlocks, hown, hts, hK, hN, hZ, hX, hbl⟩ hS (lv_sub hl [0, 1, 2, 3] rfl)
    · exfalso; omega
    · exfalso; omega
    · exfalso; omega
  · skip
    have hP : va_P g.1 vwCl [((am 0), .inr (5, [.ref (am 1), .int 0, .ref (am 2), .int 0, .int 0, .ref (am 3), .ref (am 4), .ref (am 5), .ref (am 6), .int 0, .ref (am 7), .ref (am 8), .ref (am 9), .int 0, .ref (am 10), .ref (am 11), .ref (am 12), .ref (am 13), .ref (am 14), .ref (am 15), .ref (am 16), .ref (am 17), .ref (am 18), .ref (am 19), .ref (am 20), .ref (am 21), .ref (am 22)])), ((am 19), .inl (zI g, 4, .inl (upd (upd (upd (upd (fun _ => 0) 0 (-1)) 1 (-1)) 2 (-1)) 3 (-1))))] H := hP
    have hD : va_D (fun q : Nat => s.heap.size ≤ q) [((am 0), .inr (5, [.ref (am 1), .int 0, .ref (am 2), .int 0, .int 0, .ref (am 3), .ref (am 4), .ref (am 5), .ref (am 6), .int 0, .ref (am 7), .ref (am 8), .ref (am 9), .int 0, .ref (am 10), .ref (am 11), .ref (am 12), .ref (am 13), .ref (am 14), .ref (am 15), .ref (am 16), .ref (am 17), .ref (am 18), .ref (am 19), .ref (am 20), .ref (am 21), .ref (am 22)])), ((am 19), .inl (zI g, 4, .inl (upd (upd (upd (upd (fun _ => 0) 0 (-1)) 1 (-1)) 2 (-1)) 3 (-1))))] := hD
    refine lv_aload_n hx hb dL_law_894 rfl (lv_at hl 2 rfl) ?_
    refine lv_aload_n hx hb dL_law_895 rfl (lv_at hl 0 rfl) ?_
    refine lv_iload_n hx hb dL_law_896 rfl (lv_at hl 3 rfl) ?_
    refine lv_iconst (v := 1) hx hb dL_law_897 (by decide) ?_
    refine lv_iadd hx hb dL_law_898 ?_
    refine lv_topi (nm_r (e' := 1) (by decide +kernel) ?_)
    refine va_sld hx hb hX hbl hbA hS (vp_in_iff.mpr (by decide +kernel)) dL_law_899 ?_
    refine lv_topi (nm_r (e' := (xs 1)) (by rfl) ?_)
    refine z_calli (wr := []) hP hD hS hA [0, 1] [] (by decide) rfl rfl (by decide) (va_runV (As := [.int (xs 1)]) (rest := [.int (-11)]) ⟨hx, hb, hml, hown, hts⟩ (kX5_drop l g (am 0) (am 1) (am 2) (am 3) (am 4) (am 5) (am 6) (am 7) (am 8) (am 9) (am 10) (am 11) (am 12) (am 13) (am 14) (am 15) (am 16) (am 17) (am 18) (am 19) (am 20) (am 21) (am 22) H.size (xs 1)) ⟨callB_of 1 hts (zGood m_o_yX5_drop) rfl rfl rfl (hts _ m_z_RX5) (hts _ m_m_RL_124) ⟨by decide +kernel, by decide +kernel, by decide +kernel⟩ ⟨Nat.le_of_ble_eq_true rfl, Nat.le_of_ble_eq_true rfl⟩, hts _ m_i_yX5_drop, hts _ m_e_yX5_drop⟩ (zPreV hK hN hZ hP hD hS hA [0, 1] (by decide) rfl rfl 5 0 rfl rfl) rfl rfl hl.1 rfl (lv_room (Nat.le_of_ble_eq_true rfl)) dL_law_900 ⟨Nat.le_of_ble_eq_true rfl, Nat.le_of_ble_eq_true rfl⟩) (fun r u H locs hw hP hD hS => ?_)
    rcases hw with ⟨i_60, rfl⟩ | ⟨i_61, i_62, rfl⟩ | ⟨i_63, i_64, i_65, rfl⟩ | ⟨i_66, i_67, i_68, rfl⟩ | ⟨i_69, i_70, i_71, rfl⟩ | ⟨i_72, i_73, i_74, rfl⟩
    · exfalso; omega
    · exfalso; omega
    · exfalso; omega
    · skip
      have hP : va_P g.1 vwCl [] H := hP
      have hD : va_D (fun q : Nat => s.heap.size ≤ q) [] := hD
      refine lv_icmp_eq (tgt := 1054) hx hb dL_law_903 (by decide) (fun _ => ?_) (fun h => absurd h (by decide +kernel))
      exact lc_tail ⟨hx, hb, hml, hr, hlocks, hown, hts, hK, hN, hZ, hX, hbl⟩ hS (lv_sub hl [0, 1, 2, 3] rfl)
    · exfalso; omega
    · exfalso; omega
  · skip
    have hP : va_P g.1 vwCl [((am 0), .inr (5, [.ref (am 1), .int 0, .ref (am 2), .int 0, .int 0, .ref (am 3), .ref (am 4), .ref (am 5), .ref (am 6), .int 0, .ref (am 7), .ref (am 8), .ref (am 9), .int 0, .ref (am 10), .ref (am 11), .ref (am 12), .ref (am 13), .ref (am 14), .ref (am 15), .ref (am 16), .ref (am 17), .ref (am 18), .ref (am 19), .ref (am 20), .ref (am 21), .ref (am 22)])), ((am 19), .inl (zI g, 4, .inl (upd (upd (upd (upd (fun _ => 0) 0 (-1)) 1 (-1)) 2 (-1)) 3 (-1))))] H := hP
    have hD : va_D (fun q : Nat => s.heap.size ≤ q) [((am 0), .inr (5, [.ref (am 1), .int 0, .ref (am 2), .int 0, .int 0, .ref (am 3), .ref (am 4), .ref (am 5), .ref (am 6), .int 0, .ref (am 7), .ref (am 8), .ref (am 9), .int 0, .ref (am 10), .ref (am 11), .ref (am 12), .ref (am 13), .ref (am 14), .ref (am 15), .ref (am 16), .ref (am 17), .ref (am 18), .ref (am 19), .ref (am 20), .ref (am 21), .ref (am 22)])), ((am 19), .inl (zI g, 4, .inl (upd (upd (upd (upd (fun _ => 0) 0 (-1)) 1 (-1)) 2 (-1)) 3 (-1))))] := hD
    refine lv_aload_n hx hb dL_law_894 rfl (lv_at hl 2 rfl) ?_
    refine lv_aload_n hx hb dL_law_895 rfl (lv_at hl 0 rfl) ?_
    refine lv_iload_n hx hb dL_law_896 rfl (lv_at hl 3 rfl) ?_
    refine lv_iconst (v := 1) hx hb dL_law_897 (by decide) ?_
    refine lv_iadd hx hb dL_law_898 ?_
    refine lv_topi (nm_r (e' := 1) (by decide +kernel) ?_)
    refine va_sld hx hb hX hbl hbA hS (vp_in_iff.mpr (by decide +kernel)) dL_law_899 ?_
    refine lv_topi (nm_r (e' := (xs 1)) (by rfl) ?_)
    refine z_calli (wr := []) hP hD hS hA [0, 1] [] (by decide) rfl rfl (by decide) (va_runV (As := [.int (xs 1)]) (rest := [.int (-11)]) ⟨hx, hb, hml, hown, hts⟩ (kX5_drop l g (am 0) (am 1) (am 2) (am 3) (am 4) (am 5) (am 6) (am 7) (am 8) (am 9) (am 10) (am 11) (am 12) (am 13) (am 14) (am 15) (am 16) (am 17) (am 18) (am 19) (am 20) (am 21) (am 22) H.size (xs 1)) ⟨callB_of 1 hts (zGood m_o_yX5_drop) rfl rfl rfl (hts _ m_z_RX5) (hts _ m_m_RL_124) ⟨by decide +kernel, by decide +kernel, by decide +kernel⟩ ⟨Nat.le_of_ble_eq_true rfl, Nat.le_of_ble_eq_true rfl⟩, hts _ m_i_yX5_drop, hts _ m_e_yX5_drop⟩ (zPreV hK hN hZ hP hD hS hA [0, 1] (by decide) rfl rfl 5 0 rfl rfl) rfl rfl hl.1 rfl (lv_room (Nat.le_of_ble_eq_true rfl)) dL_law_900 ⟨Nat.le_of_ble_eq_true rfl, Nat.le_of_ble_eq_true rfl⟩) (fun r u H locs hw hP hD hS => ?_)
    rcases hw with ⟨i_75, rfl⟩ | ⟨i_76, i_77, rfl⟩ | ⟨i_78, i_79, i_80, rfl⟩ | ⟨i_81, i_82, i_83, rfl⟩ | ⟨i_84, i_85, i_86, rfl⟩ | ⟨i_87, i_88, i_89, rfl⟩
    · exfalso; omega
    · exfalso; omega
    · exfalso; omega
    · exfalso; omega
    · skip
      have hP : va_P g.1 vwCl [] H := hP
      have hD : va_D (fun q : Nat => s.heap.size ≤ q) [] := hD
      refine lv_icmp_eq (tgt := 1054) hx hb dL_law_903 (by decide) (fun _ => ?_) (fun h => absurd h (by decide +kernel))
      exact lc_tail ⟨hx, hb, hml, hr, hlocks, hown, hts, hK, hN, hZ, hX, hbl⟩ hS (lv_sub hl [0, 1, 2, 3] rfl)
    · exfalso; omega
  · skip
    have hP : va_P g.1 vwCl [((am 0), .inr (5, [.ref (am 1), .int 0, .ref (am 2), .int 0, .int 0, .ref (am 3), .ref (am 4), .ref (am 5), .ref (am 6), .int 0, .ref (am 7), .ref (am 8), .ref (am 9), .int 0, .ref (am 10), .ref (am 11), .ref (am 12), .ref (am 13), .ref (am 14), .ref (am 15), .ref (am 16), .ref (am 17), .ref (am 18), .ref (am 19), .ref (am 20), .ref (am 21), .ref (am 22)])), ((am 19), .inl (zI g, 4, .inl (upd (upd (upd (upd (fun _ => 0) 0 (-1)) 1 (-1)) 2 (-1)) 3 (-1))))] H := hP
    have hD : va_D (fun q : Nat => s.heap.size ≤ q) [((am 0), .inr (5, [.ref (am 1), .int 0, .ref (am 2), .int 0, .int 0, .ref (am 3), .ref (am 4), .ref (am 5), .ref (am 6), .int 0, .ref (am 7), .ref (am 8), .ref (am 9), .int 0, .ref (am 10), .ref (am 11), .ref (am 12), .ref (am 13), .ref (am 14), .ref (am 15), .ref (am 16), .ref (am 17), .ref (am 18), .ref (am 19), .ref (am 20), .ref (am 21), .ref (am 22)])), ((am 19), .inl (zI g, 4, .inl (upd (upd (upd (upd (fun _ => 0) 0 (-1)) 1 (-1)) 2 (-1)) 3 (-1))))] := hD
    refine lv_aload_n hx hb dL_law_894 rfl (lv_at hl 2 rfl) ?_
    refine lv_aload_n hx hb dL_law_895 rfl (lv_at hl 0 rfl) ?_
    refine lv_iload_n hx hb dL_law_896 rfl (lv_at hl 3 rfl) ?_
    refine lv_iconst (v := 1) hx hb dL_law_897 (by decide) ?_
    refine lv_iadd hx hb dL_law_898 ?_
    refine lv_topi (nm_r (e' := 1) (by decide +kernel) ?_)
    refine va_sld hx hb hX hbl hbA hS (vp_in_iff.mpr (by decide +kernel)) dL_law_899 ?_
    refine lv_topi (nm_r (e' := (xs 1)) (by rfl) ?_)
    refine z_calli (wr := []) hP hD hS hA [0, 1] [] (by decide) rfl rfl (by decide) (va_runV (As := [.int (xs 1)]) (rest := [.int (-11)]) ⟨hx, hb, hml, hown, hts⟩ (kX5_drop l g (am 0) (am 1) (am 2) (am 3) (am 4) (am 5) (am 6) (am 7) (am 8) (am 9) (am 10) (am 11) (am 12) (am 13) (am 14) (am 15) (am 16) (am 17) (am 18) (am 19) (am 20) (am 21) (am 22) H.size (xs 1)) ⟨callB_of 1 hts (zGood m_o_yX5_drop) rfl rfl rfl (hts _ m_z_RX5) (hts _ m_m_RL_124) ⟨by decide +kernel, by decide +kernel, by decide +kernel⟩ ⟨Nat.le_of_ble_eq_true rfl, Nat.le_of_ble_eq_true rfl⟩, hts _ m_i_yX5_drop, hts _ m_e_yX5_drop⟩ (zPreV hK hN hZ hP hD hS hA [0, 1] (by decide) rfl rfl 5 0 rfl rfl) rfl rfl hl.1 rfl (lv_room (Nat.le_of_ble_eq_true rfl)) dL_law_900 ⟨Nat.le_of_ble_eq_true rfl, Nat.le_of_ble_eq_true rfl⟩) (fun r u H locs hw hP hD hS => ?_)
    rcases hw with ⟨i_90, rfl⟩ | ⟨i_91, i_92, rfl⟩ | ⟨i_93, i_94, i_95, rfl⟩ | ⟨i_96, i_97, i_98, rfl⟩ | ⟨i_99, i_100, i_101, rfl⟩ | ⟨i_102, i_103, i_104, rfl⟩
    · exfalso; omega
    · exfalso; omega
    · exfalso; omega
    · exfalso; omega
    · exfalso; omega
    · skip
      have hP : va_P g.1 vwCl [] H := hP
      have hD : va_D (fun q : Nat => s.heap.size ≤ q) [] := hD
      refine lv_icmp_eq (tgt := 1054) hx hb dL_law_903 (by decide) (fun _ => ?_) (fun h => absurd h (by decide +kernel))
      exact lc_tail ⟨hx, hb, hml, hr, hlocks, hown, hts, hK, hN, hZ, hX, hbl⟩ hS (lv_sub hl [0, 1, 2, 3] rfl)
set_option maxHeartbeats 4000000 in
set_option maxRecDepth 100000 in
theorem lc_item {p : Program} {l : Launch} {e : Env} {s : State} {m : MethodId} {below : List Frame} {meth : Method} {c : Code} {b : Nat} {xs : Nat → Int32} {g : zG} (C0 : lC g p s m meth c b xs) {ax am : Nat → Nat} {H : Heap} {locs : List Loc} (hP : va_P g.1 vwCl (lW g ax am) H) (hD : va_D (fun q : Nat => s.heap.size ≤ q) (lW g ax am)) (hS : va_S (fun q : Nat => s.heap.size ≤ q) s.heap H locs) {ls : Array Slot} (hl : lv_has ls 4 [(0, .ref b), (1, .ref (ax 0)), (2, .ref (am 0)), (3, .int 0)]) : W p l e room_1 s m #[Value.ref b] below meth c H locs 600000 7302250 (lw_Z below #[Value.ref b] s) (F0 m 908 ls []) := by
  obtain ⟨hx, hb, hml, hr, hlocks, hown, hts, hK, hN, hZ, hX, hbl⟩ := C0
  have hA : ∀ q : Nat, s.heap.size ≤ q → (fun q : Nat => s.heap.size ≤ q) q := fun _ h => h
  have hbA : ¬ (fun q : Nat => s.heap.size ≤ q) b := Nat.not_le.mpr hbl
  have hP := hP.sub (ws' := [((ax 0), .inr (4, [.ref (ax 1), .ref (ax 10), .int 0, .ref (ax 19), .ref (ax 30), .ref (ax 32), .ref (ax 36), .int (-1), .ref (ax 37), .ref (ax 38), .ref (ax 39), .ref (ax 40)])), ((ax 32), .inr (1, [.ref (ax 33), .ref (ax 34), .ref (ax 35)])), ((ax 33), .inl (zI g, 4, .inl (upd (upd (upd (upd (fun _ => 0) 0 (-1)) 1 (-1)) 2 (-1)) 3 (-1)))), ((am 0), .inr (5, [.ref (am 1), .int 0, .ref (am 2), .int 0, .int 0, .ref (am 3), .ref (am 4), .ref (am 5), .ref (am 6), .int 0, .ref (am 7), .ref (am 8), .ref (am 9), .int 0, .ref (am 10), .ref (am 11), .ref (am 12), .ref (am 13), .ref (am 14), .ref (am 15), .ref (am 16), .ref (am 17), .ref (am 18), .ref (am 19), .ref (am 20), .ref (am 21), .ref (am 22)])), ((am 19), .inl (zI g, 4, .inl (upd (upd (upd (upd (fun _ => 0) 0 (-1)) 1 (-1)) 2 (-1)) 3 (-1))))]) [0, 32, 33, 41, 60] rfl
  have hD := hD.sub (ws' := [((ax 0), .inr (4, [.ref (ax 1), .ref (ax 10), .int 0, .ref (ax 19), .ref (ax 30), .ref (ax 32), .ref (ax 36), .int (-1), .ref (ax 37), .ref (ax 38), .ref (ax 39), .ref (ax 40)])), ((ax 32), .inr (1, [.ref (ax 33), .ref (ax 34), .ref (ax 35)])), ((ax 33), .inl (zI g, 4, .inl (upd (upd (upd (upd (fun _ => 0) 0 (-1)) 1 (-1)) 2 (-1)) 3 (-1)))), ((am 0), .inr (5, [.ref (am 1), .int 0, .ref (am 2), .int 0, .int 0, .ref (am 3), .ref (am 4), .ref (am 5), .ref (am 6), .int 0, .ref (am 7), .ref (am 8), .ref (am 9), .int 0, .ref (am 10), .ref (am 11), .ref (am 12), .ref (am 13), .ref (am 14), .ref (am 15), .ref (am 16), .ref (am 17), .ref (am 18), .ref (am 19), .ref (am 20), .ref (am 21), .ref (am 22)])), ((am 19), .inl (zI g, 4, .inl (upd (upd (upd (upd (fun _ => 0) 0 (-1)) 1 (-1)) 2 (-1)) 3 (-1))))]) [0, 32, 33, 41, 60] (by decide) rfl
  refine lv_aload_n hx hb dL_law_908 rfl (lv_at hl 1 rfl) ?_
  refine lv_aload_n hx hb dL_law_909 rfl (lv_at hl 0 rfl) ?_
  refine lv_iload_n hx hb dL_law_910 rfl (lv_at hl 3 rfl) ?_
  refine lv_iconst (v := 1) hx hb dL_law_911 (by decide) ?_
  refine lv_iadd hx hb dL_law_912 ?_
  refine lv_topi (nm_r (e' := 1) (by decide +kernel) ?_)
  refine va_sld hx hb hX hbl hbA hS (vp_in_iff.mpr (by decide +kernel)) dL_law_913 ?_
  refine lv_topi (nm_r (e' := (xs 1)) (by rfl) ?_)
  refine lv_aload_n hx hb dL_law_914 rfl (lv_at hl 0 rfl) ?_
  refine lv_iload_n hx hb dL_law_915 rfl (lv_at hl 3 rfl) ?_
  refine lv_iconst (v := 2) hx hb dL_law_916 (by decide) ?_
  refine lv_iadd hx hb dL_law_917 ?_
  refine lv_topi (nm_r (e' := 2) (by decide +kernel) ?_)
  refine va_sld hx hb hX hbl hbA hS (vp_in_iff.mpr (by decide +kernel)) dL_law_918 ?_
  refine lv_topi (nm_r (e' := (xs 2)) (by rfl) ?_)
  refine lv_aload_n hx hb dL_law_919 rfl (lv_at hl 0 rfl) ?_
  refine lv_iload_n hx hb dL_law_920 rfl (lv_at hl 3 rfl) ?_
  refine lv_iconst (v := 3) hx hb dL_law_921 (by decide) ?_
  refine lv_iadd hx hb dL_law_922 ?_
  refine lv_topi (nm_r (e' := 3) (by decide +kernel) ?_)
  refine va_sld hx hb hX hbl hbA hS (vp_in_iff.mpr (by decide +kernel)) dL_law_923 ?_
  refine lv_topi (nm_r (e' := (xs 3)) (by rfl) ?_)
  refine lv_aload_n hx hb dL_law_924 rfl (lv_at hl 0 rfl) ?_
  refine lv_iload_n hx hb dL_law_925 rfl (lv_at hl 3 rfl) ?_
  refine lv_iconst (v := 4) hx hb dL_law_926 (by decide) ?_
  refine lv_iadd hx hb dL_law_927 ?_
  refine lv_topi (nm_r (e' := 4) (by decide +kernel) ?_)
  refine va_sld hx hb hX hbl hbA hS (vp_in_iff.mpr (by decide +kernel)) dL_law_928 ?_
  refine lv_topi (nm_r (e' := (xs 4)) (by rfl) ?_)
  refine lv_i2l (v := (xs 4).toInt64) hx hb dL_law_929 rfl ?_
  refine lv_bipush (v := 32) hx hb dL_law_930 (by decide) ?_
  refine lv_lshl (v := (((xs 4).toInt64) <<< ((32 : Int32).toInt64 &&& 63))) hx hb dL_law_932 rfl ?_
  refine lv_aload_n hx hb dL_law_933 rfl (lv_at hl 0 rfl) ?_
  refine lv_iload_n hx hb dL_law_934 rfl (lv_at hl 3 rfl) ?_
  refine lv_iconst (v := 5) hx hb dL_law_935 (by decide) ?_
  refine lv_iadd hx hb dL_law_936 ?_
  refine lv_topi (nm_r (e' := 5) (by decide +kernel) ?_)
  refine va_sld hx hb hX hbl hbA hS (vp_in_iff.mpr (by decide +kernel)) dL_law_937 ?_
  refine lv_topi (nm_r (e' := (xs 5)) (by rfl) ?_)
  refine lv_i2l (v := (xs 5).toInt64) hx hb dL_law_938 rfl ?_
  refine lv_ldc2 (v := 4294967295) hx hb hown (hts _ m_k_RL_39) dL_law_939 ?_
  refine lv_land hx hb dL_law_942 ?_
  refine lv_lor hx hb dL_law_943 ?_
  refine z_calli (wr := [((am 0), .inr (5, [.ref (am 1), .int 0, .ref (am 2), .int 0, .int 0, .ref (am 3), .ref (am 4), .ref (am 5), .ref (am 6), .int 0, .ref (am 7), .ref (am 8), .ref (am 9), .int 0, .ref (am 10), .ref (am 11), .ref (am 12), .ref (am 13), .ref (am 14), .ref (am 15), .ref (am 16), .ref (am 17), .ref (am 18), .ref (am 19), .ref (am 20), .ref (am 21), .ref (am 22)])), ((am 19), .inl (zI g, 4, .inl (upd (upd (upd (upd (fun _ => 0) 0 (-1)) 1 (-1)) 2 (-1)) 3 (-1))))]) hP hD hS hA [0, 1, 2] [3, 4] (by decide) rfl rfl (by decide) (va_runV (As := [.int (xs 1), .int (xs 2), .int (xs 3), .long ((((xs 4).toInt64) <<< ((32 : Int32).toInt64 &&& 63)) ||| (((xs 5).toInt64) &&& 4294967295))]) (rest := []) ⟨hx, hb, hml, hown, hts⟩ (kX4_item l g (ax 0) (ax 1) (ax 10) (ax 19) (ax 30) (ax 32) (ax 36) (ax 37) (ax 38) (ax 39) (ax 40) (ax 33) (ax 34) (ax 35) H.size (xs 1) (xs 2) (xs 3) ((((xs 4).toInt64) <<< ((32 : Int32).toInt64 &&& 63)) ||| (((xs 5).toInt64) &&& 4294967295))) ⟨callB_of 4 hts (zGood m_o_yX4_item) rfl rfl rfl (hts _ m_z_RX4) (hts _ m_m_RL_125) ⟨by decide +kernel, by decide +kernel, by decide +kernel⟩ ⟨Nat.le_of_ble_eq_true rfl, Nat.le_of_ble_eq_true rfl⟩, hts _ m_i_yX4_item, hts _ m_e_yX4_item⟩ (zPreV hK hN hZ hP hD hS hA [0, 1, 2] (by decide) rfl rfl 4 0 rfl rfl) rfl rfl hl.1 rfl (lv_room (Nat.le_of_ble_eq_true rfl)) dL_law_944 ⟨Nat.le_of_ble_eq_true rfl, Nat.le_of_ble_eq_true rfl⟩) (fun r u H locs hw hP hD hS => ?_)
  rcases hw with ⟨i_0, rfl⟩ | ⟨i_1, i_2, rfl⟩ | ⟨i_3, i_4, i_5, rfl⟩ | ⟨i_6, i_7, i_8, i_9, rfl⟩ | ⟨i_10, i_11, i_12, i_13, i_14, rfl⟩ | ⟨i_15, i_16, i_17, i_18, i_19, rfl⟩ | ⟨i_20, i_21, i_22, i_23, i_24, rfl⟩ | ⟨i_25, i_26, i_27, i_28, i_29, rfl⟩
  · skip
    have hP : va_P g.1 vwCl [((am 0), .inr (5, [.ref (am 1), .int 0, .ref (am 2), .int 0, .int 0, .ref (am 3), .ref (am 4), .ref (am 5), .ref (am 6), .int 0, .ref (am 7), .ref (am 8), .ref (am 9), .int 0, .ref (am 10), .ref (am 11), .ref (am 12), .ref (am 13), .ref (am 14), .ref (am 15), .ref (am 16), .ref (am 17), .ref (am 18), .ref (am 19), .ref (am 20), .ref (am 21), .ref (am 22)])), ((am 19), .inl (zI g, 4, .inl (upd (upd (upd (upd (fun _ => 0) 0 (-1)) 1 (-1)) 2 (-1)) 3 (-1))))] H := hP
    have hD : va_D (fun q : Nat => s.heap.size ≤ q) [((am 0), .inr (5, [.ref (am 1), .int 0, .ref (am 2), .int 0, .int 0, .ref (am 3), .ref (am 4), .ref (am 5), .ref (am 6), .int 0, .ref (am 7), .ref (am 8), .ref (am 9), .int 0, .ref (am 10), .ref (am 11), .ref (am 12), .ref (am 13), .ref (am 14), .ref (am 15), .ref (am 16), .ref (am 17), .ref (am 18), .ref (am 19), .ref (am 20), .ref (am 21), .ref (am 22)])), ((am 19), .inl (zI g, 4, .inl (upd (upd (upd (upd (fun _ => 0) 0 (-1)) 1 (-1)) 2 (-1)) 3 (-1))))] := hD
    refine lv_aload_n hx hb dL_law_947 rfl (lv_at hl 2 rfl) ?_
    refine lv_aload_n hx hb dL_law_948 rfl (lv_at hl 0 rfl) ?_
    refine lv_iload_n hx hb dL_law_949 rfl (lv_at hl 3 rfl) ?_
    refine lv_iconst (v := 1) hx hb dL_law_950 (by decide) ?_
    refine lv_iadd hx hb dL_law_951 ?_
    refine lv_topi (nm_r (e' := 1) (by decide +kernel) ?_)
    refine va_sld hx hb hX hbl hbA hS (vp_in_iff.mpr (by decide +kernel)) dL_law_952 ?_
    refine lv_topi (nm_r (e' := (xs 1)) (by rfl) ?_)
    refine lv_aload_n hx hb dL_law_953 rfl (lv_at hl 0 rfl) ?_
    refine lv_iload_n hx hb dL_law_954 rfl (lv_at hl 3 rfl) ?_
    refine lv_iconst (v := 2) hx hb dL_law_955 (by decide) ?_
    refine lv_iadd hx hb dL_law_956 ?_
    refine lv_topi (nm_r (e' := 2) (by decide +kernel) ?_)
    refine va_sld hx hb hX hbl hbA hS (vp_in_iff.mpr (by decide +kernel)) dL_law_957 ?_
    refine lv_topi (nm_r (e' := (xs 2)) (by rfl) ?_)
    refine lv_aload_n hx hb dL_law_958 rfl (lv_at hl 0 rfl) ?_
    refine lv_iload_n hx hb dL_law_959 rfl (lv_at hl 3 rfl) ?_
    refine lv_iconst (v := 3) hx hb dL_law_960 (by decide) ?_
    refine lv_iadd hx hb dL_law_961 ?_
    refine lv_topi (nm_r (e' := 3) (by decide +kernel) ?_)
    refine va_sld hx hb hX hbl hbA hS (vp_in_iff.mpr (by decide +kernel)) dL_law_962 ?_
    refine lv_topi (nm_r (e' := (xs 3)) (by rfl) ?_)
    refine lv_aload_n hx hb dL_law_963 rfl (lv_at hl 0 rfl) ?_
    refine lv_iload_n hx hb dL_law_964 rfl (lv_at hl 3 rfl) ?_
    refine lv_iconst (v := 4) hx hb dL_law_965 (by decide) ?_
    refine lv_iadd hx hb dL_law_966 ?_
    refine lv_topi (nm_r (e' := 4) (by decide +kernel) ?_)
    refine va_sld hx hb hX hbl hbA hS (vp_in_iff.mpr (by decide +kernel)) dL_law_967 ?_
    refine lv_topi (nm_r (e' := (xs 4)) (by rfl) ?_)
    refine lv_i2l (v := (xs 4).toInt64) hx hb dL_law_968 rfl ?_
    refine lv_bipush (v := 32) hx hb dL_law_969 (by decide) ?_
    refine lv_lshl (v := (((xs 4).toInt64) <<< ((32 : Int32).toInt64 &&& 63))) hx hb dL_law_971 rfl ?_
    refine lv_aload_n hx hb dL_law_972 rfl (lv_at hl 0 rfl) ?_
    refine lv_iload_n hx hb dL_law_973 rfl (lv_at hl 3 rfl) ?_
    refine lv_iconst (v := 5) hx hb dL_law_974 (by decide) ?_
    refine lv_iadd hx hb dL_law_975 ?_
    refine lv_topi (nm_r (e' := 5) (by decide +kernel) ?_)
    refine va_sld hx hb hX hbl hbA hS (vp_in_iff.mpr (by decide +kernel)) dL_law_976 ?_
    refine lv_topi (nm_r (e' := (xs 5)) (by rfl) ?_)
    refine lv_i2l (v := (xs 5).toInt64) hx hb dL_law_977 rfl ?_
    refine lv_ldc2 (v := 4294967295) hx hb hown (hts _ m_k_RL_39) dL_law_978 ?_
    refine lv_land hx hb dL_law_981 ?_
    refine lv_lor hx hb dL_law_982 ?_
    refine z_calli (wr := []) hP hD hS hA [0, 1] [] (by decide) rfl rfl (by decide) (va_runV (As := [.int (xs 1), .int (xs 2), .int (xs 3), .long ((((xs 4).toInt64) <<< ((32 : Int32).toInt64 &&& 63)) ||| (((xs 5).toInt64) &&& 4294967295))]) (rest := [.int (-1)]) ⟨hx, hb, hml, hown, hts⟩ (kX5_item l g (am 0) (am 1) (am 2) (am 3) (am 4) (am 5) (am 6) (am 7) (am 8) (am 9) (am 10) (am 11) (am 12) (am 13) (am 14) (am 15) (am 16) (am 17) (am 18) (am 19) (am 20) (am 21) (am 22) H.size (xs 1) (xs 2) (xs 3) ((((xs 4).toInt64) <<< ((32 : Int32).toInt64 &&& 63)) ||| (((xs 5).toInt64) &&& 4294967295))) ⟨callB_of 4 hts (zGood m_o_yX5_item) rfl rfl rfl (hts _ m_z_RX5) (hts _ m_m_RL_129) ⟨by decide +kernel, by decide +kernel, by decide +kernel⟩ ⟨Nat.le_of_ble_eq_true rfl, Nat.le_of_ble_eq_true rfl⟩, hts _ m_i_yX5_item, hts _ m_e_yX5_item⟩ (zPreV hK hN hZ hP hD hS hA [0, 1] (by decide) rfl rfl 5 0 rfl rfl) rfl rfl hl.1 rfl (lv_room (Nat.le_of_ble_eq_true rfl)) dL_law_983 ⟨Nat.le_of_ble_eq_true rfl, Nat.le_of_ble_eq_true rfl⟩) (fun r u H locs hw hP hD hS => ?_)
    rcases hw with ⟨i_30, rfl⟩ | ⟨i_31, i_32, rfl⟩ | ⟨i_33, i_34, i_35, rfl⟩ | ⟨i_36, i_37, i_38, i_39, rfl⟩ | ⟨i_40, i_41, i_42, i_43, i_44, rfl⟩ | ⟨i_45, i_46, i_47, i_48, i_49, rfl⟩ | ⟨i_50, i_51, i_52, i_53, i_54, rfl⟩ | ⟨i_55, i_56, i_57, i_58, i_59, rfl⟩
    · skip
      have hP : va_P g.1 vwCl [] H := hP
      have hD : va_D (fun q : Nat => s.heap.size ≤ q) [] := hD
      refine lv_icmp_eq (tgt := 1054) hx hb dL_law_986 (by decide) (fun _ => ?_) (fun h => absurd h (by decide +kernel))
      exact lc_tail ⟨hx, hb, hml, hr, hlocks, hown, hts, hK, hN, hZ, hX, hbl⟩ hS (lv_sub hl [0, 1, 2, 3] rfl)
    · exfalso; omega
    · exfalso; omega
    · exfalso; omega
    · exfalso; omega
    · exfalso; omega
    · exfalso; omega
    · exfalso; omega
  · skip
    have hP : va_P g.1 vwCl [((am 0), .inr (5, [.ref (am 1), .int 0, .ref (am 2), .int 0, .int 0, .ref (am 3), .ref (am 4), .ref (am 5), .ref (am 6), .int 0, .ref (am 7), .ref (am 8), .ref (am 9), .int 0, .ref (am 10), .ref (am 11), .ref (am 12), .ref (am 13), .ref (am 14), .ref (am 15), .ref (am 16), .ref (am 17), .ref (am 18), .ref (am 19), .ref (am 20), .ref (am 21), .ref (am 22)])), ((am 19), .inl (zI g, 4, .inl (upd (upd (upd (upd (fun _ => 0) 0 (-1)) 1 (-1)) 2 (-1)) 3 (-1))))] H := hP
    have hD : va_D (fun q : Nat => s.heap.size ≤ q) [((am 0), .inr (5, [.ref (am 1), .int 0, .ref (am 2), .int 0, .int 0, .ref (am 3), .ref (am 4), .ref (am 5), .ref (am 6), .int 0, .ref (am 7), .ref (am 8), .ref (am 9), .int 0, .ref (am 10), .ref (am 11), .ref (am 12), .ref (am 13), .ref (am 14), .ref (am 15), .ref (am 16), .ref (am 17), .ref (am 18), .ref (am 19), .ref (am 20), .ref (am 21), .ref (am 22)])), ((am 19), .inl (zI g, 4, .inl (upd (upd (upd (upd (fun _ => 0) 0 (-1)) 1 (-1)) 2 (-1)) 3 (-1))))] := hD
    refine lv_aload_n hx hb dL_law_947 rfl (lv_at hl 2 rfl) ?_
    refine lv_aload_n hx hb dL_law_948 rfl (lv_at hl 0 rfl) ?_
    refine lv_iload_n hx hb dL_law_949 rfl (lv_at hl 3 rfl) ?_
    refine lv_iconst (v := 1) hx hb dL_law_950 (by decide) ?_
    refine lv_iadd hx hb dL_law_951 ?_
    refine lv_topi (nm_r (e' := 1) (by decide +kernel) ?_)
    refine va_sld hx hb hX hbl hbA hS (vp_in_iff.mpr (by decide +kernel)) dL_law_952 ?_
    refine lv_topi (nm_r (e' := (xs 1)) (by rfl) ?_)
    refine lv_aload_n hx hb dL_law_953 rfl (lv_at hl 0 rfl) ?_
    refine lv_iload_n hx hb dL_law_954 rfl (lv_at hl 3 rfl) ?_
    refine lv_iconst (v := 2) hx hb dL_law_955 (by decide) ?_
    refine lv_iadd hx hb dL_law_956 ?_
    refine lv_topi (nm_r (e' := 2) (by decide +kernel) ?_)
    refine va_sld hx hb hX hbl hbA hS (vp_in_iff.mpr (by decide +kernel)) dL_law_957 ?_
    refine lv_topi (nm_r (e' := (xs 2)) (by rfl) ?_)
    refine lv_aload_n hx hb dL_law_958 rfl (lv_at hl 0 rfl) ?_
    refine lv_iload_n hx hb dL_law_959 rfl (lv_at hl 3 rfl) ?_
    refine lv_iconst (v := 3) hx hb dL_law_960 (by decide) ?_
    refine lv_iadd hx hb dL_law_961 ?_
    refine lv_topi (nm_r (e' := 3) (by decide +kernel) ?_)
    refine va_sld hx hb hX hbl hbA hS (vp_in_iff.mpr (by decide +kernel)) dL_law_962 ?_
    refine lv_topi (nm_r (e' := (xs 3)) (by rfl) ?_)
    refine lv_aload_n hx hb dL_law_963 rfl (lv_at hl 0 rfl) ?_
    refine lv_iload_n hx hb dL_law_964 rfl (lv_at hl 3 rfl) ?_
    refine lv_iconst (v := 4) hx hb dL_law_965 (by decide) ?_
    refine lv_iadd hx hb dL_law_966 ?_
    refine lv_topi (nm_r (e' := 4) (by decide +kernel) ?_)
    refine va_sld hx hb hX hbl hbA hS (vp_in_iff.mpr (by decide +kernel)) dL_law_967 ?_
    refine lv_topi (nm_r (e' := (xs 4)) (by rfl) ?_)
    refine lv_i2l (v := (xs 4).toInt64) hx hb dL_law_968 rfl ?_
    refine lv_bipush (v := 32) hx hb dL_law_969 (by decide) ?_
    refine lv_lshl (v := (((xs 4).toInt64) <<< ((32 : Int32).toInt64 &&& 63))) hx hb dL_law_971 rfl ?_
    refine lv_aload_n hx hb dL_law_972 rfl (lv_at hl 0 rfl) ?_
    refine lv_iload_n hx hb dL_law_973 rfl (lv_at hl 3 rfl) ?_
    refine lv_iconst (v := 5) hx hb dL_law_974 (by decide) ?_
    refine lv_iadd hx hb dL_law_975 ?_
    refine lv_topi (nm_r (e' := 5) (by decide +kernel) ?_)
    refine va_sld hx hb hX hbl hbA hS (vp_in_iff.mpr (by decide +kernel)) dL_law_976 ?_
    refine lv_topi (nm_r (e' := (xs 5)) (by rfl) ?_)
    refine lv_i2l (v := (xs 5).toInt64) hx hb dL_law_977 rfl ?_
    refine lv_ldc2 (v := 4294967295) hx hb hown (hts _ m_k_RL_39) dL_law_978 ?_
    refine lv_land hx hb dL_law_981 ?_
    refine lv_lor hx hb dL_law_982 ?_
    refine z_calli (wr := []) hP hD hS hA [0, 1] [] (by decide) rfl rfl (by decide) (va_runV (As := [.int (xs 1), .int (xs 2), .int (xs 3), .long ((((xs 4).toInt64) <<< ((32 : Int32).toInt64 &&& 63)) ||| (((xs 5).toInt64) &&& 4294967295))]) (rest := [.int (-1)]) ⟨hx, hb, hml, hown, hts⟩ (kX5_item l g (am 0) (am 1) (am 2) (am 3) (am 4) (am 5) (am 6) (am 7) (am 8) (am 9) (am 10) (am 11) (am 12) (am 13) (am 14) (am 15) (am 16) (am 17) (am 18) (am 19) (am 20) (am 21) (am 22) H.size (xs 1) (xs 2) (xs 3) ((((xs 4).toInt64) <<< ((32 : Int32).toInt64 &&& 63)) ||| (((xs 5).toInt64) &&& 4294967295))) ⟨callB_of 4 hts (zGood m_o_yX5_item) rfl rfl rfl (hts _ m_z_RX5) (hts _ m_m_RL_129) ⟨by decide +kernel, by decide +kernel, by decide +kernel⟩ ⟨Nat.le_of_ble_eq_true rfl, Nat.le_of_ble_eq_true rfl⟩, hts _ m_i_yX5_item, hts _ m_e_yX5_item⟩ (zPreV hK hN hZ hP hD hS hA [0, 1] (by decide) rfl rfl 5 0 rfl rfl) rfl rfl hl.1 rfl (lv_room (Nat.le_of_ble_eq_true rfl)) dL_law_983 ⟨Nat.le_of_ble_eq_true rfl, Nat.le_of_ble_eq_true rfl⟩) (fun r u H locs hw hP hD hS => ?_)
    rcases hw with ⟨i_60, rfl⟩ | ⟨i_61, i_62, rfl⟩ | ⟨i_63, i_64, i_65, rfl⟩ | ⟨i_66, i_67, i_68, i_69, rfl⟩ | ⟨i_70, i_71, i_72, i_73, i_74, rfl⟩ | ⟨i_75, i_76, i_77, i_78, i_79, rfl⟩ | ⟨i_80, i_81, i_82, i_83, i_84, rfl⟩ | ⟨i_85, i_86, i_87, i_88, i_89, rfl⟩
    · exfalso; omega
    · skip
      have hP : va_P g.1 vwCl [] H := hP
      have hD : va_D (fun q : Nat => s.heap.size ≤ q) [] := hD
      refine lv_icmp_eq (tgt := 1054) hx hb dL_law_986 (by decide) (fun _ => ?_) (fun h => absurd h (by decide +kernel))
      exact lc_tail ⟨hx, hb, hml, hr, hlocks, hown, hts, hK, hN, hZ, hX, hbl⟩ hS (lv_sub hl [0, 1, 2, 3] rfl)
    · exfalso; omega
    · exfalso; omega
    · exfalso; omega
    · exfalso; omega
    · exfalso; omega
    · exfalso; omega
  · skip
    have hP : va_P g.1 vwCl [((am 0), .inr (5, [.ref (am 1), .int 0, .ref (am 2), .int 0, .int 0, .ref (am 3), .ref (am 4), .ref (am 5), .ref (am 6), .int 0, .ref (am 7), .ref (am 8), .ref (am 9), .int 0, .ref (am 10), .ref (am 11), .ref (am 12), .ref (am 13), .ref (am 14), .ref (am 15), .ref (am 16), .ref (am 17), .ref (am 18), .ref (am 19), .ref (am 20), .ref (am 21), .ref (am 22)])), ((am 19), .inl (zI g, 4, .inl (upd (upd (upd (upd (fun _ => 0) 0 (-1)) 1 (-1)) 2 (-1)) 3 (-1))))] H := hP
    have hD : va_D (fun q : Nat => s.heap.size ≤ q) [((am 0), .inr (5, [.ref (am 1), .int 0, .ref (am 2), .int 0, .int 0, .ref (am 3), .ref (am 4), .ref (am 5), .ref (am 6), .int 0, .ref (am 7), .ref (am 8), .ref (am 9), .int 0, .ref (am 10), .ref (am 11), .ref (am 12), .ref (am 13), .ref (am 14), .ref (am 15), .ref (am 16), .ref (am 17), .ref (am 18), .ref (am 19), .ref (am 20), .ref (am 21), .ref (am 22)])), ((am 19), .inl (zI g, 4, .inl (upd (upd (upd (upd (fun _ => 0) 0 (-1)) 1 (-1)) 2 (-1)) 3 (-1))))] := hD
    refine lv_aload_n hx hb dL_law_947 rfl (lv_at hl 2 rfl) ?_
    refine lv_aload_n hx hb dL_law_948 rfl (lv_at hl 0 rfl) ?_
    refine lv_iload_n hx hb dL_law_949 rfl (lv_at hl 3 rfl) ?_
    refine lv_iconst (v := 1) hx hb dL_law_950 (by decide) ?_
    refine lv_iadd hx hb dL_law_951 ?_
    refine lv_topi (nm_r (e' := 1) (by decide +kernel) ?_)
    refine va_sld hx hb hX hbl hbA hS (vp_in_iff.mpr (by decide +kernel)) dL_law_952 ?_
    refine lv_topi (nm_r (e' := (xs 1)) (by rfl) ?_)
    refine lv_aload_n hx hb dL_law_953 rfl (lv_at hl 0 rfl) ?_
    refine lv_iload_n hx hb dL_law_954 rfl (lv_at hl 3 rfl) ?_
    refine lv_iconst (v := 2) hx hb dL_law_955 (by decide) ?_
    refine lv_iadd hx hb dL_law_956 ?_
    refine lv_topi (nm_r (e' := 2) (by decide +kernel) ?_)
    refine va_sld hx hb hX hbl hbA hS (vp_in_iff.mpr (by decide +kernel)) dL_law_957 ?_
    refine lv_topi (nm_r (e' := (xs 2)) (by rfl) ?_)
    refine lv_aload_n hx hb dL_law_958 rfl (lv_at hl 0 rfl) ?_
    refine lv_iload_n hx hb dL_law_959 rfl (lv_at hl 3 rfl) ?_
    refine lv_iconst (v := 3) hx hb dL_law_960 (by decide) ?_
    refine lv_iadd hx hb dL_law_961 ?_
    refine lv_topi (nm_r (e' := 3) (by decide +kernel) ?_)
    refine va_sld hx hb hX hbl hbA hS (vp_in_iff.mpr (by decide +kernel)) dL_law_962 ?_
    refine lv_topi (nm_r (e' := (xs 3)) (by rfl) ?_)
    refine lv_aload_n hx hb dL_law_963 rfl (lv_at hl 0 rfl) ?_
    refine lv_iload_n hx hb dL_law_964 rfl (lv_at hl 3 rfl) ?_
    refine lv_iconst (v := 4) hx hb dL_law_965 (by decide) ?_
    refine lv_iadd hx hb dL_law_966 ?_
    refine lv_topi (nm_r (e' := 4) (by decide +kernel) ?_)
    refine va_sld hx hb hX hbl hbA hS (vp_in_iff.mpr (by decide +kernel)) dL_law_967 ?_
    refine lv_topi (nm_r (e' := (xs 4)) (by rfl) ?_)
    refine lv_i2l (v := (xs 4).toInt64) hx hb dL_law_968 rfl ?_
    refine lv_bipush (v := 32) hx hb dL_law_969 (by decide) ?_
    refine lv_lshl (v := (((xs 4).toInt64) <<< ((32 : Int32).toInt64 &&& 63))) hx hb dL_law_971 rfl ?_
    refine lv_aload_n hx hb dL_law_972 rfl (lv_at hl 0 rfl) ?_
    refine lv_iload_n hx hb dL_law_973 rfl (lv_at hl 3 rfl) ?_
    refine lv_iconst (v := 5) hx hb dL_law_974 (by decide) ?_
    refine lv_iadd hx hb dL_law_975 ?_
    refine lv_topi (nm_r (e' := 5) (by decide +kernel) ?_)
    refine va_sld hx hb hX hbl hbA hS (vp_in_iff.mpr (by decide +kernel)) dL_law_976 ?_
    refine lv_topi (nm_r (e' := (xs 5)) (by rfl) ?_)
    refine lv_i2l (v := (xs 5).toInt64) hx hb dL_law_977 rfl ?_
    refine lv_ldc2 (v := 4294967295) hx hb hown (hts _ m_k_RL_39) dL_law_978 ?_
    refine lv_land hx hb dL_law_981 ?_
    refine lv_lor hx hb dL_law_982 ?_
    refine z_calli (wr := []) hP hD hS hA [0, 1] [] (by decide) rfl rfl (by decide) (va_runV (As := [.int (xs 1), .int (xs 2), .int (xs 3), .long ((((xs 4).toInt64) <<< ((32 : Int32).toInt64 &&& 63)) ||| (((xs 5).toInt64) &&& 4294967295))]) (rest := [.int (-1)]) ⟨hx, hb, hml, hown, hts⟩ (kX5_item l g (am 0) (am 1) (am 2) (am 3) (am 4) (am 5) (am 6) (am 7) (am 8) (am 9) (am 10) (am 11) (am 12) (am 13) (am 14) (am 15) (am 16) (am 17) (am 18) (am 19) (am 20) (am 21) (am 22) H.size (xs 1) (xs 2) (xs 3) ((((xs 4).toInt64) <<< ((32 : Int32).toInt64 &&& 63)) ||| (((xs 5).toInt64) &&& 4294967295))) ⟨callB_of 4 hts (zGood m_o_yX5_item) rfl rfl rfl (hts _ m_z_RX5) (hts _ m_m_RL_129) ⟨by decide +kernel, by decide +kernel, by decide +kernel⟩ ⟨Nat.le_of_ble_eq_true rfl, Nat.le_of_ble_eq_true rfl⟩, hts _ m_i_yX5_item, hts _ m_e_yX5_item⟩ (zPreV hK hN hZ hP hD hS hA [0, 1] (by decide) rfl rfl 5 0 rfl rfl) rfl rfl hl.1 rfl (lv_room (Nat.le_of_ble_eq_true rfl)) dL_law_983 ⟨Nat.le_of_ble_eq_true rfl, Nat.le_of_ble_eq_true rfl⟩) (fun r u H locs hw hP hD hS => ?_)
    rcases hw with ⟨i_90, rfl⟩ | ⟨i_91, i_92, rfl⟩ | ⟨i_93, i_94, i_95, rfl⟩ | ⟨i_96, i_97, i_98, i_99, rfl⟩ | ⟨i_100, i_101, i_102, i_103, i_104, rfl⟩ | ⟨i_105, i_106, i_107, i_108, i_109, rfl⟩ | ⟨i_110, i_111, i_112, i_113, i_114, rfl⟩ | ⟨i_115, i_116, i_117, i_118, i_119, rfl⟩
    · exfalso; omega
    · exfalso; omega
    · skip
      have hP : va_P g.1 vwCl [] H := hP
      have hD : va_D (fun q : Nat => s.heap.size ≤ q) [] := hD
      refine lv_icmp_eq (tgt := 1054) hx hb dL_law_986 (by decide) (fun _ => ?_) (fun h => absurd h (by decide +kernel))
      exact lc_tail ⟨hx, hb, hml, hr, hlocks, hown, hts, hK, hN, hZ, hX, hbl⟩ hS (lv_sub hl [0, 1, 2, 3] rfl)
    · exfalso; omega
    · exfalso; omega
    · exfalso; omega
    · exfalso; omega
    · exfalso; omega
  · skip
    have hP : va_P g.1 vwCl [((am 0), .inr (5, [.ref (am 1), .int 0, .ref (am 2), .int 0, .int 0, .ref (am 3), .ref (am 4), .ref (am 5), .ref (am 6), .int 0, .ref (am 7), .ref (am 8), .ref (am 9), .int 0, .ref (am 10), .ref (am 11), .ref (am 12), .ref (am 13), .ref (am 14), .ref (am 15), .ref (am 16), .ref (am 17), .ref (am 18), .ref (am 19), .ref (am 20), .ref (am 21), .ref (am 22)])), ((am 19), .inl (zI g, 4, .inl (upd (upd (upd (upd (fun _ => 0) 0 (-1)) 1 (-1)) 2 (-1)) 3 (-1))))] H := hP
    have hD : va_D (fun q : Nat => s.heap.size ≤ q) [((am 0), .inr (5, [.ref (am 1), .int 0, .ref (am 2), .int 0, .int 0, .ref (am 3), .ref (am 4), .ref (am 5), .ref (am 6), .int 0, .ref (am 7), .ref (am 8), .ref (am 9), .int 0, .ref (am 10), .ref (am 11), .ref (am 12), .ref (am 13), .ref (am 14), .ref (am 15), .ref (am 16), .ref (am 17), .ref (am 18), .ref (am 19), .ref (am 20), .ref (am 21), .ref (am 22)])), ((am 19), .inl (zI g, 4, .inl (upd (upd (upd (upd (fun _ => 0) 0 (-1)) 1 (-1)) 2 (-1)) 3 (-1))))] := hD
    refine lv_aload_n hx hb dL_law_947 rfl (lv_at hl 2 rfl) ?_
    refine lv_aload_n hx hb dL_law_948 rfl (lv_at hl 0 rfl) ?_
    refine lv_iload_n hx hb dL_law_949 rfl (lv_at hl 3 rfl) ?_
    refine lv_iconst (v := 1) hx hb dL_law_950 (by decide) ?_
    refine lv_iadd hx hb dL_law_951 ?_
    refine lv_topi (nm_r (e' := 1) (by decide +kernel) ?_)
    refine va_sld hx hb hX hbl hbA hS (vp_in_iff.mpr (by decide +kernel)) dL_law_952 ?_
    refine lv_topi (nm_r (e' := (xs 1)) (by rfl) ?_)
    refine lv_aload_n hx hb dL_law_953 rfl (lv_at hl 0 rfl) ?_
    refine lv_iload_n hx hb dL_law_954 rfl (lv_at hl 3 rfl) ?_
    refine lv_iconst (v := 2) hx hb dL_law_955 (by decide) ?_
    refine lv_iadd hx hb dL_law_956 ?_
    refine lv_topi (nm_r (e' := 2) (by decide +kernel) ?_)
    refine va_sld hx hb hX hbl hbA hS (vp_in_iff.mpr (by decide +kernel)) dL_law_957 ?_
    refine lv_topi (nm_r (e' := (xs 2)) (by rfl) ?_)
    refine lv_aload_n hx hb dL_law_958 rfl (lv_at hl 0 rfl) ?_
    refine lv_iload_n hx hb dL_law_959 rfl (lv_at hl 3 rfl) ?_
    refine lv_iconst (v := 3) hx hb dL_law_960 (by decide) ?_
    refine lv_iadd hx hb dL_law_961 ?_
    refine lv_topi (nm_r (e' := 3) (by decide +kernel) ?_)
    refine va_sld hx hb hX hbl hbA hS (vp_in_iff.mpr (by decide +kernel)) dL_law_962 ?_
    refine lv_topi (nm_r (e' := (xs 3)) (by rfl) ?_)
    refine lv_aload_n hx hb dL_law_963 rfl (lv_at hl 0 rfl) ?_
    refine lv_iload_n hx hb dL_law_964 rfl (lv_at hl 3 rfl) ?_
    refine lv_iconst (v := 4) hx hb dL_law_965 (by decide) ?_
    refine lv_iadd hx hb dL_law_966 ?_
    refine lv_topi (nm_r (e' := 4) (by decide +kernel) ?_)
    refine va_sld hx hb hX hbl hbA hS (vp_in_iff.mpr (by decide +kernel)) dL_law_967 ?_
    refine lv_topi (nm_r (e' := (xs 4)) (by rfl) ?_)
    refine lv_i2l (v := (xs 4).toInt64) hx hb dL_law_968 rfl ?_
    refine lv_bipush (v := 32) hx hb dL_law_969 (by decide) ?_
    refine lv_lshl (v := (((xs 4).toInt64) <<< ((32 : Int32).toInt64 &&& 63))) hx hb dL_law_971 rfl ?_
    refine lv_aload_n hx hb dL_law_972 rfl (lv_at hl 0 rfl) ?_
    refine lv_iload_n hx hb dL_law_973 rfl (lv_at hl 3 rfl) ?_
    refine lv_iconst (v := 5) hx hb dL_law_974 (by decide) ?_
    refine lv_iadd hx hb dL_law_975 ?_
    refine lv_topi (nm_r (e' := 5) (by decide +kernel) ?_)
    refine va_sld hx hb hX hbl hbA hS (vp_in_iff.mpr (by decide +kernel)) dL_law_976 ?_
    refine lv_topi (nm_r (e' := (xs 5)) (by rfl) ?_)
    refine lv_i2l (v := (xs 5).toInt64) hx hb dL_law_977 rfl ?_
    refine lv_ldc2 (v := 4294967295) hx hb hown (hts _ m_k_RL_39) dL_law_978 ?_
    refine lv_land hx hb dL_law_981 ?_
    refine lv_lor hx hb dL_law_982 ?_
    refine z_calli (wr := []) hP hD hS hA [0, 1] [] (by decide) rfl rfl (by decide) (va_runV (As := [.int (xs 1), .int (xs 2), .int (xs 3), .long ((((xs 4).toInt64) <<< ((32 : Int32).toInt64 &&& 63)) ||| (((xs 5).toInt64) &&& 4294967295))]) (rest := [.int (-1)]) ⟨hx, hb, hml, hown, hts⟩ (kX5_item l g (am 0) (am 1) (am 2) (am 3) (am 4) (am 5) (am 6) (am 7) (am 8) (am 9) (am 10) (am 11) (am 12) (am 13) (am 14) (am 15) (am 16) (am 17) (am 18) (am 19) (am 20) (am 21) (am 22) H.size (xs 1) (xs 2) (xs 3) ((((xs 4).toInt64) <<< ((32 : Int32).toInt64 &&& 63)) ||| (((xs 5).toInt64) &&& 4294967295))) ⟨callB_of 4 hts (zGood m_o_yX5_item) rfl rfl rfl (hts _ m_z_RX5) (hts _ m_m_RL_129) ⟨by decide +kernel, by decide +kernel, by decide +kernel⟩ ⟨Nat.le_of_ble_eq_true rfl, Nat.le_of_ble_eq_true rfl⟩, hts _ m_i_yX5_item, hts _ m_e_yX5_item⟩ (zPreV hK hN hZ hP hD hS hA [0, 1] (by decide) rfl rfl 5 0 rfl rfl) rfl rfl hl.1 rfl (lv_room (Nat.le_of_ble_eq_true rfl)) dL_law_983 ⟨Nat.le_of_ble_eq_true rfl, Nat.le_of_ble_eq_true rfl⟩) (fun r u H locs hw hP hD hS => ?_)
    rcases hw with ⟨i_120, rfl⟩ | ⟨i_121, i_122, rfl⟩ | ⟨i_123, i_124, i_125, rfl⟩ | ⟨i_126, i_127, i_128, i_129, rfl⟩ | ⟨i_130, i_131, i_132, i_133, i_134, rfl⟩ | ⟨i_135, i_136, i_137, i_138, i_139, rfl⟩ | ⟨i_140, i_141, i_142, i_143, i_144, rfl⟩ | ⟨i_145, i_146, i_147, i_148, i_149, rfl⟩
    · exfalso; omega
    · exfalso; omega
    · exfalso; omega
    · skip
      have hP : va_P g.1 vwCl [] H := hP
      have hD : va_D (fun q : Nat => s.heap.size ≤ q) [] := hD
      refine lv_icmp_eq (tgt := 1054) hx hb dL_law_986 (by decide) (fun _ => ?_) (fun h => absurd h (by decide +kernel))
      exact lc_tail ⟨hx, hb, hml, hr, hlocks, hown, hts, hK, hN, hZ, hX, hbl⟩ hS (lv_sub hl [0, 1, 2, 3] rfl)
    · exfalso; omega
    · exfalso; omega
    · exfalso; omega
    · exfalso; omega
  · skip
    have hP : va_P g.1 vwCl [((am 0), .inr (5, [.ref (am 1), .int 0, .ref (am 2), .int 0, .int 0, .ref (am 3), .ref (am 4), .ref (am 5), .ref (am 6), .int 0, .ref (am 7), .ref (am 8), .ref (am 9), .int 0, .ref (am 10), .ref (am 11), .ref (am 12), .ref (am 13), .ref (am 14), .ref (am 15), .ref (am 16), .ref (am 17), .ref (am 18), .ref (am 19), .ref (am 20), .ref (am 21), .ref (am 22)])), ((am 19), .inl (zI g, 4, .inl (upd (upd (upd (upd (fun _ => 0) 0 (-1)) 1 (-1)) 2 (-1)) 3 (-1))))] H := hP
    have hD : va_D (fun q : Nat => s.heap.size ≤ q) [((am 0), .inr (5, [.ref (am 1), .int 0, .ref (am 2), .int 0, .int 0, .ref (am 3), .ref (am 4), .ref (am 5), .ref (am 6), .int 0, .ref (am 7), .ref (am 8), .ref (am 9), .int 0, .ref (am 10), .ref (am 11), .ref (am 12), .ref (am 13), .ref (am 14), .ref (am 15), .ref (am 16), .ref (am 17), .ref (am 18), .ref (am 19), .ref (am 20), .ref (am 21), .ref (am 22)])), ((am 19), .inl (zI g, 4, .inl (upd (upd (upd (upd (fun _ => 0) 0 (-1)) 1 (-1)) 2 (-1)) 3 (-1))))] := hD
    refine lv_aload_n hx hb dL_law_947 rfl (lv_at hl 2 rfl) ?_
    refine lv_aload_n hx hb dL_law_948 rfl (lv_at hl 0 rfl) ?_
    refine lv_iload_n hx hb dL_law_949 rfl (lv_at hl 3 rfl) ?_
    refine lv_iconst (v := 1) hx hb dL_law_950 (by decide) ?_
    refine lv_iadd hx hb dL_law_951 ?_
    refine lv_topi (nm_r (e' := 1) (by decide +kernel) ?_)
    refine va_sld hx hb hX hbl hbA hS (vp_in_iff.mpr (by decide +kernel)) dL_law_952 ?_
    refine lv_topi (nm_r (e' := (xs 1)) (by rfl) ?_)
    refine lv_aload_n hx hb dL_law_953 rfl (lv_at hl 0 rfl) ?_
    refine lv_iload_n hx hb dL_law_954 rfl (lv_at hl 3 rfl) ?_
    refine lv_iconst (v := 2) hx hb dL_law_955 (by decide) ?_
    refine lv_iadd hx hb dL_law_956 ?_
    refine lv_topi (nm_r (e' := 2) (by decide +kernel) ?_)
    refine va_sld hx hb hX hbl hbA hS (vp_in_iff.mpr (by decide +kernel)) dL_law_957 ?_
    refine lv_topi (nm_r (e' := (xs 2)) (by rfl) ?_)
    refine lv_aload_n hx hb dL_law_958 rfl (lv_at hl 0 rfl) ?_
    refine lv_iload_n hx hb dL_law_959 rfl (lv_at hl 3 rfl) ?_
    refine lv_iconst (v := 3) hx hb dL_law_960 (by decide) ?_
    refine lv_iadd hx hb dL_law_961 ?_
    refine lv_topi (nm_r (e' := 3) (by decide +kernel) ?_)
    refine va_sld hx hb hX hbl hbA hS (vp_in_iff.mpr (by decide +kernel)) dL_law_962 ?_
    refine lv_topi (nm_r (e' := (xs 3)) (by rfl) ?_)
    refine lv_aload_n hx hb dL_law_963 rfl (lv_at hl 0 rfl) ?_
    refine lv_iload_n hx hb dL_law_964 rfl (lv_at hl 3 rfl) ?_
    refine lv_iconst (v := 4) hx hb dL_law_965 (by decide) ?_
    refine lv_iadd hx hb dL_law_966 ?_
    refine lv_topi (nm_r (e' := 4) (by decide +kernel) ?_)
    refine va_sld hx hb hX hbl hbA hS (vp_in_iff.mpr (by decide +kernel)) dL_law_967 ?_
    refine lv_topi (nm_r (e' := (xs 4)) (by rfl) ?_)
    refine lv_i2l (v := (xs 4).toInt64) hx hb dL_law_968 rfl ?_
    refine lv_bipush (v := 32) hx hb dL_law_969 (by decide) ?_
    refine lv_lshl (v := (((xs 4).toInt64) <<< ((32 : Int32).toInt64 &&& 63))) hx hb dL_law_971 rfl ?_
    refine lv_aload_n hx hb dL_law_972 rfl (lv_at hl 0 rfl) ?_
    refine lv_iload_n hx hb dL_law_973 rfl (lv_at hl 3 rfl) ?_
    refine lv_iconst (v := 5) hx hb dL_law_974 (by decide) ?_
    refine lv_iadd hx hb dL_law_975 ?_
    refine lv_topi (nm_r (e' := 5) (by decide +kernel) ?_)
    refine va_sld hx hb hX hbl hbA hS (vp_in_iff.mpr (by decide +kernel)) dL_law_976 ?_
    refine lv_topi (nm_r (e' := (xs 5)) (by rfl) ?_)
    refine lv_i2l (v := (xs 5).toInt64) hx hb dL_law_977 rfl ?_
    refine lv_ldc2 (v := 4294967295) hx hb hown (hts _ m_k_RL_39) dL_law_978 ?_
    refine lv_land hx hb dL_law_981 ?_
    refine lv_lor hx hb dL_law_982 ?_
    refine z_calli (wr := []) hP hD hS hA [0, 1] [] (by decide) rfl rfl (by decide) (va_runV (As := [.int (xs 1), .int (xs 2), .int (xs 3), .long ((((xs 4).toInt64) <<< ((32 : Int32).toInt64 &&& 63)) ||| (((xs 5).toInt64) &&& 4294967295))]) (rest := [.int (-11)]) ⟨hx, hb, hml, hown, hts⟩ (kX5_item l g (am 0) (am 1) (am 2) (am 3) (am 4) (am 5) (am 6) (am 7) (am 8) (am 9) (am 10) (am 11) (am 12) (am 13) (am 14) (am 15) (am 16) (am 17) (am 18) (am 19) (am 20) (am 21) (am 22) H.size (xs 1) (xs 2) (xs 3) ((((xs 4).toInt64) <<< ((32 : Int32).toInt64 &&& 63)) ||| (((xs 5).toInt64) &&& 4294967295))) ⟨callB_of 4 hts (zGood m_o_yX5_item) rfl rfl rfl (hts _ m_z_RX5) (hts _ m_m_RL_129) ⟨by decide +kernel, by decide +kernel, by decide +kernel⟩ ⟨Nat.le_of_ble_eq_true rfl, Nat.le_of_ble_eq_true rfl⟩, hts _ m_i_yX5_item, hts _ m_e_yX5_item⟩ (zPreV hK hN hZ hP hD hS hA [0, 1] (by decide) rfl rfl 5 0 rfl rfl) rfl rfl hl.1 rfl (lv_room (Nat.le_of_ble_eq_true rfl)) dL_law_983 ⟨Nat.le_of_ble_eq_true rfl, Nat.le_of_ble_eq_true rfl⟩) (fun r u H locs hw hP hD hS => ?_)
    rcases hw with ⟨i_150, rfl⟩ | ⟨i_151, i_152, rfl⟩ | ⟨i_153, i_154, i_155, rfl⟩ | ⟨i_156, i_157, i_158, i_159, rfl⟩ | ⟨i_160, i_161, i_162, i_163, i_164, rfl⟩ | ⟨i_165, i_166, i_167, i_168, i_169, rfl⟩ | ⟨i_170, i_171, i_172, i_173, i_174, rfl⟩ | ⟨i_175, i_176, i_177, i_178, i_179, rfl⟩
    · exfalso; omega
    · exfalso; omega
    · exfalso; omega
    · exfalso; omega
    · skip
      have hP : va_P g.1 vwCl [] H := hP
      have hD : va_D (fun q : Nat => s.heap.size ≤ q) [] := hD
      refine lv_icmp_eq (tgt := 1054) hx hb dL_law_986 (by decide) (fun _ => ?_) (fun h => absurd h (by decide +kernel))
      exact lc_tail ⟨hx, hb, hml, hr, hlocks, hown, hts, hK, hN, hZ, hX, hbl⟩ hS (lv_sub hl [0, 1, 2, 3] rfl)
    · exfalso; omega
    · exfalso; omega
    · exfalso; omega
  · skip
    have hP : va_P g.1 vwCl [((am 0), .inr (5, [.ref (am 1), .int 0, .ref (am 2), .int 0, .int 0, .ref (am 3), .ref (am 4), .ref (am 5), .ref (am 6), .int 0, .ref (am 7), .ref (am 8), .ref (am 9), .int 0, .ref (am 10), .ref (am 11), .ref (am 12), .ref (am 13), .ref (am 14), .ref (am 15), .ref (am 16), .ref (am 17), .ref (am 18), .ref (am 19), .ref (am 20), .ref (am 21), .ref (am 22)])), ((am 19), .inl (zI g, 4, .inl (upd (upd (upd (upd (fun _ => 0) 0 (-1)) 1 (-1)) 2 (-1)) 3 (-1))))] H := hP
    have hD : va_D (fun q : Nat => s.heap.size ≤ q) [((am 0), .inr (5, [.ref (am 1), .int 0, .ref (am 2), .int 0, .int 0, .ref (am 3), .ref (am 4), .ref (am 5), .ref (am 6), .int 0, .ref (am 7), .ref (am 8), .ref (am 9), .int 0, .ref (am 10), .ref (am 11), .ref (am 12), .ref (am 13), .ref (am 14), .ref (am 15), .ref (am 16), .ref (am 17), .ref (am 18), .ref (am 19), .ref (am 20), .ref (am 21), .ref (am 22)])), ((am 19), .inl (zI g, 4, .inl (upd (upd (upd (upd (fun _ => 0) 0 (-1)) 1 (-1)) 2 (-1)) 3 (-1))))] := hD
    refine lv_aload_n hx hb dL_law_947 rfl (lv_at hl 2 rfl) ?_
    refine lv_aload_n hx hb dL_law_948 rfl (lv_at hl 0 rfl) ?_
    refine lv_iload_n hx hb dL_law_949 rfl (lv_at hl 3 rfl) ?_
    refine lv_iconst (v := 1) hx hb dL_law_950 (by decide) ?_
    refine lv_iadd hx hb dL_law_951 ?_
    refine lv_topi (nm_r (e' := 1) (by decide +kernel) ?_)
    refine va_sld hx hb hX hbl hbA hS (vp_in_iff.mpr (by decide +kernel)) dL_law_952 ?_
    refine lv_topi (nm_r (e' := (xs 1)) (by rfl) ?_)
    refine lv_aload_n hx hb dL_law_953 rfl (lv_at hl 0 rfl) ?_
    refine lv_iload_n hx hb dL_law_954 rfl (lv_at hl 3 rfl) ?_
    refine lv_iconst (v := 2) hx hb dL_law_955 (by decide) ?_
    refine lv_iadd hx hb dL_law_956 ?_
    refine lv_topi (nm_r (e' := 2) (by decide +kernel) ?_)
    refine va_sld hx hb hX hbl hbA hS (vp_in_iff.mpr (by decide +kernel)) dL_law_957 ?_
    refine lv_topi (nm_r (e' := (xs 2)) (by rfl) ?_)
    refine lv_aload_n hx hb dL_law_958 rfl (lv_at hl 0 rfl) ?_
    refine lv_iload_n hx hb dL_law_959 rfl (lv_at hl 3 rfl) ?_
    refine lv_iconst (v := 3) hx hb dL_law_960 (by decide) ?_
    refine lv_iadd hx hb dL_law_961 ?_
    refine lv_topi (nm_r (e' := 3) (by decide +kernel) ?_)
    refine va_sld hx hb hX hbl hbA hS (vp_in_iff.mpr (by decide +kernel)) dL_law_962 ?_
    refine lv_topi (nm_r (e' := (xs 3)) (by rfl) ?_)
    refine lv_aload_n hx hb dL_law_963 rfl (lv_at hl 0 rfl) ?_
    refine lv_iload_n hx hb dL_law_964 rfl (lv_at hl 3 rfl) ?_
    refine lv_iconst (v := 4) hx hb dL_law_965 (by decide) ?_
    refine lv_iadd hx hb dL_law_966 ?_
    refine lv_topi (nm_r (e' := 4) (by decide +kernel) ?_)
    refine va_sld hx hb hX hbl hbA hS (vp_in_iff.mpr (by decide +kernel)) dL_law_967 ?_
    refine lv_topi (nm_r (e' := (xs 4)) (by rfl) ?_)
    refine lv_i2l (v := (xs 4).toInt64) hx hb dL_law_968 rfl ?_
    refine lv_bipush (v := 32) hx hb dL_law_969 (by decide) ?_
    refine lv_lshl (v := (((xs 4).toInt64) <<< ((32 : Int32).toInt64 &&& 63))) hx hb dL_law_971 rfl ?_
    refine lv_aload_n hx hb dL_law_972 rfl (lv_at hl 0 rfl) ?_
    refine lv_iload_n hx hb dL_law_973 rfl (lv_at hl 3 rfl) ?_
    refine lv_iconst (v := 5) hx hb dL_law_974 (by decide) ?_
    refine lv_iadd hx hb dL_law_975 ?_
    refine lv_topi (nm_r (e' := 5) (by decide +kernel) ?_)
    refine va_sld hx hb hX hbl hbA hS (vp_in_iff.mpr (by decide +kernel)) dL_law_976 ?_
    refine lv_topi (nm_r (e' := (xs 5)) (by rfl) ?_)
    refine lv_i2l (v := (xs 5).toInt64) hx hb dL_law_977 rfl ?_
    refine lv_ldc2 (v := 4294967295) hx hb hown (hts _ m_k_RL_39) dL_law_978 ?_
    refine lv_land hx hb dL_law_981 ?_
    refine lv_lor hx hb dL_law_982 ?_
    refine z_calli (wr := []) hP hD hS hA [0, 1] [] (by decide) rfl rfl (by decide) (va_runV (As := [.int (xs 1), .int (xs 2), .int (xs 3), .long ((((xs 4).toInt64) <<< ((32 : Int32).toInt64 &&& 63)) ||| (((xs 5).toInt64) &&& 4294967295))]) (rest := [.int (-11)]) ⟨hx, hb, hml, hown, hts⟩ (kX5_item l g (am 0) (am 1) (am 2) (am 3) (am 4) (am 5) (am 6) (am 7) (am 8) (am 9) (am 10) (am 11) (am 12) (am 13) (am 14) (am 15) (am 16) (am 17) (am 18) (am 19) (am 20) (am 21) (am 22) H.size (xs 1) (xs 2) (xs 3) ((((xs 4).toInt64) <<< ((32 : Int32).toInt64 &&& 63)) ||| (((xs 5).toInt64) &&& 4294967295))) ⟨callB_of 4 hts (zGood m_o_yX5_item) rfl rfl rfl (hts _ m_z_RX5) (hts _ m_m_RL_129) ⟨by decide +kernel, by decide +kernel, by decide +kernel⟩ ⟨Nat.le_of_ble_eq_true rfl, Nat.le_of_ble_eq_true rfl⟩, hts _ m_i_yX5_item, hts _ m_e_yX5_item⟩ (zPreV hK hN hZ hP hD hS hA [0, 1] (by decide) rfl rfl 5 0 rfl rfl) rfl rfl hl.1 rfl (lv_room (Nat.le_of_ble_eq_true rfl)) dL_law_983 ⟨Nat.le_of_ble_eq_true rfl, Nat.le_of_ble_eq_true rfl⟩) (fun r u H locs hw hP hD hS => ?_)
    rcases hw with ⟨i_180, rfl⟩ | ⟨i_181, i_182, rfl⟩ | ⟨i_183, i_184, i_185, rfl⟩ | ⟨i_186, i_187, i_188, i_189, rfl⟩ | ⟨i_190, i_191, i_192, i_193, i_194, rfl⟩ | ⟨i_195, i_196, i_197, i_198, i_199, rfl⟩ | ⟨i_200, i_201, i_202, i_203, i_204, rfl⟩ | ⟨i_205, i_206, i_207, i_208, i_209, rfl⟩
    · exfalso; omega
    · exfalso; omega
    · exfalso; omega
    · exfalso; omega
    · exfalso; omega
    · skip
      have hP : va_P g.1 vwCl [] H := hP
      have hD : va_D (fun q : Nat => s.heap.size ≤ q) [] := hD
      refine lv_icmp_eq (tgt := 1054) hx hb dL_law_986 (by decide) (fun _ => ?_) (fun h => absurd h (by decide +kernel))
      exact lc_tail ⟨hx, hb, hml, hr, hlocks, hown, hts, hK, hN, hZ, hX, hbl⟩ hS (lv_sub hl [0, 1, 2, 3] rfl)
    · exfalso; omega
    · exfalso; omega
  · skip
    have hP : va_P g.1 vwCl [((am 0), .inr (5, [.ref (am 1), .int 0, .ref (am 2), .int 0, .int 0, .ref (am 3), .ref (am 4), .ref (am 5), .ref (am 6), .int 0, .ref (am 7), .ref (am 8), .ref (am 9), .int 0, .ref (am 10), .ref (am 11), .ref (am 12), .ref (am 13), .ref (am 14), .ref (am 15), .ref (am 16), .ref (am 17), .ref (am 18), .ref (am 19), .ref (am 20), .ref (am 21), .ref (am 22)])), ((am 19), .inl (zI g, 4, .inl (upd (upd (upd (upd (fun _ => 0) 0 (-1)) 1 (-1)) 2 (-1)) 3 (-1))))] H := hP
    have hD : va_D (fun q : Nat => s.heap.size ≤ q) [((am 0), .inr (5, [.ref (am 1), .int 0, .ref (am 2), .int 0, .int 0, .ref (am 3), .ref (am 4), .ref (am 5), .ref (am 6), .int 0, .ref (am 7), .ref (am 8), .ref (am 9), .int 0, .ref (am 10), .ref (am 11), .ref (am 12), .ref (am 13), .ref (am 14), .ref (am 15), .ref (am 16), .ref (am 17), .ref (am 18), .ref (am 19), .ref (am 20), .ref (am 21), .ref (am 22)])), ((am 19), .inl (zI g, 4, .inl (upd (upd (upd (upd (fun _ => 0) 0 (-1)) 1 (-1)) 2 (-1)) 3 (-1))))] := hD
    refine lv_aload_n hx hb dL_law_947 rfl (lv_at hl 2 rfl) ?_
    refine lv_aload_n hx hb dL_law_948 rfl (lv_at hl 0 rfl) ?_
    refine lv_iload_n hx hb dL_law_949 rfl (lv_at hl 3 rfl) ?_
    refine lv_iconst (v := 1) hx hb dL_law_950 (by decide) ?_
    refine lv_iadd hx hb dL_law_951 ?_
    refine lv_topi (nm_r (e' := 1) (by decide +kernel) ?_)
    refine va_sld hx hb hX hbl hbA hS (vp_in_iff.mpr (by decide +kernel)) dL_law_952 ?_
    refine lv_topi (nm_r (e' := (xs 1)) (by rfl) ?_)
    refine lv_aload_n hx hb dL_law_953 rfl (lv_at hl 0 rfl) ?_
    refine lv_iload_n hx hb dL_law_954 rfl (lv_at hl 3 rfl) ?_
    refine lv_iconst (v := 2) hx hb dL_law_955 (by decide) ?_
    refine lv_iadd hx hb dL_law_956 ?_
    refine lv_topi (nm_r (e' := 2) (by decide +kernel) ?_)
    refine va_sld hx hb hX hbl hbA hS (vp_in_iff.mpr (by decide +kernel)) dL_law_957 ?_
    refine lv_topi (nm_r (e' := (xs 2)) (by rfl) ?_)
    refine lv_aload_n hx hb dL_law_958 rfl (lv_at hl 0 rfl) ?_
    refine lv_iload_n hx hb dL_law_959 rfl (lv_at hl 3 rfl) ?_
    refine lv_iconst (v := 3) hx hb dL_law_960 (by decide) ?_
    refine lv_iadd hx hb dL_law_961 ?_
    refine lv_topi (nm_r (e' := 3) (by decide +kernel) ?_)
    refine va_sld hx hb hX hbl hbA hS (vp_in_iff.mpr (by decide +kernel)) dL_law_962 ?_
    refine lv_topi (nm_r (e' := (xs 3)) (by rfl) ?_)
    refine lv_aload_n hx hb dL_law_963 rfl (lv_at hl 0 rfl) ?_
    refine lv_iload_n hx hb dL_law_964 rfl (lv_at hl 3 rfl) ?_
    refine lv_iconst (v := 4) hx hb dL_law_965 (by decide) ?_
    refine lv_iadd hx hb dL_law_966 ?_
    refine lv_topi (nm_r (e' := 4) (by decide +kernel) ?_)
    refine va_sld hx hb hX hbl hbA hS (vp_in_iff.mpr (by decide +kernel)) dL_law_967 ?_
    refine lv_topi (nm_r (e' := (xs 4)) (by rfl) ?_)
    refine lv_i2l (v := (xs 4).toInt64) hx hb dL_law_968 rfl ?_
    refine lv_bipush (v := 32) hx hb dL_law_969 (by decide) ?_
    refine lv_lshl (v := (((xs 4).toInt64) <<< ((32 : Int32).toInt64 &&& 63))) hx hb dL_law_971 rfl ?_
    refine lv_aload_n hx hb dL_law_972 rfl (lv_at hl 0 rfl) ?_
    refine lv_iload_n hx hb dL_law_973 rfl (lv_at hl 3 rfl) ?_
    refine lv_iconst (v := 5) hx hb dL_law_974 (by decide) ?_
    refine lv_iadd hx hb dL_law_975 ?_
    refine lv_topi (nm_r (e' := 5) (by decide +kernel) ?_)
    refine va_sld hx hb hX hbl hbA hS (vp_in_iff.mpr (by decide +kernel)) dL_law_976 ?_
    refine lv_topi (nm_r (e' := (xs 5)) (by rfl) ?_)
    refine lv_i2l (v := (xs 5).toInt64) hx hb dL_law_977 rfl ?_
    refine lv_ldc2 (v := 4294967295) hx hb hown (hts _ m_k_RL_39) dL_law_978 ?_
    refine lv_land hx hb dL_law_981 ?_
    refine lv_lor hx hb dL_law_982 ?_
    refine z_calli (wr := []) hP hD hS hA [0, 1] [] (by decide) rfl rfl (by decide) (va_runV (As := [.int (xs 1), .int (xs 2), .int (xs 3), .long ((((xs 4).toInt64) <<< ((32 : Int32).toInt64 &&& 63)) ||| (((xs 5).toInt64) &&& 4294967295))]) (rest := [.int (-11)]) ⟨hx, hb, hml, hown, hts⟩ (kX5_item l g (am 0) (am 1) (am 2) (am 3) (am 4) (am 5) (am 6) (am 7) (am 8) (am 9) (am 10) (am 11) (am 12) (am 13) (am 14) (am 15) (am 16) (am 17) (am 18) (am 19) (am 20) (am 21) (am 22) H.size (xs 1) (xs 2) (xs 3) ((((xs 4).toInt64) <<< ((32 : Int32).toInt64 &&& 63)) ||| (((xs 5).toInt64) &&& 4294967295))) ⟨callB_of 4 hts (zGood m_o_yX5_item) rfl rfl rfl (hts _ m_z_RX5) (hts _ m_m_RL_129) ⟨by decide +kernel, by decide +kernel, by decide +kernel⟩ ⟨Nat.le_of_ble_eq_true rfl, Nat.le_of_ble_eq_true rfl⟩, hts _ m_i_yX5_item, hts _ m_e_yX5_item⟩ (zPreV hK hN hZ hP hD hS hA [0, 1] (by decide) rfl rfl 5 0 rfl rfl) rfl rfl hl.1 rfl (lv_room (Nat.le_of_ble_eq_true rfl)) dL_law_983 ⟨Nat.le_of_ble_eq_true rfl, Nat.le_of_ble_eq_true rfl⟩) (fun r u H locs hw hP hD hS => ?_)
    rcases hw with ⟨i_210, rfl⟩ | ⟨i_211, i_212, rfl⟩ | ⟨i_213, i_214, i_215, rfl⟩ | ⟨i_216, i_217, i_218, i_219, rfl⟩ | ⟨i_220, i_221, i_222, i_223, i_224, rfl⟩ | ⟨i_225, i_226, i_227, i_228, i_229, rfl⟩ | ⟨i_230, i_231, i_232, i_233, i_234, rfl⟩ | ⟨i_235, i_236, i_237, i_238, i_239, rfl⟩
    · exfalso; omega
    · exfalso; omega
    · exfalso; omega
    · exfalso; omega
    · exfalso; omega
    · exfalso; omega
    · skip
      have hP : va_P g.1 vwCl [] H := hP
      have hD : va_D (fun q : Nat => s.heap.size ≤ q) [] := hD
      refine lv_icmp_eq (tgt := 1054) hx hb dL_law_986 (by decide) (fun _ => ?_) (fun h => absurd h (by decide +kernel))
      exact lc_tail ⟨hx, hb, hml, hr, hlocks, hown, hts, hK, hN, hZ, hX, hbl⟩ hS (lv_sub hl [0, 1, 2, 3] rfl)
    · exfalso; omega
  · skip
    have hP : va_P g.1 vwCl [((am 0), .inr (5, [.ref (am 1), .int 0, .ref (am 2), .int 0, .int 0, .ref (am 3), .ref (am 4), .ref (am 5), .ref (am 6), .int 0, .ref (am 7), .ref (am 8), .ref (am 9), .int 0, .ref (am 10), .ref (am 11), .ref (am 12), .ref (am 13), .ref (am 14), .ref (am 15), .ref (am 16), .ref (am 17), .ref (am 18), .ref (am 19), .ref (am 20), .ref (am 21), .ref (am 22)])), ((am 19), .inl (zI g, 4, .inl (upd (upd (upd (upd (fun _ => 0) 0 (-1)) 1 (-1)) 2 (-1)) 3 (-1))))] H := hP
    have hD : va_D (fun q : Nat => s.heap.size ≤ q) [((am 0), .inr (5, [.ref (am 1), .int 0, .ref (am 2), .int 0, .int 0, .ref (am 3), .ref (am 4), .ref (am 5), .ref (am 6), .int 0, .ref (am 7), .ref (am 8), .ref (am 9), .int 0, .ref (am 10), .ref (am 11), .ref (am 12), .ref (am 13), .ref (am 14), .ref (am 15), .ref (am 16), .ref (am 17), .ref (am 18), .ref (am 19), .ref (am 20), .ref (am 21), .ref (am 22)])), ((am 19), .inl (zI g, 4, .inl (upd (upd (upd (upd (fun _ => 0) 0 (-1)) 1 (-1)) 2 (-1)) 3 (-1))))] := hD
    refine lv_aload_n hx hb dL_law_947 rfl (lv_at hl 2 rfl) ?_
    refine lv_aload_n hx hb dL_law_948 rfl (lv_at hl 0 rfl) ?_
    refine lv_iload_n hx hb dL_law_949 rfl (lv_at hl 3 rfl) ?_
    refine lv_iconst (v := 1) hx hb dL_law_950 (by decide) ?_
    refine lv_iadd hx hb dL_law_951 ?_
    refine lv_topi (nm_r (e' := 1) (by decide +kernel) ?_)
    refine va_sld hx hb hX hbl hbA hS (vp_in_iff.mpr (by decide +kernel)) dL_law_952 ?_
    refine lv_topi (nm_r (e' := (xs 1)) (by rfl) ?_)
    refine lv_aload_n hx hb dL_law_953 rfl (lv_at hl 0 rfl) ?_
    refine lv_iload_n hx hb dL_law_954 rfl (lv_at hl 3 rfl) ?_
    refine lv_iconst (v := 2) hx hb dL_law_955 (by decide) ?_
    refine lv_iadd hx hb dL_law_956 ?_
    refine lv_topi (nm_r (e' := 2) (by decide +kernel) ?_)
    refine va_sld hx hb hX hbl hbA hS (vp_in_iff.mpr (by decide +kernel)) dL_law_957 ?_
    refine lv_topi (nm_r (e' := (xs 2)) (by rfl) ?_)
    refine lv_aload_n hx hb dL_law_958 rfl (lv_at hl 0 rfl) ?_
    refine lv_iload_n hx hb dL_law_959 rfl (lv_at hl 3 rfl) ?_
    refine lv_iconst (v := 3) hx hb dL_law_960 (by decide) ?_
    refine lv_iadd hx hb dL_law_961 ?_
    refine lv_topi (nm_r (e' := 3) (by decide +kernel) ?_)
    refine va_sld hx hb hX hbl hbA hS (vp_in_iff.mpr (by decide +kernel)) dL_law_962 ?_
    refine lv_topi (nm_r (e' := (xs 3)) (by rfl) ?_)
    refine lv_aload_n hx hb dL_law_963 rfl (lv_at hl 0 rfl) ?_
    refine lv_iload_n hx hb dL_law_964 rfl (lv_at hl 3 rfl) ?_
    refine lv_iconst (v := 4) hx hb dL_law_965 (by decide) ?_
    refine lv_iadd hx hb dL_law_966 ?_
    refine lv_topi (nm_r (e' := 4) (by decide +kernel) ?_)
    refine va_sld hx hb hX hbl hbA hS (vp_in_iff.mpr (by decide +kernel)) dL_law_967 ?_
    refine lv_topi (nm_r (e' := (xs 4)) (by rfl) ?_)
    refine lv_i2l (v := (xs 4).toInt64) hx hb dL_law_968 rfl ?_
    refine lv_bipush (v := 32) hx hb dL_law_969 (by decide) ?_
    refine lv_lshl (v := (((xs 4).toInt64) <<< ((32 : Int32).toInt64 &&& 63))) hx hb dL_law_971 rfl ?_
    refine lv_aload_n hx hb dL_law_972 rfl (lv_at hl 0 rfl) ?_
    refine lv_iload_n hx hb dL_law_973 rfl (lv_at hl 3 rfl) ?_
    refine lv_iconst (v := 5) hx hb dL_law_974 (by decide) ?_
    refine lv_iadd hx hb dL_law_975 ?_
    refine lv_topi (nm_r (e' := 5) (by decide +kernel) ?_)
    refine va_sld hx hb hX hbl hbA hS (vp_in_iff.mpr (by decide +kernel)) dL_law_976 ?_
    refine lv_topi (nm_r (e' := (xs 5)) (by rfl) ?_)
    refine lv_i2l (v := (xs 5).toInt64) hx hb dL_law_977 rfl ?_
    refine lv_ldc2 (v := 4294967295) hx hb hown (hts _ m_k_RL_39) dL_law_978 ?_
    refine lv_land hx hb dL_law_981 ?_
    refine lv_lor hx hb dL_law_982 ?_
    refine z_calli (wr := []) hP hD hS hA [0, 1] [] (by decide) rfl rfl (by decide) (va_runV (As := [.int (xs 1), .int (xs 2), .int (xs 3), .long ((((xs 4).toInt64) <<< ((32 : Int32).toInt64 &&& 63)) ||| (((xs 5).toInt64) &&& 4294967295))]) (rest := [.int (-11)]) ⟨hx, hb, hml, hown, hts⟩ (kX5_item l g (am 0) (am 1) (am 2) (am 3) (am 4) (am 5) (am 6) (am 7) (am 8) (am 9) (am 10) (am 11) (am 12) (am 13) (am 14) (am 15) (am 16) (am 17) (am 18) (am 19) (am 20) (am 21) (am 22) H.size (xs 1) (xs 2) (xs 3) ((((xs 4).toInt64) <<< ((32 : Int32).toInt64 &&& 63)) ||| (((xs 5).toInt64) &&& 4294967295))) ⟨callB_of 4 hts (zGood m_o_yX5_item) rfl rfl rfl (hts _ m_z_RX5) (hts _ m_m_RL_129) ⟨by decide +kernel, by decide +kernel, by decide +kernel⟩ ⟨Nat.le_of_ble_eq_true rfl, Nat.le_of_ble_eq_true rfl⟩, hts _ m_i_yX5_item, hts _ m_e_yX5_item⟩ (zPreV hK hN hZ hP hD hS hA [0, 1] (by decide) rfl rfl 5 0 rfl rfl) rfl rfl hl.1 rfl (lv_room (Nat.le_of_ble_eq_true rfl)) dL_law_983 ⟨Nat.le_of_ble_eq_true rfl, Nat.le_of_ble_eq_true rfl⟩) (fun r u H locs hw hP hD hS => ?_)
    rcases hw with ⟨i_240, rfl⟩ | ⟨i_241, i_242, rfl⟩ | ⟨i_243, i_244, i_245, rfl⟩ | ⟨i_246, i_247, i_248, i_249, rfl⟩ | ⟨i_250, i_251, i_252, i_253, i_254, rfl⟩ | ⟨i_255, i_256, i_257, i_258, i_259, rfl⟩ | ⟨i_260, i_261, i_262, i_263, i_264, rfl⟩ | ⟨i_265, i_266, i_267, i_268, i_269, rfl⟩
    · exfalso; omega
    · exfalso; omega
    · exfalso; omega
    · exfalso; omega
    · exfalso; omega
    · exfalso; omega
    · exfalso; omega
    · skip
      have hP : va_P g.1 vwCl [] H := hP
      have hD : va_D (fun q : Nat => s.heap.size ≤ q) [] := hD
      refine lv_icmp_eq (tgt := 1054) hx hb dL_law_986 (by decide) (fun _ => ?_) (fun h => absurd h (by decide +kernel))
      exact lc_tail ⟨hx, hb, hml, hr, hlocks, hown, hts, hK, hN, hZ, hX, hbl⟩ hS (lv_sub hl [0, 1, 2, 3] rfl)

set_option maxHeartbeats 8000000 in
set_option maxRecDepth 100000 in
theorem gX2_nextCough (l : Launch) (g : zG) (h0 h1 h2 h3 h4 h5 h6 h7 h8 h9 h10 h11 h12 h13 h14 h15 h16 h17 h18 h19 : Nat) (sz : Nat) (p2 : Int32) (f0 : Int32) (f1 : Int32) (f2 : Int32) (f3 : Int32) (f4 : Int32) (Z4 : Nat → Int32) (Z5 : Nat → Int32) (Z12 : Nat → Int32) (hp0 : 1 ≤ p2.toInt) (hp1 : p2.toInt ≤ 9) (hf_f2 : 0 ≤ f2.toInt ∧ f2.toInt ≤ 6) (hf_f3 : 0 ≤ f3.toInt ∧ f3.toInt ≤ 5) (hf_f4 : 0 ≤ f4.toInt ∧ f4.toInt ≤ 9999) (hF_Z4 : iLm Z4) (hF_Z5 : iMo Z5) (hF_Z12 : iSo Z12) : Met l yX2_nextCough (.code yX2_nextCough cX2_nextCough 6 (some .int) :: zBig) ({ frames := 1, cells := 0, slots := 0, locals := 21 }) (va_Pc [.ref h0, .ref h1, .int p2] (zPre g [(h0, .inr (2, [.ref h2, .ref h3, .ref h4, .ref h5, .ref h6, .ref h7, .int f0, .int f1, .ref h8, .ref h9, .ref h10, .ref h11])), (h1, .inr (0, [.ref h12, .int f2, .ref h13, .int f3, .ref h14, .ref h15, .ref h16, .ref h17, .ref h18, .ref h19, .int f4])), (h6, .inl (zI g, 5, .inl Z4)), (h7, .inl (zI g, 5, .inl Z5)), (h14, .inl (zI g, 5, .inl Z12))] sz)) (va_Qi (fun (r : Int32) (u : Nat) => r.toInt = zTk (zib f0) (zTp Z12 (zIv Z4) (zIv Z5) p2.toInt) 5 ∧ -1 ≤ r.toInt ∧ r.toInt ≤ 99) (zPost g (fun u : Nat => [(h0, .inr (2, [.ref h2, .ref h3, .ref h4, .ref h5, .ref h6, .ref h7, .int f0, .int f1, .ref h8, .ref h9, .ref h10, .ref h11])), (h1, .inr (0, [.ref h12, .int f2, .ref h13, .int f3, .ref h14, .ref h15, .ref h16, .ref h17, .ref h18, .ref h19, .int f4])), (h6, .inl (zI g, 5, .inl Z4)), (h7, .inl (zI g, 5, .inl Z5)), (h14, .inl (zI g, 5, .inl Z12))]) (va_A [(h0, .inr (2, [.ref h2, .ref h3, .ref h4, .ref h5, .ref h6, .ref h7, .int f0, .int f1, .ref h8, .ref h9, .ref h10, .ref h11])), (h1, .inr (0, [.ref h12, .int f2, .ref h13, .int f3, .ref h14, .ref h15, .ref h16, .ref h17, .ref h18, .ref h19, .int f4])), (h6, .inl (zI g, 5, .inl Z4)), (h7, .inl (zI g, 5, .inl Z5)), (h14, .inl (zI g, 5, .inl Z12))] sz)) (va_A [(h0, .inr (2, [.ref h2, .ref h3, .ref h4, .ref h5, .ref h6, .ref h7, .int f0, .int f1, .ref h8, .ref h9, .ref h10, .ref h11])), (h1, .inr (0, [.ref h12, .int f2, .ref h13, .int f3, .ref h14, .ref h15, .ref h16, .ref h17, .ref h18, .ref h19, .int f4])), (h6, .inl (zI g, 5, .inl Z4)), (h7, .inl (zI g, 5, .inl Z5)), (h14, .inl (zI g, 5, .inl Z12))] sz)) 0 0 (va_A [(h0, .inr (2, [.ref h2, .ref h3, .ref h4, .ref h5, .ref h6, .ref h7, .int f0, .int f1, .ref h8, .ref h9, .ref h10, .ref h11])), (h1, .inr (0, [.ref h12, .int f2, .ref h13, .int f3, .ref h14, .ref h15, .ref h16, .ref h17, .ref h18, .ref h19, .int f4])), (h6, .inl (zI g, 5, .inl Z4)), (h7, .inl (zI g, 5, .inl Z5)), (h14, .inl (zI g, 5, .inl Z12))] sz) := by
  refine zMetI rfl (Nat.le_of_ble_eq_true rfl) ?_
  intro p e s m args below meth c A ls hx hb hml hr hlocks hin hown hts hK hN hZ hP hD hA hS hAe hl
  have hown : s.vm.findClass RX2 = some m.cls := hown
  have hl : lv_has ls 6 [(0, .ref h0), (1, .ref h1), (2, .int p2)] := hl
  have hk0 : zTk (zib f0) (zTp Z12 (zIv Z4) (zIv Z5) p2.toInt) (0 : Int32).toInt.toNat = -1 := rfl
  have hk00 : (-1 : Int32).toInt = -1 := rfl
  refine lv_iconst (v := (-1)) hx hb dX2_nextCough_0 (by decide) ?_
  refine lv_istore_n (lv' := [(3, .int (-1)), (0, .ref h0), (1, .ref h1), (2, .int p2)]) hx hb dX2_nextCough_1 rfl hl (by decide) rfl (fun ls hl => ?_)
  refine lv_iconst (v := 0) hx hb dX2_nextCough_2 (by decide) ?_
  refine lv_istore (lv' := [(4, .int 0), (3, .int (-1)), (0, .ref h0), (1, .ref h1), (2, .int p2)]) hx hb dX2_nextCough_3 hl (by decide) rfl (fun ls hl => ?_)
  have loop5_0 : ∀ (n1 : Nat) (v3_0 : Int32) (v4_0 : Int32) (n1_0 : 0 ≤ v4_0.toInt) (n1_1 : v4_0.toInt ≤ 5) (n1_2 : -1 ≤ v3_0.toInt) (n1_3 : v3_0.toInt ≤ 99) (n1_4 : v3_0.toInt = zTk (zib f0) (zTp Z12 (zIv Z4) (zIv Z5) p2.toInt) v4_0.toInt.toNat) (hm1 : 5 - v4_0.toInt < (n1 : Int)) (H : Heap) (locs : List Loc), va_P g.1 vwCl [(h0, .inr (2, [.ref h2, .ref h3, .ref h4, .ref h5, .ref h6, .ref h7, .int f0, .int f1, .ref h8, .ref h9, .ref h10, .ref h11])), (h1, .inr (0, [.ref h12, .int f2, .ref h13, .int f3, .ref h14, .ref h15, .ref h16, .ref h17, .ref h18, .ref h19, .int f4])), (h6, .inl (zI g, 5, .inl Z4)), (h7, .inl (zI g, 5, .inl Z5)), (h14, .inl (zI g, 5, .inl Z12))] H → va_D A [(h0, .inr (2, [.ref h2, .ref h3, .ref h4, .ref h5, .ref h6, .ref h7, .int f0, .int f1, .ref h8, .ref h9, .ref h10, .ref h11])), (h1, .inr (0, [.ref h12, .int f2, .ref h13, .int f3, .ref h14, .ref h15, .ref h16, .ref h17, .ref h18, .ref h19, .int f4])), (h6, .inl (zI g, 5, .inl Z4)), (h7, .inl (zI g, 5, .inl Z5)), (h14, .inl (zI g, 5, .inl Z12))] → va_S A s.heap H locs → ∀ (ls : Array Slot), lv_has ls 6 [(0, .ref h0), (1, .ref h1), (2, .int p2), (3, .int v3_0), (4, .int v4_0)] → W p l e ({ frames := 1, cells := 0, slots := 0, locals := 21 }) s m args below meth c H locs 0 0 (MQ below (va_Qi (fun (r : Int32) (u : Nat) => r.toInt = zTk (zib f0) (zTp Z12 (zIv Z4) (zIv Z5) p2.toInt) 5 ∧ -1 ≤ r.toInt ∧ r.toInt ≤ 99) (zPost g (fun u : Nat => [(h0, .inr (2, [.ref h2, .ref h3, .ref h4, .ref h5, .ref h6, .ref h7, .int f0, .int f1, .ref h8, .ref h9, .ref h10, .ref h11])), (h1, .inr (0, [.ref h12, .int f2, .ref h13, .int f3, .ref h14, .ref h15, .ref h16, .ref h17, .ref h18, .ref h19, .int f4])), (h6, .inl (zI g, 5, .inl Z4)), (h7, .inl (zI g, 5, .inl Z5)), (h14, .inl (zI g, 5, .inl Z12))]) A) A) args s 0 0 A) (F0 m 5 ls []) := by
    intro n1
    induction n1 with
    | zero => intro v3_0 v4_0 n1_0 n1_1 n1_2 n1_3 n1_4 hm1; exfalso; omega
    | succ n1 ih1 =>
      intro v3_0 v4_0 n1_0 n1_1 n1_2 n1_3 n1_4 hm1 H locs hP hD hS ls hl
      refine lv_iload hx hb dX2_nextCough_5 (lv_at hl 4 rfl) ?_
      refine lv_iconst (v := 5) hx hb dX2_nextCough_7 (by decide) ?_
      refine lv_icmp_ge (tgt := 72) hx hb dX2_nextCough_8 (by decide) (fun c_1 => ?_) (fun c_1 => ?_)
      · have i_1 : 5 ≤ v4_0.toInt := z_le (rfl) (rfl) c_1
        have hk5 : zTk (zib f0) (zTp Z12 (zIv Z4) (zIv Z5) p2.toInt) 5 = zTk (zib f0) (zTp Z12 (zIv Z4) (zIv Z5) p2.toInt) v4_0.toInt.toNat := by rw [(by omega : v4_0.toInt.toNat = 5)]
        refine lv_iload_n hx hb dX2_nextCough_72 rfl (lv_at hl 3 rfl) ?_
        have hP9 := hP.sub (ws' := [(h0, .inr (2, [.ref h2, .ref h3, .ref h4, .ref h5, .ref h6, .ref h7, .int f0, .int f1, .ref h8, .ref h9, .ref h10, .ref h11])), (h1, .inr (0, [.ref h12, .int f2, .ref h13, .int f3, .ref h14, .ref h15, .ref h16, .ref h17, .ref h18, .ref h19, .int f4])), (h6, .inl (zI g, 5, .inl Z4)), (h7, .inl (zI g, 5, .inl Z5)), (h14, .inl (zI g, 5, .inl Z12))]) [0, 1, 2, 3, 4] rfl
        have hD9 := hD.sub (ws' := [(h0, .inr (2, [.ref h2, .ref h3, .ref h4, .ref h5, .ref h6, .ref h7, .int f0, .int f1, .ref h8, .ref h9, .ref h10, .ref h11])), (h1, .inr (0, [.ref h12, .int f2, .ref h13, .int f3, .ref h14, .ref h15, .ref h16, .ref h17, .ref h18, .ref h19, .int f4])), (h6, .inl (zI g, 5, .inl Z4)), (h7, .inl (zI g, 5, .inl Z5)), (h14, .inl (zI g, 5, .inl Z12))]) [0, 1, 2, 3, 4] (by decide) rfl
        exact W.iret (v := v3_0) hx hb hr (fun t ht hW => ⟨⟨v3_0, (0 : Nat), rfl, ⟨(by first | omega | decide), (by first | omega | decide), (by first | omega | decide)⟩, by rw [ht]; exact hP9, hD9⟩, hS.F ht⟩) hS.2.2 dX2_nextCough_73
      · have i_1 : v4_0.toInt < 5 := z_nle (rfl) (rfl) c_1
        refine lv_aload_n hx hb dX2_nextCough_11 rfl (lv_at hl 0 rfl) ?_
        refine va_get (D := g.1) (ci := 2) (v := .int f0) (C := RX2) (T := TX2) (N := 12) hx hb hts zl_X2 hown hK hP 0 rfl rfl 6 (by decide) (hts _ m_f_RX2_30) (fun _ h => h) rfl dX2_nextCough_12 ?_
        refine lv_iload hx hb dX2_nextCough_15 (lv_at hl 4 rfl) ?_
        refine z_calli (wr := [(h0, .inr (2, [.ref h2, .ref h3, .ref h4, .ref h5, .ref h6, .ref h7, .int f0, .int f1, .ref h8, .ref h9, .ref h10, .ref h11])), (h1, .inr (0, [.ref h12, .int f2, .ref h13, .int f3, .ref h14, .ref h15, .ref h16, .ref h17, .ref h18, .ref h19, .int f4])), (h6, .inl (zI g, 5, .inl Z4)), (h7, .inl (zI g, 5, .inl Z5)), (h14, .inl (zI g, 5, .inl Z12))]) hP hD hS hA [] [0, 1, 2, 3, 4] (by decide) rfl rfl (by decide) (va_runS (As := [.int f0, .int v4_0]) (rest := []) ⟨hx, hb, hml, hown, hts⟩ (gX2_isIn l g  H.size f0 v4_0) ⟨callB_of 2 hts (zGood m_o_yX2_isIn) rfl rfl rfl (hts _ m_z_RX2) (hts _ m_m_RX2_93) ⟨by decide +kernel, by decide +kernel, by decide +kernel⟩ ⟨Nat.le_of_ble_eq_true rfl, Nat.le_of_ble_eq_true rfl⟩, hts _ m_s_yX2_isIn⟩ (zPreS hK hN hZ hP hD hS hA [] (by decide) rfl rfl) rfl rfl hl.1 rfl (lv_room (Nat.le_of_ble_eq_true rfl)) dX2_nextCough_17 ⟨Nat.le_of_ble_eq_true rfl, Nat.le_of_ble_eq_true rfl⟩) (fun r u H locs hw hP hD hS => ?_)
        rcases hw with ⟨i_2, rfl⟩ | ⟨i_3, rfl⟩
        · skip
          have i_2 : zbit f0 v4_0 = 1 := i_2
          have hP : va_P g.1 vwCl [(h0, .inr (2, [.ref h2, .ref h3, .ref h4, .ref h5, .ref h6, .ref h7, .int f0, .int f1, .ref h8, .ref h9, .ref h10, .ref h11])), (h1, .inr (0, [.ref h12, .int f2, .ref h13, .int f3, .ref h14, .ref h15, .ref h16, .ref h17, .ref h18, .ref h19, .int f4])), (h6, .inl (zI g, 5, .inl Z4)), (h7, .inl (zI g, 5, .inl Z5)), (h14, .inl (zI g, 5, .inl Z12))] H := hP
          have hD : va_D A [(h0, .inr (2, [.ref h2, .ref h3, .ref h4, .ref h5, .ref h6, .ref h7, .int f0, .int f1, .ref h8, .ref h9, .ref h10, .ref h11])), (h1, .inr (0, [.ref h12, .int f2, .ref h13, .int f3, .ref h14, .ref h15, .ref h16, .ref h17, .ref h18, .ref h19, .int f4])), (h6, .inl (zI g, 5, .inl Z4)), (h7, .inl (zI g, 5, .inl Z5)), (h14, .inl (zI g, 5, .inl Z12))] := hD
          refine lv_if_eq (tgt := 66) hx hb dX2_nextCough_20 (by decide) (fun h => absurd h (by decide +kernel)) (fun _ => ?_)
          refine lv_aload_n hx hb dX2_nextCough_23 rfl (lv_at hl 1 rfl) ?_
          refine va_getN (D := g.1) (ci := 0) (v := .ref h14) (C := RX0) (T := TX0) (N := 11) hx hb hts zl_X0 hown hK hP 1 rfl rfl 4 (by decide) (hN.f 10 (q := (RX2, 134, "FishSteps$Books", "sort", "[I")) rfl) (fun _ h => h) rfl dX2_nextCough_24 ?_
          refine lv_iload hx hb dX2_nextCough_27 (lv_at hl 4 rfl) ?_
          refine va_iald (D := g.1) hx hb hK hP 4 0 rfl rfl (vp_in_iff.mpr ⟨by omega, by omega⟩) dX2_nextCough_29 ?_
          refine lv_topi (fun y0 ey0 => ?_)
          have qy0_0 : 0 ≤ y0.toInt := (i_at (N := 5) (lo := 0) (hi := 4) (i := v4_0) (a := v4_0.toInt) hF_Z12 (rfl) (by omega) (by omega) ey0).1
          have qy0_1 : y0.toInt ≤ 4 := (i_at (N := 5) (lo := 0) (hi := 4) (i := v4_0) (a := v4_0.toInt) hF_Z12 (rfl) (by omega) (by omega) ey0).2
          have qy0_2 : y0.toInt = (Z12 v4_0.toNatClampNeg).toInt := congrArg Int32.toInt ey0
          refine lv_iconst (v := 1) hx hb dX2_nextCough_30 (by decide) ?_
          refine lv_icmp_ne (tgt := 38) hx hb dX2_nextCough_31 (by decide) (fun c_4 => ?_) (fun c_4 => ?_)
          · have i_4 : y0.toInt ≠ 1 := z_ne (rfl) (rfl) c_4
            refine lv_iconst (v := 0) hx hb dX2_nextCough_38 (by decide) ?_
            refine lv_istore (lv' := [(5, .int 0), (0, .ref h0), (1, .ref h1), (2, .int p2), (3, .int v3_0), (4, .int v4_0)]) hx hb dX2_nextCough_39 hl (by decide) rfl (fun ls hl => ?_)
            refine lv_iload_n hx hb dX2_nextCough_41 rfl (lv_at hl 4 rfl) ?_
            refine lv_aload_n hx hb dX2_nextCough_42 rfl (lv_at hl 1 rfl) ?_
            refine va_get (D := g.1) (ci := 2) (v := .ref h7) (C := RX2) (T := TX2) (N := 12) hx hb hts zl_X2 hown hK hP 0 rfl rfl 5 (by decide) (hts _ m_f_RX2_27) (fun _ h => h) rfl dX2_nextCough_43 ?_
            refine lv_iload hx hb dX2_nextCough_46 (lv_at hl 5 rfl) ?_
            refine va_iald (D := g.1) hx hb hK hP 3 0 rfl rfl (vp_in_iff.mpr ⟨by omega, by omega⟩) dX2_nextCough_48 ?_
            refine lv_topi (fun y1 ey1 => ?_)
            have qy1_0 : (-99) ≤ y1.toInt := (i_at (N := 5) (lo := (-99)) (hi := 10098) (i := v4_0) (a := v4_0.toInt) hF_Z5 (rfl) (by omega) (by omega) ey1).1
            have qy1_1 : y1.toInt ≤ 10098 := (i_at (N := 5) (lo := (-99)) (hi := 10098) (i := v4_0) (a := v4_0.toInt) hF_Z5 (rfl) (by omega) (by omega) ey1).2
            have qy1_2 : y1.toInt = (Z5 v4_0.toNatClampNeg).toInt := congrArg Int32.toInt ey1
            refine lv_aload_n hx hb dX2_nextCough_49 rfl (lv_at hl 1 rfl) ?_
            refine va_get (D := g.1) (ci := 2) (v := .ref h6) (C := RX2) (T := TX2) (N := 12) hx hb hts zl_X2 hown hK hP 0 rfl rfl 4 (by decide) (hts _ m_f_RX2_24) (fun _ h => h) rfl dX2_nextCough_50 ?_
            refine lv_iload hx hb dX2_nextCough_53 (lv_at hl 5 rfl) ?_
            refine va_iald (D := g.1) hx hb hK hP 2 0 rfl rfl (vp_in_iff.mpr ⟨by omega, by omega⟩) dX2_nextCough_55 ?_
            refine lv_topi (fun y2 ey2 => ?_)
            have qy2_0 : (-40) ≤ y2.toInt := (i_at (N := 5) (lo := (-40)) (hi := 99) (i := v4_0) (a := v4_0.toInt) hF_Z4 (rfl) (by omega) (by omega) ey2).1
            have qy2_1 : y2.toInt ≤ 99 := (i_at (N := 5) (lo := (-40)) (hi := 99) (i := v4_0) (a := v4_0.toInt) hF_Z4 (rfl) (by omega) (by omega) ey2).2
            have qy2_2 : y2.toInt = (Z4 v4_0.toNatClampNeg).toInt := congrArg Int32.toInt ey2
            refine lv_iload hx hb dX2_nextCough_56 (lv_at hl 0 rfl) ?_
            refine lv_isub hx hb dX2_nextCough_58 ?_
            refine lv_topi (fun y3 ey3 => ?_)
            have qy3_0 : y3.toInt = y2.toInt - 0 := zi_sub ey3 (rfl) (rfl) (by omega) (by omega)
            refine va_mmin hx hb (hml.trans hl.1.symm) hown (hts _ m_m_RX2_131) (hts _ m_s_Lib_Math_min_name) (hts _ m_z_RJ9) (hts _ m_o_Lib_Math_min_name) (Nat.le_of_ble_eq_true rfl) (Nat.le_of_ble_eq_true rfl) (Nat.le_of_ble_eq_true rfl) (Nat.le_of_ble_eq_true rfl) dX2_nextCough_59 ?_
            refine lv_topi (fun y4 ey4 => ?_)
            have qy4_0 : y4.toInt ≤ y1.toInt := (zi_min ey4 (rfl) (rfl)).1
            have qy4_1 : y4.toInt ≤ y3.toInt := (zi_min ey4 (rfl) (rfl)).2.1
            have qy4_2 : y4.toInt = y1.toInt ∨ y4.toInt = y3.toInt := (zi_min ey4 (rfl) (rfl)).2.2
            refine va_mmax hx hb (hml.trans hl.1.symm) hown (hts _ m_m_RX2_116) (hts _ m_s_Lib_Math_max_name) (hts _ m_z_RJ9) (hts _ m_o_Lib_Math_max_name) (Nat.le_of_ble_eq_true rfl) (Nat.le_of_ble_eq_true rfl) (Nat.le_of_ble_eq_true rfl) (Nat.le_of_ble_eq_true rfl) dX2_nextCough_62 ?_
            refine lv_topi (fun y5 ey5 => ?_)
            have qy5_0 : v3_0.toInt ≤ y5.toInt := (zi_max ey5 (rfl) (rfl)).1
            have qy5_1 : y4.toInt ≤ y5.toInt := (zi_max ey5 (rfl) (rfl)).2.1
            have qy5_2 : y5.toInt = v3_0.toInt ∨ y5.toInt = y4.toInt := (zi_max ey5 (rfl) (rfl)).2.2
            refine lv_istore_n (lv' := [(3, .int y5), (5, .int 0), (0, .ref h0), (1, .ref h1), (2, .int p2), (4, .int v4_0)]) hx hb dX2_nextCough_65 rfl hl (by decide) rfl (fun ls hl => ?_)
            have htp : (zTp Z12 (zIv Z4) (zIv Z5) p2.toInt) v4_0.toNatClampNeg = min (Z5 v4_0.toNatClampNeg).toInt ((Z4 v4_0.toNatClampNeg).toInt - 0) := zTp_i (i := v4_0) (by omega)
            have hks : zTk (zib f0) (zTp Z12 (zIv Z4) (zIv Z5) p2.toInt) (v4_0.toInt.toNat + 1) = max (zTk (zib f0) (zTp Z12 (zIv Z4) (zIv Z5) p2.toInt) v4_0.toInt.toNat) ((zTp Z12 (zIv Z4) (zIv Z5) p2.toInt) v4_0.toNatClampNeg) := zTk_i1 (i := v4_0) (by omega) (by omega)
            obtain ⟨y6, ey6⟩ : ∃ z : Int32, z = v4_0 + 1 := ⟨_, rfl⟩
            have qy6 : y6.toInt = v4_0.toInt + 1 := zi_add ey6 (rfl) rfl (by omega) (by omega)
            refine lv_iinc (v := y6) (lv' := [(4, .int y6), (3, .int y5), (5, .int 0), (0, .ref h0), (1, .ref h1), (2, .int p2)]) hx hb dX2_nextCough_66 hl (k := 5) rfl ey6.symm (by decide) rfl (fun ls hl => ?_)
            have hkt : zTk (zib f0) (zTp Z12 (zIv Z4) (zIv Z5) p2.toInt) y6.toInt.toNat = zTk (zib f0) (zTp Z12 (zIv Z4) (zIv Z5) p2.toInt) (v4_0.toInt.toNat + 1) := by rw [(by omega : y6.toInt.toNat = v4_0.toInt.toNat + 1)]
            refine lv_goto (tgt := 5) hx hb dX2_nextCough_69 (by decide) ?_
            exact ih1 y5 y6 (by omega) (by omega) (by omega) (by omega) (by omega) (by omega) _ _ hP hD hS ls (lv_sub hl [3, 4, 5, 1, 0] rfl)
          · have i_4 : y0.toInt = 1 := z_eq (rfl) (rfl) c_4
            refine lv_iload_n hx hb dX2_nextCough_34 rfl (lv_at hl 2 rfl) ?_
            refine lv_goto (tgt := 39) hx hb dX2_nextCough_35 (by decide) ?_
            refine lv_istore (lv' := [(5, .int p2), (0, .ref h0), (1, .ref h1), (2, .int p2), (3, .int v3_0), (4, .int v4_0)]) hx hb dX2_nextCough_39 hl (by decide) rfl (fun ls hl => ?_)
            refine lv_iload_n hx hb dX2_nextCough_41 rfl (lv_at hl 4 rfl) ?_
            refine lv_aload_n hx hb dX2_nextCough_42 rfl (lv_at hl 1 rfl) ?_
            refine va_get (D := g.1) (ci := 2) (v := .ref h7) (C := RX2) (T := TX2) (N := 12) hx hb hts zl_X2 hown hK hP 0 rfl rfl 5 (by decide) (hts _ m_f_RX2_27) (fun _ h => h) rfl dX2_nextCough_43 ?_
            refine lv_iload hx hb dX2_nextCough_46 (lv_at hl 5 rfl) ?_
            refine va_iald (D := g.1) hx hb hK hP 3 0 rfl rfl (vp_in_iff.mpr ⟨by omega, by omega⟩) dX2_nextCough_48 ?_
            refine lv_topi (fun y7 ey7 => ?_)
            have qy7_0 : (-99) ≤ y7.toInt := (i_at (N := 5) (lo := (-99)) (hi := 10098) (i := v4_0) (a := v4_0.toInt) hF_Z5 (rfl) (by omega) (by omega) ey7).1
            have qy7_1 : y7.toInt ≤ 10098 := (i_at (N := 5) (lo := (-99)) (hi := 10098) (i := v4_0) (a := v4_0.toInt) hF_Z5 (rfl) (by omega) (by omega) ey7).2
            have qy7_2 : y7.toInt = (Z5 v4_0.toNatClampNeg).toInt := congrArg Int32.toInt ey7
            refine lv_aload_n hx hb dX2_nextCough_49 rfl (lv_at hl 1 rfl) ?_
            refine va_get (D := g.1) (ci := 2) (v := .ref h6) (C := RX2) (T := TX2) (N := 12) hx hb hts zl_X2 hown hK hP 0 rfl rfl 4 (by decide) (hts _ m_f_RX2_24) (fun _ h => h) rfl dX2_nextCough_50 ?_
            refine lv_iload hx hb dX2_nextCough_53 (lv_at hl 5 rfl) ?_
            refine va_iald (D := g.1) hx hb hK hP 2 0 rfl rfl (vp_in_iff.mpr ⟨by omega, by omega⟩) dX2_nextCough_55 ?_
            refine lv_topi (fun y8 ey8 => ?_)
            have qy8_0 : (-40) ≤ y8.toInt := (i_at (N := 5) (lo := (-40)) (hi := 99) (i := v4_0) (a := v4_0.toInt) hF_Z4 (rfl) (by omega) (by omega) ey8).1
            have qy8_1 : y8.toInt ≤ 99 := (i_at (N := 5) (lo := (-40)) (hi := 99) (i := v4_0) (a := v4_0.toInt) hF_Z4 (rfl) (by omega) (by omega) ey8).2
            have qy8_2 : y8.toInt = (Z4 v4_0.toNatClampNeg).toInt := congrArg Int32.toInt ey8
            refine lv_iload hx hb dX2_nextCough_56 (lv_at hl 0 rfl) ?_
            refine lv_isub hx hb dX2_nextCough_58 ?_
            refine lv_topi (fun y9 ey9 => ?_)
            have qy9_0 : y9.toInt = y8.toInt - p2.toInt := zi_sub ey9 (rfl) (rfl) (by omega) (by omega)
            refine va_mmin hx hb (hml.trans hl.1.symm) hown (hts _ m_m_RX2_131) (hts _ m_s_Lib_Math_min_name) (hts _ m_z_RJ9) (hts _ m_o_Lib_Math_min_name) (Nat.le_of_ble_eq_true rfl) (Nat.le_of_ble_eq_true rfl) (Nat.le_of_ble_eq_true rfl) (Nat.le_of_ble_eq_true rfl) dX2_nextCough_59 ?_
            refine lv_topi (fun y10 ey10 => ?_)
            have qy10_0 : y10.toInt ≤ y7.toInt := (zi_min ey10 (rfl) (rfl)).1
            have qy10_1 : y10.toInt ≤ y9.toInt := (zi_min ey10 (rfl) (rfl)).2.1
            have qy10_2 : y10.toInt = y7.toInt ∨ y10.toInt = y9.toInt := (zi_min ey10 (rfl) (rfl)).2.2
            refine va_mmax hx hb (hml.trans hl.1.symm) hown (hts _ m_m_RX2_116) (hts _ m_s_Lib_Math_max_name) (hts _ m_z_RJ9) (hts _ m_o_Lib_Math_max_name) (Nat.le_of_ble_eq_true rfl) (Nat.le_of_ble_eq_true rfl) (Nat.le_of_ble_eq_true rfl) (Nat.le_of_ble_eq_true rfl) dX2_nextCough_62 ?_
            refine lv_topi (fun y11 ey11 => ?_)
            have qy11_0 : v3_0.toInt ≤ y11.toInt := (zi_max ey11 (rfl) (rfl)).1
            have qy11_1 : y10.toInt ≤ y11.toInt := (zi_max ey11 (rfl) (rfl)).2.1
            have qy11_2 : y11.toInt = v3_0.toInt ∨ y11.toInt = y10.toInt := (zi_max ey11 (rfl) (rfl)).2.2
            refine lv_istore_n (lv' := [(3, .int y11), (5, .int p2), (0, .ref h0), (1, .ref h1), (2, .int p2), (4, .int v4_0)]) hx hb dX2_nextCough_65 rfl hl (by decide) rfl (fun ls hl => ?_)
            have htp : (zTp Z12 (zIv Z4) (zIv Z5) p2.toInt) v4_0.toNatClampNeg = min (Z5 v4_0.toNatClampNeg).toInt ((Z4 v4_0.toNatClampNeg).toInt - p2.toInt) := zTp_i (i := v4_0) (by omega)
            have hks : zTk (zib f0) (zTp Z12 (zIv Z4) (zIv Z5) p2.toInt) (v4_0.toInt.toNat + 1) = max (zTk (zib f0) (zTp Z12 (zIv Z4) (zIv Z5) p2.toInt) v4_0.toInt.toNat) ((zTp Z12 (zIv Z4) (zIv Z5) p2.toInt) v4_0.toNatClampNeg) := zTk_i1 (i := v4_0) (by omega) (by omega)
            obtain ⟨y12, ey12⟩ : ∃ z : Int32, z = v4_0 + 1 := ⟨_, rfl⟩
            have qy12 : y12.toInt = v4_0.toInt + 1 := zi_add ey12 (rfl) rfl (by omega) (by omega)
            refine lv_iinc (v := y12) (lv' := [(4, .int y12), (3, .int y11), (5, .int p2), (0, .ref h0), (1, .ref h1), (2, .int p2)]) hx hb dX2_nextCough_66 hl (k := 5) rfl ey12.symm (by decide) rfl (fun ls hl => ?_)
            have hkt : zTk (zib f0) (zTp Z12 (zIv Z4) (zIv Z5) p2.toInt) y12.toInt.toNat = zTk (zib f0) (zTp Z12 (zIv Z4) (zIv Z5) p2.toInt) (v4_0.toInt.toNat + 1) := by rw [(by omega : y12.toInt.toNat = v4_0.toInt.toNat + 1)]
            refine lv_goto (tgt := 5) hx hb dX2_nextCough_69 (by decide) ?_
            exact ih1 y11 y12 (by omega) (by omega) (by omega) (by omega) (by omega) (by omega) _ _ hP hD hS ls (lv_sub hl [3, 4, 5, 1, 0] rfl)
        · skip
          have i_3 : zbit f0 v4_0 = 0 := i_3
          have hP : va_P g.1 vwCl [(h0, .inr (2, [.ref h2, .ref h3, .ref h4, .ref h5, .ref h6, .ref h7, .int f0, .int f1, .ref h8, .ref h9, .ref h10, .ref h11])), (h1, .inr (0, [.ref h12, .int f2, .ref h13, .int f3, .ref h14, .ref h15, .ref h16, .ref h17, .ref h18, .ref h19, .int f4])), (h6, .inl (zI g, 5, .inl Z4)), (h7, .inl (zI g, 5, .inl Z5)), (h14, .inl (zI g, 5, .inl Z12))] H := hP
          have hD : va_D A [(h0, .inr (2, [.ref h2, .ref h3, .ref h4, .ref h5, .ref h6, .ref h7, .int f0, .int f1, .ref h8, .ref h9, .ref h10, .ref h11])), (h1, .inr (0, [.ref h12, .int f2, .ref h13, .int f3, .ref h14, .ref h15, .ref h16, .ref h17, .ref h18, .ref h19, .int f4])), (h6, .inl (zI g, 5, .inl Z4)), (h7, .inl (zI g, 5, .inl Z5)), (h14, .inl (zI g, 5, .inl Z12))] := hD
          refine lv_if_eq (tgt := 66) hx hb dX2_nextCough_20 (by decide) (fun _ => ?_) (fun h => absurd h (by decide +kernel))
          have hks : zTk (zib f0) (zTp Z12 (zIv Z4) (zIv Z5) p2.toInt) (v4_0.toInt.toNat + 1) = zTk (zib f0) (zTp Z12 (zIv Z4) (zIv Z5) p2.toInt) v4_0.toInt.toNat := zTk_i0 (i := v4_0) (by omega) (by omega)
          obtain ⟨y13, ey13⟩ : ∃ z : Int32, z = v4_0 + 1 := ⟨_, rfl⟩
          have qy13 : y13.toInt = v4_0.toInt + 1 := zi_add ey13 (rfl) rfl (by omega) (by omega)
          refine lv_iinc (v := y13) (lv' := [(4, .int y13), (0, .ref h0), (1, .ref h1), (2, .int p2), (3, .int v3_0)]) hx hb dX2_nextCough_66 hl (k := 4) rfl ey13.symm (by decide) rfl (fun ls hl => ?_)
          have hkt : zTk (zib f0) (zTp Z12 (zIv Z4) (zIv Z5) p2.toInt) y13.toInt.toNat = zTk (zib f0) (zTp Z12 (zIv Z4) (zIv Z5) p2.toInt) (v4_0.toInt.toNat + 1) := by rw [(by omega : y13.toInt.toNat = v4_0.toInt.toNat + 1)]
          refine lv_goto (tgt := 5) hx hb dX2_nextCough_69 (by decide) ?_
          exact ih1 v3_0 y13 (by omega) (by omega) (by omega) (by omega) (by omega) (by omega) _ _ hP hD hS ls (lv_sub hl [1, 2, 3, 4, 0] rfl)
  have : ((-1) : Int32).toInt = (-1) := rfl
  have : (0 : Int32).toInt = 0 := rfl
  exact loop5_0 ((5 - 0 : Int).toNat + 1) ((-1) : Int32) (0 : Int32) (by omega) (by omega) (by omega) (by omega) (by omega) (by omega) _ _ hP hD hS ls (lv_sub hl [2, 3, 4, 1, 0] rfl)
set_option maxHeartbeats 8000000 in
set_option maxRecDepth 100000 in
theorem gX2_firstOf (l : Launch) (g : zG) (sz : Nat) (p0 : Int32) : Met l yX2_firstOf (.code yX2_firstOf cX2_firstOf 2 (some .int) :: zBig) ({ frames := 1, cells := 0, slots := 0, locals := 21 }) (va_Pc [.int p0] (zPre g [] sz)) (va_Qi (fun (r : Int32) (u : Nat) => r.toInt = zF5 (zib p0) ∧ -1 ≤ r.toInt ∧ r.toInt ≤ 4) (zPost g (fun u : Nat => []) (va_A [] sz)) (va_A [] sz)) 0 0 (va_A [] sz) := by
  refine zMetI rfl (Nat.le_of_ble_eq_true rfl) ?_
  intro p e s m args below meth c A ls hx hb hml hr hlocks hin hown hts hK hN hZ hP hD hA hS hAe hl
  have hown : s.vm.findClass RX2 = some m.cls := hown
  have hl : lv_has ls 2 [(0, .int p0)] := hl
  have hf0 : zFk (zib p0) (0 : Int32).toInt = zF5 (zib p0) := zFk_0
  refine lv_iconst (v := 0) hx hb dX2_firstOf_0 (by decide) ?_
  refine lv_istore_n (lv' := [(1, .int 0), (0, .int p0)]) hx hb dX2_firstOf_1 rfl hl (by decide) rfl (fun ls hl => ?_)
  have loop2_0 : ∀ (n1 : Nat) (v1_0 : Int32) (n1_0 : 0 ≤ v1_0.toInt) (n1_1 : v1_0.toInt ≤ 5) (n1_2 : zFk (zib p0) v1_0.toInt = zF5 (zib p0)) (hm1 : 5 - v1_0.toInt < (n1 : Int)) (H : Heap) (locs : List Loc), va_P g.1 vwCl [] H → va_D A [] → va_S A s.heap H locs → ∀ (ls : Array Slot), lv_has ls 2 [(0, .int p0), (1, .int v1_0)] → W p l e ({ frames := 1, cells := 0, slots := 0, locals := 21 }) s m args below meth c H locs 0 0 (MQ below (va_Qi (fun (r : Int32) (u : Nat) => r.toInt = zF5 (zib p0) ∧ -1 ≤ r.toInt ∧ r.toInt ≤ 4) (zPost g (fun u : Nat => []) A) A) args s 0 0 A) (F0 m 2 ls []) := by
    intro n1
    induction n1 with
    | zero => intro v1_0 n1_0 n1_1 n1_2 hm1; exfalso; omega
    | succ n1 ih1 =>
      intro v1_0 n1_0 n1_1 n1_2 hm1 H locs hP hD hS ls hl
      refine lv_iload_n hx hb dX2_firstOf_2 rfl (lv_at hl 1 rfl) ?_
      refine lv_iconst (v := 5) hx hb dX2_firstOf_3 (by decide) ?_
      refine lv_icmp_ge (tgt := 23) hx hb dX2_firstOf_4 (by decide) (fun c_1 => ?_) (fun c_1 => ?_)
      · have i_1 : 5 ≤ v1_0.toInt := z_le (rfl) (rfl) c_1
        have hfe : zFk (zib p0) v1_0.toInt = -1 := zFk_end (by omega)
        have : (-1 : Int32).toInt = -1 := rfl
        refine lv_iconst (v := (-1)) hx hb dX2_firstOf_23 (by decide) ?_
        have hP9 := hP.sub (ws' := []) [] rfl
        have hD9 := hD.sub (ws' := []) [] (by decide) rfl
        exact W.iret (v := (-1)) hx hb hr (fun t ht hW => ⟨⟨(-1), (0 : Nat), rfl, ⟨(by first | omega | decide), (by first | omega | decide), (by first | omega | decide)⟩, by rw [ht]; exact hP9, hD9⟩, hS.F ht⟩) hS.2.2 dX2_firstOf_24
      · have i_1 : v1_0.toInt < 5 := z_nle (rfl) (rfl) c_1
        refine lv_iload_n hx hb dX2_firstOf_7 rfl (lv_at hl 0 rfl) ?_
        refine lv_iload_n hx hb dX2_firstOf_8 rfl (lv_at hl 1 rfl) ?_
        refine z_calli (wr := []) hP hD hS hA [] [] (by decide) rfl rfl (by decide) (va_runS (As := [.int p0, .int v1_0]) (rest := []) ⟨hx, hb, hml, hown, hts⟩ (gX2_isIn l g  H.size p0 v1_0) ⟨callB_of 2 hts (zGood m_o_yX2_isIn) rfl rfl rfl (hts _ m_z_RX2) (hts _ m_m_RX2_93) ⟨by decide +kernel, by decide +kernel, by decide +kernel⟩ ⟨Nat.le_of_ble_eq_true rfl, Nat.le_of_ble_eq_true rfl⟩, hts _ m_s_yX2_isIn⟩ (zPreS hK hN hZ hP hD hS hA [] (by decide) rfl rfl) rfl rfl hl.1 rfl (lv_room (Nat.le_of_ble_eq_true rfl)) dX2_firstOf_9 ⟨Nat.le_of_ble_eq_true rfl, Nat.le_of_ble_eq_true rfl⟩) (fun r u H locs hw hP hD hS => ?_)
        rcases hw with ⟨i_2, rfl⟩ | ⟨i_3, rfl⟩
        · skip
          have i_2 : zbit p0 v1_0 = 1 := i_2
          have hP : va_P g.1 vwCl [] H := hP
          have hD : va_D A [] := hD
          refine lv_if_eq (tgt := 17) hx hb dX2_firstOf_12 (by decide) (fun h => absurd h (by decide +kernel)) (fun _ => ?_)
          have hfy : zFk (zib p0) v1_0.toInt = v1_0.toInt := zFk_yes (by omega) (by omega) ((zib_i (i := v1_0) rfl (by omega)).trans (by omega))
          refine lv_iload_n hx hb dX2_firstOf_15 rfl (lv_at hl 1 rfl) ?_
          have hP9 := hP.sub (ws' := []) [] rfl
          have hD9 := hD.sub (ws' := []) [] (by decide) rfl
          exact W.iret (v := v1_0) hx hb hr (fun t ht hW => ⟨⟨v1_0, (0 : Nat), rfl, ⟨(by first | omega | decide), (by first | omega | decide), (by first | omega | decide)⟩, by rw [ht]; exact hP9, hD9⟩, hS.F ht⟩) hS.2.2 dX2_firstOf_16
        · skip
          have i_3 : zbit p0 v1_0 = 0 := i_3
          have hP : va_P g.1 vwCl [] H := hP
          have hD : va_D A [] := hD
          refine lv_if_eq (tgt := 17) hx hb dX2_firstOf_12 (by decide) (fun _ => ?_) (fun h => absurd h (by decide +kernel))
          have hfn : zFk (zib p0) (v1_0.toInt + 1) = zFk (zib p0) v1_0.toInt := zFk_no (by omega) (by omega) (by rw [show zib p0 v1_0.toInt.toNat = zbit p0 v1_0 from zib_i (i := v1_0) rfl (by omega)]; omega)
          obtain ⟨y0, ey0⟩ : ∃ z : Int32, z = v1_0 + 1 := ⟨_, rfl⟩
          have qy0 : y0.toInt = v1_0.toInt + 1 := zi_add ey0 (rfl) rfl (by omega) (by omega)
          refine lv_iinc (v := y0) (lv' := [(1, .int y0), (0, .int p0)]) hx hb dX2_firstOf_17 hl (k := 1) rfl ey0.symm (by decide) rfl (fun ls hl => ?_)
          have hfb : zFk (zib p0) y0.toInt = zFk (zib p0) (v1_0.toInt + 1) := by rw [(by omega : y0.toInt = v1_0.toInt + 1)]
          refine lv_goto (tgt := 2) hx hb dX2_firstOf_20 (by decide) ?_
          exact ih1 y0 (by omega) (by omega) (by omega) (by omega) _ _ hP hD hS ls (lv_sub hl [1, 0] rfl)
  have : (0 : Int32).toInt = 0 := rfl
  exact loop2_0 ((5 - 0 : Int).toNat + 1) (0 : Int32) (by omega) (by omega) (by omega) (by omega) _ _ hP hD hS ls (lv_sub hl [1, 0] rfl)

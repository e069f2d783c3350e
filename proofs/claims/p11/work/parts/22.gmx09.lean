set_option maxHeartbeats 8000000 in
set_option maxRecDepth 100000 in
theorem gX5_morning (l : Launch) (g : zG) (K : Prop) (B C : zBk) (hB : bOk B) (h0 h1 h2 h3 h4 h5 h6 h7 h8 h9 h10 h11 h12 h13 h14 h15 h16 h17 h18 h19 h20 h21 h22 : Nat) (sz : Nat) (f0 : Int32) (f1 : Int32) (f2 : Int32) (f3 : Int32) (f4 : Int32) (Z0 : Nat → Int32) (Z4 : Nat → Int32) (Z5 : Nat → Int32) (Z6 : Nat → Int32) (Z7 : Nat → Int32) (Z8 : Nat → Int32) (Z9 : Nat → Int32) (Z10 : Nat → Int32) (Z11 : Nat → Int32) (Z12 : Nat → Int32) (Z13 : Nat → Int32) (Z14 : Nat → Int32) (Z15 : Nat → Int32) (hf_f1 : 0 ≤ f1.toInt ∧ f1.toInt ≤ 60) (hf_f2 : 0 ≤ f2.toInt ∧ f2.toInt ≤ 60) (hf_f3 : 0 ≤ f3.toInt ∧ f3.toInt ≤ 31) (hf_f4 : 0 ≤ f4.toInt ∧ f4.toInt ≤ 1000) (hF_Z0 : iW K B C Z0) (hF_Z4 : iPerm Z4) (hF_Z5 : iMa Z5) (hF_Z6 : iPu Z6) (hF_Z7 : iRo Z7) (hF_Z8 : iGa Z8) : Met l yX5_morning (.code yX5_morning cX5_morning 2 (some .int) :: zBig) ({ frames := 5, cells := 0, slots := 0, locals := 124 }) (va_Pc [.ref h0] (zPre g [(h0, .inr (5, [.ref h1, .int f0, .ref h2, .int f1, .int f2, .ref h3, .ref h4, .ref h5, .ref h6, .int f3, .ref h7, .ref h8, .ref h9, .int f4, .ref h10, .ref h11, .ref h12, .ref h13, .ref h14, .ref h15, .ref h16, .ref h17, .ref h18, .ref h19, .ref h20, .ref h21, .ref h22])), (h1, .inl (zI g, 180, .inl Z0)), (h5, .inl (zI g, 6, .inl Z4)), (h6, .inl (zI g, 5, .inl Z5)), (h7, .inl (zI g, 5, .inl Z6)), (h8, .inl (zI g, 5, .inl Z7)), (h9, .inl (zI g, 5, .inl Z8)), (h10, .inl (zI g, 6, .inl Z9)), (h11, .inl (zI g, 6, .inl Z10)), (h12, .inl (zI g, 6, .inl Z11)), (h13, .inl (zI g, 6, .inl Z12)), (h14, .inl (zI g, 6, .inl Z13)), (h15, .inl (zI g, 6, .inl Z14)), (h16, .inl (zI g, 6, .inl Z15))] sz)) (va_Qi (fun (r : Int32) (u : Int32 × Int32 × (Nat → Int32) × (Nat → Int32) × (Nat → Int32) × (Nat → Int32) × (Nat → Int32) × (Nat → Int32) × (Nat → Int32) × (Nat → Int32) × (Nat → Int32) × (Nat → Int32) × (Nat → Int32) × (Nat → Int32) × (Nat → Int32)) => (r.toInt = zAmor B.lots B.held (zSm B.L B.n B.S B.V (zRw B.n B.M) 0 (zIv B.K) (zRw B.n B.P) B.lots.toNat).2.2.2) ∧ (0 ≤ u.1.toInt ∧ u.1.toInt ≤ 31) ∧ (0 ≤ u.2.1.toInt ∧ u.2.1.toInt ≤ 1000) ∧ iW K (zMoB B (zSm B.L B.n B.S B.V (zRw B.n B.M) 0 (zIv B.K) (zRw B.n B.P) B.lots.toNat).1) C u.2.2.1 ∧ iPerm u.2.2.2.1 ∧ iMa u.2.2.2.2.1 ∧ iPu u.2.2.2.2.2.1 ∧ iRo u.2.2.2.2.2.2.1 ∧ iGa u.2.2.2.2.2.2.2.1) (zPost g (fun u : Int32 × Int32 × (Nat → Int32) × (Nat → Int32) × (Nat → Int32) × (Nat → Int32) × (Nat → Int32) × (Nat → Int32) × (Nat → Int32) × (Nat → Int32) × (Nat → Int32) × (Nat → Int32) × (Nat → Int32) × (Nat → Int32) × (Nat → Int32) => [(h0, .inr (5, [.ref h1, .int f0, .ref h2, .int f1, .int f2, .ref h3, .ref h4, .ref h5, .ref h6, .int u.1, .ref h7, .ref h8, .ref h9, .int u.2.1, .ref h10, .ref h11, .ref h12, .ref h13, .ref h14, .ref h15, .ref h16, .ref h17, .ref h18, .ref h19, .ref h20, .ref h21, .ref h22])), (h1, .inl (zI g, 180, .inl u.2.2.1)), (h5, .inl (zI g, 6, .inl u.2.2.2.1)), (h6, .inl (zI g, 5, .inl u.2.2.2.2.1)), (h7, .inl (zI g, 5, .inl u.2.2.2.2.2.1)), (h8, .inl (zI g, 5, .inl u.2.2.2.2.2.2.1)), (h9, .inl (zI g, 5, .inl u.2.2.2.2.2.2.2.1)), (h10, .inl (zI g, 6, .inl u.2.2.2.2.2.2.2.2.1)), (h11, .inl (zI g, 6, .inl u.2.2.2.2.2.2.2.2.2.1)), (h12, .inl (zI g, 6, .inl u.2.2.2.2.2.2.2.2.2.2.1)), (h13, .inl (zI g, 6, .inl u.2.2.2.2.2.2.2.2.2.2.2.1)), (h14, .inl (zI g, 6, .inl u.2.2.2.2.2.2.2.2.2.2.2.2.1)), (h15, .inl (zI g, 6, .inl u.2.2.2.2.2.2.2.2.2.2.2.2.2.1)), (h16, .inl (zI g, 6, .inl u.2.2.2.2.2.2.2.2.2.2.2.2.2.2))]) (va_A [(h0, .inr (5, [.ref h1, .int f0, .ref h2, .int f1, .int f2, .ref h3, .ref h4, .ref h5, .ref h6, .int f3, .ref h7, .ref h8, .ref h9, .int f4, .ref h10, .ref h11, .ref h12, .ref h13, .ref h14, .ref h15, .ref h16, .ref h17, .ref h18, .ref h19, .ref h20, .ref h21, .ref h22])), (h1, .inl (zI g, 180, .inl Z0)), (h5, .inl (zI g, 6, .inl Z4)), (h6, .inl (zI g, 5, .inl Z5)), (h7, .inl (zI g, 5, .inl Z6)), (h8, .inl (zI g, 5, .inl Z7)), (h9, .inl (zI g, 5, .inl Z8)), (h10, .inl (zI g, 6, .inl Z9)), (h11, .inl (zI g, 6, .inl Z10)), (h12, .inl (zI g, 6, .inl Z11)), (h13, .inl (zI g, 6, .inl Z12)), (h14, .inl (zI g, 6, .inl Z13)), (h15, .inl (zI g, 6, .inl Z14)), (h16, .inl (zI g, 6, .inl Z15))] sz)) (va_A [(h0, .inr (5, [.ref h1, .int f0, .ref h2, .int f1, .int f2, .ref h3, .ref h4, .ref h5, .ref h6, .int f3, .ref h7, .ref h8, .ref h9, .int f4, .ref h10, .ref h11, .ref h12, .ref h13, .ref h14, .ref h15, .ref h16, .ref h17, .ref h18, .ref h19, .ref h20, .ref h21, .ref h22])), (h1, .inl (zI g, 180, .inl Z0)), (h5, .inl (zI g, 6, .inl Z4)), (h6, .inl (zI g, 5, .inl Z5)), (h7, .inl (zI g, 5, .inl Z6)), (h8, .inl (zI g, 5, .inl Z7)), (h9, .inl (zI g, 5, .inl Z8)), (h10, .inl (zI g, 6, .inl Z9)), (h11, .inl (zI g, 6, .inl Z10)), (h12, .inl (zI g, 6, .inl Z11)), (h13, .inl (zI g, 6, .inl Z12)), (h14, .inl (zI g, 6, .inl Z13)), (h15, .inl (zI g, 6, .inl Z14)), (h16, .inl (zI g, 6, .inl Z15))] sz)) 0 0 (va_A [(h0, .inr (5, [.ref h1, .int f0, .ref h2, .int f1, .int f2, .ref h3, .ref h4, .ref h5, .ref h6, .int f3, .ref h7, .ref h8, .ref h9, .int f4, .ref h10, .ref h11, .ref h12, .ref h13, .ref h14, .ref h15, .ref h16, .ref h17, .ref h18, .ref h19, .ref h20, .ref h21, .ref h22])), (h1, .inl (zI g, 180, .inl Z0)), (h5, .inl (zI g, 6, .inl Z4)), (h6, .inl (zI g, 5, .inl Z5)), (h7, .inl (zI g, 5, .inl Z6)), (h8, .inl (zI g, 5, .inl Z7)), (h9, .inl (zI g, 5, .inl Z8)), (h10, .inl (zI g, 6, .inl Z9)), (h11, .inl (zI g, 6, .inl Z10)), (h12, .inl (zI g, 6, .inl Z11)), (h13, .inl (zI g, 6, .inl Z12)), (h14, .inl (zI g, 6, .inl Z13)), (h15, .inl (zI g, 6, .inl Z14)), (h16, .inl (zI g, 6, .inl Z15))] sz) := by
  refine zMetI rfl (Nat.le_of_ble_eq_true rfl) ?_
  intro p e s m args below meth c A ls hx hb hml hr hlocks hin hown hts hK hN hZ hP hD hA hS hAe hl
  have hown : s.vm.findClass RX5 = some m.cls := hown
  have hl : lv_has ls 2 [(0, .ref h0)] := hl
  have hnr := iW_nr hF_Z0
  have hlr := iW_lr hF_Z0
  refine lv_aload_n hx hb dX5_morning_0 rfl (lv_at hl 0 rfl) ?_
  refine va_get (D := g.1) (ci := 5) (v := .ref h1) (C := RX5) (T := TX5) (N := 27) hx hb hts zl_X5 hown hK hP 0 rfl rfl 0 (by decide) (hts _ m_f_RX5_7) (fun _ h => h) rfl dX5_morning_1 ?_
  refine lv_iconst (v := 5) hx hb dX5_morning_4 (by decide) ?_
  refine va_iald (D := g.1) hx hb hK hP 1 0 rfl rfl (vp_in_iff.mpr (by decide +kernel)) dX5_morning_5 ?_
  refine lv_topi (fun y0 ey0 => ?_)
  have qy0_0 : 0 ≤ y0.toInt := ((iW_at (i := (5 : Int32)) (a := 5) hF_Z0 (rfl) (by omega) (by omega) ey0).2.2.2.1 (by omega)).1
  have qy0_1 : y0.toInt ≤ 6 := ((iW_at (i := (5 : Int32)) (a := 5) hF_Z0 (rfl) (by omega) (by omega) ey0).2.2.2.1 (by omega)).2
  have qy0_2 : y0.toInt = (Z0 5).toInt := congrArg Int32.toInt ey0
  have qy0_3 : y0.toInt = B.lots := (congrArg Int32.toInt ey0).trans (iW_lots hF_Z0)
  refine lv_if_ne (tgt := 12) hx hb dX5_morning_6 (by decide) (fun c_0 => ?_) (fun c_0 => ?_)
  · have i_0 : y0.toInt ≠ 0 := z_ne (rfl) (rfl) c_0
    refine lv_aload_n hx hb dX5_morning_12 rfl (lv_at hl 0 rfl) ?_
    refine va_get (D := g.1) (ci := 5) (v := .ref h1) (C := RX5) (T := TX5) (N := 27) hx hb hts zl_X5 hown hK hP 0 rfl rfl 0 (by decide) (hts _ m_f_RX5_7) (fun _ h => h) rfl dX5_morning_13 ?_
    refine lv_bipush (v := 88) hx hb dX5_morning_16 (by decide) ?_
    refine va_iald (D := g.1) hx hb hK hP 1 0 rfl rfl (vp_in_iff.mpr (by decide +kernel)) dX5_morning_18 ?_
    refine lv_topi (fun y1 ey1 => ?_)
    have qy1_0 : y1.toInt = (Z0 88).toInt := congrArg Int32.toInt ey1
    have qy1_1 : y1.toInt = B.held := by have t9 := iW_held hF_Z0; exact (congrArg Int32.toInt ey1).trans t9
    have qy1_2 : 0 ≤ y1.toInt := by have := hB.2.2.2.2.2.2; omega
    have qy1_3 : y1.toInt ≤ 9999 := by have := hB.2.2.2.2.2.2; omega
    refine lv_sipush (v := 9999) hx hb dX5_morning_19 (by decide) ?_
    refine lv_icmp_ne (tgt := 28) hx hb dX5_morning_22 (by decide) (fun c_1 => ?_) (fun c_1 => ?_)
    · have i_1 : y1.toInt ≠ 9999 := z_ne (rfl) (rfl) c_1
      refine lv_aload_n hx hb dX5_morning_28 rfl (lv_at hl 0 rfl) ?_
      refine lv_iconst (v := 0) hx hb dX5_morning_29 (by decide) ?_
      have : (0 : Int32).toInt = 0 := rfl
      refine z_callv (wr := []) hP hD hS hA [0, 1, 2, 3, 4, 5, 6, 7, 8, 9, 10, 11, 12, 13] [] (by decide) rfl rfl (by decide) (va_runV (As := [.int 0]) (rest := []) ⟨hx, hb, hml, hown, hts⟩ (gX5_hold l g K B C hB h0 h1 h2 h3 h4 h5 h6 h7 h8 h9 h10 h11 h12 h13 h14 h15 h16 h17 h18 h19 h20 h21 h22 s.heap.size (0 : Int32) f0 f1 f2 f3 f4 Z0 Z4 Z5 Z6 Z7 Z8 Z9 Z10 Z11 Z12 Z13 Z14 Z15 (by omega) (by omega) (by constructor <;> omega) (by constructor <;> omega) (by constructor <;> omega) (by constructor <;> omega) hF_Z0 hF_Z4 hF_Z5 hF_Z6 hF_Z7 hF_Z8) ⟨callB_of 1 hts (zGood m_o_yX5_hold) rfl rfl rfl (hts _ m_z_RX5) (hts _ m_m_RX5_194) ⟨by decide +kernel, by decide +kernel, by decide +kernel⟩ ⟨Nat.le_of_ble_eq_true rfl, Nat.le_of_ble_eq_true rfl⟩, hts _ m_i_yX5_hold, hts _ m_e_yX5_hold⟩ (zPreV hK hN hZ hP hD hS hA [0, 1, 2, 3, 4, 5, 6, 7, 8, 9, 10, 11, 12, 13] (by decide) rfl rfl 5 0 rfl rfl) rfl rfl hl.1 rfl (lv_room (Nat.le_of_ble_eq_true rfl)) dX5_morning_30 ⟨Nat.le_of_ble_eq_true rfl, Nat.le_of_ble_eq_true rfl⟩) (fun u H locs hw hP hD hS => ?_)
      obtain ⟨w2, w3, R4, R5, R6, R7, R8, R9, R10, R11, R12, R13, R14, R15⟩ := u
      obtain ⟨hw, hI16, hI17, hI18, hI19, hI20, hI21, hI22, hI23, hI24, hI25, hI26⟩ := hw
      obtain ⟨hI16a, hI16b⟩ := hI16
      obtain ⟨hI17a, hI17b⟩ := hI17
      have q27_0 := hw
      have q27_0 : w3.toInt = (zSm B.L B.n B.S B.V (zRw B.n B.M) 0 (zIv B.K) (zRw B.n B.P) B.lots.toNat).2.2.2 := q27_0
      have hP : va_P g.1 vwCl [(h0, .inr (5, [.ref h1, .int f0, .ref h2, .int f1, .int f2, .ref h3, .ref h4, .ref h5, .ref h6, .int w2, .ref h7, .ref h8, .ref h9, .int w3, .ref h10, .ref h11, .ref h12, .ref h13, .ref h14, .ref h15, .ref h16, .ref h17, .ref h18, .ref h19, .ref h20, .ref h21, .ref h22])), (h1, .inl (zI g, 180, .inl Z0)), (h5, .inl (zI g, 6, .inl R4)), (h6, .inl (zI g, 5, .inl R5)), (h7, .inl (zI g, 5, .inl R6)), (h8, .inl (zI g, 5, .inl R7)), (h9, .inl (zI g, 5, .inl R8)), (h10, .inl (zI g, 6, .inl R9)), (h11, .inl (zI g, 6, .inl R10)), (h12, .inl (zI g, 6, .inl R11)), (h13, .inl (zI g, 6, .inl R12)), (h14, .inl (zI g, 6, .inl R13)), (h15, .inl (zI g, 6, .inl R14)), (h16, .inl (zI g, 6, .inl R15))] H := hP
      have hD : va_D A [(h0, .inr (5, [.ref h1, .int f0, .ref h2, .int f1, .int f2, .ref h3, .ref h4, .ref h5, .ref h6, .int w2, .ref h7, .ref h8, .ref h9, .int w3, .ref h10, .ref h11, .ref h12, .ref h13, .ref h14, .ref h15, .ref h16, .ref h17, .ref h18, .ref h19, .ref h20, .ref h21, .ref h22])), (h1, .inl (zI g, 180, .inl Z0)), (h5, .inl (zI g, 6, .inl R4)), (h6, .inl (zI g, 5, .inl R5)), (h7, .inl (zI g, 5, .inl R6)), (h8, .inl (zI g, 5, .inl R7)), (h9, .inl (zI g, 5, .inl R8)), (h10, .inl (zI g, 6, .inl R9)), (h11, .inl (zI g, 6, .inl R10)), (h12, .inl (zI g, 6, .inl R11)), (h13, .inl (zI g, 6, .inl R12)), (h14, .inl (zI g, 6, .inl R13)), (h15, .inl (zI g, 6, .inl R14)), (h16, .inl (zI g, 6, .inl R15))] := hD
      refine lv_iconst (v := 0) hx hb dX5_morning_33 (by decide) ?_
      refine lv_istore_n (lv' := [(1, .int 0), (0, .ref h0)]) hx hb dX5_morning_34 rfl hl (by decide) rfl (fun ls hl => ?_)
      have loop35_2 : ∀ (n3 : Nat) (v1_2 : Int32) (G0_2 : Nat → Int32) (hG0_2 : iW K B C G0_2) (n3_0 : 0 ≤ v1_2.toInt) (n3_1 : v1_2.toInt ≤ B.lots) (hm3 : 6 - v1_2.toInt < (n3 : Int)) (H : Heap) (locs : List Loc), va_P g.1 vwCl [(h0, .inr (5, [.ref h1, .int f0, .ref h2, .int f1, .int f2, .ref h3, .ref h4, .ref h5, .ref h6, .int w2, .ref h7, .ref h8, .ref h9, .int w3, .ref h10, .ref h11, .ref h12, .ref h13, .ref h14, .ref h15, .ref h16, .ref h17, .ref h18, .ref h19, .ref h20, .ref h21, .ref h22])), (h1, .inl (zI g, 180, .inl G0_2)), (h5, .inl (zI g, 6, .inl R4)), (h6, .inl (zI g, 5, .inl R5)), (h7, .inl (zI g, 5, .inl R6)), (h8, .inl (zI g, 5, .inl R7)), (h9, .inl (zI g, 5, .inl R8)), (h10, .inl (zI g, 6, .inl R9)), (h11, .inl (zI g, 6, .inl R10)), (h12, .inl (zI g, 6, .inl R11)), (h13, .inl (zI g, 6, .inl R12)), (h14, .inl (zI g, 6, .inl R13)), (h15, .inl (zI g, 6, .inl R14)), (h16, .inl (zI g, 6, .inl R15))] H → va_D A [(h0, .inr (5, [.ref h1, .int f0, .ref h2, .int f1, .int f2, .ref h3, .ref h4, .ref h5, .ref h6, .int w2, .ref h7, .ref h8, .ref h9, .int w3, .ref h10, .ref h11, .ref h12, .ref h13, .ref h14, .ref h15, .ref h16, .ref h17, .ref h18, .ref h19, .ref h20, .ref h21, .ref h22])), (h1, .inl (zI g, 180, .inl G0_2)), (h5, .inl (zI g, 6, .inl R4)), (h6, .inl (zI g, 5, .inl R5)), (h7, .inl (zI g, 5, .inl R6)), (h8, .inl (zI g, 5, .inl R7)), (h9, .inl (zI g, 5, .inl R8)), (h10, .inl (zI g, 6, .inl R9)), (h11, .inl (zI g, 6, .inl R10)), (h12, .inl (zI g, 6, .inl R11)), (h13, .inl (zI g, 6, .inl R12)), (h14, .inl (zI g, 6, .inl R13)), (h15, .inl (zI g, 6, .inl R14)), (h16, .inl (zI g, 6, .inl R15))] → va_S A s.heap H locs → ∀ (ls : Array Slot), lv_has ls 2 [(0, .ref h0), (1, .int v1_2)] → W p l e ({ frames := 5, cells := 0, slots := 0, locals := 124 }) s m args below meth c H locs 0 0 (MQ below (va_Qi (fun (r : Int32) (u : Int32 × Int32 × (Nat → Int32) × (Nat → Int32) × (Nat → Int32) × (Nat → Int32) × (Nat → Int32) × (Nat → Int32) × (Nat → Int32) × (Nat → Int32) × (Nat → Int32) × (Nat → Int32) × (Nat → Int32) × (Nat → Int32) × (Nat → Int32)) => (r.toInt = zAmor B.lots B.held (zSm B.L B.n B.S B.V (zRw B.n B.M) 0 (zIv B.K) (zRw B.n B.P) B.lots.toNat).2.2.2) ∧ (0 ≤ u.1.toInt ∧ u.1.toInt ≤ 31) ∧ (0 ≤ u.2.1.toInt ∧ u.2.1.toInt ≤ 1000) ∧ iW K (zMoB B (zSm B.L B.n B.S B.V (zRw B.n B.M) 0 (zIv B.K) (zRw B.n B.P) B.lots.toNat).1) C u.2.2.1 ∧ iPerm u.2.2.2.1 ∧ iMa u.2.2.2.2.1 ∧ iPu u.2.2.2.2.2.1 ∧ iRo u.2.2.2.2.2.2.1 ∧ iGa u.2.2.2.2.2.2.2.1) (zPost g (fun u : Int32 × Int32 × (Nat → Int32) × (Nat → Int32) × (Nat → Int32) × (Nat → Int32) × (Nat → Int32) × (Nat → Int32) × (Nat → Int32) × (Nat → Int32) × (Nat → Int32) × (Nat → Int32) × (Nat → Int32) × (Nat → Int32) × (Nat → Int32) => [(h0, .inr (5, [.ref h1, .int f0, .ref h2, .int f1, .int f2, .ref h3, .ref h4, .ref h5, .ref h6, .int u.1, .ref h7, .ref h8, .ref h9, .int u.2.1, .ref h10, .ref h11, .ref h12, .ref h13, .ref h14, .ref h15, .ref h16, .ref h17, .ref h18, .ref h19, .ref h20, .ref h21, .ref h22])), (h1, .inl (zI g, 180, .inl u.2.2.1)), (h5, .inl (zI g, 6, .inl u.2.2.2.1)), (h6, .inl (zI g, 5, .inl u.2.2.2.2.1)), (h7, .inl (zI g, 5, .inl u.2.2.2.2.2.1)), (h8, .inl (zI g, 5, .inl u.2.2.2.2.2.2.1)), (h9, .inl (zI g, 5, .inl u.2.2.2.2.2.2.2.1)), (h10, .inl (zI g, 6, .inl u.2.2.2.2.2.2.2.2.1)), (h11, .inl (zI g, 6, .inl u.2.2.2.2.2.2.2.2.2.1)), (h12, .inl (zI g, 6, .inl u.2.2.2.2.2.2.2.2.2.2.1)), (h13, .inl (zI g, 6, .inl u.2.2.2.2.2.2.2.2.2.2.2.1)), (h14, .inl (zI g, 6, .inl u.2.2.2.2.2.2.2.2.2.2.2.2.1)), (h15, .inl (zI g, 6, .inl u.2.2.2.2.2.2.2.2.2.2.2.2.2.1)), (h16, .inl (zI g, 6, .inl u.2.2.2.2.2.2.2.2.2.2.2.2.2.2))]) A) A) args s 0 0 A) (F0 m 35 ls []) := by
        intro n3
        induction n3 with
        | zero => intro v1_2 G0_2 hG0_2 n3_0 n3_1 hm3; exfalso; omega
        | succ n3 ih3 =>
          intro v1_2 G0_2 hG0_2 n3_0 n3_1 hm3 H locs hP hD hS ls hl
          refine lv_iload_n hx hb dX5_morning_35 rfl (lv_at hl 1 rfl) ?_
          refine lv_aload_n hx hb dX5_morning_36 rfl (lv_at hl 0 rfl) ?_
          refine va_get (D := g.1) (ci := 5) (v := .ref h1) (C := RX5) (T := TX5) (N := 27) hx hb hts zl_X5 hown hK hP 0 rfl rfl 0 (by decide) (hts _ m_f_RX5_7) (fun _ h => h) rfl dX5_morning_37 ?_
          refine lv_iconst (v := 5) hx hb dX5_morning_40 (by decide) ?_
          refine va_iald (D := g.1) hx hb hK hP 1 0 rfl rfl (vp_in_iff.mpr (by decide +kernel)) dX5_morning_41 ?_
          refine lv_topi (fun y28 ey28 => ?_)
          have qy28_0 : 0 ≤ y28.toInt := ((iW_at (i := (5 : Int32)) (a := 5) hG0_2 (rfl) (by omega) (by omega) ey28).2.2.2.1 (by omega)).1
          have qy28_1 : y28.toInt ≤ 6 := ((iW_at (i := (5 : Int32)) (a := 5) hG0_2 (rfl) (by omega) (by omega) ey28).2.2.2.1 (by omega)).2
          have qy28_2 : y28.toInt = (G0_2 5).toInt := congrArg Int32.toInt ey28
          have qy28_3 : y28.toInt = B.lots := (congrArg Int32.toInt ey28).trans (iW_lots hG0_2)
          refine lv_icmp_ge (tgt := 56) hx hb dX5_morning_42 (by decide) (fun c_3 => ?_) (fun c_3 => ?_)
          · have i_3 : y28.toInt ≤ v1_2.toInt := z_le (rfl) (rfl) c_3
            have hI29 : zPW K B C (zSm B.L B.n B.S B.V (zRw B.n B.M) 0 (zIv B.K) (zRw B.n B.P) B.lots.toNat).1 0 G0_2 := zPW_0 hG0_2
            refine lv_iconst (v := 0) hx hb dX5_morning_56 (by decide) ?_
            refine lv_istore_n (lv' := [(1, .int 0), (0, .ref h0)]) hx hb dX5_morning_57 rfl hl (by decide) rfl (fun ls hl => ?_)
            have loop58_4 : ∀ (n5 : Nat) (v1_4 : Int32) (G0_4 : Nat → Int32) (hG0_4 : zPW K B C (zSm B.L B.n B.S B.V (zRw B.n B.M) 0 (zIv B.K) (zRw B.n B.P) B.lots.toNat).1 (v1_4.toInt) G0_4) (n5_0 : 0 ≤ v1_4.toInt) (n5_1 : v1_4.toInt ≤ B.n) (hm5 : 5 - v1_4.toInt < (n5 : Int)) (H : Heap) (locs : List Loc), va_P g.1 vwCl [(h0, .inr (5, [.ref h1, .int f0, .ref h2, .int f1, .int f2, .ref h3, .ref h4, .ref h5, .ref h6, .int w2, .ref h7, .ref h8, .ref h9, .int w3, .ref h10, .ref h11, .ref h12, .ref h13, .ref h14, .ref h15, .ref h16, .ref h17, .ref h18, .ref h19, .ref h20, .ref h21, .ref h22])), (h1, .inl (zI g, 180, .inl G0_4)), (h5, .inl (zI g, 6, .inl R4)), (h6, .inl (zI g, 5, .inl R5)), (h7, .inl (zI g, 5, .inl R6)), (h8, .inl (zI g, 5, .inl R7)), (h9, .inl (zI g, 5, .inl R8)), (h10, .inl (zI g, 6, .inl R9)), (h11, .inl (zI g, 6, .inl R10)), (h12, .inl (zI g, 6, .inl R11)), (h13, .inl (zI g, 6, .inl R12)), (h14, .inl (zI g, 6, .inl R13)), (h15, .inl (zI g, 6, .inl R14)), (h16, .inl (zI g, 6, .inl R15))] H → va_D A [(h0, .inr (5, [.ref h1, .int f0, .ref h2, .int f1, .int f2, .ref h3, .ref h4, .ref h5, .ref h6, .int w2, .ref h7, .ref h8, .ref h9, .int w3, .ref h10, .ref h11, .ref h12, .ref h13, .ref h14, .ref h15, .ref h16, .ref h17, .ref h18, .ref h19, .ref h20, .ref h21, .ref h22])), (h1, .inl (zI g, 180, .inl G0_4)), (h5, .inl (zI g, 6, .inl R4)), (h6, .inl (zI g, 5, .inl R5)), (h7, .inl (zI g, 5, .inl R6)), (h8, .inl (zI g, 5, .inl R7)), (h9, .inl (zI g, 5, .inl R8)), (h10, .inl (zI g, 6, .inl R9)), (h11, .inl (zI g, 6, .inl R10)), (h12, .inl (zI g, 6, .inl R11)), (h13, .inl (zI g, 6, .inl R12)), (h14, .inl (zI g, 6, .inl R13)), (h15, .inl (zI g, 6, .inl R14)), (h16, .inl (zI g, 6, .inl R15))] → va_S A s.heap H locs → ∀ (ls : Array Slot), lv_has ls 2 [(0, .ref h0), (1, .int v1_4)] → W p l e ({ frames := 5, cells := 0, slots := 0, locals := 124 }) s m args below meth c H locs 0 0 (MQ below (va_Qi (fun (r : Int32) (u : Int32 × Int32 × (Nat → Int32) × (Nat → Int32) × (Nat → Int32) × (Nat → Int32) × (Nat → Int32) × (Nat → Int32) × (Nat → Int32) × (Nat → Int32) × (Nat → Int32) × (Nat → Int32) × (Nat → Int32) × (Nat → Int32) × (Nat → Int32)) => (r.toInt = zAmor B.lots B.held (zSm B.L B.n B.S B.V (zRw B.n B.M) 0 (zIv B.K) (zRw B.n B.P) B.lots.toNat).2.2.2) ∧ (0 ≤ u.1.toInt ∧ u.1.toInt ≤ 31) ∧ (0 ≤ u.2.1.toInt ∧ u.2.1.toInt ≤ 1000) ∧ iW K (zMoB B (zSm B.L B.n B.S B.V (zRw B.n B.M) 0 (zIv B.K) (zRw B.n B.P) B.lots.toNat).1) C u.2.2.1 ∧ iPerm u.2.2.2.1 ∧ iMa u.2.2.2.2.1 ∧ iPu u.2.2.2.2.2.1 ∧ iRo u.2.2.2.2.2.2.1 ∧ iGa u.2.2.2.2.2.2.2.1) (zPost g (fun u : Int32 × Int32 × (Nat → Int32) × (Nat → Int32) × (Nat → Int32) × (Nat → Int32) × (Nat → Int32) × (Nat → Int32) × (Nat → Int32) × (Nat → Int32) × (Nat → Int32) × (Nat → Int32) × (Nat → Int32) × (Nat → Int32) × (Nat → Int32) => [(h0, .inr (5, [.ref h1, .int f0, .ref h2, .int f1, .int f2, .ref h3, .ref h4, .ref h5, .ref h6, .int u.1, .ref h7, .ref h8, .ref h9, .int u.2.1, .ref h10, .ref h11, .ref h12, .ref h13, .ref h14, .ref h15, .ref h16, .ref h17, .ref h18, .ref h19, .ref h20, .ref h21, .ref h22])), (h1, .inl (zI g, 180, .inl u.2.2.1)), (h5, .inl (zI g, 6, .inl u.2.2.2.1)), (h6, .inl (zI g, 5, .inl u.2.2.2.2.1)), (h7, .inl (zI g, 5, .inl u.2.2.2.2.2.1)), (h8, .inl (zI g, 5, .inl u.2.2.2.2.2.2.1)), (h9, .inl (zI g, 5, .inl u.2.2.2.2.2.2.2.1)), (h10, .inl (zI g, 6, .inl u.2.2.2.2.2.2.2.2.1)), (h11, .inl (zI g, 6, .inl u.2.2.2.2.2.2.2.2.2.1)), (h12, .inl (zI g, 6, .inl u.2.2.2.2.2.2.2.2.2.2.1)), (h13, .inl (zI g, 6, .inl u.2.2.2.2.2.2.2.2.2.2.2.1)), (h14, .inl (zI g, 6, .inl u.2.2.2.2.2.2.2.2.2.2.2.2.1)), (h15, .inl (zI g, 6, .inl u.2.2.2.2.2.2.2.2.2.2.2.2.2.1)), (h16, .inl (zI g, 6, .inl u.2.2.2.2.2.2.2.2.2.2.2.2.2.2))]) A) A) args s 0 0 A) (F0 m 58 ls []) := by
              intro n5
              induction n5 with
              | zero => intro v1_4 G0_4 hG0_4 n5_0 n5_1 hm5; exfalso; omega
              | succ n5 ih5 =>
                intro v1_4 G0_4 hG0_4 n5_0 n5_1 hm5 H locs hP hD hS ls hl
                refine lv_iload_n hx hb dX5_morning_58 rfl (lv_at hl 1 rfl) ?_
                refine lv_aload_n hx hb dX5_morning_59 rfl (lv_at hl 0 rfl) ?_
                refine va_get (D := g.1) (ci := 5) (v := .ref h1) (C := RX5) (T := TX5) (N := 27) hx hb hts zl_X5 hown hK hP 0 rfl rfl 0 (by decide) (hts _ m_f_RX5_7) (fun _ h => h) rfl dX5_morning_60 ?_
                refine lv_bipush (v := 12) hx hb dX5_morning_63 (by decide) ?_
                refine va_iald (D := g.1) hx hb hK hP 1 0 rfl rfl (vp_in_iff.mpr (by decide +kernel)) dX5_morning_65 ?_
                refine lv_topi (fun y30 ey30 => ?_)
                have qy30_0 : 0 ≤ y30.toInt := ((iW_at (i := (12 : Int32)) (a := 12) hG0_4 (rfl) (by omega) (by omega) ey30).2.2.2.2.2 (by omega)).1
                have qy30_1 : y30.toInt ≤ 5 := ((iW_at (i := (12 : Int32)) (a := 12) hG0_4 (rfl) (by omega) (by omega) ey30).2.2.2.2.2 (by omega)).2
                have qy30_2 : y30.toInt = (G0_4 12).toInt := congrArg Int32.toInt ey30
                have qy30_3 : y30.toInt = B.n := by have t9 := iW_n hG0_4; exact (congrArg Int32.toInt ey30).trans t9
                refine lv_icmp_ge (tgt := 90) hx hb dX5_morning_66 (by decide) (fun c_5 => ?_) (fun c_5 => ?_)
                · have i_5 : y30.toInt ≤ v1_4.toInt := z_le (rfl) (rfl) c_5
                  have hI31 : iW K (B.setP (zPof (zSm B.L B.n B.S B.V (zRw B.n B.M) 0 (zIv B.K) (zRw B.n B.P) B.lots.toNat).1)) C G0_4 := zPW_end hG0_4 (by omega)
                  refine lv_aload_n hx hb dX5_morning_90 rfl (lv_at hl 0 rfl) ?_
                  refine va_get (D := g.1) (ci := 5) (v := .ref h1) (C := RX5) (T := TX5) (N := 27) hx hb hts zl_X5 hown hK hP 0 rfl rfl 0 (by decide) (hts _ m_f_RX5_7) (fun _ h => h) rfl dX5_morning_91 ?_
                  refine lv_bipush (v := 88) hx hb dX5_morning_94 (by decide) ?_
                  refine lv_dup2_11 hx hb dX5_morning_96 rfl rfl ?_
                  refine va_iald (D := g.1) hx hb hK hP 1 0 rfl rfl (vp_in_iff.mpr (by decide +kernel)) dX5_morning_97 ?_
                  refine lv_topi (fun y32 ey32 => ?_)
                  have qy32_0 : y32.toInt = (G0_4 88).toInt := congrArg Int32.toInt ey32
                  have qy32_1 : y32.toInt = B.held := by have t9 := iW_held hI31; exact (congrArg Int32.toInt ey32).trans t9
                  have qy32_2 : 0 ≤ y32.toInt := by have := hB.2.2.2.2.2.2; omega
                  have qy32_3 : y32.toInt ≤ 9999 := by have := hB.2.2.2.2.2.2; omega
                  refine lv_iconst (v := 1) hx hb dX5_morning_98 (by decide) ?_
                  refine lv_iadd hx hb dX5_morning_99 ?_
                  refine lv_topi (fun y33 ey33 => ?_)
                  have qy33_0 : y33.toInt = y32.toInt + 1 := zi_add ey33 (rfl) (rfl) (by omega) (by omega)
                  refine va_iast (D := g.1) hx hb hK hP hD hS 1 0 rfl rfl (vp_in_iff.mpr (by decide +kernel)) dX5_morning_100 (fun H locs hP hD hS => ?_)
                  have hP : va_P g.1 vwCl [(h0, .inr (5, [.ref h1, .int f0, .ref h2, .int f1, .int f2, .ref h3, .ref h4, .ref h5, .ref h6, .int w2, .ref h7, .ref h8, .ref h9, .int w3, .ref h10, .ref h11, .ref h12, .ref h13, .ref h14, .ref h15, .ref h16, .ref h17, .ref h18, .ref h19, .ref h20, .ref h21, .ref h22])), (h1, .inl (zI g, 180, .inl (upd G0_4 88 y33))), (h5, .inl (zI g, 6, .inl R4)), (h6, .inl (zI g, 5, .inl R5)), (h7, .inl (zI g, 5, .inl R6)), (h8, .inl (zI g, 5, .inl R7)), (h9, .inl (zI g, 5, .inl R8)), (h10, .inl (zI g, 6, .inl R9)), (h11, .inl (zI g, 6, .inl R10)), (h12, .inl (zI g, 6, .inl R11)), (h13, .inl (zI g, 6, .inl R12)), (h14, .inl (zI g, 6, .inl R13)), (h15, .inl (zI g, 6, .inl R14)), (h16, .inl (zI g, 6, .inl R15))] H := hP
                  have hD : va_D A [(h0, .inr (5, [.ref h1, .int f0, .ref h2, .int f1, .int f2, .ref h3, .ref h4, .ref h5, .ref h6, .int w2, .ref h7, .ref h8, .ref h9, .int w3, .ref h10, .ref h11, .ref h12, .ref h13, .ref h14, .ref h15, .ref h16, .ref h17, .ref h18, .ref h19, .ref h20, .ref h21, .ref h22])), (h1, .inl (zI g, 180, .inl (upd G0_4 88 y33))), (h5, .inl (zI g, 6, .inl R4)), (h6, .inl (zI g, 5, .inl R5)), (h7, .inl (zI g, 5, .inl R6)), (h8, .inl (zI g, 5, .inl R7)), (h9, .inl (zI g, 5, .inl R8)), (h10, .inl (zI g, 6, .inl R9)), (h11, .inl (zI g, 6, .inl R10)), (h12, .inl (zI g, 6, .inl R11)), (h13, .inl (zI g, 6, .inl R12)), (h14, .inl (zI g, 6, .inl R13)), (h15, .inl (zI g, 6, .inl R14)), (h16, .inl (zI g, 6, .inl R15))] := hD
                  have hI34 : iW K (zMoB B (zSm B.L B.n B.S B.V (zRw B.n B.M) 0 (zIv B.K) (zRw B.n B.P) B.lots.toNat).1) C (upd G0_4 88 y33) := zMoB_so (i := (88 : Int32)) hI31 (by omega) (rfl) (by omega)
                  obtain ⟨R35, eR35⟩ : ∃ z : Nat → Int32, z = (upd G0_4 88 y33) := ⟨_, rfl⟩
                  rw [← eR35] at hP hD hI34
                  refine lv_aload_n hx hb dX5_morning_101 rfl (lv_at hl 0 rfl) ?_
                  refine va_get (D := g.1) (ci := 5) (v := .int w3) (C := RX5) (T := TX5) (N := 27) hx hb hts zl_X5 hown hK hP 0 rfl rfl 13 (by decide) (hts _ m_f_RX5_147) (fun _ h => h) rfl dX5_morning_102 ?_
                  have hz : zAmor B.lots B.held (zSm B.L B.n B.S B.V (zRw B.n B.M) 0 (zIv B.K) (zRw B.n B.P) B.lots.toNat).2.2.2 = w3.toInt := by
                    unfold zAmor
                    rw [if_neg (by omega), if_neg (by omega)] <;> omega
                  have hP9 := hP.sub (ws' := [(h0, .inr (5, [.ref h1, .int f0, .ref h2, .int f1, .int f2, .ref h3, .ref h4, .ref h5, .ref h6, .int w2, .ref h7, .ref h8, .ref h9, .int w3, .ref h10, .ref h11, .ref h12, .ref h13, .ref h14, .ref h15, .ref h16, .ref h17, .ref h18, .ref h19, .ref h20, .ref h21, .ref h22])), (h1, .inl (zI g, 180, .inl R35)), (h5, .inl (zI g, 6, .inl R4)), (h6, .inl (zI g, 5, .inl R5)), (h7, .inl (zI g, 5, .inl R6)), (h8, .inl (zI g, 5, .inl R7)), (h9, .inl (zI g, 5, .inl R8)), (h10, .inl (zI g, 6, .inl R9)), (h11, .inl (zI g, 6, .inl R10)), (h12, .inl (zI g, 6, .inl R11)), (h13, .inl (zI g, 6, .inl R12)), (h14, .inl (zI g, 6, .inl R13)), (h15, .inl (zI g, 6, .inl R14)), (h16, .inl (zI g, 6, .inl R15))]) [0, 1, 2, 3, 4, 5, 6, 7, 8, 9, 10, 11, 12, 13] rfl
                  have hD9 := hD.sub (ws' := [(h0, .inr (5, [.ref h1, .int f0, .ref h2, .int f1, .int f2, .ref h3, .ref h4, .ref h5, .ref h6, .int w2, .ref h7, .ref h8, .ref h9, .int w3, .ref h10, .ref h11, .ref h12, .ref h13, .ref h14, .ref h15, .ref h16, .ref h17, .ref h18, .ref h19, .ref h20, .ref h21, .ref h22])), (h1, .inl (zI g, 180, .inl R35)), (h5, .inl (zI g, 6, .inl R4)), (h6, .inl (zI g, 5, .inl R5)), (h7, .inl (zI g, 5, .inl R6)), (h8, .inl (zI g, 5, .inl R7)), (h9, .inl (zI g, 5, .inl R8)), (h10, .inl (zI g, 6, .inl R9)), (h11, .inl (zI g, 6, .inl R10)), (h12, .inl (zI g, 6, .inl R11)), (h13, .inl (zI g, 6, .inl R12)), (h14, .inl (zI g, 6, .inl R13)), (h15, .inl (zI g, 6, .inl R14)), (h16, .inl (zI g, 6, .inl R15))]) [0, 1, 2, 3, 4, 5, 6, 7, 8, 9, 10, 11, 12, 13] (by decide) rfl
                  exact W.iret (v := w3) hx hb hr (fun t ht hW => ⟨⟨w3, ⟨w2, w3, R35, R4, R5, R6, R7, R8, R9, R10, R11, R12, R13, R14, R15⟩, rfl, ⟨(by first | omega | decide), ⟨show 0 ≤ w2.toInt from by omega, show w2.toInt ≤ 31 from by omega⟩, ⟨show 0 ≤ w3.toInt from by omega, show w3.toInt ≤ 1000 from by omega⟩, hI34, hI18.1, hI19.1, hI20.1, hI21.1, hI22.1⟩, by rw [ht]; exact hP9, hD9⟩, hS.F ht⟩) hS.2.2 dX5_morning_105
                · have i_5 : v1_4.toInt < y30.toInt := z_nle (rfl) (rfl) c_5
                  refine lv_aload_n hx hb dX5_morning_69 rfl (lv_at hl 0 rfl) ?_
                  refine va_get (D := g.1) (ci := 5) (v := .ref h1) (C := RX5) (T := TX5) (N := 27) hx hb hts zl_X5 hown hK hP 0 rfl rfl 0 (by decide) (hts _ m_f_RX5_7) (fun _ h => h) rfl dX5_morning_70 ?_
                  refine lv_bipush (v := 18) hx hb dX5_morning_73 (by decide) ?_
                  refine lv_iload_n hx hb dX5_morning_75 rfl (lv_at hl 1 rfl) ?_
                  refine lv_iadd hx hb dX5_morning_76 ?_
                  refine lv_topi (fun y36 ey36 => ?_)
                  have qy36_0 : y36.toInt = 18 + v1_4.toInt := zi_add ey36 (rfl) (rfl) (by omega) (by omega)
                  refine lv_aload_n hx hb dX5_morning_77 rfl (lv_at hl 0 rfl) ?_
                  refine va_get (D := g.1) (ci := 5) (v := .ref h7) (C := RX5) (T := TX5) (N := 27) hx hb hts zl_X5 hown hK hP 0 rfl rfl 10 (by decide) (hts _ m_f_RX5_28) (fun _ h => h) rfl dX5_morning_78 ?_
                  refine lv_iload_n hx hb dX5_morning_81 rfl (lv_at hl 1 rfl) ?_
                  refine va_iald (D := g.1) hx hb hK hP 4 0 rfl rfl (vp_in_iff.mpr ⟨by omega, by omega⟩) dX5_morning_82 ?_
                  refine lv_topi (fun y37 ey37 => ?_)
                  have qy37_0 : (-99) ≤ y37.toInt := (i_at (N := 5) (lo := (-99)) (hi := 9999) (i := v1_4) (a := v1_4.toInt) hI20.1 (rfl) (by omega) (by omega) ey37).1
                  have qy37_1 : y37.toInt ≤ 9999 := (i_at (N := 5) (lo := (-99)) (hi := 9999) (i := v1_4) (a := v1_4.toInt) hI20.1 (rfl) (by omega) (by omega) ey37).2
                  have qy37_2 : y37.toInt = (R6 v1_4.toNatClampNeg).toInt := congrArg Int32.toInt ey37
                  refine va_iast (D := g.1) hx hb hK hP hD hS 1 0 rfl rfl (vp_in_iff.mpr ⟨by omega, by omega⟩) dX5_morning_83 (fun H locs hP hD hS => ?_)
                  have hP : va_P g.1 vwCl [(h0, .inr (5, [.ref h1, .int f0, .ref h2, .int f1, .int f2, .ref h3, .ref h4, .ref h5, .ref h6, .int w2, .ref h7, .ref h8, .ref h9, .int w3, .ref h10, .ref h11, .ref h12, .ref h13, .ref h14, .ref h15, .ref h16, .ref h17, .ref h18, .ref h19, .ref h20, .ref h21, .ref h22])), (h1, .inl (zI g, 180, .inl (upd G0_4 y36.toNatClampNeg y37))), (h5, .inl (zI g, 6, .inl R4)), (h6, .inl (zI g, 5, .inl R5)), (h7, .inl (zI g, 5, .inl R6)), (h8, .inl (zI g, 5, .inl R7)), (h9, .inl (zI g, 5, .inl R8)), (h10, .inl (zI g, 6, .inl R9)), (h11, .inl (zI g, 6, .inl R10)), (h12, .inl (zI g, 6, .inl R11)), (h13, .inl (zI g, 6, .inl R12)), (h14, .inl (zI g, 6, .inl R13)), (h15, .inl (zI g, 6, .inl R14)), (h16, .inl (zI g, 6, .inl R15))] H := hP
                  have hD : va_D A [(h0, .inr (5, [.ref h1, .int f0, .ref h2, .int f1, .int f2, .ref h3, .ref h4, .ref h5, .ref h6, .int w2, .ref h7, .ref h8, .ref h9, .int w3, .ref h10, .ref h11, .ref h12, .ref h13, .ref h14, .ref h15, .ref h16, .ref h17, .ref h18, .ref h19, .ref h20, .ref h21, .ref h22])), (h1, .inl (zI g, 180, .inl (upd G0_4 y36.toNatClampNeg y37))), (h5, .inl (zI g, 6, .inl R4)), (h6, .inl (zI g, 5, .inl R5)), (h7, .inl (zI g, 5, .inl R6)), (h8, .inl (zI g, 5, .inl R7)), (h9, .inl (zI g, 5, .inl R8)), (h10, .inl (zI g, 6, .inl R9)), (h11, .inl (zI g, 6, .inl R10)), (h12, .inl (zI g, 6, .inl R11)), (h13, .inl (zI g, 6, .inl R12)), (h14, .inl (zI g, 6, .inl R13)), (h15, .inl (zI g, 6, .inl R14)), (h16, .inl (zI g, 6, .inl R15))] := hD
                  have hI38 : zPW K B C (zSm B.L B.n B.S B.V (zRw B.n B.M) 0 (zIv B.K) (zRw B.n B.P) B.lots.toNat).1 (v1_4.toInt + 1) (upd G0_4 y36.toNatClampNeg y37) := zPW_put (i := y36) (k := v1_4.toInt) hG0_4 (by omega) (by omega) (by omega) (by rw [ey37]; exact zPof_at hI20.2 (by have := z_tn' (i := v1_4) rfl (by omega); omega))
                  obtain ⟨R39, eR39⟩ : ∃ z : Nat → Int32, z = (upd G0_4 y36.toNatClampNeg y37) := ⟨_, rfl⟩
                  rw [← eR39] at hP hD hI38
                  obtain ⟨y40, ey40⟩ : ∃ z : Int32, z = v1_4 + 1 := ⟨_, rfl⟩
                  have qy40 : y40.toInt = v1_4.toInt + 1 := zi_add ey40 (rfl) rfl (by omega) (by omega)
                  refine lv_iinc (v := y40) (lv' := [(1, .int y40), (0, .ref h0)]) hx hb dX5_morning_84 hl (k := 1) rfl ey40.symm (by decide) rfl (fun ls hl => ?_)
                  refine lv_goto (tgt := 58) hx hb dX5_morning_87 (by decide) ?_
                  exact ih5 y40 R39 (zPW_eq hI38 (by omega)) (by omega) (by omega) (by omega) _ _ hP hD hS ls (lv_sub hl [1, 0] rfl)
            have : (0 : Int32).toInt = 0 := rfl
            exact loop58_4 ((5 - 0 : Int).toNat + 1) (0 : Int32) G0_2 (zPW_eq hI29 (by omega)) (by omega) (by omega) (by omega) _ _ hP hD hS ls (lv_sub hl [1, 0] rfl)
          · have i_3 : v1_2.toInt < y28.toInt := z_nle (rfl) (rfl) c_3
            refine lv_aload_n hx hb dX5_morning_45 rfl (lv_at hl 0 rfl) ?_
            refine lv_iload_n hx hb dX5_morning_46 rfl (lv_at hl 1 rfl) ?_
            refine z_callv (wr := [(h5, .inl (zI g, 6, .inl R4)), (h7, .inl (zI g, 5, .inl R6)), (h8, .inl (zI g, 5, .inl R7)), (h9, .inl (zI g, 5, .inl R8)), (h10, .inl (zI g, 6, .inl R9)), (h11, .inl (zI g, 6, .inl R10)), (h12, .inl (zI g, 6, .inl R11)), (h13, .inl (zI g, 6, .inl R12))]) hP hD hS hA [0, 1, 3, 11, 12, 13] [2, 4, 5, 6, 7, 8, 9, 10] (by decide) rfl rfl (by decide) (va_runV (As := [.int v1_2]) (rest := []) ⟨hx, hb, hml, hown, hts⟩ (gX5_hear l g K B C hB h0 h1 h2 h3 h4 h5 h6 h7 h8 h9 h10 h11 h12 h13 h14 h15 h16 h17 h18 h19 h20 h21 h22 H.size v1_2 f0 f1 f2 w2 w3 G0_2 R5 R13 R14 R15 (by omega) (by omega) (by omega) (by constructor <;> omega) (by constructor <;> omega) (by constructor <;> omega) (by constructor <;> omega) hG0_2 hI19.1) ⟨callB_of 1 hts (zGood m_o_yX5_hear) rfl rfl rfl (hts _ m_z_RX5) (hts _ m_m_RX5_205) ⟨by decide +kernel, by decide +kernel, by decide +kernel⟩ ⟨Nat.le_of_ble_eq_true rfl, Nat.le_of_ble_eq_true rfl⟩, hts _ m_i_yX5_hear, hts _ m_e_yX5_hear⟩ (zPreV hK hN hZ hP hD hS hA [0, 1, 3, 11, 12, 13] (by decide) rfl rfl 5 0 rfl rfl) rfl rfl hl.1 rfl (lv_room (Nat.le_of_ble_eq_true rfl)) dX5_morning_47 ⟨Nat.le_of_ble_eq_true rfl, Nat.le_of_ble_eq_true rfl⟩) (fun u H locs hw hP hD hS => ?_)
            obtain ⟨R41, rfl⟩ : ∃ z, z = u := ⟨_, rfl⟩
            obtain ⟨hw, hI42⟩ := hw
            have hP : va_P g.1 vwCl [(h5, .inl (zI g, 6, .inl R4)), (h7, .inl (zI g, 5, .inl R6)), (h8, .inl (zI g, 5, .inl R7)), (h9, .inl (zI g, 5, .inl R8)), (h10, .inl (zI g, 6, .inl R9)), (h11, .inl (zI g, 6, .inl R10)), (h12, .inl (zI g, 6, .inl R11)), (h13, .inl (zI g, 6, .inl R12)), (h0, .inr (5, [.ref h1, .int f0, .ref h2, .int f1, .int f2, .ref h3, .ref h4, .ref h5, .ref h6, .int w2, .ref h7, .ref h8, .ref h9, .int w3, .ref h10, .ref h11, .ref h12, .ref h13, .ref h14, .ref h15, .ref h16, .ref h17, .ref h18, .ref h19, .ref h20, .ref h21, .ref h22])), (h1, .inl (zI g, 180, .inl R41)), (h6, .inl (zI g, 5, .inl R5)), (h14, .inl (zI g, 6, .inl R13)), (h15, .inl (zI g, 6, .inl R14)), (h16, .inl (zI g, 6, .inl R15))] H := hP
            have hD : va_D A [(h5, .inl (zI g, 6, .inl R4)), (h7, .inl (zI g, 5, .inl R6)), (h8, .inl (zI g, 5, .inl R7)), (h9, .inl (zI g, 5, .inl R8)), (h10, .inl (zI g, 6, .inl R9)), (h11, .inl (zI g, 6, .inl R10)), (h12, .inl (zI g, 6, .inl R11)), (h13, .inl (zI g, 6, .inl R12)), (h0, .inr (5, [.ref h1, .int f0, .ref h2, .int f1, .int f2, .ref h3, .ref h4, .ref h5, .ref h6, .int w2, .ref h7, .ref h8, .ref h9, .int w3, .ref h10, .ref h11, .ref h12, .ref h13, .ref h14, .ref h15, .ref h16, .ref h17, .ref h18, .ref h19, .ref h20, .ref h21, .ref h22])), (h1, .inl (zI g, 180, .inl R41)), (h6, .inl (zI g, 5, .inl R5)), (h14, .inl (zI g, 6, .inl R13)), (h15, .inl (zI g, 6, .inl R14)), (h16, .inl (zI g, 6, .inl R15))] := hD
            obtain ⟨y43, ey43⟩ : ∃ z : Int32, z = v1_2 + 1 := ⟨_, rfl⟩
            have qy43 : y43.toInt = v1_2.toInt + 1 := zi_add ey43 (rfl) rfl (by omega) (by omega)
            refine lv_iinc (v := y43) (lv' := [(1, .int y43), (0, .ref h0)]) hx hb dX5_morning_50 hl (k := 1) rfl ey43.symm (by decide) rfl (fun ls hl => ?_)
            refine lv_goto (tgt := 35) hx hb dX5_morning_53 (by decide) ?_
            have hP := hP.sub (ws' := [(h0, .inr (5, [.ref h1, .int f0, .ref h2, .int f1, .int f2, .ref h3, .ref h4, .ref h5, .ref h6, .int w2, .ref h7, .ref h8, .ref h9, .int w3, .ref h10, .ref h11, .ref h12, .ref h13, .ref h14, .ref h15, .ref h16, .ref h17, .ref h18, .ref h19, .ref h20, .ref h21, .ref h22])), (h1, .inl (zI g, 180, .inl R41)), (h5, .inl (zI g, 6, .inl R4)), (h6, .inl (zI g, 5, .inl R5)), (h7, .inl (zI g, 5, .inl R6)), (h8, .inl (zI g, 5, .inl R7)), (h9, .inl (zI g, 5, .inl R8)), (h10, .inl (zI g, 6, .inl R9)), (h11, .inl (zI g, 6, .inl R10)), (h12, .inl (zI g, 6, .inl R11)), (h13, .inl (zI g, 6, .inl R12)), (h14, .inl (zI g, 6, .inl R13)), (h15, .inl (zI g, 6, .inl R14)), (h16, .inl (zI g, 6, .inl R15))]) [8, 9, 0, 10, 1, 2, 3, 4, 5, 6, 7, 11, 12, 13] rfl
            have hD := hD.sub (ws' := [(h0, .inr (5, [.ref h1, .int f0, .ref h2, .int f1, .int f2, .ref h3, .ref h4, .ref h5, .ref h6, .int w2, .ref h7, .ref h8, .ref h9, .int w3, .ref h10, .ref h11, .ref h12, .ref h13, .ref h14, .ref h15, .ref h16, .ref h17, .ref h18, .ref h19, .ref h20, .ref h21, .ref h22])), (h1, .inl (zI g, 180, .inl R41)), (h5, .inl (zI g, 6, .inl R4)), (h6, .inl (zI g, 5, .inl R5)), (h7, .inl (zI g, 5, .inl R6)), (h8, .inl (zI g, 5, .inl R7)), (h9, .inl (zI g, 5, .inl R8)), (h10, .inl (zI g, 6, .inl R9)), (h11, .inl (zI g, 6, .inl R10)), (h12, .inl (zI g, 6, .inl R11)), (h13, .inl (zI g, 6, .inl R12)), (h14, .inl (zI g, 6, .inl R13)), (h15, .inl (zI g, 6, .inl R14)), (h16, .inl (zI g, 6, .inl R15))]) [8, 9, 0, 10, 1, 2, 3, 4, 5, 6, 7, 11, 12, 13] (by decide) rfl
            exact ih3 y43 R41 hI42 (by omega) (by omega) (by omega) _ _ hP hD hS ls (lv_sub hl [1, 0] rfl)
      have : (0 : Int32).toInt = 0 := rfl
      exact loop35_2 ((6 - 0 : Int).toNat + 1) (0 : Int32) Z0 hF_Z0 (by omega) (by omega) (by omega) _ _ hP hD hS ls (lv_sub hl [1, 0] rfl)
    · have i_1 : y1.toInt = 9999 := z_eq (rfl) (rfl) c_1
      refine lv_bipush (v := (-3)) hx hb dX5_morning_25 (by decide) ?_
      have hI44 : iW K (zMoB B (zSm B.L B.n B.S B.V (zRw B.n B.M) 0 (zIv B.K) (zRw B.n B.P) B.lots.toNat).1) C Z0 := zMoB_no hF_Z0 (by omega)
      have : ((-3) : Int32).toInt = (-3) := rfl
      have hz : zAmor B.lots B.held (zSm B.L B.n B.S B.V (zRw B.n B.M) 0 (zIv B.K) (zRw B.n B.P) B.lots.toNat).2.2.2 = (-3) := by
        unfold zAmor
        rw [if_neg (by omega), if_pos (by omega)]
      have hP9 := hP.sub (ws' := [(h0, .inr (5, [.ref h1, .int f0, .ref h2, .int f1, .int f2, .ref h3, .ref h4, .ref h5, .ref h6, .int f3, .ref h7, .ref h8, .ref h9, .int f4, .ref h10, .ref h11, .ref h12, .ref h13, .ref h14, .ref h15, .ref h16, .ref h17, .ref h18, .ref h19, .ref h20, .ref h21, .ref h22])), (h1, .inl (zI g, 180, .inl Z0)), (h5, .inl (zI g, 6, .inl Z4)), (h6, .inl (zI g, 5, .inl Z5)), (h7, .inl (zI g, 5, .inl Z6)), (h8, .inl (zI g, 5, .inl Z7)), (h9, .inl (zI g, 5, .inl Z8)), (h10, .inl (zI g, 6, .inl Z9)), (h11, .inl (zI g, 6, .inl Z10)), (h12, .inl (zI g, 6, .inl Z11)), (h13, .inl (zI g, 6, .inl Z12)), (h14, .inl (zI g, 6, .inl Z13)), (h15, .inl (zI g, 6, .inl Z14)), (h16, .inl (zI g, 6, .inl Z15))]) [0, 1, 2, 3, 4, 5, 6, 7, 8, 9, 10, 11, 12, 13] rfl
      have hD9 := hD.sub (ws' := [(h0, .inr (5, [.ref h1, .int f0, .ref h2, .int f1, .int f2, .ref h3, .ref h4, .ref h5, .ref h6, .int f3, .ref h7, .ref h8, .ref h9, .int f4, .ref h10, .ref h11, .ref h12, .ref h13, .ref h14, .ref h15, .ref h16, .ref h17, .ref h18, .ref h19, .ref h20, .ref h21, .ref h22])), (h1, .inl (zI g, 180, .inl Z0)), (h5, .inl (zI g, 6, .inl Z4)), (h6, .inl (zI g, 5, .inl Z5)), (h7, .inl (zI g, 5, .inl Z6)), (h8, .inl (zI g, 5, .inl Z7)), (h9, .inl (zI g, 5, .inl Z8)), (h10, .inl (zI g, 6, .inl Z9)), (h11, .inl (zI g, 6, .inl Z10)), (h12, .inl (zI g, 6, .inl Z11)), (h13, .inl (zI g, 6, .inl Z12)), (h14, .inl (zI g, 6, .inl Z13)), (h15, .inl (zI g, 6, .inl Z14)), (h16, .inl (zI g, 6, .inl Z15))]) [0, 1, 2, 3, 4, 5, 6, 7, 8, 9, 10, 11, 12, 13] (by decide) rfl
      exact W.iret (v := (-3)) hx hb hr (fun t ht hW => ⟨⟨(-3), ⟨f3, f4, Z0, Z4, Z5, Z6, Z7, Z8, Z9, Z10, Z11, Z12, Z13, Z14, Z15⟩, rfl, ⟨(by first | omega | decide), ⟨show 0 ≤ f3.toInt from by omega, show f3.toInt ≤ 31 from by omega⟩, ⟨show 0 ≤ f4.toInt from by omega, show f4.toInt ≤ 1000 from by omega⟩, hI44, hF_Z4, hF_Z5, hF_Z6, hF_Z7, hF_Z8⟩, by rw [ht]; exact hP9, hD9⟩, hS.F ht⟩) hS.2.2 dX5_morning_27
  · have i_0 : y0.toInt = 0 := z_eq (rfl) (rfl) c_0
    refine lv_bipush (v := (-2)) hx hb dX5_morning_9 (by decide) ?_
    have hI45 : iW K (zMoB B (zSm B.L B.n B.S B.V (zRw B.n B.M) 0 (zIv B.K) (zRw B.n B.P) B.lots.toNat).1) C Z0 := zMoB_no hF_Z0 (by omega)
    have : ((-2) : Int32).toInt = (-2) := rfl
    have hz : zAmor B.lots B.held (zSm B.L B.n B.S B.V (zRw B.n B.M) 0 (zIv B.K) (zRw B.n B.P) B.lots.toNat).2.2.2 = (-2) := by
      unfold zAmor
      rw [if_pos (by omega)]
    have hP9 := hP.sub (ws' := [(h0, .inr (5, [.ref h1, .int f0, .ref h2, .int f1, .int f2, .ref h3, .ref h4, .ref h5, .ref h6, .int f3, .ref h7, .ref h8, .ref h9, .int f4, .ref h10, .ref h11, .ref h12, .ref h13, .ref h14, .ref h15, .ref h16, .ref h17, .ref h18, .ref h19, .ref h20, .ref h21, .ref h22])), (h1, .inl (zI g, 180, .inl Z0)), (h5, .inl (zI g, 6, .inl Z4)), (h6, .inl (zI g, 5, .inl Z5)), (h7, .inl (zI g, 5, .inl Z6)), (h8, .inl (zI g, 5, .inl Z7)), (h9, .inl (zI g, 5, .inl Z8)), (h10, .inl (zI g, 6, .inl Z9)), (h11, .inl (zI g, 6, .inl Z10)), (h12, .inl (zI g, 6, .inl Z11)), (h13, .inl (zI g, 6, .inl Z12)), (h14, .inl (zI g, 6, .inl Z13)), (h15, .inl (zI g, 6, .inl Z14)), (h16, .inl (zI g, 6, .inl Z15))]) [0, 1, 2, 3, 4, 5, 6, 7, 8, 9, 10, 11, 12, 13] rfl
    have hD9 := hD.sub (ws' := [(h0, .inr (5, [.ref h1, .int f0, .ref h2, .int f1, .int f2, .ref h3, .ref h4, .ref h5, .ref h6, .int f3, .ref h7, .ref h8, .ref h9, .int f4, .ref h10, .ref h11, .ref h12, .ref h13, .ref h14, .ref h15, .ref h16, .ref h17, .ref h18, .ref h19, .ref h20, .ref h21, .ref h22])), (h1, .inl (zI g, 180, .inl Z0)), (h5, .inl (zI g, 6, .inl Z4)), (h6, .inl (zI g, 5, .inl Z5)), (h7, .inl (zI g, 5, .inl Z6)), (h8, .inl (zI g, 5, .inl Z7)), (h9, .inl (zI g, 5, .inl Z8)), (h10, .inl (zI g, 6, .inl Z9)), (h11, .inl (zI g, 6, .inl Z10)), (h12, .inl (zI g, 6, .inl Z11)), (h13, .inl (zI g, 6, .inl Z12)), (h14, .inl (zI g, 6, .inl Z13)), (h15, .inl (zI g, 6, .inl Z14)), (h16, .inl (zI g, 6, .inl Z15))]) [0, 1, 2, 3, 4, 5, 6, 7, 8, 9, 10, 11, 12, 13] (by decide) rfl
    exact W.iret (v := (-2)) hx hb hr (fun t ht hW => ⟨⟨(-2), ⟨f3, f4, Z0, Z4, Z5, Z6, Z7, Z8, Z9, Z10, Z11, Z12, Z13, Z14, Z15⟩, rfl, ⟨(by first | omega | decide), ⟨show 0 ≤ f3.toInt from by omega, show f3.toInt ≤ 31 from by omega⟩, ⟨show 0 ≤ f4.toInt from by omega, show f4.toInt ≤ 1000 from by omega⟩, hI45, hF_Z4, hF_Z5, hF_Z6, hF_Z7, hF_Z8⟩, by rw [ht]; exact hP9, hD9⟩, hS.F ht⟩) hS.2.2 dX5_morning_11
set_option maxHeartbeats 8000000 in
set_option maxRecDepth 100000 in
theorem gX5_span (l : Launch) (g : zG) (K : Prop) (B C : zBk) (hB : bOk B) (h0 h1 h2 h3 h4 h5 h6 h7 h8 h9 h10 h11 h12 h13 h14 h15 h16 h17 h18 h19 h20 h21 h22 : Nat) (sz : Nat) (p1 : Int32) (p2 : Int32) (p3 : Int32) (f0 : Int32) (f1 : Int32) (f2 : Int32) (f3 : Int32) (f4 : Int32) (Z0 : Nat → Int32) (hf_f1 : 0 ≤ f1.toInt ∧ f1.toInt ≤ 60) (hf_f2 : 0 ≤ f2.toInt ∧ f2.toInt ≤ 60) (hf_f3 : 0 ≤ f3.toInt ∧ f3.toInt ≤ 31) (hf_f4 : 0 ≤ f4.toInt ∧ f4.toInt ≤ 1000) (hF_Z0 : iW K B C Z0) : Met l yX5_span (.code yX5_span cX5_span 4 (some .int) :: zBig) ({ frames := 2, cells := 0, slots := 0, locals := 46 }) (va_Pc [.ref h0, .int p1, .int p2, .int p3] (zPre g [(h0, .inr (5, [.ref h1, .int f0, .ref h2, .int f1, .int f2, .ref h3, .ref h4, .ref h5, .ref h6, .int f3, .ref h7, .ref h8, .ref h9, .int f4, .ref h10, .ref h11, .ref h12, .ref h13, .ref h14, .ref h15, .ref h16, .ref h17, .ref h18, .ref h19, .ref h20, .ref h21, .ref h22])), (h1, .inl (zI g, 180, .inl Z0))] sz)) (va_Qi (fun (r : Int32) (u : Nat) => True) (zPost g (fun u : Nat => [(h0, .inr (5, [.ref h1, .int f0, .ref h2, .int f1, .int f2, .ref h3, .ref h4, .ref h5, .ref h6, .int f3, .ref h7, .ref h8, .ref h9, .int f4, .ref h10, .ref h11, .ref h12, .ref h13, .ref h14, .ref h15, .ref h16, .ref h17, .ref h18, .ref h19, .ref h20, .ref h21, .ref h22])), (h1, .inl (zI g, 180, .inl Z0))]) (va_A [(h0, .inr (5, [.ref h1, .int f0, .ref h2, .int f1, .int f2, .ref h3, .ref h4, .ref h5, .ref h6, .int f3, .ref h7, .ref h8, .ref h9, .int f4, .ref h10, .ref h11, .ref h12, .ref h13, .ref h14, .ref h15, .ref h16, .ref h17, .ref h18, .ref h19, .ref h20, .ref h21, .ref h22])), (h1, .inl (zI g, 180, .inl Z0))] sz)) (va_A [(h0, .inr (5, [.ref h1, .int f0, .ref h2, .int f1, .int f2, .ref h3, .ref h4, .ref h5, .ref h6, .int f3, .ref h7, .ref h8, .ref h9, .int f4, .ref h10, .ref h11, .ref h12, .ref h13, .ref h14, .ref h15, .ref h16, .ref h17, .ref h18, .ref h19, .ref h20, .ref h21, .ref h22])), (h1, .inl (zI g, 180, .inl Z0))] sz)) 0 0 (va_A [(h0, .inr (5, [.ref h1, .int f0, .ref h2, .int f1, .int f2, .ref h3, .ref h4, .ref h5, .ref h6, .int f3, .ref h7, .ref h8, .ref h9, .int f4, .ref h10, .ref h11, .ref h12, .ref h13, .ref h14, .ref h15, .ref h16, .ref h17, .ref h18, .ref h19, .ref h20, .ref h21, .ref h22])), (h1, .inl (zI g, 180, .inl Z0))] sz) := by
  refine zMetI rfl (Nat.le_of_ble_eq_true rfl) ?_
  intro p e s m args below meth c A ls hx hb hml hr hlocks hin hown hts hK hN hZ hP hD hA hS hAe hl
  have hown : s.vm.findClass RX5 = some m.cls := hown
  have hl : lv_has ls 4 [(0, .ref h0), (1, .int p1), (2, .int p2), (3, .int p3)] := hl
  refine lv_aload_n hx hb dX5_span_0 rfl (lv_at hl 0 rfl) ?_
  refine lv_iload_n hx hb dX5_span_1 rfl (lv_at hl 1 rfl) ?_
  refine z_calli (wr := []) hP hD hS hA [0, 1] [] (by decide) rfl rfl (by decide) (va_runV (As := [.int p1]) (rest := []) ⟨hx, hb, hml, hown, hts⟩ (gX5_isBuyer l g K B C hB h0 h1 h2 h3 h4 h5 h6 h7 h8 h9 h10 h11 h12 h13 h14 h15 h16 h17 h18 h19 h20 h21 h22 s.heap.size p1 f0 f1 f2 f3 f4 Z0 (by constructor <;> omega) (by constructor <;> omega) (by constructor <;> omega) (by constructor <;> omega) hF_Z0) ⟨callB_of 1 hts (zGood m_o_yX5_isBuyer) rfl rfl rfl (hts _ m_z_RX5) (hts _ m_m_RX5_92) ⟨by decide +kernel, by decide +kernel, by decide +kernel⟩ ⟨Nat.le_of_ble_eq_true rfl, Nat.le_of_ble_eq_true rfl⟩, hts _ m_i_yX5_isBuyer, hts _ m_e_yX5_isBuyer⟩ (zPreV hK hN hZ hP hD hS hA [0, 1] (by decide) rfl rfl 5 0 rfl rfl) rfl rfl hl.1 rfl (lv_room (Nat.le_of_ble_eq_true rfl)) dX5_span_2 ⟨Nat.le_of_ble_eq_true rfl, Nat.le_of_ble_eq_true rfl⟩) (fun r u H locs hw hP hD hS => ?_)
  rcases hw with ⟨i_0, i_1, i_2, rfl⟩ | ⟨i_3, rfl⟩
  · skip
    have i_0 : 0 ≤ p1.toInt := i_0
    have i_1 : p1.toInt ≤ 4 := i_1
    have i_2 : p1.toInt < B.n := i_2
    have hP : va_P g.1 vwCl [(h0, .inr (5, [.ref h1, .int f0, .ref h2, .int f1, .int f2, .ref h3, .ref h4, .ref h5, .ref h6, .int f3, .ref h7, .ref h8, .ref h9, .int f4, .ref h10, .ref h11, .ref h12, .ref h13, .ref h14, .ref h15, .ref h16, .ref h17, .ref h18, .ref h19, .ref h20, .ref h21, .ref h22])), (h1, .inl (zI g, 180, .inl Z0))] H := hP
    have hD : va_D A [(h0, .inr (5, [.ref h1, .int f0, .ref h2, .int f1, .int f2, .ref h3, .ref h4, .ref h5, .ref h6, .int f3, .ref h7, .ref h8, .ref h9, .int f4, .ref h10, .ref h11, .ref h12, .ref h13, .ref h14, .ref h15, .ref h16, .ref h17, .ref h18, .ref h19, .ref h20, .ref h21, .ref h22])), (h1, .inl (zI g, 180, .inl Z0))] := hD
    refine lv_if_eq (tgt := 30) hx hb dX5_span_5 (by decide) (fun h => absurd h (by decide +kernel)) (fun _ => ?_)
    refine lv_iload_n hx hb dX5_span_8 rfl (lv_at hl 2 rfl) ?_
    refine lv_i2l (v := p2.toInt64) hx hb dX5_span_9 rfl ?_
    refine lv_lconst (v := 0) hx hb dX5_span_10 (by decide) ?_
    refine lv_ldc2 (v := 3) hx hb hown (hts _ m_k_RX5_96) dX5_span_11 ?_
    refine z_calli (wr := [(h0, .inr (5, [.ref h1, .int f0, .ref h2, .int f1, .int f2, .ref h3, .ref h4, .ref h5, .ref h6, .int f3, .ref h7, .ref h8, .ref h9, .int f4, .ref h10, .ref h11, .ref h12, .ref h13, .ref h14, .ref h15, .ref h16, .ref h17, .ref h18, .ref h19, .ref h20, .ref h21, .ref h22])), (h1, .inl (zI g, 180, .inl Z0))]) hP hD hS hA [] [0, 1] (by decide) rfl rfl (by decide) (va_runS (As := [.long p2.toInt64, .long 0, .long 3]) (rest := []) ⟨hx, hb, hml, hown, hts⟩ (gX5_in l g  H.size p2.toInt64 (0 : Int64) (3 : Int64)) ⟨callB_of 3 hts (zGood m_o_yX5_in) rfl rfl rfl (hts _ m_z_RX5) (hts _ m_m_RX5_77) ⟨by decide +kernel, by decide +kernel, by decide +kernel⟩ ⟨Nat.le_of_ble_eq_true rfl, Nat.le_of_ble_eq_true rfl⟩, hts _ m_s_yX5_in⟩ (zPreS hK hN hZ hP hD hS hA [] (by decide) rfl rfl) rfl rfl hl.1 rfl (lv_room (Nat.le_of_ble_eq_true rfl)) dX5_span_14 ⟨Nat.le_of_ble_eq_true rfl, Nat.le_of_ble_eq_true rfl⟩) (fun r u H locs hw hP hD hS => ?_)
    rcases hw with ⟨i_4, rfl⟩ | ⟨i_5, i_6, rfl⟩ | ⟨i_7, i_8, rfl⟩
    · skip
      have i_4 : p2.toInt < 0 := by (try simp only [Int32.toInt_toInt64] at i_4); exact i_4
      have hP : va_P g.1 vwCl [(h0, .inr (5, [.ref h1, .int f0, .ref h2, .int f1, .int f2, .ref h3, .ref h4, .ref h5, .ref h6, .int f3, .ref h7, .ref h8, .ref h9, .int f4, .ref h10, .ref h11, .ref h12, .ref h13, .ref h14, .ref h15, .ref h16, .ref h17, .ref h18, .ref h19, .ref h20, .ref h21, .ref h22])), (h1, .inl (zI g, 180, .inl Z0))] H := hP
      have hD : va_D A [(h0, .inr (5, [.ref h1, .int f0, .ref h2, .int f1, .int f2, .ref h3, .ref h4, .ref h5, .ref h6, .int f3, .ref h7, .ref h8, .ref h9, .int f4, .ref h10, .ref h11, .ref h12, .ref h13, .ref h14, .ref h15, .ref h16, .ref h17, .ref h18, .ref h19, .ref h20, .ref h21, .ref h22])), (h1, .inl (zI g, 180, .inl Z0))] := hD
      refine lv_if_eq (tgt := 30) hx hb dX5_span_17 (by decide) (fun _ => ?_) (fun h => absurd h (by decide +kernel))
      refine lv_iconst (v := (-1)) hx hb dX5_span_30 (by decide) ?_
      have hP9 := hP.sub (ws' := [(h0, .inr (5, [.ref h1, .int f0, .ref h2, .int f1, .int f2, .ref h3, .ref h4, .ref h5, .ref h6, .int f3, .ref h7, .ref h8, .ref h9, .int f4, .ref h10, .ref h11, .ref h12, .ref h13, .ref h14, .ref h15, .ref h16, .ref h17, .ref h18, .ref h19, .ref h20, .ref h21, .ref h22])), (h1, .inl (zI g, 180, .inl Z0))]) [0, 1] rfl
      have hD9 := hD.sub (ws' := [(h0, .inr (5, [.ref h1, .int f0, .ref h2, .int f1, .int f2, .ref h3, .ref h4, .ref h5, .ref h6, .int f3, .ref h7, .ref h8, .ref h9, .int f4, .ref h10, .ref h11, .ref h12, .ref h13, .ref h14, .ref h15, .ref h16, .ref h17, .ref h18, .ref h19, .ref h20, .ref h21, .ref h22])), (h1, .inl (zI g, 180, .inl Z0))]) [0, 1] (by decide) rfl
      exact W.iret (v := (-1)) hx hb hr (fun t ht hW => ⟨⟨(-1), (0 : Nat), rfl, trivial, by rw [ht]; exact hP9, hD9⟩, hS.F ht⟩) hS.2.2 dX5_span_31
    · skip
      have i_5 : 0 ≤ p2.toInt := by (try simp only [Int32.toInt_toInt64] at i_5); exact i_5
      have i_6 : 3 < p2.toInt := by (try simp only [Int32.toInt_toInt64] at i_6); exact i_6
      have hP : va_P g.1 vwCl [(h0, .inr (5, [.ref h1, .int f0, .ref h2, .int f1, .int f2, .ref h3, .ref h4, .ref h5, .ref h6, .int f3, .ref h7, .ref h8, .ref h9, .int f4, .ref h10, .ref h11, .ref h12, .ref h13, .ref h14, .ref h15, .ref h16, .ref h17, .ref h18, .ref h19, .ref h20, .ref h21, .ref h22])), (h1, .inl (zI g, 180, .inl Z0))] H := hP
      have hD : va_D A [(h0, .inr (5, [.ref h1, .int f0, .ref h2, .int f1, .int f2, .ref h3, .ref h4, .ref h5, .ref h6, .int f3, .ref h7, .ref h8, .ref h9, .int f4, .ref h10, .ref h11, .ref h12, .ref h13, .ref h14, .ref h15, .ref h16, .ref h17, .ref h18, .ref h19, .ref h20, .ref h21, .ref h22])), (h1, .inl (zI g, 180, .inl Z0))] := hD
      refine lv_if_eq (tgt := 30) hx hb dX5_span_17 (by decide) (fun _ => ?_) (fun h => absurd h (by decide +kernel))
      refine lv_iconst (v := (-1)) hx hb dX5_span_30 (by decide) ?_
      have hP9 := hP.sub (ws' := [(h0, .inr (5, [.ref h1, .int f0, .ref h2, .int f1, .int f2, .ref h3, .ref h4, .ref h5, .ref h6, .int f3, .ref h7, .ref h8, .ref h9, .int f4, .ref h10, .ref h11, .ref h12, .ref h13, .ref h14, .ref h15, .ref h16, .ref h17, .ref h18, .ref h19, .ref h20, .ref h21, .ref h22])), (h1, .inl (zI g, 180, .inl Z0))]) [0, 1] rfl
      have hD9 := hD.sub (ws' := [(h0, .inr (5, [.ref h1, .int f0, .ref h2, .int f1, .int f2, .ref h3, .ref h4, .ref h5, .ref h6, .int f3, .ref h7, .ref h8, .ref h9, .int f4, .ref h10, .ref h11, .ref h12, .ref h13, .ref h14, .ref h15, .ref h16, .ref h17, .ref h18, .ref h19, .ref h20, .ref h21, .ref h22])), (h1, .inl (zI g, 180, .inl Z0))]) [0, 1] (by decide) rfl
      exact W.iret (v := (-1)) hx hb hr (fun t ht hW => ⟨⟨(-1), (0 : Nat), rfl, trivial, by rw [ht]; exact hP9, hD9⟩, hS.F ht⟩) hS.2.2 dX5_span_31
    · skip
      have i_7 : 0 ≤ p2.toInt := by (try simp only [Int32.toInt_toInt64] at i_7); exact i_7
      have i_8 : p2.toInt ≤ 3 := by (try simp only [Int32.toInt_toInt64] at i_8); exact i_8
      have hP : va_P g.1 vwCl [(h0, .inr (5, [.ref h1, .int f0, .ref h2, .int f1, .int f2, .ref h3, .ref h4, .ref h5, .ref h6, .int f3, .ref h7, .ref h8, .ref h9, .int f4, .ref h10, .ref h11, .ref h12, .ref h13, .ref h14, .ref h15, .ref h16, .ref h17, .ref h18, .ref h19, .ref h20, .ref h21, .ref h22])), (h1, .inl (zI g, 180, .inl Z0))] H := hP
      have hD : va_D A [(h0, .inr (5, [.ref h1, .int f0, .ref h2, .int f1, .int f2, .ref h3, .ref h4, .ref h5, .ref h6, .int f3, .ref h7, .ref h8, .ref h9, .int f4, .ref h10, .ref h11, .ref h12, .ref h13, .ref h14, .ref h15, .ref h16, .ref h17, .ref h18, .ref h19, .ref h20, .ref h21, .ref h22])), (h1, .inl (zI g, 180, .inl Z0))] := hD
      refine lv_if_eq (tgt := 30) hx hb dX5_span_17 (by decide) (fun h => absurd h (by decide +kernel)) (fun _ => ?_)
      refine lv_iload_n hx hb dX5_span_20 rfl (lv_at hl 3 rfl) ?_
      refine lv_i2l (v := p3.toInt64) hx hb dX5_span_21 rfl ?_
      refine lv_lconst (v := 0) hx hb dX5_span_22 (by decide) ?_
      refine lv_lconst (v := 1) hx hb dX5_span_23 (by decide) ?_
      refine z_calli (wr := [(h0, .inr (5, [.ref h1, .int f0, .ref h2, .int f1, .int f2, .ref h3, .ref h4, .ref h5, .ref h6, .int f3, .ref h7, .ref h8, .ref h9, .int f4, .ref h10, .ref h11, .ref h12, .ref h13, .ref h14, .ref h15, .ref h16, .ref h17, .ref h18, .ref h19, .ref h20, .ref h21, .ref h22])), (h1, .inl (zI g, 180, .inl Z0))]) hP hD hS hA [] [0, 1] (by decide) rfl rfl (by decide) (va_runS (As := [.long p3.toInt64, .long 0, .long 1]) (rest := []) ⟨hx, hb, hml, hown, hts⟩ (gX5_in l g  H.size p3.toInt64 (0 : Int64) (1 : Int64)) ⟨callB_of 3 hts (zGood m_o_yX5_in) rfl rfl rfl (hts _ m_z_RX5) (hts _ m_m_RX5_77) ⟨by decide +kernel, by decide +kernel, by decide +kernel⟩ ⟨Nat.le_of_ble_eq_true rfl, Nat.le_of_ble_eq_true rfl⟩, hts _ m_s_yX5_in⟩ (zPreS hK hN hZ hP hD hS hA [] (by decide) rfl rfl) rfl rfl hl.1 rfl (lv_room (Nat.le_of_ble_eq_true rfl)) dX5_span_24 ⟨Nat.le_of_ble_eq_true rfl, Nat.le_of_ble_eq_true rfl⟩) (fun r u H locs hw hP hD hS => ?_)
      rcases hw with ⟨i_9, rfl⟩ | ⟨i_10, i_11, rfl⟩ | ⟨i_12, i_13, rfl⟩
      · skip
        have i_9 : p3.toInt < 0 := by (try simp only [Int32.toInt_toInt64] at i_9); exact i_9
        have hP : va_P g.1 vwCl [(h0, .inr (5, [.ref h1, .int f0, .ref h2, .int f1, .int f2, .ref h3, .ref h4, .ref h5, .ref h6, .int f3, .ref h7, .ref h8, .ref h9, .int f4, .ref h10, .ref h11, .ref h12, .ref h13, .ref h14, .ref h15, .ref h16, .ref h17, .ref h18, .ref h19, .ref h20, .ref h21, .ref h22])), (h1, .inl (zI g, 180, .inl Z0))] H := hP
        have hD : va_D A [(h0, .inr (5, [.ref h1, .int f0, .ref h2, .int f1, .int f2, .ref h3, .ref h4, .ref h5, .ref h6, .int f3, .ref h7, .ref h8, .ref h9, .int f4, .ref h10, .ref h11, .ref h12, .ref h13, .ref h14, .ref h15, .ref h16, .ref h17, .ref h18, .ref h19, .ref h20, .ref h21, .ref h22])), (h1, .inl (zI g, 180, .inl Z0))] := hD
        refine lv_if_ne (tgt := 32) hx hb dX5_span_27 (by decide) (fun h => absurd h (by decide +kernel)) (fun _ => ?_)
        refine lv_iconst (v := (-1)) hx hb dX5_span_30 (by decide) ?_
        have hP9 := hP.sub (ws' := [(h0, .inr (5, [.ref h1, .int f0, .ref h2, .int f1, .int f2, .ref h3, .ref h4, .ref h5, .ref h6, .int f3, .ref h7, .ref h8, .ref h9, .int f4, .ref h10, .ref h11, .ref h12, .ref h13, .ref h14, .ref h15, .ref h16, .ref h17, .ref h18, .ref h19, .ref h20, .ref h21, .ref h22])), (h1, .inl (zI g, 180, .inl Z0))]) [0, 1] rfl
        have hD9 := hD.sub (ws' := [(h0, .inr (5, [.ref h1, .int f0, .ref h2, .int f1, .int f2, .ref h3, .ref h4, .ref h5, .ref h6, .int f3, .ref h7, .ref h8, .ref h9, .int f4, .ref h10, .ref h11, .ref h12, .ref h13, .ref h14, .ref h15, .ref h16, .ref h17, .ref h18, .ref h19, .ref h20, .ref h21, .ref h22])), (h1, .inl (zI g, 180, .inl Z0))]) [0, 1] (by decide) rfl
        exact W.iret (v := (-1)) hx hb hr (fun t ht hW => ⟨⟨(-1), (0 : Nat), rfl, trivial, by rw [ht]; exact hP9, hD9⟩, hS.F ht⟩) hS.2.2 dX5_span_31
      · skip
        have i_10 : 0 ≤ p3.toInt := by (try simp only [Int32.toInt_toInt64] at i_10); exact i_10
        have i_11 : 1 < p3.toInt := by (try simp only [Int32.toInt_toInt64] at i_11); exact i_11
        have hP : va_P g.1 vwCl [(h0, .inr (5, [.ref h1, .int f0, .ref h2, .int f1, .int f2, .ref h3, .ref h4, .ref h5, .ref h6, .int f3, .ref h7, .ref h8, .ref h9, .int f4, .ref h10, .ref h11, .ref h12, .ref h13, .ref h14, .ref h15, .ref h16, .ref h17, .ref h18, .ref h19, .ref h20, .ref h21, .ref h22])), (h1, .inl (zI g, 180, .inl Z0))] H := hP
        have hD : va_D A [(h0, .inr (5, [.ref h1, .int f0, .ref h2, .int f1, .int f2, .ref h3, .ref h4, .ref h5, .ref h6, .int f3, .ref h7, .ref h8, .ref h9, .int f4, .ref h10, .ref h11, .ref h12, .ref h13, .ref h14, .ref h15, .ref h16, .ref h17, .ref h18, .ref h19, .ref h20, .ref h21, .ref h22])), (h1, .inl (zI g, 180, .inl Z0))] := hD
        refine lv_if_ne (tgt := 32) hx hb dX5_span_27 (by decide) (fun h => absurd h (by decide +kernel)) (fun _ => ?_)
        refine lv_iconst (v := (-1)) hx hb dX5_span_30 (by decide) ?_
        have hP9 := hP.sub (ws' := [(h0, .inr (5, [.ref h1, .int f0, .ref h2, .int f1, .int f2, .ref h3, .ref h4, .ref h5, .ref h6, .int f3, .ref h7, .ref h8, .ref h9, .int f4, .ref h10, .ref h11, .ref h12, .ref h13, .ref h14, .ref h15, .ref h16, .ref h17, .ref h18, .ref h19, .ref h20, .ref h21, .ref h22])), (h1, .inl (zI g, 180, .inl Z0))]) [0, 1] rfl
        have hD9 := hD.sub (ws' := [(h0, .inr (5, [.ref h1, .int f0, .ref h2, .int f1, .int f2, .ref h3, .ref h4, .ref h5, .ref h6, .int f3, .ref h7, .ref h8, .ref h9, .int f4, .ref h10, .ref h11, .ref h12, .ref h13, .ref h14, .ref h15, .ref h16, .ref h17, .ref h18, .ref h19, .ref h20, .ref h21, .ref h22])), (h1, .inl (zI g, 180, .inl Z0))]) [0, 1] (by decide) rfl
        exact W.iret (v := (-1)) hx hb hr (fun t ht hW => ⟨⟨(-1), (0 : Nat), rfl, trivial, by rw [ht]; exact hP9, hD9⟩, hS.F ht⟩) hS.2.2 dX5_span_31
      · skip
        have i_12 : 0 ≤ p3.toInt := by (try simp only [Int32.toInt_toInt64] at i_12); exact i_12
        have i_13 : p3.toInt ≤ 1 := by (try simp only [Int32.toInt_toInt64] at i_13); exact i_13
        have hP : va_P g.1 vwCl [(h0, .inr (5, [.ref h1, .int f0, .ref h2, .int f1, .int f2, .ref h3, .ref h4, .ref h5, .ref h6, .int f3, .ref h7, .ref h8, .ref h9, .int f4, .ref h10, .ref h11, .ref h12, .ref h13, .ref h14, .ref h15, .ref h16, .ref h17, .ref h18, .ref h19, .ref h20, .ref h21, .ref h22])), (h1, .inl (zI g, 180, .inl Z0))] H := hP
        have hD : va_D A [(h0, .inr (5, [.ref h1, .int f0, .ref h2, .int f1, .int f2, .ref h3, .ref h4, .ref h5, .ref h6, .int f3, .ref h7, .ref h8, .ref h9, .int f4, .ref h10, .ref h11, .ref h12, .ref h13, .ref h14, .ref h15, .ref h16, .ref h17, .ref h18, .ref h19, .ref h20, .ref h21, .ref h22])), (h1, .inl (zI g, 180, .inl Z0))] := hD
        refine lv_if_ne (tgt := 32) hx hb dX5_span_27 (by decide) (fun _ => ?_) (fun h => absurd h (by decide +kernel))
        refine lv_aload_n hx hb dX5_span_32 rfl (lv_at hl 0 rfl) ?_
        refine va_get (D := g.1) (ci := 5) (v := .ref h1) (C := RX5) (T := TX5) (N := 27) hx hb hts zl_X5 hown hK hP 0 rfl rfl 0 (by decide) (hts _ m_f_RX5_7) (fun _ h => h) rfl dX5_span_33 ?_
        refine lv_iload_n hx hb dX5_span_36 rfl (lv_at hl 3 rfl) ?_
        refine lv_if_ne (tgt := 45) hx hb dX5_span_37 (by decide) (fun c_14 => ?_) (fun c_14 => ?_)
        · have i_14 : p3.toInt ≠ 0 := z_ne (rfl) (rfl) c_14
          refine lv_bipush (v := 68) hx hb dX5_span_45 (by decide) ?_
          refine lv_iconst (v := 4) hx hb dX5_span_47 (by decide) ?_
          refine lv_iload_n hx hb dX5_span_48 rfl (lv_at hl 1 rfl) ?_
          refine lv_imul hx hb dX5_span_49 ?_
          refine lv_topi (fun y0 ey0 => ?_)
          have qy0_0 : y0.toInt = 4 * p1.toInt := zi_mul ey0 (rfl) (rfl) (by omega) (by omega)
          refine lv_iadd hx hb dX5_span_50 ?_
          refine lv_topi (fun y1 ey1 => ?_)
          have qy1_0 : y1.toInt = 68 + y0.toInt := zi_add ey1 (rfl) (rfl) (by omega) (by omega)
          refine lv_iload_n hx hb dX5_span_51 rfl (lv_at hl 2 rfl) ?_
          refine lv_iadd hx hb dX5_span_52 ?_
          refine lv_topi (fun y2 ey2 => ?_)
          have qy2_0 : y2.toInt = y1.toInt + p2.toInt := zi_add ey2 (rfl) (rfl) (by omega) (by omega)
          refine va_iald (D := g.1) hx hb hK hP 1 0 rfl rfl (vp_in_iff.mpr ⟨by omega, by omega⟩) dX5_span_53 ?_
          refine lv_topi (fun y3 ey3 => ?_)
          have qy3_0 : y3.toInt = (Z0 y2.toNatClampNeg).toInt := congrArg Int32.toInt ey3
          have hP9 := hP.sub (ws' := [(h0, .inr (5, [.ref h1, .int f0, .ref h2, .int f1, .int f2, .ref h3, .ref h4, .ref h5, .ref h6, .int f3, .ref h7, .ref h8, .ref h9, .int f4, .ref h10, .ref h11, .ref h12, .ref h13, .ref h14, .ref h15, .ref h16, .ref h17, .ref h18, .ref h19, .ref h20, .ref h21, .ref h22])), (h1, .inl (zI g, 180, .inl Z0))]) [0, 1] rfl
          have hD9 := hD.sub (ws' := [(h0, .inr (5, [.ref h1, .int f0, .ref h2, .int f1, .int f2, .ref h3, .ref h4, .ref h5, .ref h6, .int f3, .ref h7, .ref h8, .ref h9, .int f4, .ref h10, .ref h11, .ref h12, .ref h13, .ref h14, .ref h15, .ref h16, .ref h17, .ref h18, .ref h19, .ref h20, .ref h21, .ref h22])), (h1, .inl (zI g, 180, .inl Z0))]) [0, 1] (by decide) rfl
          exact W.iret (v := y3) hx hb hr (fun t ht hW => ⟨⟨y3, (0 : Nat), rfl, trivial, by rw [ht]; exact hP9, hD9⟩, hS.F ht⟩) hS.2.2 dX5_span_54
        · have i_14 : p3.toInt = 0 := z_eq (rfl) (rfl) c_14
          refine lv_bipush (v := 48) hx hb dX5_span_40 (by decide) ?_
          refine lv_goto (tgt := 47) hx hb dX5_span_42 (by decide) ?_
          refine lv_iconst (v := 4) hx hb dX5_span_47 (by decide) ?_
          refine lv_iload_n hx hb dX5_span_48 rfl (lv_at hl 1 rfl) ?_
          refine lv_imul hx hb dX5_span_49 ?_
          refine lv_topi (fun y4 ey4 => ?_)
          have qy4_0 : y4.toInt = 4 * p1.toInt := zi_mul ey4 (rfl) (rfl) (by omega) (by omega)
          refine lv_iadd hx hb dX5_span_50 ?_
          refine lv_topi (fun y5 ey5 => ?_)
          have qy5_0 : y5.toInt = 48 + y4.toInt := zi_add ey5 (rfl) (rfl) (by omega) (by omega)
          refine lv_iload_n hx hb dX5_span_51 rfl (lv_at hl 2 rfl) ?_
          refine lv_iadd hx hb dX5_span_52 ?_
          refine lv_topi (fun y6 ey6 => ?_)
          have qy6_0 : y6.toInt = y5.toInt + p2.toInt := zi_add ey6 (rfl) (rfl) (by omega) (by omega)
          refine va_iald (D := g.1) hx hb hK hP 1 0 rfl rfl (vp_in_iff.mpr ⟨by omega, by omega⟩) dX5_span_53 ?_
          refine lv_topi (fun y7 ey7 => ?_)
          have qy7_0 : y7.toInt = (Z0 y6.toNatClampNeg).toInt := congrArg Int32.toInt ey7
          have hP9 := hP.sub (ws' := [(h0, .inr (5, [.ref h1, .int f0, .ref h2, .int f1, .int f2, .ref h3, .ref h4, .ref h5, .ref h6, .int f3, .ref h7, .ref h8, .ref h9, .int f4, .ref h10, .ref h11, .ref h12, .ref h13, .ref h14, .ref h15, .ref h16, .ref h17, .ref h18, .ref h19, .ref h20, .ref h21, .ref h22])), (h1, .inl (zI g, 180, .inl Z0))]) [0, 1] rfl
          have hD9 := hD.sub (ws' := [(h0, .inr (5, [.ref h1, .int f0, .ref h2, .int f1, .int f2, .ref h3, .ref h4, .ref h5, .ref h6, .int f3, .ref h7, .ref h8, .ref h9, .int f4, .ref h10, .ref h11, .ref h12, .ref h13, .ref h14, .ref h15, .ref h16, .ref h17, .ref h18, .ref h19, .ref h20, .ref h21, .ref h22])), (h1, .inl (zI g, 180, .inl Z0))]) [0, 1] (by decide) rfl
          exact W.iret (v := y7) hx hb hr (fun t ht hW => ⟨⟨y7, (0 : Nat), rfl, trivial, by rw [ht]; exact hP9, hD9⟩, hS.F ht⟩) hS.2.2 dX5_span_54
  · skip
    have i_3 : (p1.toInt < 0 ∨ B.n ≤ p1.toInt) := i_3
    have hP : va_P g.1 vwCl [(h0, .inr (5, [.ref h1, .int f0, .ref h2, .int f1, .int f2, .ref h3, .ref h4, .ref h5, .ref h6, .int f3, .ref h7, .ref h8, .ref h9, .int f4, .ref h10, .ref h11, .ref h12, .ref h13, .ref h14, .ref h15, .ref h16, .ref h17, .ref h18, .ref h19, .ref h20, .ref h21, .ref h22])), (h1, .inl (zI g, 180, .inl Z0))] H := hP
    have hD : va_D A [(h0, .inr (5, [.ref h1, .int f0, .ref h2, .int f1, .int f2, .ref h3, .ref h4, .ref h5, .ref h6, .int f3, .ref h7, .ref h8, .ref h9, .int f4, .ref h10, .ref h11, .ref h12, .ref h13, .ref h14, .ref h15, .ref h16, .ref h17, .ref h18, .ref h19, .ref h20, .ref h21, .ref h22])), (h1, .inl (zI g, 180, .inl Z0))] := hD
    refine lv_if_eq (tgt := 30) hx hb dX5_span_5 (by decide) (fun _ => ?_) (fun h => absurd h (by decide +kernel))
    refine lv_iconst (v := (-1)) hx hb dX5_span_30 (by decide) ?_
    have hP9 := hP.sub (ws' := [(h0, .inr (5, [.ref h1, .int f0, .ref h2, .int f1, .int f2, .ref h3, .ref h4, .ref h5, .ref h6, .int f3, .ref h7, .ref h8, .ref h9, .int f4, .ref h10, .ref h11, .ref h12, .ref h13, .ref h14, .ref h15, .ref h16, .ref h17, .ref h18, .ref h19, .ref h20, .ref h21, .ref h22])), (h1, .inl (zI g, 180, .inl Z0))]) [0, 1] rfl
    have hD9 := hD.sub (ws' := [(h0, .inr (5, [.ref h1, .int f0, .ref h2, .int f1, .int f2, .ref h3, .ref h4, .ref h5, .ref h6, .int f3, .ref h7, .ref h8, .ref h9, .int f4, .ref h10, .ref h11, .ref h12, .ref h13, .ref h14, .ref h15, .ref h16, .ref h17, .ref h18, .ref h19, .ref h20, .ref h21, .ref h22])), (h1, .inl (zI g, 180, .inl Z0))]) [0, 1] (by decide) rfl
    exact W.iret (v := (-1)) hx hb hr (fun t ht hW => ⟨⟨(-1), (0 : Nat), rfl, trivial, by rw [ht]; exact hP9, hD9⟩, hS.F ht⟩) hS.2.2 dX5_span_31
set_option maxHeartbeats 8000000 in
set_option maxRecDepth 100000 in
theorem gX5_hush (l : Launch) (g : zG) (K : Prop) (B C : zBk) (hB : bOk B) (h0 h1 h2 h3 h4 h5 h6 h7 h8 h9 h10 h11 h12 h13 h14 h15 h16 h17 h18 h19 h20 h21 h22 : Nat) (sz : Nat) (f0 : Int32) (f1 : Int32) (f2 : Int32) (f3 : Int32) (f4 : Int32) (Z0 : Nat → Int32) (hf_f1 : 0 ≤ f1.toInt ∧ f1.toInt ≤ 60) (hf_f2 : 0 ≤ f2.toInt ∧ f2.toInt ≤ 60) (hf_f3 : 0 ≤ f3.toInt ∧ f3.toInt ≤ 31) (hf_f4 : 0 ≤ f4.toInt ∧ f4.toInt ≤ 1000) (hF_Z0 : iW K B C Z0) : Met l yX5_hush (.code yX5_hush cX5_hush 3 (some .int) :: zBig) ({ frames := 0, cells := 0, slots := 0, locals := 0 }) (va_Pc [.ref h0] (zPre g [(h0, .inr (5, [.ref h1, .int f0, .ref h2, .int f1, .int f2, .ref h3, .ref h4, .ref h5, .ref h6, .int f3, .ref h7, .ref h8, .ref h9, .int f4, .ref h10, .ref h11, .ref h12, .ref h13, .ref h14, .ref h15, .ref h16, .ref h17, .ref h18, .ref h19, .ref h20, .ref h21, .ref h22])), (h1, .inl (zI g, 180, .inl Z0))] sz)) (va_Qi (fun (r : Int32) (u : (Nat → Int32)) => (True) ∧ iW K B C u) (zPost g (fun u : (Nat → Int32) => [(h0, .inr (5, [.ref h1, .int f0, .ref h2, .int f1, .int f2, .ref h3, .ref h4, .ref h5, .ref h6, .int f3, .ref h7, .ref h8, .ref h9, .int f4, .ref h10, .ref h11, .ref h12, .ref h13, .ref h14, .ref h15, .ref h16, .ref h17, .ref h18, .ref h19, .ref h20, .ref h21, .ref h22])), (h1, .inl (zI g, 180, .inl u))]) (va_A [(h0, .inr (5, [.ref h1, .int f0, .ref h2, .int f1, .int f2, .ref h3, .ref h4, .ref h5, .ref h6, .int f3, .ref h7, .ref h8, .ref h9, .int f4, .ref h10, .ref h11, .ref h12, .ref h13, .ref h14, .ref h15, .ref h16, .ref h17, .ref h18, .ref h19, .ref h20, .ref h21, .ref h22])), (h1, .inl (zI g, 180, .inl Z0))] sz)) (va_A [(h0, .inr (5, [.ref h1, .int f0, .ref h2, .int f1, .int f2, .ref h3, .ref h4, .ref h5, .ref h6, .int f3, .ref h7, .ref h8, .ref h9, .int f4, .ref h10, .ref h11, .ref h12, .ref h13, .ref h14, .ref h15, .ref h16, .ref h17, .ref h18, .ref h19, .ref h20, .ref h21, .ref h22])), (h1, .inl (zI g, 180, .inl Z0))] sz)) 0 0 (va_A [(h0, .inr (5, [.ref h1, .int f0, .ref h2, .int f1, .int f2, .ref h3, .ref h4, .ref h5, .ref h6, .int f3, .ref h7, .ref h8, .ref h9, .int f4, .ref h10, .ref h11, .ref h12, .ref h13, .ref h14, .ref h15, .ref h16, .ref h17, .ref h18, .ref h19, .ref h20, .ref h21, .ref h22])), (h1, .inl (zI g, 180, .inl Z0))] sz) := by
  refine zMetI rfl (Nat.le_of_ble_eq_true rfl) ?_
  intro p e s m args below meth c A ls hx hb hml hr hlocks hin hown hts hK hN hZ hP hD hA hS hAe hl
  have hown : s.vm.findClass RX5 = some m.cls := hown
  have hl : lv_has ls 3 [(0, .ref h0)] := hl
  refine lv_iconst (v := 0) hx hb dX5_hush_0 (by decide) ?_
  refine lv_istore_n (lv' := [(1, .int 0), (0, .ref h0)]) hx hb dX5_hush_1 rfl hl (by decide) rfl (fun ls hl => ?_)
  refine lv_iconst (v := 0) hx hb dX5_hush_2 (by decide) ?_
  refine lv_istore_n (lv' := [(2, .int 0), (1, .int 0), (0, .ref h0)]) hx hb dX5_hush_3 rfl hl (by decide) rfl (fun ls hl => ?_)
  have loop4_0 : ∀ (n1 : Nat) (v1_0 : Int32) (v2_0 : Int32) (G0_0 : Nat → Int32) (hG0_0 : iW K B C G0_0) (n1_0 : 0 ≤ v2_0.toInt) (n1_1 : v2_0.toInt ≤ 20) (hm1 : 20 - v2_0.toInt < (n1 : Int)) (H : Heap) (locs : List Loc), va_P g.1 vwCl [(h0, .inr (5, [.ref h1, .int f0, .ref h2, .int f1, .int f2, .ref h3, .ref h4, .ref h5, .ref h6, .int f3, .ref h7, .ref h8, .ref h9, .int f4, .ref h10, .ref h11, .ref h12, .ref h13, .ref h14, .ref h15, .ref h16, .ref h17, .ref h18, .ref h19, .ref h20, .ref h21, .ref h22])), (h1, .inl (zI g, 180, .inl G0_0))] H → va_D A [(h0, .inr (5, [.ref h1, .int f0, .ref h2, .int f1, .int f2, .ref h3, .ref h4, .ref h5, .ref h6, .int f3, .ref h7, .ref h8, .ref h9, .int f4, .ref h10, .ref h11, .ref h12, .ref h13, .ref h14, .ref h15, .ref h16, .ref h17, .ref h18, .ref h19, .ref h20, .ref h21, .ref h22])), (h1, .inl (zI g, 180, .inl G0_0))] → va_S A s.heap H locs → ∀ (ls : Array Slot), lv_has ls 3 [(0, .ref h0), (1, .int v1_0), (2, .int v2_0)] → W p l e ({ frames := 0, cells := 0, slots := 0, locals := 0 }) s m args below meth c H locs 0 0 (MQ below (va_Qi (fun (r : Int32) (u : (Nat → Int32)) => (True) ∧ iW K B C u) (zPost g (fun u : (Nat → Int32) => [(h0, .inr (5, [.ref h1, .int f0, .ref h2, .int f1, .int f2, .ref h3, .ref h4, .ref h5, .ref h6, .int f3, .ref h7, .ref h8, .ref h9, .int f4, .ref h10, .ref h11, .ref h12, .ref h13, .ref h14, .ref h15, .ref h16, .ref h17, .ref h18, .ref h19, .ref h20, .ref h21, .ref h22])), (h1, .inl (zI g, 180, .inl u))]) A) A) args s 0 0 A) (F0 m 4 ls []) := by
    intro n1
    induction n1 with
    | zero => intro v1_0 v2_0 G0_0 hG0_0 n1_0 n1_1 hm1; exfalso; omega
    | succ n1 ih1 =>
      intro v1_0 v2_0 G0_0 hG0_0 n1_0 n1_1 hm1 H locs hP hD hS ls hl
      refine lv_iload_n hx hb dX5_hush_4 rfl (lv_at hl 2 rfl) ?_
      refine lv_iconst (v := 4) hx hb dX5_hush_5 (by decide) ?_
      refine lv_aload_n hx hb dX5_hush_6 rfl (lv_at hl 0 rfl) ?_
      refine va_get (D := g.1) (ci := 5) (v := .ref h1) (C := RX5) (T := TX5) (N := 27) hx hb hts zl_X5 hown hK hP 0 rfl rfl 0 (by decide) (hts _ m_f_RX5_7) (fun _ h => h) rfl dX5_hush_7 ?_
      refine lv_bipush (v := 12) hx hb dX5_hush_10 (by decide) ?_
      refine va_iald (D := g.1) hx hb hK hP 1 0 rfl rfl (vp_in_iff.mpr (by decide +kernel)) dX5_hush_12 ?_
      refine lv_topi (fun y0 ey0 => ?_)
      have qy0_0 : 0 ≤ y0.toInt := ((iW_at (i := (12 : Int32)) (a := 12) hG0_0 (rfl) (by omega) (by omega) ey0).2.2.2.2.2 (by omega)).1
      have qy0_1 : y0.toInt ≤ 5 := ((iW_at (i := (12 : Int32)) (a := 12) hG0_0 (rfl) (by omega) (by omega) ey0).2.2.2.2.2 (by omega)).2
      have qy0_2 : y0.toInt = (G0_0 12).toInt := congrArg Int32.toInt ey0
      have qy0_3 : y0.toInt = B.n := (congrArg Int32.toInt ey0).trans (iW_n hG0_0)
      refine lv_imul hx hb dX5_hush_13 ?_
      refine lv_topi (fun y1 ey1 => ?_)
      have qy1_0 : y1.toInt = 4 * y0.toInt := zi_mul ey1 (rfl) (rfl) (by omega) (by omega)
      refine lv_icmp_ge (tgt := 78) hx hb dX5_hush_14 (by decide) (fun c_1 => ?_) (fun c_1 => ?_)
      · have i_1 : y1.toInt ≤ v2_0.toInt := z_le (rfl) (rfl) c_1
        refine lv_iload_n hx hb dX5_hush_78 rfl (lv_at hl 1 rfl) ?_
        have hP9 := hP.sub (ws' := [(h0, .inr (5, [.ref h1, .int f0, .ref h2, .int f1, .int f2, .ref h3, .ref h4, .ref h5, .ref h6, .int f3, .ref h7, .ref h8, .ref h9, .int f4, .ref h10, .ref h11, .ref h12, .ref h13, .ref h14, .ref h15, .ref h16, .ref h17, .ref h18, .ref h19, .ref h20, .ref h21, .ref h22])), (h1, .inl (zI g, 180, .inl G0_0))]) [0, 1] rfl
        have hD9 := hD.sub (ws' := [(h0, .inr (5, [.ref h1, .int f0, .ref h2, .int f1, .int f2, .ref h3, .ref h4, .ref h5, .ref h6, .int f3, .ref h7, .ref h8, .ref h9, .int f4, .ref h10, .ref h11, .ref h12, .ref h13, .ref h14, .ref h15, .ref h16, .ref h17, .ref h18, .ref h19, .ref h20, .ref h21, .ref h22])), (h1, .inl (zI g, 180, .inl G0_0))]) [0, 1] (by decide) rfl
        exact W.iret (v := v1_0) hx hb hr (fun t ht hW => ⟨⟨v1_0, G0_0, rfl, ⟨trivial, hG0_0⟩, by rw [ht]; exact hP9, hD9⟩, hS.F ht⟩) hS.2.2 dX5_hush_79
      · have i_1 : v2_0.toInt < y1.toInt := z_nle (rfl) (rfl) c_1
        refine lv_iload_n hx hb dX5_hush_17 rfl (lv_at hl 1 rfl) ?_
        refine lv_aload_n hx hb dX5_hush_18 rfl (lv_at hl 0 rfl) ?_
        refine va_get (D := g.1) (ci := 5) (v := .ref h1) (C := RX5) (T := TX5) (N := 27) hx hb hts zl_X5 hown hK hP 0 rfl rfl 0 (by decide) (hts _ m_f_RX5_7) (fun _ h => h) rfl dX5_hush_19 ?_
        refine lv_bipush (v := 48) hx hb dX5_hush_22 (by decide) ?_
        refine lv_iload_n hx hb dX5_hush_24 rfl (lv_at hl 2 rfl) ?_
        refine lv_iadd hx hb dX5_hush_25 ?_
        refine lv_topi (fun y2 ey2 => ?_)
        have qy2_0 : y2.toInt = 48 + v2_0.toInt := zi_add ey2 (rfl) (rfl) (by omega) (by omega)
        refine va_iald (D := g.1) hx hb hK hP 1 0 rfl rfl (vp_in_iff.mpr ⟨by omega, by omega⟩) dX5_hush_26 ?_
        refine lv_topi (fun y3 ey3 => ?_)
        have qy3_0 : y3.toInt = (G0_0 y2.toNatClampNeg).toInt := congrArg Int32.toInt ey3
        refine lv_if_ne (tgt := 44) hx hb dX5_hush_27 (by decide) (fun c_2 => ?_) (fun c_2 => ?_)
        · have i_2 : y3.toInt ≠ 0 := z_ne (rfl) (rfl) c_2
          refine lv_iconst (v := 1) hx hb dX5_hush_44 (by decide) ?_
          refine lv_goto (tgt := 49) hx hb dX5_hush_45 (by decide) ?_
          refine lv_iadd hx hb dX5_hush_49 ?_
          refine lv_topi (fun y4 ey4 => ?_)
          refine lv_istore_n (lv' := [(1, .int y4), (0, .ref h0), (2, .int v2_0)]) hx hb dX5_hush_50 rfl hl (by decide) rfl (fun ls hl => ?_)
          refine lv_aload_n hx hb dX5_hush_51 rfl (lv_at hl 1 rfl) ?_
          refine va_get (D := g.1) (ci := 5) (v := .ref h1) (C := RX5) (T := TX5) (N := 27) hx hb hts zl_X5 hown hK hP 0 rfl rfl 0 (by decide) (hts _ m_f_RX5_7) (fun _ h => h) rfl dX5_hush_52 ?_
          refine lv_bipush (v := 48) hx hb dX5_hush_55 (by decide) ?_
          refine lv_iload_n hx hb dX5_hush_57 rfl (lv_at hl 2 rfl) ?_
          refine lv_iadd hx hb dX5_hush_58 ?_
          refine lv_topi (fun y5 ey5 => ?_)
          have qy5_0 : y5.toInt = 48 + v2_0.toInt := zi_add ey5 (rfl) (rfl) (by omega) (by omega)
          refine lv_iconst (v := 0) hx hb dX5_hush_59 (by decide) ?_
          refine va_iast (D := g.1) hx hb hK hP hD hS 1 0 rfl rfl (vp_in_iff.mpr ⟨by omega, by omega⟩) dX5_hush_60 (fun H locs hP hD hS => ?_)
          have hP : va_P g.1 vwCl [(h0, .inr (5, [.ref h1, .int f0, .ref h2, .int f1, .int f2, .ref h3, .ref h4, .ref h5, .ref h6, .int f3, .ref h7, .ref h8, .ref h9, .int f4, .ref h10, .ref h11, .ref h12, .ref h13, .ref h14, .ref h15, .ref h16, .ref h17, .ref h18, .ref h19, .ref h20, .ref h21, .ref h22])), (h1, .inl (zI g, 180, .inl (upd G0_0 y5.toNatClampNeg 0)))] H := hP
          have hD : va_D A [(h0, .inr (5, [.ref h1, .int f0, .ref h2, .int f1, .int f2, .ref h3, .ref h4, .ref h5, .ref h6, .int f3, .ref h7, .ref h8, .ref h9, .int f4, .ref h10, .ref h11, .ref h12, .ref h13, .ref h14, .ref h15, .ref h16, .ref h17, .ref h18, .ref h19, .ref h20, .ref h21, .ref h22])), (h1, .inl (zI g, 180, .inl (upd G0_0 y5.toNatClampNeg 0)))] := hD
          have hI6 : iW K B C (upd G0_0 y5.toNatClampNeg 0) := iW_put (i := y5) (a := y5.toInt) hG0_0 (rfl) (by omega) (by omega) (by omega) (by omega) (by omega) (by omega) (by omega)
          obtain ⟨R7, eR7⟩ : ∃ z : Nat → Int32, z = (upd G0_0 y5.toNatClampNeg 0) := ⟨_, rfl⟩
          rw [← eR7] at hP hD hI6
          refine lv_aload_n hx hb dX5_hush_61 rfl (lv_at hl 1 rfl) ?_
          refine va_get (D := g.1) (ci := 5) (v := .ref h1) (C := RX5) (T := TX5) (N := 27) hx hb hts zl_X5 hown hK hP 0 rfl rfl 0 (by decide) (hts _ m_f_RX5_7) (fun _ h => h) rfl dX5_hush_62 ?_
          refine lv_bipush (v := 68) hx hb dX5_hush_65 (by decide) ?_
          refine lv_iload_n hx hb dX5_hush_67 rfl (lv_at hl 2 rfl) ?_
          refine lv_iadd hx hb dX5_hush_68 ?_
          refine lv_topi (fun y8 ey8 => ?_)
          have qy8_0 : y8.toInt = 68 + v2_0.toInt := zi_add ey8 (rfl) (rfl) (by omega) (by omega)
          refine lv_bipush (v := 99) hx hb dX5_hush_69 (by decide) ?_
          refine va_iast (D := g.1) hx hb hK hP hD hS 1 0 rfl rfl (vp_in_iff.mpr ⟨by omega, by omega⟩) dX5_hush_71 (fun H locs hP hD hS => ?_)
          have hP : va_P g.1 vwCl [(h0, .inr (5, [.ref h1, .int f0, .ref h2, .int f1, .int f2, .ref h3, .ref h4, .ref h5, .ref h6, .int f3, .ref h7, .ref h8, .ref h9, .int f4, .ref h10, .ref h11, .ref h12, .ref h13, .ref h14, .ref h15, .ref h16, .ref h17, .ref h18, .ref h19, .ref h20, .ref h21, .ref h22])), (h1, .inl (zI g, 180, .inl (upd R7 y8.toNatClampNeg 99)))] H := hP
          have hD : va_D A [(h0, .inr (5, [.ref h1, .int f0, .ref h2, .int f1, .int f2, .ref h3, .ref h4, .ref h5, .ref h6, .int f3, .ref h7, .ref h8, .ref h9, .int f4, .ref h10, .ref h11, .ref h12, .ref h13, .ref h14, .ref h15, .ref h16, .ref h17, .ref h18, .ref h19, .ref h20, .ref h21, .ref h22])), (h1, .inl (zI g, 180, .inl (upd R7 y8.toNatClampNeg 99)))] := hD
          have hI9 : iW K B C (upd R7 y8.toNatClampNeg 99) := iW_put (i := y8) (a := y8.toInt) hI6 (rfl) (by omega) (by omega) (by omega) (by omega) (by omega) (by omega) (by omega)
          obtain ⟨R10, eR10⟩ : ∃ z : Nat → Int32, z = (upd R7 y8.toNatClampNeg 99) := ⟨_, rfl⟩
          rw [← eR10] at hP hD hI9
          obtain ⟨y11, ey11⟩ : ∃ z : Int32, z = v2_0 + 1 := ⟨_, rfl⟩
          have qy11 : y11.toInt = v2_0.toInt + 1 := zi_add ey11 (rfl) rfl (by omega) (by omega)
          refine lv_iinc (v := y11) (lv' := [(2, .int y11), (1, .int y4), (0, .ref h0)]) hx hb dX5_hush_72 hl (k := 2) rfl ey11.symm (by decide) rfl (fun ls hl => ?_)
          refine lv_goto (tgt := 4) hx hb dX5_hush_75 (by decide) ?_
          exact ih1 y4 y11 R10 hI9 (by omega) (by omega) (by omega) _ _ hP hD hS ls (lv_sub hl [2, 1, 0] rfl)
        · have i_2 : y3.toInt = 0 := z_eq (rfl) (rfl) c_2
          refine lv_aload_n hx hb dX5_hush_30 rfl (lv_at hl 0 rfl) ?_
          refine va_get (D := g.1) (ci := 5) (v := .ref h1) (C := RX5) (T := TX5) (N := 27) hx hb hts zl_X5 hown hK hP 0 rfl rfl 0 (by decide) (hts _ m_f_RX5_7) (fun _ h => h) rfl dX5_hush_31 ?_
          refine lv_bipush (v := 68) hx hb dX5_hush_34 (by decide) ?_
          refine lv_iload_n hx hb dX5_hush_36 rfl (lv_at hl 2 rfl) ?_
          refine lv_iadd hx hb dX5_hush_37 ?_
          refine lv_topi (fun y12 ey12 => ?_)
          have qy12_0 : y12.toInt = 68 + v2_0.toInt := zi_add ey12 (rfl) (rfl) (by omega) (by omega)
          refine va_iald (D := g.1) hx hb hK hP 1 0 rfl rfl (vp_in_iff.mpr ⟨by omega, by omega⟩) dX5_hush_38 ?_
          refine lv_topi (fun y13 ey13 => ?_)
          have qy13_0 : y13.toInt = (G0_0 y12.toNatClampNeg).toInt := congrArg Int32.toInt ey13
          refine lv_bipush (v := 99) hx hb dX5_hush_39 (by decide) ?_
          refine lv_icmp_eq (tgt := 48) hx hb dX5_hush_41 (by decide) (fun c_3 => ?_) (fun c_3 => ?_)
          · have i_3 : y13.toInt = 99 := z_eq (rfl) (rfl) c_3
            refine lv_iconst (v := 0) hx hb dX5_hush_48 (by decide) ?_
            refine lv_iadd hx hb dX5_hush_49 ?_
            have := z_rng v1_0
            refine lv_topi (fun y14 ey14 => ?_)
            have qy14_0 : y14.toInt = v1_0.toInt + 0 := zi_add ey14 (rfl) (rfl) (by omega) (by omega)
            refine lv_istore_n (lv' := [(1, .int y14), (0, .ref h0), (2, .int v2_0)]) hx hb dX5_hush_50 rfl hl (by decide) rfl (fun ls hl => ?_)
            refine lv_aload_n hx hb dX5_hush_51 rfl (lv_at hl 1 rfl) ?_
            refine va_get (D := g.1) (ci := 5) (v := .ref h1) (C := RX5) (T := TX5) (N := 27) hx hb hts zl_X5 hown hK hP 0 rfl rfl 0 (by decide) (hts _ m_f_RX5_7) (fun _ h => h) rfl dX5_hush_52 ?_
            refine lv_bipush (v := 48) hx hb dX5_hush_55 (by decide) ?_
            refine lv_iload_n hx hb dX5_hush_57 rfl (lv_at hl 2 rfl) ?_
            refine lv_iadd hx hb dX5_hush_58 ?_
            refine lv_topi (fun y15 ey15 => ?_)
            have qy15_0 : y15.toInt = 48 + v2_0.toInt := zi_add ey15 (rfl) (rfl) (by omega) (by omega)
            refine lv_iconst (v := 0) hx hb dX5_hush_59 (by decide) ?_
            refine va_iast (D := g.1) hx hb hK hP hD hS 1 0 rfl rfl (vp_in_iff.mpr ⟨by omega, by omega⟩) dX5_hush_60 (fun H locs hP hD hS => ?_)
            have hP : va_P g.1 vwCl [(h0, .inr (5, [.ref h1, .int f0, .ref h2, .int f1, .int f2, .ref h3, .ref h4, .ref h5, .ref h6, .int f3, .ref h7, .ref h8, .ref h9, .int f4, .ref h10, .ref h11, .ref h12, .ref h13, .ref h14, .ref h15, .ref h16, .ref h17, .ref h18, .ref h19, .ref h20, .ref h21, .ref h22])), (h1, .inl (zI g, 180, .inl (upd G0_0 y15.toNatClampNeg 0)))] H := hP
            have hD : va_D A [(h0, .inr (5, [.ref h1, .int f0, .ref h2, .int f1, .int f2, .ref h3, .ref h4, .ref h5, .ref h6, .int f3, .ref h7, .ref h8, .ref h9, .int f4, .ref h10, .ref h11, .ref h12, .ref h13, .ref h14, .ref h15, .ref h16, .ref h17, .ref h18, .ref h19, .ref h20, .ref h21, .ref h22])), (h1, .inl (zI g, 180, .inl (upd G0_0 y15.toNatClampNeg 0)))] := hD
            have hI16 : iW K B C (upd G0_0 y15.toNatClampNeg 0) := iW_put (i := y15) (a := y15.toInt) hG0_0 (rfl) (by omega) (by omega) (by omega) (by omega) (by omega) (by omega) (by omega)
            obtain ⟨R17, eR17⟩ : ∃ z : Nat → Int32, z = (upd G0_0 y15.toNatClampNeg 0) := ⟨_, rfl⟩
            rw [← eR17] at hP hD hI16
            refine lv_aload_n hx hb dX5_hush_61 rfl (lv_at hl 1 rfl) ?_
            refine va_get (D := g.1) (ci := 5) (v := .ref h1) (C := RX5) (T := TX5) (N := 27) hx hb hts zl_X5 hown hK hP 0 rfl rfl 0 (by decide) (hts _ m_f_RX5_7) (fun _ h => h) rfl dX5_hush_62 ?_
            refine lv_bipush (v := 68) hx hb dX5_hush_65 (by decide) ?_
            refine lv_iload_n hx hb dX5_hush_67 rfl (lv_at hl 2 rfl) ?_
            refine lv_iadd hx hb dX5_hush_68 ?_
            refine lv_topi (fun y18 ey18 => ?_)
            have qy18_0 : y18.toInt = 68 + v2_0.toInt := zi_add ey18 (rfl) (rfl) (by omega) (by omega)
            refine lv_bipush (v := 99) hx hb dX5_hush_69 (by decide) ?_
            refine va_iast (D := g.1) hx hb hK hP hD hS 1 0 rfl rfl (vp_in_iff.mpr ⟨by omega, by omega⟩) dX5_hush_71 (fun H locs hP hD hS => ?_)
            have hP : va_P g.1 vwCl [(h0, .inr (5, [.ref h1, .int f0, .ref h2, .int f1, .int f2, .ref h3, .ref h4, .ref h5, .ref h6, .int f3, .ref h7, .ref h8, .ref h9, .int f4, .ref h10, .ref h11, .ref h12, .ref h13, .ref h14, .ref h15, .ref h16, .ref h17, .ref h18, .ref h19, .ref h20, .ref h21, .ref h22])), (h1, .inl (zI g, 180, .inl (upd R17 y18.toNatClampNeg 99)))] H := hP
            have hD : va_D A [(h0, .inr (5, [.ref h1, .int f0, .ref h2, .int f1, .int f2, .ref h3, .ref h4, .ref h5, .ref h6, .int f3, .ref h7, .ref h8, .ref h9, .int f4, .ref h10, .ref h11, .ref h12, .ref h13, .ref h14, .ref h15, .ref h16, .ref h17, .ref h18, .ref h19, .ref h20, .ref h21, .ref h22])), (h1, .inl (zI g, 180, .inl (upd R17 y18.toNatClampNeg 99)))] := hD
            have hI19 : iW K B C (upd R17 y18.toNatClampNeg 99) := iW_put (i := y18) (a := y18.toInt) hI16 (rfl) (by omega) (by omega) (by omega) (by omega) (by omega) (by omega) (by omega)
            obtain ⟨R20, eR20⟩ : ∃ z : Nat → Int32, z = (upd R17 y18.toNatClampNeg 99) := ⟨_, rfl⟩
            rw [← eR20] at hP hD hI19
            obtain ⟨y21, ey21⟩ : ∃ z : Int32, z = v2_0 + 1 := ⟨_, rfl⟩
            have qy21 : y21.toInt = v2_0.toInt + 1 := zi_add ey21 (rfl) rfl (by omega) (by omega)
            refine lv_iinc (v := y21) (lv' := [(2, .int y21), (1, .int y14), (0, .ref h0)]) hx hb dX5_hush_72 hl (k := 2) rfl ey21.symm (by decide) rfl (fun ls hl => ?_)
            refine lv_goto (tgt := 4) hx hb dX5_hush_75 (by decide) ?_
            exact ih1 y14 y21 R20 hI19 (by omega) (by omega) (by omega) _ _ hP hD hS ls (lv_sub hl [2, 1, 0] rfl)
          · have i_3 : y13.toInt ≠ 99 := z_ne (rfl) (rfl) c_3
            refine lv_iconst (v := 1) hx hb dX5_hush_44 (by decide) ?_
            refine lv_goto (tgt := 49) hx hb dX5_hush_45 (by decide) ?_
            refine lv_iadd hx hb dX5_hush_49 ?_
            refine lv_topi (fun y22 ey22 => ?_)
            refine lv_istore_n (lv' := [(1, .int y22), (0, .ref h0), (2, .int v2_0)]) hx hb dX5_hush_50 rfl hl (by decide) rfl (fun ls hl => ?_)
            refine lv_aload_n hx hb dX5_hush_51 rfl (lv_at hl 1 rfl) ?_
            refine va_get (D := g.1) (ci := 5) (v := .ref h1) (C := RX5) (T := TX5) (N := 27) hx hb hts zl_X5 hown hK hP 0 rfl rfl 0 (by decide) (hts _ m_f_RX5_7) (fun _ h => h) rfl dX5_hush_52 ?_
            refine lv_bipush (v := 48) hx hb dX5_hush_55 (by decide) ?_
            refine lv_iload_n hx hb dX5_hush_57 rfl (lv_at hl 2 rfl) ?_
            refine lv_iadd hx hb dX5_hush_58 ?_
            refine lv_topi (fun y23 ey23 => ?_)
            have qy23_0 : y23.toInt = 48 + v2_0.toInt := zi_add ey23 (rfl) (rfl) (by omega) (by omega)
            refine lv_iconst (v := 0) hx hb dX5_hush_59 (by decide) ?_
            refine va_iast (D := g.1) hx hb hK hP hD hS 1 0 rfl rfl (vp_in_iff.mpr ⟨by omega, by omega⟩) dX5_hush_60 (fun H locs hP hD hS => ?_)
            have hP : va_P g.1 vwCl [(h0, .inr (5, [.ref h1, .int f0, .ref h2, .int f1, .int f2, .ref h3, .ref h4, .ref h5, .ref h6, .int f3, .ref h7, .ref h8, .ref h9, .int f4, .ref h10, .ref h11, .ref h12, .ref h13, .ref h14, .ref h15, .ref h16, .ref h17, .ref h18, .ref h19, .ref h20, .ref h21, .ref h22])), (h1, .inl (zI g, 180, .inl (upd G0_0 y23.toNatClampNeg 0)))] H := hP
            have hD : va_D A [(h0, .inr (5, [.ref h1, .int f0, .ref h2, .int f1, .int f2, .ref h3, .ref h4, .ref h5, .ref h6, .int f3, .ref h7, .ref h8, .ref h9, .int f4, .ref h10, .ref h11, .ref h12, .ref h13, .ref h14, .ref h15, .ref h16, .ref h17, .ref h18, .ref h19, .ref h20, .ref h21, .ref h22])), (h1, .inl (zI g, 180, .inl (upd G0_0 y23.toNatClampNeg 0)))] := hD
            have hI24 : iW K B C (upd G0_0 y23.toNatClampNeg 0) := iW_put (i := y23) (a := y23.toInt) hG0_0 (rfl) (by omega) (by omega) (by omega) (by omega) (by omega) (by omega) (by omega)
            obtain ⟨R25, eR25⟩ : ∃ z : Nat → Int32, z = (upd G0_0 y23.toNatClampNeg 0) := ⟨_, rfl⟩
            rw [← eR25] at hP hD hI24
            refine lv_aload_n hx hb dX5_hush_61 rfl (lv_at hl 1 rfl) ?_
            refine va_get (D := g.1) (ci := 5) (v := .ref h1) (C := RX5) (T := TX5) (N := 27) hx hb hts zl_X5 hown hK hP 0 rfl rfl 0 (by decide) (hts _ m_f_RX5_7) (fun _ h => h) rfl dX5_hush_62 ?_
            refine lv_bipush (v := 68) hx hb dX5_hush_65 (by decide) ?_
            refine lv_iload_n hx hb dX5_hush_67 rfl (lv_at hl 2 rfl) ?_
            refine lv_iadd hx hb dX5_hush_68 ?_
            refine lv_topi (fun y26 ey26 => ?_)
            have qy26_0 : y26.toInt = 68 + v2_0.toInt := zi_add ey26 (rfl) (rfl) (by omega) (by omega)
            refine lv_bipush (v := 99) hx hb dX5_hush_69 (by decide) ?_
            refine va_iast (D := g.1) hx hb hK hP hD hS 1 0 rfl rfl (vp_in_iff.mpr ⟨by omega, by omega⟩) dX5_hush_71 (fun H locs hP hD hS => ?_)
            have hP : va_P g.1 vwCl [(h0, .inr (5, [.ref h1, .int f0, .ref h2, .int f1, .int f2, .ref h3, .ref h4, .ref h5, .ref h6, .int f3, .ref h7, .ref h8, .ref h9, .int f4, .ref h10, .ref h11, .ref h12, .ref h13, .ref h14, .ref h15, .ref h16, .ref h17, .ref h18, .ref h19, .ref h20, .ref h21, .ref h22])), (h1, .inl (zI g, 180, .inl (upd R25 y26.toNatClampNeg 99)))] H := hP
            have hD : va_D A [(h0, .inr (5, [.ref h1, .int f0, .ref h2, .int f1, .int f2, .ref h3, .ref h4, .ref h5, .ref h6, .int f3, .ref h7, .ref h8, .ref h9, .int f4, .ref h10, .ref h11, .ref h12, .ref h13, .ref h14, .ref h15, .ref h16, .ref h17, .ref h18, .ref h19, .ref h20, .ref h21, .ref h22])), (h1, .inl (zI g, 180, .inl (upd R25 y26.toNatClampNeg 99)))] := hD
            have hI27 : iW K B C (upd R25 y26.toNatClampNeg 99) := iW_put (i := y26) (a := y26.toInt) hI24 (rfl) (by omega) (by omega) (by omega) (by omega) (by omega) (by omega) (by omega)
            obtain ⟨R28, eR28⟩ : ∃ z : Nat → Int32, z = (upd R25 y26.toNatClampNeg 99) := ⟨_, rfl⟩
            rw [← eR28] at hP hD hI27
            obtain ⟨y29, ey29⟩ : ∃ z : Int32, z = v2_0 + 1 := ⟨_, rfl⟩
            have qy29 : y29.toInt = v2_0.toInt + 1 := zi_add ey29 (rfl) rfl (by omega) (by omega)
            refine lv_iinc (v := y29) (lv' := [(2, .int y29), (1, .int y22), (0, .ref h0)]) hx hb dX5_hush_72 hl (k := 2) rfl ey29.symm (by decide) rfl (fun ls hl => ?_)
            refine lv_goto (tgt := 4) hx hb dX5_hush_75 (by decide) ?_
            exact ih1 y22 y29 R28 hI27 (by omega) (by omega) (by omega) _ _ hP hD hS ls (lv_sub hl [2, 1, 0] rfl)
  have : (0 : Int32).toInt = 0 := rfl
  exact loop4_0 ((20 - 0 : Int).toNat + 1) (0 : Int32) (0 : Int32) Z0 hF_Z0 (by omega) (by omega) (by omega) _ _ hP hD hS ls (lv_sub hl [2, 1, 0] rfl)
set_option maxHeartbeats 8000000 in
set_option maxRecDepth 100000 in
theorem gX5_best (l : Launch) (g : zG) (K : Prop) (B C : zBk) (hB : bOk B) (h0 h1 h2 h3 h4 h5 h6 h7 h8 h9 h10 h11 h12 h13 h14 h15 h16 h17 h18 h19 h20 h21 h22 : Nat) (sz : Nat) (p1 : Int32) (f0 : Int32) (f1 : Int32) (f2 : Int32) (f3 : Int32) (f4 : Int32) (Z0 : Nat → Int32) (Z4 : Nat → Int32) (Z5 : Nat → Int32) (Z6 : Nat → Int32) (Z7 : Nat → Int32) (Z8 : Nat → Int32) (Z9 : Nat → Int32) (Z10 : Nat → Int32) (Z11 : Nat → Int32) (Z12 : Nat → Int32) (Z13 : Nat → Int32) (Z14 : Nat → Int32) (Z15 : Nat → Int32) (hf_f1 : 0 ≤ f1.toInt ∧ f1.toInt ≤ 60) (hf_f2 : 0 ≤ f2.toInt ∧ f2.toInt ≤ 60) (hf_f3 : 0 ≤ f3.toInt ∧ f3.toInt ≤ 31) (hf_f4 : 0 ≤ f4.toInt ∧ f4.toInt ≤ 1000) (hF_Z0 : iW K B C Z0) (hF_Z4 : iPerm Z4) (hF_Z5 : iMa Z5) (hF_Z6 : iPu Z6) (hF_Z7 : iRo Z7) (hF_Z8 : iGa Z8) : Met l yX5_best (.code yX5_best cX5_best 6 (some .int) :: zBig) ({ frames := 5, cells := 0, slots := 0, locals := 124 }) (va_Pc [.ref h0, .int p1] (zPre g [(h0, .inr (5, [.ref h1, .int f0, .ref h2, .int f1, .int f2, .ref h3, .ref h4, .ref h5, .ref h6, .int f3, .ref h7, .ref h8, .ref h9, .int f4, .ref h10, .ref h11, .ref h12, .ref h13, .ref h14, .ref h15, .ref h16, .ref h17, .ref h18, .ref h19, .ref h20, .ref h21, .ref h22])), (h1, .inl (zI g, 180, .inl Z0)), (h5, .inl (zI g, 6, .inl Z4)), (h6, .inl (zI g, 5, .inl Z5)), (h7, .inl (zI g, 5, .inl Z6)), (h8, .inl (zI g, 5, .inl Z7)), (h9, .inl (zI g, 5, .inl Z8)), (h10, .inl (zI g, 6, .inl Z9)), (h11, .inl (zI g, 6, .inl Z10)), (h12, .inl (zI g, 6, .inl Z11)), (h13, .inl (zI g, 6, .inl Z12)), (h14, .inl (zI g, 6, .inl Z13)), (h15, .inl (zI g, 6, .inl Z14)), (h16, .inl (zI g, 6, .inl Z15))] sz)) (va_Qi (fun (r : Int32) (u : Int32 × Int32 × (Nat → Int32) × (Nat → Int32) × (Nat → Int32) × (Nat → Int32) × (Nat → Int32) × (Nat → Int32) × (Nat → Int32) × (Nat → Int32) × (Nat → Int32) × (Nat → Int32) × (Nat → Int32) × (Nat → Int32)) => (r.toInt = zAbe B.n p1.toInt (zBg B.L B.n B.S B.V (zRw B.n B.M) (zIv B.K) (zRw B.n B.P) B.lots.toNat p1.toInt)) ∧ (0 ≤ u.1.toInt ∧ u.1.toInt ≤ 31) ∧ (0 ≤ u.2.1.toInt ∧ u.2.1.toInt ≤ 1000) ∧ iPerm u.2.2.1 ∧ iMa u.2.2.2.1 ∧ iPu u.2.2.2.2.1 ∧ iRo u.2.2.2.2.2.1 ∧ iGa u.2.2.2.2.2.2.1) (zPost g (fun u : Int32 × Int32 × (Nat → Int32) × (Nat → Int32) × (Nat → Int32) × (Nat → Int32) × (Nat → Int32) × (Nat → Int32) × (Nat → Int32) × (Nat → Int32) × (Nat → Int32) × (Nat → Int32) × (Nat → Int32) × (Nat → Int32) => [(h0, .inr (5, [.ref h1, .int f0, .ref h2, .int f1, .int f2, .ref h3, .ref h4, .ref h5, .ref h6, .int u.1, .ref h7, .ref h8, .ref h9, .int u.2.1, .ref h10, .ref h11, .ref h12, .ref h13, .ref h14, .ref h15, .ref h16, .ref h17, .ref h18, .ref h19, .ref h20, .ref h21, .ref h22])), (h1, .inl (zI g, 180, .inl Z0)), (h5, .inl (zI g, 6, .inl u.2.2.1)), (h6, .inl (zI g, 5, .inl u.2.2.2.1)), (h7, .inl (zI g, 5, .inl u.2.2.2.2.1)), (h8, .inl (zI g, 5, .inl u.2.2.2.2.2.1)), (h9, .inl (zI g, 5, .inl u.2.2.2.2.2.2.1)), (h10, .inl (zI g, 6, .inl u.2.2.2.2.2.2.2.1)), (h11, .inl (zI g, 6, .inl u.2.2.2.2.2.2.2.2.1)), (h12, .inl (zI g, 6, .inl u.2.2.2.2.2.2.2.2.2.1)), (h13, .inl (zI g, 6, .inl u.2.2.2.2.2.2.2.2.2.2.1)), (h14, .inl (zI g, 6, .inl u.2.2.2.2.2.2.2.2.2.2.2.1)), (h15, .inl (zI g, 6, .inl u.2.2.2.2.2.2.2.2.2.2.2.2.1)), (h16, .inl (zI g, 6, .inl u.2.2.2.2.2.2.2.2.2.2.2.2.2))]) (va_A [(h0, .inr (5, [.ref h1, .int f0, .ref h2, .int f1, .int f2, .ref h3, .ref h4, .ref h5, .ref h6, .int f3, .ref h7, .ref h8, .ref h9, .int f4, .ref h10, .ref h11, .ref h12, .ref h13, .ref h14, .ref h15, .ref h16, .ref h17, .ref h18, .ref h19, .ref h20, .ref h21, .ref h22])), (h1, .inl (zI g, 180, .inl Z0)), (h5, .inl (zI g, 6, .inl Z4)), (h6, .inl (zI g, 5, .inl Z5)), (h7, .inl (zI g, 5, .inl Z6)), (h8, .inl (zI g, 5, .inl Z7)), (h9, .inl (zI g, 5, .inl Z8)), (h10, .inl (zI g, 6, .inl Z9)), (h11, .inl (zI g, 6, .inl Z10)), (h12, .inl (zI g, 6, .inl Z11)), (h13, .inl (zI g, 6, .inl Z12)), (h14, .inl (zI g, 6, .inl Z13)), (h15, .inl (zI g, 6, .inl Z14)), (h16, .inl (zI g, 6, .inl Z15))] sz)) (va_A [(h0, .inr (5, [.ref h1, .int f0, .ref h2, .int f1, .int f2, .ref h3, .ref h4, .ref h5, .ref h6, .int f3, .ref h7, .ref h8, .ref h9, .int f4, .ref h10, .ref h11, .ref h12, .ref h13, .ref h14, .ref h15, .ref h16, .ref h17, .ref h18, .ref h19, .ref h20, .ref h21, .ref h22])), (h1, .inl (zI g, 180, .inl Z0)), (h5, .inl (zI g, 6, .inl Z4)), (h6, .inl (zI g, 5, .inl Z5)), (h7, .inl (zI g, 5, .inl Z6)), (h8, .inl (zI g, 5, .inl Z7)), (h9, .inl (zI g, 5, .inl Z8)), (h10, .inl (zI g, 6, .inl Z9)), (h11, .inl (zI g, 6, .inl Z10)), (h12, .inl (zI g, 6, .inl Z11)), (h13, .inl (zI g, 6, .inl Z12)), (h14, .inl (zI g, 6, .inl Z13)), (h15, .inl (zI g, 6, .inl Z14)), (h16, .inl (zI g, 6, .inl Z15))] sz)) 0 0 (va_A [(h0, .inr (5, [.ref h1, .int f0, .ref h2, .int f1, .int f2, .ref h3, .ref h4, .ref h5, .ref h6, .int f3, .ref h7, .ref h8, .ref h9, .int f4, .ref h10, .ref h11, .ref h12, .ref h13, .ref h14, .ref h15, .ref h16, .ref h17, .ref h18, .ref h19, .ref h20, .ref h21, .ref h22])), (h1, .inl (zI g, 180, .inl Z0)), (h5, .inl (zI g, 6, .inl Z4)), (h6, .inl (zI g, 5, .inl Z5)), (h7, .inl (zI g, 5, .inl Z6)), (h8, .inl (zI g, 5, .inl Z7)), (h9, .inl (zI g, 5, .inl Z8)), (h10, .inl (zI g, 6, .inl Z9)), (h11, .inl (zI g, 6, .inl Z10)), (h12, .inl (zI g, 6, .inl Z11)), (h13, .inl (zI g, 6, .inl Z12)), (h14, .inl (zI g, 6, .inl Z13)), (h15, .inl (zI g, 6, .inl Z14)), (h16, .inl (zI g, 6, .inl Z15))] sz) := by
  refine zMetI rfl (Nat.le_of_ble_eq_true rfl) ?_
  intro p e s m args below meth c A ls hx hb hml hr hlocks hin hown hts hK hN hZ hP hD hA hS hAe hl
  have hown : s.vm.findClass RX5 = some m.cls := hown
  have hl : lv_has ls 6 [(0, .ref h0), (1, .int p1)] := hl
  have hnr := iW_nr hF_Z0
  have hlr := iW_lr hF_Z0
  refine lv_aload_n hx hb dX5_best_0 rfl (lv_at hl 0 rfl) ?_
  refine lv_iload_n hx hb dX5_best_1 rfl (lv_at hl 1 rfl) ?_
  refine z_calli (wr := [(h5, .inl (zI g, 6, .inl Z4)), (h6, .inl (zI g, 5, .inl Z5)), (h7, .inl (zI g, 5, .inl Z6)), (h8, .inl (zI g, 5, .inl Z7)), (h9, .inl (zI g, 5, .inl Z8)), (h10, .inl (zI g, 6, .inl Z9)), (h11, .inl (zI g, 6, .inl Z10)), (h12, .inl (zI g, 6, .inl Z11)), (h13, .inl (zI g, 6, .inl Z12)), (h14, .inl (zI g, 6, .inl Z13)), (h15, .inl (zI g, 6, .inl Z14)), (h16, .inl (zI g, 6, .inl Z15))]) hP hD hS hA [0, 1] [2, 3, 4, 5, 6, 7, 8, 9, 10, 11, 12, 13] (by decide) rfl rfl (by decide) (va_runV (As := [.int p1]) (rest := []) ⟨hx, hb, hml, hown, hts⟩ (gX5_isBuyer l g K B C hB h0 h1 h2 h3 h4 h5 h6 h7 h8 h9 h10 h11 h12 h13 h14 h15 h16 h17 h18 h19 h20 h21 h22 s.heap.size p1 f0 f1 f2 f3 f4 Z0 (by constructor <;> omega) (by constructor <;> omega) (by constructor <;> omega) (by constructor <;> omega) hF_Z0) ⟨callB_of 1 hts (zGood m_o_yX5_isBuyer) rfl rfl rfl (hts _ m_z_RX5) (hts _ m_m_RX5_92) ⟨by decide +kernel, by decide +kernel, by decide +kernel⟩ ⟨Nat.le_of_ble_eq_true rfl, Nat.le_of_ble_eq_true rfl⟩, hts _ m_i_yX5_isBuyer, hts _ m_e_yX5_isBuyer⟩ (zPreV hK hN hZ hP hD hS hA [0, 1] (by decide) rfl rfl 5 0 rfl rfl) rfl rfl hl.1 rfl (lv_room (Nat.le_of_ble_eq_true rfl)) dX5_best_2 ⟨Nat.le_of_ble_eq_true rfl, Nat.le_of_ble_eq_true rfl⟩) (fun r u H locs hw hP hD hS => ?_)
  rcases hw with ⟨i_0, i_1, i_2, rfl⟩ | ⟨i_3, rfl⟩
  · skip
    have i_0 : 0 ≤ p1.toInt := i_0
    have i_1 : p1.toInt ≤ 4 := i_1
    have i_2 : p1.toInt < B.n := i_2
    have hP : va_P g.1 vwCl [(h5, .inl (zI g, 6, .inl Z4)), (h6, .inl (zI g, 5, .inl Z5)), (h7, .inl (zI g, 5, .inl Z6)), (h8, .inl (zI g, 5, .inl Z7)), (h9, .inl (zI g, 5, .inl Z8)), (h10, .inl (zI g, 6, .inl Z9)), (h11, .inl (zI g, 6, .inl Z10)), (h12, .inl (zI g, 6, .inl Z11)), (h13, .inl (zI g, 6, .inl Z12)), (h14, .inl (zI g, 6, .inl Z13)), (h15, .inl (zI g, 6, .inl Z14)), (h16, .inl (zI g, 6, .inl Z15)), (h0, .inr (5, [.ref h1, .int f0, .ref h2, .int f1, .int f2, .ref h3, .ref h4, .ref h5, .ref h6, .int f3, .ref h7, .ref h8, .ref h9, .int f4, .ref h10, .ref h11, .ref h12, .ref h13, .ref h14, .ref h15, .ref h16, .ref h17, .ref h18, .ref h19, .ref h20, .ref h21, .ref h22])), (h1, .inl (zI g, 180, .inl Z0))] H := hP
    have hD : va_D A [(h5, .inl (zI g, 6, .inl Z4)), (h6, .inl (zI g, 5, .inl Z5)), (h7, .inl (zI g, 5, .inl Z6)), (h8, .inl (zI g, 5, .inl Z7)), (h9, .inl (zI g, 5, .inl Z8)), (h10, .inl (zI g, 6, .inl Z9)), (h11, .inl (zI g, 6, .inl Z10)), (h12, .inl (zI g, 6, .inl Z11)), (h13, .inl (zI g, 6, .inl Z12)), (h14, .inl (zI g, 6, .inl Z13)), (h15, .inl (zI g, 6, .inl Z14)), (h16, .inl (zI g, 6, .inl Z15)), (h0, .inr (5, [.ref h1, .int f0, .ref h2, .int f1, .int f2, .ref h3, .ref h4, .ref h5, .ref h6, .int f3, .ref h7, .ref h8, .ref h9, .int f4, .ref h10, .ref h11, .ref h12, .ref h13, .ref h14, .ref h15, .ref h16, .ref h17, .ref h18, .ref h19, .ref h20, .ref h21, .ref h22])), (h1, .inl (zI g, 180, .inl Z0))] := hD
    refine lv_if_ne (tgt := 10) hx hb dX5_best_5 (by decide) (fun _ => ?_) (fun h => absurd h (by decide +kernel))
    refine lv_aload_n hx hb dX5_best_10 rfl (lv_at hl 0 rfl) ?_
    refine lv_iconst (v := 0) hx hb dX5_best_11 (by decide) ?_
    have : (0 : Int32).toInt = 0 := rfl
    refine z_callv (wr := []) hP hD hS hA [12, 13, 0, 1, 2, 3, 4, 5, 6, 7, 8, 9, 10, 11] [] (by decide) rfl rfl (by decide) (va_runV (As := [.int 0]) (rest := []) ⟨hx, hb, hml, hown, hts⟩ (gX5_hold l g K B C hB h0 h1 h2 h3 h4 h5 h6 h7 h8 h9 h10 h11 h12 h13 h14 h15 h16 h17 h18 h19 h20 h21 h22 H.size (0 : Int32) f0 f1 f2 f3 f4 Z0 Z4 Z5 Z6 Z7 Z8 Z9 Z10 Z11 Z12 Z13 Z14 Z15 (by omega) (by omega) (by constructor <;> omega) (by constructor <;> omega) (by constructor <;> omega) (by constructor <;> omega) hF_Z0 hF_Z4 hF_Z5 hF_Z6 hF_Z7 hF_Z8) ⟨callB_of 1 hts (zGood m_o_yX5_hold) rfl rfl rfl (hts _ m_z_RX5) (hts _ m_m_RX5_194) ⟨by decide +kernel, by decide +kernel, by decide +kernel⟩ ⟨Nat.le_of_ble_eq_true rfl, Nat.le_of_ble_eq_true rfl⟩, hts _ m_i_yX5_hold, hts _ m_e_yX5_hold⟩ (zPreV hK hN hZ hP hD hS hA [12, 13, 0, 1, 2, 3, 4, 5, 6, 7, 8, 9, 10, 11] (by decide) rfl rfl 5 12 rfl rfl) rfl rfl hl.1 rfl (lv_room (Nat.le_of_ble_eq_true rfl)) dX5_best_12 ⟨Nat.le_of_ble_eq_true rfl, Nat.le_of_ble_eq_true rfl⟩) (fun u H locs hw hP hD hS => ?_)
    obtain ⟨w0, w1, R2, R3, R4, R5, R6, R7, R8, R9, R10, R11, R12, R13⟩ := u
    obtain ⟨hw, hI14, hI15, hI16, hI17, hI18, hI19, hI20, hI21, hI22, hI23, hI24⟩ := hw
    obtain ⟨hI14a, hI14b⟩ := hI14
    obtain ⟨hI15a, hI15b⟩ := hI15
    have q25_0 := hw
    have q25_0 : w1.toInt = (zSm B.L B.n B.S B.V (zRw B.n B.M) 0 (zIv B.K) (zRw B.n B.P) B.lots.toNat).2.2.2 := q25_0
    have hP : va_P g.1 vwCl [(h0, .inr (5, [.ref h1, .int f0, .ref h2, .int f1, .int f2, .ref h3, .ref h4, .ref h5, .ref h6, .int w0, .ref h7, .ref h8, .ref h9, .int w1, .ref h10, .ref h11, .ref h12, .ref h13, .ref h14, .ref h15, .ref h16, .ref h17, .ref h18, .ref h19, .ref h20, .ref h21, .ref h22])), (h1, .inl (zI g, 180, .inl Z0)), (h5, .inl (zI g, 6, .inl R2)), (h6, .inl (zI g, 5, .inl R3)), (h7, .inl (zI g, 5, .inl R4)), (h8, .inl (zI g, 5, .inl R5)), (h9, .inl (zI g, 5, .inl R6)), (h10, .inl (zI g, 6, .inl R7)), (h11, .inl (zI g, 6, .inl R8)), (h12, .inl (zI g, 6, .inl R9)), (h13, .inl (zI g, 6, .inl R10)), (h14, .inl (zI g, 6, .inl R11)), (h15, .inl (zI g, 6, .inl R12)), (h16, .inl (zI g, 6, .inl R13))] H := hP
    have hD : va_D A [(h0, .inr (5, [.ref h1, .int f0, .ref h2, .int f1, .int f2, .ref h3, .ref h4, .ref h5, .ref h6, .int w0, .ref h7, .ref h8, .ref h9, .int w1, .ref h10, .ref h11, .ref h12, .ref h13, .ref h14, .ref h15, .ref h16, .ref h17, .ref h18, .ref h19, .ref h20, .ref h21, .ref h22])), (h1, .inl (zI g, 180, .inl Z0)), (h5, .inl (zI g, 6, .inl R2)), (h6, .inl (zI g, 5, .inl R3)), (h7, .inl (zI g, 5, .inl R4)), (h8, .inl (zI g, 5, .inl R5)), (h9, .inl (zI g, 5, .inl R6)), (h10, .inl (zI g, 6, .inl R7)), (h11, .inl (zI g, 6, .inl R8)), (h12, .inl (zI g, 6, .inl R9)), (h13, .inl (zI g, 6, .inl R10)), (h14, .inl (zI g, 6, .inl R11)), (h15, .inl (zI g, 6, .inl R12)), (h16, .inl (zI g, 6, .inl R13))] := hD
    have hI26 : zMb B.n p1.toInt (zRw B.n B.M) R3 := zMb_0 hI17.1 hI17.2
    have ht01 : (zBs (zBg B.L B.n B.S B.V (zRw B.n B.M) (zIv B.K) (zRw B.n B.P) B.lots.toNat p1.toInt) (0 : Int32).toInt.toNat).1 = 0 := rfl
    have ht02 : (zBs (zBg B.L B.n B.S B.V (zRw B.n B.M) (zIv B.K) (zRw B.n B.P) B.lots.toNat p1.toInt) (0 : Int32).toInt.toNat).2 = 0 := rfl
    refine lv_iconst (v := 0) hx hb dX5_best_15 (by decide) ?_
    refine lv_istore_n (lv' := [(2, .int 0), (0, .ref h0), (1, .int p1)]) hx hb dX5_best_16 rfl hl (by decide) rfl (fun ls hl => ?_)
    refine lv_iconst (v := 0) hx hb dX5_best_17 (by decide) ?_
    refine lv_istore_n (lv' := [(3, .int 0), (2, .int 0), (0, .ref h0), (1, .int p1)]) hx hb dX5_best_18 rfl hl (by decide) rfl (fun ls hl => ?_)
    refine lv_iconst (v := 0) hx hb dX5_best_19 (by decide) ?_
    refine lv_istore (lv' := [(4, .int 0), (3, .int 0), (2, .int 0), (0, .ref h0), (1, .int p1)]) hx hb dX5_best_20 hl (by decide) rfl (fun ls hl => ?_)
    have loop22_4 : ∀ (n5 : Nat) (v2_4 : Int32) (v3_4 : Int32) (v4_4 : Int32) (g0_4 : Int32) (g1_4 : Int32) (G2_4 : Nat → Int32) (G3_4 : Nat → Int32) (G4_4 : Nat → Int32) (G5_4 : Nat → Int32) (G6_4 : Nat → Int32) (G7_4 : Nat → Int32) (G8_4 : Nat → Int32) (G9_4 : Nat → Int32) (G10_4 : Nat → Int32) (G11_4 : Nat → Int32) (G12_4 : Nat → Int32) (hg0_4a : 0 ≤ g0_4.toInt) (hg0_4b : g0_4.toInt ≤ 31) (hg1_4a : 0 ≤ g1_4.toInt) (hg1_4b : g1_4.toInt ≤ 1000) (hG9_4 : zMb B.n p1.toInt (zRw B.n B.M) G9_4) (hG10_4 : iPu G10_4) (hG11_4 : iRo G11_4) (hG12_4 : iGa G12_4) (n5_0 : 0 ≤ v4_4.toInt) (n5_1 : v4_4.toInt ≤ 41) (n5_2 : 0 ≤ v2_4.toInt) (n5_3 : v2_4.toInt ≤ 40) (n5_4 : v2_4.toInt = (zBs (zBg B.L B.n B.S B.V (zRw B.n B.M) (zIv B.K) (zRw B.n B.P) B.lots.toNat p1.toInt) v4_4.toInt.toNat).1) (n5_5 : v3_4.toInt = (zBs (zBg B.L B.n B.S B.V (zRw B.n B.M) (zIv B.K) (zRw B.n B.P) B.lots.toNat p1.toInt) v4_4.toInt.toNat).2) (hm5 : 41 - v4_4.toInt < (n5 : Int)) (H : Heap) (locs : List Loc), va_P g.1 vwCl [(h0, .inr (5, [.ref h1, .int f0, .ref h2, .int f1, .int f2, .ref h3, .ref h4, .ref h5, .ref h6, .int g0_4, .ref h7, .ref h8, .ref h9, .int g1_4, .ref h10, .ref h11, .ref h12, .ref h13, .ref h14, .ref h15, .ref h16, .ref h17, .ref h18, .ref h19, .ref h20, .ref h21, .ref h22])), (h1, .inl (zI g, 180, .inl Z0)), (h5, .inl (zI g, 6, .inl R2)), (h6, .inl (zI g, 5, .inl G9_4)), (h7, .inl (zI g, 5, .inl G10_4)), (h8, .inl (zI g, 5, .inl G11_4)), (h9, .inl (zI g, 5, .inl G12_4)), (h10, .inl (zI g, 6, .inl G2_4)), (h11, .inl (zI g, 6, .inl G3_4)), (h12, .inl (zI g, 6, .inl G4_4)), (h13, .inl (zI g, 6, .inl G5_4)), (h14, .inl (zI g, 6, .inl G6_4)), (h15, .inl (zI g, 6, .inl G7_4)), (h16, .inl (zI g, 6, .inl G8_4))] H → va_D A [(h0, .inr (5, [.ref h1, .int f0, .ref h2, .int f1, .int f2, .ref h3, .ref h4, .ref h5, .ref h6, .int g0_4, .ref h7, .ref h8, .ref h9, .int g1_4, .ref h10, .ref h11, .ref h12, .ref h13, .ref h14, .ref h15, .ref h16, .ref h17, .ref h18, .ref h19, .ref h20, .ref h21, .ref h22])), (h1, .inl (zI g, 180, .inl Z0)), (h5, .inl (zI g, 6, .inl R2)), (h6, .inl (zI g, 5, .inl G9_4)), (h7, .inl (zI g, 5, .inl G10_4)), (h8, .inl (zI g, 5, .inl G11_4)), (h9, .inl (zI g, 5, .inl G12_4)), (h10, .inl (zI g, 6, .inl G2_4)), (h11, .inl (zI g, 6, .inl G3_4)), (h12, .inl (zI g, 6, .inl G4_4)), (h13, .inl (zI g, 6, .inl G5_4)), (h14, .inl (zI g, 6, .inl G6_4)), (h15, .inl (zI g, 6, .inl G7_4)), (h16, .inl (zI g, 6, .inl G8_4))] → va_S A s.heap H locs → ∀ (ls : Array Slot), lv_has ls 6 [(0, .ref h0), (1, .int p1), (2, .int v2_4), (3, .int v3_4), (4, .int v4_4)] → W p l e ({ frames := 5, cells := 0, slots := 0, locals := 124 }) s m args below meth c H locs 0 0 (MQ below (va_Qi (fun (r : Int32) (u : Int32 × Int32 × (Nat → Int32) × (Nat → Int32) × (Nat → Int32) × (Nat → Int32) × (Nat → Int32) × (Nat → Int32) × (Nat → Int32) × (Nat → Int32) × (Nat → Int32) × (Nat → Int32) × (Nat → Int32) × (Nat → Int32)) => (r.toInt = zAbe B.n p1.toInt (zBg B.L B.n B.S B.V (zRw B.n B.M) (zIv B.K) (zRw B.n B.P) B.lots.toNat p1.toInt)) ∧ (0 ≤ u.1.toInt ∧ u.1.toInt ≤ 31) ∧ (0 ≤ u.2.1.toInt ∧ u.2.1.toInt ≤ 1000) ∧ iPerm u.2.2.1 ∧ iMa u.2.2.2.1 ∧ iPu u.2.2.2.2.1 ∧ iRo u.2.2.2.2.2.1 ∧ iGa u.2.2.2.2.2.2.1) (zPost g (fun u : Int32 × Int32 × (Nat → Int32) × (Nat → Int32) × (Nat → Int32) × (Nat → Int32) × (Nat → Int32) × (Nat → Int32) × (Nat → Int32) × (Nat → Int32) × (Nat → Int32) × (Nat → Int32) × (Nat → Int32) × (Nat → Int32) => [(h0, .inr (5, [.ref h1, .int f0, .ref h2, .int f1, .int f2, .ref h3, .ref h4, .ref h5, .ref h6, .int u.1, .ref h7, .ref h8, .ref h9, .int u.2.1, .ref h10, .ref h11, .ref h12, .ref h13, .ref h14, .ref h15, .ref h16, .ref h17, .ref h18, .ref h19, .ref h20, .ref h21, .ref h22])), (h1, .inl (zI g, 180, .inl Z0)), (h5, .inl (zI g, 6, .inl u.2.2.1)), (h6, .inl (zI g, 5, .inl u.2.2.2.1)), (h7, .inl (zI g, 5, .inl u.2.2.2.2.1)), (h8, .inl (zI g, 5, .inl u.2.2.2.2.2.1)), (h9, .inl (zI g, 5, .inl u.2.2.2.2.2.2.1)), (h10, .inl (zI g, 6, .inl u.2.2.2.2.2.2.2.1)), (h11, .inl (zI g, 6, .inl u.2.2.2.2.2.2.2.2.1)), (h12, .inl (zI g, 6, .inl u.2.2.2.2.2.2.2.2.2.1)), (h13, .inl (zI g, 6, .inl u.2.2.2.2.2.2.2.2.2.2.1)), (h14, .inl (zI g, 6, .inl u.2.2.2.2.2.2.2.2.2.2.2.1)), (h15, .inl (zI g, 6, .inl u.2.2.2.2.2.2.2.2.2.2.2.2.1)), (h16, .inl (zI g, 6, .inl u.2.2.2.2.2.2.2.2.2.2.2.2.2))]) A) A) args s 0 0 A) (F0 m 22 ls []) := by
      intro n5
      induction n5 with
      | zero => intro v2_4 v3_4 v4_4 g0_4 g1_4 G2_4 G3_4 G4_4 G5_4 G6_4 G7_4 G8_4 G9_4 G10_4 G11_4 G12_4 hg0_4a hg0_4b hg1_4a hg1_4b hG9_4 hG10_4 hG11_4 hG12_4 n5_0 n5_1 n5_2 n5_3 n5_4 n5_5 hm5; exfalso; omega
      | succ n5 ih5 =>
        intro v2_4 v3_4 v4_4 g0_4 g1_4 G2_4 G3_4 G4_4 G5_4 G6_4 G7_4 G8_4 G9_4 G10_4 G11_4 G12_4 hg0_4a hg0_4b hg1_4a hg1_4b hG9_4 hG10_4 hG11_4 hG12_4 n5_0 n5_1 n5_2 n5_3 n5_4 n5_5 hm5 H locs hP hD hS ls hl
        refine lv_iload hx hb dX5_best_22 (lv_at hl 4 rfl) ?_
        refine lv_bipush (v := 40) hx hb dX5_best_24 (by decide) ?_
        refine lv_icmp_gt (tgt := 98) hx hb dX5_best_26 (by decide) (fun c_5 => ?_) (fun c_5 => ?_)
        · have i_5 : 40 < v4_4.toInt := z_lt (rfl) (rfl) c_5
          have hbx : (zBs (zBg B.L B.n B.S B.V (zRw B.n B.M) (zIv B.K) (zRw B.n B.P) B.lots.toNat p1.toInt) 41).1 = (zBs (zBg B.L B.n B.S B.V (zRw B.n B.M) (zIv B.K) (zRw B.n B.P) B.lots.toNat p1.toInt) v4_4.toInt.toNat).1 := by rw [(by omega : v4_4.toInt.toNat = 41)]
          refine lv_iload_n hx hb dX5_best_98 rfl (lv_at hl 2 rfl) ?_
          have hz : zAbe B.n p1.toInt (zBg B.L B.n B.S B.V (zRw B.n B.M) (zIv B.K) (zRw B.n B.P) B.lots.toNat p1.toInt) = v2_4.toInt := by
            unfold zAbe
            rw [if_neg (by omega)] <;> omega
          have hP9 := hP.sub (ws' := [(h0, .inr (5, [.ref h1, .int f0, .ref h2, .int f1, .int f2, .ref h3, .ref h4, .ref h5, .ref h6, .int g0_4, .ref h7, .ref h8, .ref h9, .int g1_4, .ref h10, .ref h11, .ref h12, .ref h13, .ref h14, .ref h15, .ref h16, .ref h17, .ref h18, .ref h19, .ref h20, .ref h21, .ref h22])), (h1, .inl (zI g, 180, .inl Z0)), (h5, .inl (zI g, 6, .inl R2)), (h6, .inl (zI g, 5, .inl G9_4)), (h7, .inl (zI g, 5, .inl G10_4)), (h8, .inl (zI g, 5, .inl G11_4)), (h9, .inl (zI g, 5, .inl G12_4)), (h10, .inl (zI g, 6, .inl G2_4)), (h11, .inl (zI g, 6, .inl G3_4)), (h12, .inl (zI g, 6, .inl G4_4)), (h13, .inl (zI g, 6, .inl G5_4)), (h14, .inl (zI g, 6, .inl G6_4)), (h15, .inl (zI g, 6, .inl G7_4)), (h16, .inl (zI g, 6, .inl G8_4))]) [0, 1, 2, 3, 4, 5, 6, 7, 8, 9, 10, 11, 12, 13] rfl
          have hD9 := hD.sub (ws' := [(h0, .inr (5, [.ref h1, .int f0, .ref h2, .int f1, .int f2, .ref h3, .ref h4, .ref h5, .ref h6, .int g0_4, .ref h7, .ref h8, .ref h9, .int g1_4, .ref h10, .ref h11, .ref h12, .ref h13, .ref h14, .ref h15, .ref h16, .ref h17, .ref h18, .ref h19, .ref h20, .ref h21, .ref h22])), (h1, .inl (zI g, 180, .inl Z0)), (h5, .inl (zI g, 6, .inl R2)), (h6, .inl (zI g, 5, .inl G9_4)), (h7, .inl (zI g, 5, .inl G10_4)), (h8, .inl (zI g, 5, .inl G11_4)), (h9, .inl (zI g, 5, .inl G12_4)), (h10, .inl (zI g, 6, .inl G2_4)), (h11, .inl (zI g, 6, .inl G3_4)), (h12, .inl (zI g, 6, .inl G4_4)), (h13, .inl (zI g, 6, .inl G5_4)), (h14, .inl (zI g, 6, .inl G6_4)), (h15, .inl (zI g, 6, .inl G7_4)), (h16, .inl (zI g, 6, .inl G8_4))]) [0, 1, 2, 3, 4, 5, 6, 7, 8, 9, 10, 11, 12, 13] (by decide) rfl
          exact W.iret (v := v2_4) hx hb hr (fun t ht hW => ⟨⟨v2_4, ⟨g0_4, g1_4, R2, G9_4, G10_4, G11_4, G12_4, G2_4, G3_4, G4_4, G5_4, G6_4, G7_4, G8_4⟩, rfl, ⟨(by first | omega | decide), ⟨show 0 ≤ g0_4.toInt from by omega, show g0_4.toInt ≤ 31 from by omega⟩, ⟨show 0 ≤ g1_4.toInt from by omega, show g1_4.toInt ≤ 1000 from by omega⟩, hI16.1, hG9_4.1, hG10_4, hG11_4, hG12_4⟩, by rw [ht]; exact hP9, hD9⟩, hS.F ht⟩) hS.2.2 dX5_best_99
        · have i_5 : v4_4.toInt ≤ 40 := z_nlt (rfl) (rfl) c_5
          refine lv_aload_n hx hb dX5_best_29 rfl (lv_at hl 0 rfl) ?_
          refine va_get (D := g.1) (ci := 5) (v := .ref h6) (C := RX5) (T := TX5) (N := 27) hx hb hts zl_X5 hown hK hP 0 rfl rfl 8 (by decide) (hts _ m_f_RX5_25) (fun _ h => h) rfl dX5_best_30 ?_
          refine lv_iload_n hx hb dX5_best_33 rfl (lv_at hl 1 rfl) ?_
          refine lv_iload hx hb dX5_best_34 (lv_at hl 4 rfl) ?_
          refine va_iast (D := g.1) hx hb hK hP hD hS 3 0 rfl rfl (vp_in_iff.mpr ⟨by omega, by omega⟩) dX5_best_36 (fun H locs hP hD hS => ?_)
          have hP : va_P g.1 vwCl [(h0, .inr (5, [.ref h1, .int f0, .ref h2, .int f1, .int f2, .ref h3, .ref h4, .ref h5, .ref h6, .int g0_4, .ref h7, .ref h8, .ref h9, .int g1_4, .ref h10, .ref h11, .ref h12, .ref h13, .ref h14, .ref h15, .ref h16, .ref h17, .ref h18, .ref h19, .ref h20, .ref h21, .ref h22])), (h1, .inl (zI g, 180, .inl Z0)), (h5, .inl (zI g, 6, .inl R2)), (h6, .inl (zI g, 5, .inl (upd G9_4 p1.toNatClampNeg v4_4))), (h7, .inl (zI g, 5, .inl G10_4)), (h8, .inl (zI g, 5, .inl G11_4)), (h9, .inl (zI g, 5, .inl G12_4)), (h10, .inl (zI g, 6, .inl G2_4)), (h11, .inl (zI g, 6, .inl G3_4)), (h12, .inl (zI g, 6, .inl G4_4)), (h13, .inl (zI g, 6, .inl G5_4)), (h14, .inl (zI g, 6, .inl G6_4)), (h15, .inl (zI g, 6, .inl G7_4)), (h16, .inl (zI g, 6, .inl G8_4))] H := hP
          have hD : va_D A [(h0, .inr (5, [.ref h1, .int f0, .ref h2, .int f1, .int f2, .ref h3, .ref h4, .ref h5, .ref h6, .int g0_4, .ref h7, .ref h8, .ref h9, .int g1_4, .ref h10, .ref h11, .ref h12, .ref h13, .ref h14, .ref h15, .ref h16, .ref h17, .ref h18, .ref h19, .ref h20, .ref h21, .ref h22])), (h1, .inl (zI g, 180, .inl Z0)), (h5, .inl (zI g, 6, .inl R2)), (h6, .inl (zI g, 5, .inl (upd G9_4 p1.toNatClampNeg v4_4))), (h7, .inl (zI g, 5, .inl G10_4)), (h8, .inl (zI g, 5, .inl G11_4)), (h9, .inl (zI g, 5, .inl G12_4)), (h10, .inl (zI g, 6, .inl G2_4)), (h11, .inl (zI g, 6, .inl G3_4)), (h12, .inl (zI g, 6, .inl G4_4)), (h13, .inl (zI g, 6, .inl G5_4)), (h14, .inl (zI g, 6, .inl G6_4)), (h15, .inl (zI g, 6, .inl G7_4)), (h16, .inl (zI g, 6, .inl G8_4))] := hD
          have hI27 : zMp B.n p1.toInt (zRw B.n B.M) (v4_4.toInt) (upd G9_4 p1.toNatClampNeg v4_4) := zMp_put (i := p1) hG9_4 (i_put (N := 5) (lo := 0) (hi := 40) hG9_4.1 (by omega) (by omega)) (by omega) (by omega) (by omega) (by omega)
          obtain ⟨R28, eR28⟩ : ∃ z : Nat → Int32, z = (upd G9_4 p1.toNatClampNeg v4_4) := ⟨_, rfl⟩
          rw [← eR28] at hP hD hI27
          have hI29 : zRwP B.lots R2 := zRwP_of hI16 (by omega)
          refine lv_aload_n hx hb dX5_best_37 rfl (lv_at hl 0 rfl) ?_
          refine lv_iconst (v := 0) hx hb dX5_best_38 (by decide) ?_
          have : (0 : Int32).toInt = 0 := rfl
          refine z_callv (wr := []) hP hD hS hA [0, 1, 2, 3, 4, 5, 6, 7, 8, 9, 10, 11, 12, 13] [] (by decide) rfl rfl (by decide) (va_runV (As := [.int 0]) (rest := []) ⟨hx, hb, hml, hown, hts⟩ (gX5_goThrough l g K B C hB h0 h1 h2 h3 h4 h5 h6 h7 h8 h9 h10 h11 h12 h13 h14 h15 h16 h17 h18 h19 h20 h21 h22 H.size (0 : Int32) f0 f1 f2 g0_4 g1_4 Z0 R2 R28 G10_4 G11_4 G12_4 G2_4 G3_4 G4_4 G5_4 G6_4 G7_4 G8_4 (by omega) (by omega) (by constructor <;> omega) (by constructor <;> omega) (by constructor <;> omega) (by constructor <;> omega) hF_Z0 hI29 hI27.1 hG10_4 hG11_4 hG12_4) ⟨callB_of 1 hts (zGood m_o_yX5_goThrough) rfl rfl rfl (hts _ m_z_RX5) (hts _ m_m_RX5_191) ⟨by decide +kernel, by decide +kernel, by decide +kernel⟩ ⟨Nat.le_of_ble_eq_true rfl, Nat.le_of_ble_eq_true rfl⟩, hts _ m_i_yX5_goThrough, hts _ m_e_yX5_goThrough⟩ (zPreV hK hN hZ hP hD hS hA [0, 1, 2, 3, 4, 5, 6, 7, 8, 9, 10, 11, 12, 13] (by decide) rfl rfl 5 0 rfl rfl) rfl rfl hl.1 rfl (lv_room (Nat.le_of_ble_eq_true rfl)) dX5_best_39 ⟨Nat.le_of_ble_eq_true rfl, Nat.le_of_ble_eq_true rfl⟩) (fun u H locs hw hP hD hS => ?_)
          obtain ⟨w30, w31, R32, R33, R34, R35, R36, R37, R38, R39, R40, R41⟩ := u
          obtain ⟨hw, hI42, hI43, hI44, hI45, hI46, hI47, hI48, hI49, hI50⟩ := hw
          obtain ⟨hI42a, hI42b⟩ := hI42
          obtain ⟨hI43a, hI43b⟩ := hI43
          have q51_0 := hw
          have q51_0 : w31.toInt = (zSm B.L B.n B.S B.V (zRw B.n R28) 0 (zKr B.K R2) (zRw B.n B.P) B.lots.toNat).2.2.2 := q51_0
          have hP : va_P g.1 vwCl [(h0, .inr (5, [.ref h1, .int f0, .ref h2, .int f1, .int f2, .ref h3, .ref h4, .ref h5, .ref h6, .int w30, .ref h7, .ref h8, .ref h9, .int w31, .ref h10, .ref h11, .ref h12, .ref h13, .ref h14, .ref h15, .ref h16, .ref h17, .ref h18, .ref h19, .ref h20, .ref h21, .ref h22])), (h1, .inl (zI g, 180, .inl Z0)), (h5, .inl (zI g, 6, .inl R2)), (h6, .inl (zI g, 5, .inl R28)), (h7, .inl (zI g, 5, .inl R32)), (h8, .inl (zI g, 5, .inl R33)), (h9, .inl (zI g, 5, .inl R34)), (h10, .inl (zI g, 6, .inl R35)), (h11, .inl (zI g, 6, .inl R36)), (h12, .inl (zI g, 6, .inl R37)), (h13, .inl (zI g, 6, .inl R38)), (h14, .inl (zI g, 6, .inl R39)), (h15, .inl (zI g, 6, .inl R40)), (h16, .inl (zI g, 6, .inl R41))] H := hP
          have hD : va_D A [(h0, .inr (5, [.ref h1, .int f0, .ref h2, .int f1, .int f2, .ref h3, .ref h4, .ref h5, .ref h6, .int w30, .ref h7, .ref h8, .ref h9, .int w31, .ref h10, .ref h11, .ref h12, .ref h13, .ref h14, .ref h15, .ref h16, .ref h17, .ref h18, .ref h19, .ref h20, .ref h21, .ref h22])), (h1, .inl (zI g, 180, .inl Z0)), (h5, .inl (zI g, 6, .inl R2)), (h6, .inl (zI g, 5, .inl R28)), (h7, .inl (zI g, 5, .inl R32)), (h8, .inl (zI g, 5, .inl R33)), (h9, .inl (zI g, 5, .inl R34)), (h10, .inl (zI g, 6, .inl R35)), (h11, .inl (zI g, 6, .inl R36)), (h12, .inl (zI g, 6, .inl R37)), (h13, .inl (zI g, 6, .inl R38)), (h14, .inl (zI g, 6, .inl R39)), (h15, .inl (zI g, 6, .inl R40)), (h16, .inl (zI g, 6, .inl R41))] := hD
          have hsm : zSm B.L B.n B.S B.V (zRw B.n R28) 0 (zKr B.K R2) (zRw B.n B.P) B.lots.toNat = zSm B.L B.n B.S B.V (zRw B.n R28) 0 (zIv B.K) (zRw B.n B.P) B.lots.toNat := zSm_K _ (fun j hj => zKr_id hI16.2 (by omega))
          have hgf : zRw B.n R34 = (zSm B.L B.n B.S B.V (zAt (zRw B.n B.M) p1.toInt v4_4.toInt) 0 (zIv B.K) (zRw B.n B.P) B.lots.toNat).2.2.1 := by
            rw [← hI27.2, ← hsm]
            exact hI46.2
          have hgz : (zBg B.L B.n B.S B.V (zRw B.n B.M) (zIv B.K) (zRw B.n B.P) B.lots.toNat p1.toInt) v4_4.toInt.toNat = (zSm B.L B.n B.S B.V (zAt (zRw B.n B.M) p1.toInt v4_4.toInt) 0 (zIv B.K) (zRw B.n B.P) B.lots.toNat).2.2.1 p1.toInt.toNat := by
            unfold zBg
            rw [(by omega : ((v4_4.toInt.toNat : Nat) : Int) = v4_4.toInt)]
          refine lv_iload hx hb dX5_best_42 (lv_at hl 4 rfl) ?_
          refine lv_if_eq (tgt := 57) hx hb dX5_best_44 (by decide) (fun c_6 => ?_) (fun c_6 => ?_)
          · have i_6 : v4_4.toInt = 0 := z_eq (rfl) (rfl) c_6
            refine lv_iconst (v := 1) hx hb dX5_best_57 (by decide) ?_
            refine lv_goto (tgt := 62) hx hb dX5_best_58 (by decide) ?_
            refine lv_istore (lv' := [(5, .int 1), (0, .ref h0), (1, .int p1), (2, .int v2_4), (3, .int v3_4), (4, .int v4_4)]) hx hb dX5_best_62 hl (by decide) rfl (fun ls hl => ?_)
            refine lv_iload hx hb dX5_best_64 (lv_at hl 0 rfl) ?_
            refine lv_if_eq (tgt := 74) hx hb dX5_best_66 (by decide) (fun h => absurd h (by decide +kernel)) (fun _ => ?_)
            refine lv_iload hx hb dX5_best_69 (lv_at hl 5 rfl) ?_
            refine lv_goto (tgt := 75) hx hb dX5_best_71 (by decide) ?_
            refine lv_istore_n (lv' := [(2, .int v4_4), (5, .int 1), (0, .ref h0), (1, .int p1), (3, .int v3_4), (4, .int v4_4)]) hx hb dX5_best_75 rfl hl (by decide) rfl (fun ls hl => ?_)
            refine lv_iload hx hb dX5_best_76 (lv_at hl 1 rfl) ?_
            refine lv_if_eq (tgt := 90) hx hb dX5_best_78 (by decide) (fun h => absurd h (by decide +kernel)) (fun _ => ?_)
            refine lv_aload_n hx hb dX5_best_81 rfl (lv_at hl 2 rfl) ?_
            refine va_get (D := g.1) (ci := 5) (v := .ref h9) (C := RX5) (T := TX5) (N := 27) hx hb hts zl_X5 hown hK hP 0 rfl rfl 12 (by decide) (hts _ m_f_RX5_34) (fun _ h => h) rfl dX5_best_82 ?_
            refine lv_iload_n hx hb dX5_best_85 rfl (lv_at hl 3 rfl) ?_
            refine va_iald (D := g.1) hx hb hK hP 6 0 rfl rfl (vp_in_iff.mpr ⟨by omega, by omega⟩) dX5_best_86 ?_
            refine lv_topi (fun y52 ey52 => ?_)
            have qy52_0 : (-1000) ≤ y52.toInt := (i_at (N := 5) (lo := (-1000)) (hi := 1000) (i := p1) (a := p1.toInt) hI46.1 (rfl) (by omega) (by omega) ey52).1
            have qy52_1 : y52.toInt ≤ 1000 := (i_at (N := 5) (lo := (-1000)) (hi := 1000) (i := p1) (a := p1.toInt) hI46.1 (rfl) (by omega) (by omega) ey52).2
            have qy52_2 : y52.toInt = (R34 p1.toNatClampNeg).toInt := congrArg Int32.toInt ey52
            have py52_0 : y52.toInt = (zSm B.L B.n B.S B.V (zAt (zRw B.n B.M) p1.toInt v4_4.toInt) 0 (zIv B.K) (zRw B.n B.P) B.lots.toNat).2.2.1 p1.toInt.toNat := (congrArg Int32.toInt ey52).trans ((zRw_i (i := p1) (by omega) (by omega)).symm.trans (congrFun hgf _))
            refine lv_goto (tgt := 91) hx hb dX5_best_87 (by decide) ?_
            refine lv_istore_n (lv' := [(3, .int y52), (2, .int v4_4), (5, .int 1), (0, .ref h0), (1, .int p1), (4, .int v4_4)]) hx hb dX5_best_91 rfl hl (by decide) rfl (fun ls hl => ?_)
            have ht : (zBs (zBg B.L B.n B.S B.V (zRw B.n B.M) (zIv B.K) (zRw B.n B.P) B.lots.toNat p1.toInt) (v4_4.toInt.toNat + 1)) = (((v4_4.toInt.toNat : Nat) : Int), (zBg B.L B.n B.S B.V (zRw B.n B.M) (zIv B.K) (zRw B.n B.P) B.lots.toNat p1.toInt) v4_4.toInt.toNat) := zBs_1 (by omega)
            have ht_0 : (zBs (zBg B.L B.n B.S B.V (zRw B.n B.M) (zIv B.K) (zRw B.n B.P) B.lots.toNat p1.toInt) (v4_4.toInt.toNat + 1)).1 = ((v4_4.toInt.toNat : Nat) : Int) := by rw [ht]
            have ht_1 : (zBs (zBg B.L B.n B.S B.V (zRw B.n B.M) (zIv B.K) (zRw B.n B.P) B.lots.toNat p1.toInt) (v4_4.toInt.toNat + 1)).2 = (zBg B.L B.n B.S B.V (zRw B.n B.M) (zIv B.K) (zRw B.n B.P) B.lots.toNat p1.toInt) v4_4.toInt.toNat := by rw [ht]
            obtain ⟨y53, ey53⟩ : ∃ z : Int32, z = v4_4 + 1 := ⟨_, rfl⟩
            have qy53 : y53.toInt = v4_4.toInt + 1 := zi_add ey53 (rfl) rfl (by omega) (by omega)
            refine lv_iinc (v := y53) (lv' := [(4, .int y53), (3, .int y52), (2, .int v4_4), (5, .int 1), (0, .ref h0), (1, .int p1)]) hx hb dX5_best_92 hl (k := 5) rfl ey53.symm (by decide) rfl (fun ls hl => ?_)
            have htb_0 : (zBs (zBg B.L B.n B.S B.V (zRw B.n B.M) (zIv B.K) (zRw B.n B.P) B.lots.toNat p1.toInt) y53.toInt.toNat).1 = (zBs (zBg B.L B.n B.S B.V (zRw B.n B.M) (zIv B.K) (zRw B.n B.P) B.lots.toNat p1.toInt) (v4_4.toInt.toNat + 1)).1 := by rw [(by omega : y53.toInt.toNat = v4_4.toInt.toNat + 1)]
            have htb_1 : (zBs (zBg B.L B.n B.S B.V (zRw B.n B.M) (zIv B.K) (zRw B.n B.P) B.lots.toNat p1.toInt) y53.toInt.toNat).2 = (zBs (zBg B.L B.n B.S B.V (zRw B.n B.M) (zIv B.K) (zRw B.n B.P) B.lots.toNat p1.toInt) (v4_4.toInt.toNat + 1)).2 := by rw [(by omega : y53.toInt.toNat = v4_4.toInt.toNat + 1)]
            have hI54 : zMb B.n p1.toInt (zRw B.n B.M) R28 := zMb_of hI27
            refine lv_goto (tgt := 22) hx hb dX5_best_95 (by decide) ?_
            exact ih5 v4_4 y52 y53 w30 w31 R35 R36 R37 R38 R39 R40 R41 R28 R32 R33 R34 (by omega) (by omega) (by omega) (by omega) (hI54) hI44.1 hI45.1 hI46.1 (by omega) (by omega) (by omega) (by omega) (by omega) (by omega) (by omega) _ _ hP hD hS ls (lv_sub hl [4, 5, 2, 1, 0] rfl)
          · have i_6 : v4_4.toInt ≠ 0 := z_ne (rfl) (rfl) c_6
            refine lv_aload_n hx hb dX5_best_47 rfl (lv_at hl 0 rfl) ?_
            refine va_get (D := g.1) (ci := 5) (v := .ref h9) (C := RX5) (T := TX5) (N := 27) hx hb hts zl_X5 hown hK hP 0 rfl rfl 12 (by decide) (hts _ m_f_RX5_34) (fun _ h => h) rfl dX5_best_48 ?_
            refine lv_iload_n hx hb dX5_best_51 rfl (lv_at hl 1 rfl) ?_
            refine va_iald (D := g.1) hx hb hK hP 6 0 rfl rfl (vp_in_iff.mpr ⟨by omega, by omega⟩) dX5_best_52 ?_
            refine lv_topi (fun y55 ey55 => ?_)
            have qy55_0 : (-1000) ≤ y55.toInt := (i_at (N := 5) (lo := (-1000)) (hi := 1000) (i := p1) (a := p1.toInt) hI46.1 (rfl) (by omega) (by omega) ey55).1
            have qy55_1 : y55.toInt ≤ 1000 := (i_at (N := 5) (lo := (-1000)) (hi := 1000) (i := p1) (a := p1.toInt) hI46.1 (rfl) (by omega) (by omega) ey55).2
            have qy55_2 : y55.toInt = (R34 p1.toNatClampNeg).toInt := congrArg Int32.toInt ey55
            have py55_0 : y55.toInt = (zSm B.L B.n B.S B.V (zAt (zRw B.n B.M) p1.toInt v4_4.toInt) 0 (zIv B.K) (zRw B.n B.P) B.lots.toNat).2.2.1 p1.toInt.toNat := (congrArg Int32.toInt ey55).trans ((zRw_i (i := p1) (by omega) (by omega)).symm.trans (congrFun hgf _))
            refine lv_iload_n hx hb dX5_best_53 rfl (lv_at hl 3 rfl) ?_
            refine lv_icmp_le (tgt := 61) hx hb dX5_best_54 (by decide) (fun c_7 => ?_) (fun c_7 => ?_)
            · have i_7 : y55.toInt ≤ v3_4.toInt := z_le (rfl) (rfl) c_7
              refine lv_iconst (v := 0) hx hb dX5_best_61 (by decide) ?_
              refine lv_istore (lv' := [(5, .int 0), (0, .ref h0), (1, .int p1), (2, .int v2_4), (3, .int v3_4), (4, .int v4_4)]) hx hb dX5_best_62 hl (by decide) rfl (fun ls hl => ?_)
              refine lv_iload hx hb dX5_best_64 (lv_at hl 0 rfl) ?_
              refine lv_if_eq (tgt := 74) hx hb dX5_best_66 (by decide) (fun _ => ?_) (fun h => absurd h (by decide +kernel))
              refine lv_iload_n hx hb dX5_best_74 rfl (lv_at hl 3 rfl) ?_
              refine lv_istore_n (lv' := [(2, .int v2_4), (5, .int 0), (0, .ref h0), (1, .int p1), (3, .int v3_4), (4, .int v4_4)]) hx hb dX5_best_75 rfl hl (by decide) rfl (fun ls hl => ?_)
              refine lv_iload hx hb dX5_best_76 (lv_at hl 1 rfl) ?_
              refine lv_if_eq (tgt := 90) hx hb dX5_best_78 (by decide) (fun _ => ?_) (fun h => absurd h (by decide +kernel))
              refine lv_iload_n hx hb dX5_best_90 rfl (lv_at hl 4 rfl) ?_
              refine lv_istore_n (lv' := [(3, .int v3_4), (2, .int v2_4), (5, .int 0), (0, .ref h0), (1, .int p1), (4, .int v4_4)]) hx hb dX5_best_91 rfl hl (by decide) rfl (fun ls hl => ?_)
              have ht : (zBs (zBg B.L B.n B.S B.V (zRw B.n B.M) (zIv B.K) (zRw B.n B.P) B.lots.toNat p1.toInt) (v4_4.toInt.toNat + 1)) = (zBs (zBg B.L B.n B.S B.V (zRw B.n B.M) (zIv B.K) (zRw B.n B.P) B.lots.toNat p1.toInt) v4_4.toInt.toNat) := zBs_0 (by omega)
              have ht_0 : (zBs (zBg B.L B.n B.S B.V (zRw B.n B.M) (zIv B.K) (zRw B.n B.P) B.lots.toNat p1.toInt) (v4_4.toInt.toNat + 1)).1 = (zBs (zBg B.L B.n B.S B.V (zRw B.n B.M) (zIv B.K) (zRw B.n B.P) B.lots.toNat p1.toInt) v4_4.toInt.toNat).1 := by rw [ht]
              have ht_1 : (zBs (zBg B.L B.n B.S B.V (zRw B.n B.M) (zIv B.K) (zRw B.n B.P) B.lots.toNat p1.toInt) (v4_4.toInt.toNat + 1)).2 = (zBs (zBg B.L B.n B.S B.V (zRw B.n B.M) (zIv B.K) (zRw B.n B.P) B.lots.toNat p1.toInt) v4_4.toInt.toNat).2 := by rw [ht]
              obtain ⟨y56, ey56⟩ : ∃ z : Int32, z = v4_4 + 1 := ⟨_, rfl⟩
              have qy56 : y56.toInt = v4_4.toInt + 1 := zi_add ey56 (rfl) rfl (by omega) (by omega)
              refine lv_iinc (v := y56) (lv' := [(4, .int y56), (3, .int v3_4), (2, .int v2_4), (5, .int 0), (0, .ref h0), (1, .int p1)]) hx hb dX5_best_92 hl (k := 5) rfl ey56.symm (by decide) rfl (fun ls hl => ?_)
              have htb_0 : (zBs (zBg B.L B.n B.S B.V (zRw B.n B.M) (zIv B.K) (zRw B.n B.P) B.lots.toNat p1.toInt) y56.toInt.toNat).1 = (zBs (zBg B.L B.n B.S B.V (zRw B.n B.M) (zIv B.K) (zRw B.n B.P) B.lots.toNat p1.toInt) (v4_4.toInt.toNat + 1)).1 := by rw [(by omega : y56.toInt.toNat = v4_4.toInt.toNat + 1)]
              have htb_1 : (zBs (zBg B.L B.n B.S B.V (zRw B.n B.M) (zIv B.K) (zRw B.n B.P) B.lots.toNat p1.toInt) y56.toInt.toNat).2 = (zBs (zBg B.L B.n B.S B.V (zRw B.n B.M) (zIv B.K) (zRw B.n B.P) B.lots.toNat p1.toInt) (v4_4.toInt.toNat + 1)).2 := by rw [(by omega : y56.toInt.toNat = v4_4.toInt.toNat + 1)]
              have hI57 : zMb B.n p1.toInt (zRw B.n B.M) R28 := zMb_of hI27
              refine lv_goto (tgt := 22) hx hb dX5_best_95 (by decide) ?_
              exact ih5 v2_4 v3_4 y56 w30 w31 R35 R36 R37 R38 R39 R40 R41 R28 R32 R33 R34 (by omega) (by omega) (by omega) (by omega) (hI57) hI44.1 hI45.1 hI46.1 (by omega) (by omega) (by omega) (by omega) (by omega) (by omega) (by omega) _ _ hP hD hS ls (lv_sub hl [4, 5, 2, 1, 0] rfl)
            · have i_7 : v3_4.toInt < y55.toInt := z_nle (rfl) (rfl) c_7
              refine lv_iconst (v := 1) hx hb dX5_best_57 (by decide) ?_
              refine lv_goto (tgt := 62) hx hb dX5_best_58 (by decide) ?_
              refine lv_istore (lv' := [(5, .int 1), (0, .ref h0), (1, .int p1), (2, .int v2_4), (3, .int v3_4), (4, .int v4_4)]) hx hb dX5_best_62 hl (by decide) rfl (fun ls hl => ?_)
              refine lv_iload hx hb dX5_best_64 (lv_at hl 0 rfl) ?_
              refine lv_if_eq (tgt := 74) hx hb dX5_best_66 (by decide) (fun h => absurd h (by decide +kernel)) (fun _ => ?_)
              refine lv_iload hx hb dX5_best_69 (lv_at hl 5 rfl) ?_
              refine lv_goto (tgt := 75) hx hb dX5_best_71 (by decide) ?_
              refine lv_istore_n (lv' := [(2, .int v4_4), (5, .int 1), (0, .ref h0), (1, .int p1), (3, .int v3_4), (4, .int v4_4)]) hx hb dX5_best_75 rfl hl (by decide) rfl (fun ls hl => ?_)
              refine lv_iload hx hb dX5_best_76 (lv_at hl 1 rfl) ?_
              refine lv_if_eq (tgt := 90) hx hb dX5_best_78 (by decide) (fun h => absurd h (by decide +kernel)) (fun _ => ?_)
              refine lv_aload_n hx hb dX5_best_81 rfl (lv_at hl 2 rfl) ?_
              refine va_get (D := g.1) (ci := 5) (v := .ref h9) (C := RX5) (T := TX5) (N := 27) hx hb hts zl_X5 hown hK hP 0 rfl rfl 12 (by decide) (hts _ m_f_RX5_34) (fun _ h => h) rfl dX5_best_82 ?_
              refine lv_iload_n hx hb dX5_best_85 rfl (lv_at hl 3 rfl) ?_
              refine va_iald (D := g.1) hx hb hK hP 6 0 rfl rfl (vp_in_iff.mpr ⟨by omega, by omega⟩) dX5_best_86 ?_
              refine lv_topi (fun y58 ey58 => ?_)
              have qy58_0 : (-1000) ≤ y58.toInt := (i_at (N := 5) (lo := (-1000)) (hi := 1000) (i := p1) (a := p1.toInt) hI46.1 (rfl) (by omega) (by omega) ey58).1
              have qy58_1 : y58.toInt ≤ 1000 := (i_at (N := 5) (lo := (-1000)) (hi := 1000) (i := p1) (a := p1.toInt) hI46.1 (rfl) (by omega) (by omega) ey58).2
              have qy58_2 : y58.toInt = (R34 p1.toNatClampNeg).toInt := congrArg Int32.toInt ey58
              have py58_0 : y58.toInt = (zSm B.L B.n B.S B.V (zAt (zRw B.n B.M) p1.toInt v4_4.toInt) 0 (zIv B.K) (zRw B.n B.P) B.lots.toNat).2.2.1 p1.toInt.toNat := (congrArg Int32.toInt ey58).trans ((zRw_i (i := p1) (by omega) (by omega)).symm.trans (congrFun hgf _))
              refine lv_goto (tgt := 91) hx hb dX5_best_87 (by decide) ?_
              refine lv_istore_n (lv' := [(3, .int y58), (2, .int v4_4), (5, .int 1), (0, .ref h0), (1, .int p1), (4, .int v4_4)]) hx hb dX5_best_91 rfl hl (by decide) rfl (fun ls hl => ?_)
              have ht : (zBs (zBg B.L B.n B.S B.V (zRw B.n B.M) (zIv B.K) (zRw B.n B.P) B.lots.toNat p1.toInt) (v4_4.toInt.toNat + 1)) = (((v4_4.toInt.toNat : Nat) : Int), (zBg B.L B.n B.S B.V (zRw B.n B.M) (zIv B.K) (zRw B.n B.P) B.lots.toNat p1.toInt) v4_4.toInt.toNat) := zBs_1 (by omega)
              have ht_0 : (zBs (zBg B.L B.n B.S B.V (zRw B.n B.M) (zIv B.K) (zRw B.n B.P) B.lots.toNat p1.toInt) (v4_4.toInt.toNat + 1)).1 = ((v4_4.toInt.toNat : Nat) : Int) := by rw [ht]
              have ht_1 : (zBs (zBg B.L B.n B.S B.V (zRw B.n B.M) (zIv B.K) (zRw B.n B.P) B.lots.toNat p1.toInt) (v4_4.toInt.toNat + 1)).2 = (zBg B.L B.n B.S B.V (zRw B.n B.M) (zIv B.K) (zRw B.n B.P) B.lots.toNat p1.toInt) v4_4.toInt.toNat := by rw [ht]
              obtain ⟨y59, ey59⟩ : ∃ z : Int32, z = v4_4 + 1 := ⟨_, rfl⟩
              have qy59 : y59.toInt = v4_4.toInt + 1 := zi_add ey59 (rfl) rfl (by omega) (by omega)
              refine lv_iinc (v := y59) (lv' := [(4, .int y59), (3, .int y58), (2, .int v4_4), (5, .int 1), (0, .ref h0), (1, .int p1)]) hx hb dX5_best_92 hl (k := 5) rfl ey59.symm (by decide) rfl (fun ls hl => ?_)
              have htb_0 : (zBs (zBg B.L B.n B.S B.V (zRw B.n B.M) (zIv B.K) (zRw B.n B.P) B.lots.toNat p1.toInt) y59.toInt.toNat).1 = (zBs (zBg B.L B.n B.S B.V (zRw B.n B.M) (zIv B.K) (zRw B.n B.P) B.lots.toNat p1.toInt) (v4_4.toInt.toNat + 1)).1 := by rw [(by omega : y59.toInt.toNat = v4_4.toInt.toNat + 1)]
              have htb_1 : (zBs (zBg B.L B.n B.S B.V (zRw B.n B.M) (zIv B.K) (zRw B.n B.P) B.lots.toNat p1.toInt) y59.toInt.toNat).2 = (zBs (zBg B.L B.n B.S B.V (zRw B.n B.M) (zIv B.K) (zRw B.n B.P) B.lots.toNat p1.toInt) (v4_4.toInt.toNat + 1)).2 := by rw [(by omega : y59.toInt.toNat = v4_4.toInt.toNat + 1)]
              have hI60 : zMb B.n p1.toInt (zRw B.n B.M) R28 := zMb_of hI27
              refine lv_goto (tgt := 22) hx hb dX5_best_95 (by decide) ?_
              exact ih5 v4_4 y58 y59 w30 w31 R35 R36 R37 R38 R39 R40 R41 R28 R32 R33 R34 (by omega) (by omega) (by omega) (by omega) (hI60) hI44.1 hI45.1 hI46.1 (by omega) (by omega) (by omega) (by omega) (by omega) (by omega) (by omega) _ _ hP hD hS ls (lv_sub hl [4, 5, 2, 1, 0] rfl)
    have : (0 : Int32).toInt = 0 := rfl
    exact loop22_4 ((41 - 0 : Int).toNat + 1) (0 : Int32) (0 : Int32) (0 : Int32) w0 w1 R7 R8 R9 R10 R11 R12 R13 R3 R4 R5 R6 (by omega) (by omega) (by omega) (by omega) (hI26) hI18.1 hI19.1 hI20.1 (by omega) (by omega) (by omega) (by omega) (by omega) (by omega) (by omega) _ _ hP hD hS ls (lv_sub hl [3, 4, 2, 1, 0] rfl)
  · skip
    have i_3 : (p1.toInt < 0 ∨ B.n ≤ p1.toInt) := i_3
    have hP : va_P g.1 vwCl [(h5, .inl (zI g, 6, .inl Z4)), (h6, .inl (zI g, 5, .inl Z5)), (h7, .inl (zI g, 5, .inl Z6)), (h8, .inl (zI g, 5, .inl Z7)), (h9, .inl (zI g, 5, .inl Z8)), (h10, .inl (zI g, 6, .inl Z9)), (h11, .inl (zI g, 6, .inl Z10)), (h12, .inl (zI g, 6, .inl Z11)), (h13, .inl (zI g, 6, .inl Z12)), (h14, .inl (zI g, 6, .inl Z13)), (h15, .inl (zI g, 6, .inl Z14)), (h16, .inl (zI g, 6, .inl Z15)), (h0, .inr (5, [.ref h1, .int f0, .ref h2, .int f1, .int f2, .ref h3, .ref h4, .ref h5, .ref h6, .int f3, .ref h7, .ref h8, .ref h9, .int f4, .ref h10, .ref h11, .ref h12, .ref h13, .ref h14, .ref h15, .ref h16, .ref h17, .ref h18, .ref h19, .ref h20, .ref h21, .ref h22])), (h1, .inl (zI g, 180, .inl Z0))] H := hP
    have hD : va_D A [(h5, .inl (zI g, 6, .inl Z4)), (h6, .inl (zI g, 5, .inl Z5)), (h7, .inl (zI g, 5, .inl Z6)), (h8, .inl (zI g, 5, .inl Z7)), (h9, .inl (zI g, 5, .inl Z8)), (h10, .inl (zI g, 6, .inl Z9)), (h11, .inl (zI g, 6, .inl Z10)), (h12, .inl (zI g, 6, .inl Z11)), (h13, .inl (zI g, 6, .inl Z12)), (h14, .inl (zI g, 6, .inl Z13)), (h15, .inl (zI g, 6, .inl Z14)), (h16, .inl (zI g, 6, .inl Z15)), (h0, .inr (5, [.ref h1, .int f0, .ref h2, .int f1, .int f2, .ref h3, .ref h4, .ref h5, .ref h6, .int f3, .ref h7, .ref h8, .ref h9, .int f4, .ref h10, .ref h11, .ref h12, .ref h13, .ref h14, .ref h15, .ref h16, .ref h17, .ref h18, .ref h19, .ref h20, .ref h21, .ref h22])), (h1, .inl (zI g, 180, .inl Z0))] := hD
    refine lv_if_ne (tgt := 10) hx hb dX5_best_5 (by decide) (fun h => absurd h (by decide +kernel)) (fun _ => ?_)
    refine lv_iconst (v := (-1)) hx hb dX5_best_8 (by decide) ?_
    have : ((-1) : Int32).toInt = (-1) := rfl
    have hz : zAbe B.n p1.toInt (zBg B.L B.n B.S B.V (zRw B.n B.M) (zIv B.K) (zRw B.n B.P) B.lots.toNat p1.toInt) = (-1) := by
      unfold zAbe
      rw [if_pos (by omega)]
    have hP9 := hP.sub (ws' := [(h0, .inr (5, [.ref h1, .int f0, .ref h2, .int f1, .int f2, .ref h3, .ref h4, .ref h5, .ref h6, .int f3, .ref h7, .ref h8, .ref h9, .int f4, .ref h10, .ref h11, .ref h12, .ref h13, .ref h14, .ref h15, .ref h16, .ref h17, .ref h18, .ref h19, .ref h20, .ref h21, .ref h22])), (h1, .inl (zI g, 180, .inl Z0)), (h5, .inl (zI g, 6, .inl Z4)), (h6, .inl (zI g, 5, .inl Z5)), (h7, .inl (zI g, 5, .inl Z6)), (h8, .inl (zI g, 5, .inl Z7)), (h9, .inl (zI g, 5, .inl Z8)), (h10, .inl (zI g, 6, .inl Z9)), (h11, .inl (zI g, 6, .inl Z10)), (h12, .inl (zI g, 6, .inl Z11)), (h13, .inl (zI g, 6, .inl Z12)), (h14, .inl (zI g, 6, .inl Z13)), (h15, .inl (zI g, 6, .inl Z14)), (h16, .inl (zI g, 6, .inl Z15))]) [12, 13, 0, 1, 2, 3, 4, 5, 6, 7, 8, 9, 10, 11] rfl
    have hD9 := hD.sub (ws' := [(h0, .inr (5, [.ref h1, .int f0, .ref h2, .int f1, .int f2, .ref h3, .ref h4, .ref h5, .ref h6, .int f3, .ref h7, .ref h8, .ref h9, .int f4, .ref h10, .ref h11, .ref h12, .ref h13, .ref h14, .ref h15, .ref h16, .ref h17, .ref h18, .ref h19, .ref h20, .ref h21, .ref h22])), (h1, .inl (zI g, 180, .inl Z0)), (h5, .inl (zI g, 6, .inl Z4)), (h6, .inl (zI g, 5, .inl Z5)), (h7, .inl (zI g, 5, .inl Z6)), (h8, .inl (zI g, 5, .inl Z7)), (h9, .inl (zI g, 5, .inl Z8)), (h10, .inl (zI g, 6, .inl Z9)), (h11, .inl (zI g, 6, .inl Z10)), (h12, .inl (zI g, 6, .inl Z11)), (h13, .inl (zI g, 6, .inl Z12)), (h14, .inl (zI g, 6, .inl Z13)), (h15, .inl (zI g, 6, .inl Z14)), (h16, .inl (zI g, 6, .inl Z15))]) [12, 13, 0, 1, 2, 3, 4, 5, 6, 7, 8, 9, 10, 11] (by decide) rfl
    exact W.iret (v := (-1)) hx hb hr (fun t ht hW => ⟨⟨(-1), ⟨f3, f4, Z4, Z5, Z6, Z7, Z8, Z9, Z10, Z11, Z12, Z13, Z14, Z15⟩, rfl, ⟨(by first | omega | decide), ⟨show 0 ≤ f3.toInt from by omega, show f3.toInt ≤ 31 from by omega⟩, ⟨show 0 ≤ f4.toInt from by omega, show f4.toInt ≤ 1000 from by omega⟩, hF_Z4, hF_Z5, hF_Z6, hF_Z7, hF_Z8⟩, by rw [ht]; exact hP9, hD9⟩, hS.F ht⟩) hS.2.2 dX5_best_9
set_option maxHeartbeats 8000000 in
set_option maxRecDepth 100000 in
theorem gX5_isResting (l : Launch) (g : zG) (K : Prop) (B C : zBk) (hB : bOk B) (h0 h1 h2 h3 h4 h5 h6 h7 h8 h9 h10 h11 h12 h13 h14 h15 h16 h17 h18 h19 h20 h21 h22 : Nat) (sz : Nat) (p1 : Int32) (f0 : Int32) (f1 : Int32) (f2 : Int32) (f3 : Int32) (f4 : Int32) (Z0 : Nat → Int32) (Z16 : Nat → Int32) (hp0 : 0 ≤ p1.toInt) (hp1 : p1.toInt ≤ 1023) (hp2 : p1.toInt < zP4 B.n) (hf_f1 : 0 ≤ f1.toInt ∧ f1.toInt ≤ 60) (hf_f2 : 0 ≤ f2.toInt ∧ f2.toInt ≤ 60) (hf_f3 : 0 ≤ f3.toInt ∧ f3.toInt ≤ 31) (hf_f4 : 0 ≤ f4.toInt ∧ f4.toInt ≤ 1000) (hF_Z0 : iW K B C Z0) (hF_Z16 : zTb B.n (zRg B.L B.n B.S B.V (zIv B.K) (zRw B.n B.P) B.lots.toNat) (zP4 B.n) Z16) : Met l yX5_isResting (.code yX5_isResting cX5_isResting 6 (some .boolean) :: zBig) ({ frames := 0, cells := 0, slots := 0, locals := 0 }) (va_Pc [.ref h0, .int p1] (zPre g [(h0, .inr (5, [.ref h1, .int f0, .ref h2, .int f1, .int f2, .ref h3, .ref h4, .ref h5, .ref h6, .int f3, .ref h7, .ref h8, .ref h9, .int f4, .ref h10, .ref h11, .ref h12, .ref h13, .ref h14, .ref h15, .ref h16, .ref h17, .ref h18, .ref h19, .ref h20, .ref h21, .ref h22])), (h1, .inl (zI g, 180, .inl Z0)), (h17, .inl (zI g, 5120, .inl Z16))] sz)) (va_Qi (fun (r : Int32) (u : Nat) => ((zRf B.n (zRg B.L B.n B.S B.V (zIv B.K) (zRw B.n B.P) B.lots.toNat)) p1.toInt.toNat = 1 ∧ r = 1) ∨ ((zRf B.n (zRg B.L B.n B.S B.V (zIv B.K) (zRw B.n B.P) B.lots.toNat)) p1.toInt.toNat = 0 ∧ r = 0)) (zPost g (fun u : Nat => [(h0, .inr (5, [.ref h1, .int f0, .ref h2, .int f1, .int f2, .ref h3, .ref h4, .ref h5, .ref h6, .int f3, .ref h7, .ref h8, .ref h9, .int f4, .ref h10, .ref h11, .ref h12, .ref h13, .ref h14, .ref h15, .ref h16, .ref h17, .ref h18, .ref h19, .ref h20, .ref h21, .ref h22])), (h1, .inl (zI g, 180, .inl Z0)), (h17, .inl (zI g, 5120, .inl Z16))]) (va_A [(h0, .inr (5, [.ref h1, .int f0, .ref h2, .int f1, .int f2, .ref h3, .ref h4, .ref h5, .ref h6, .int f3, .ref h7, .ref h8, .ref h9, .int f4, .ref h10, .ref h11, .ref h12, .ref h13, .ref h14, .ref h15, .ref h16, .ref h17, .ref h18, .ref h19, .ref h20, .ref h21, .ref h22])), (h1, .inl (zI g, 180, .inl Z0)), (h17, .inl (zI g, 5120, .inl Z16))] sz)) (va_A [(h0, .inr (5, [.ref h1, .int f0, .ref h2, .int f1, .int f2, .ref h3, .ref h4, .ref h5, .ref h6, .int f3, .ref h7, .ref h8, .ref h9, .int f4, .ref h10, .ref h11, .ref h12, .ref h13, .ref h14, .ref h15, .ref h16, .ref h17, .ref h18, .ref h19, .ref h20, .ref h21, .ref h22])), (h1, .inl (zI g, 180, .inl Z0)), (h17, .inl (zI g, 5120, .inl Z16))] sz)) 0 0 (va_A [(h0, .inr (5, [.ref h1, .int f0, .ref h2, .int f1, .int f2, .ref h3, .ref h4, .ref h5, .ref h6, .int f3, .ref h7, .ref h8, .ref h9, .int f4, .ref h10, .ref h11, .ref h12, .ref h13, .ref h14, .ref h15, .ref h16, .ref h17, .ref h18, .ref h19, .ref h20, .ref h21, .ref h22])), (h1, .inl (zI g, 180, .inl Z0)), (h17, .inl (zI g, 5120, .inl Z16))] sz) := by
  refine zMetI rfl (Nat.le_of_ble_eq_true rfl) ?_
  intro p e s m args below meth c A ls hx hb hml hr hlocks hin hown hts hK hN hZ hP hD hA hS hAe hl
  have hown : s.vm.findClass RX5 = some m.cls := hown
  have hl : lv_has ls 6 [(0, .ref h0), (1, .int p1)] := hl
  have hnr := iW_nr hF_Z0
  have hlr := iW_lr hF_Z0
  have hp9 := zP4_n (n := B.n) (by omega) (by omega)
  have hcst : ((p1.toInt.toNat : Nat) : Int) = p1.toInt := by omega
  have hz0 : zRp B.n (zRg B.L B.n B.S B.V (zIv B.K) (zRw B.n B.P) B.lots.toNat) p1.toInt (0 : Int32).toInt 0 := zRp_0
  refine lv_iconst (v := 0) hx hb dX5_isResting_0 (by decide) ?_
  refine lv_istore_n (lv' := [(2, .int 0), (0, .ref h0), (1, .int p1)]) hx hb dX5_isResting_1 rfl hl (by decide) rfl (fun ls hl => ?_)
  have loop2_0 : ∀ (n1 : Nat) (v2_0 : Int32) (n1_0 : 0 ≤ v2_0.toInt) (n1_1 : v2_0.toInt ≤ B.n) (n1_2 : zRp B.n (zRg B.L B.n B.S B.V (zIv B.K) (zRw B.n B.P) B.lots.toNat) p1.toInt v2_0.toInt 0) (hm1 : 5 - v2_0.toInt < (n1 : Int)) (H : Heap) (locs : List Loc), va_P g.1 vwCl [(h0, .inr (5, [.ref h1, .int f0, .ref h2, .int f1, .int f2, .ref h3, .ref h4, .ref h5, .ref h6, .int f3, .ref h7, .ref h8, .ref h9, .int f4, .ref h10, .ref h11, .ref h12, .ref h13, .ref h14, .ref h15, .ref h16, .ref h17, .ref h18, .ref h19, .ref h20, .ref h21, .ref h22])), (h1, .inl (zI g, 180, .inl Z0)), (h17, .inl (zI g, 5120, .inl Z16))] H → va_D A [(h0, .inr (5, [.ref h1, .int f0, .ref h2, .int f1, .int f2, .ref h3, .ref h4, .ref h5, .ref h6, .int f3, .ref h7, .ref h8, .ref h9, .int f4, .ref h10, .ref h11, .ref h12, .ref h13, .ref h14, .ref h15, .ref h16, .ref h17, .ref h18, .ref h19, .ref h20, .ref h21, .ref h22])), (h1, .inl (zI g, 180, .inl Z0)), (h17, .inl (zI g, 5120, .inl Z16))] → va_S A s.heap H locs → ∀ (ls : Array Slot), lv_has ls 6 [(0, .ref h0), (1, .int p1), (2, .int v2_0)] → W p l e ({ frames := 0, cells := 0, slots := 0, locals := 0 }) s m args below meth c H locs 0 0 (MQ below (va_Qi (fun (r : Int32) (u : Nat) => ((zRf B.n (zRg B.L B.n B.S B.V (zIv B.K) (zRw B.n B.P) B.lots.toNat)) p1.toInt.toNat = 1 ∧ r = 1) ∨ ((zRf B.n (zRg B.L B.n B.S B.V (zIv B.K) (zRw B.n B.P) B.lots.toNat)) p1.toInt.toNat = 0 ∧ r = 0)) (zPost g (fun u : Nat => [(h0, .inr (5, [.ref h1, .int f0, .ref h2, .int f1, .int f2, .ref h3, .ref h4, .ref h5, .ref h6, .int f3, .ref h7, .ref h8, .ref h9, .int f4, .ref h10, .ref h11, .ref h12, .ref h13, .ref h14, .ref h15, .ref h16, .ref h17, .ref h18, .ref h19, .ref h20, .ref h21, .ref h22])), (h1, .inl (zI g, 180, .inl Z0)), (h17, .inl (zI g, 5120, .inl Z16))]) A) A) args s 0 0 A) (F0 m 2 ls []) := by
    intro n1
    induction n1 with
    | zero => intro v2_0 n1_0 n1_1 n1_2 hm1; exfalso; omega
    | succ n1 ih1 =>
      intro v2_0 n1_0 n1_1 n1_2 hm1 H locs hP hD hS ls hl
      refine lv_iload_n hx hb dX5_isResting_2 rfl (lv_at hl 2 rfl) ?_
      refine lv_aload_n hx hb dX5_isResting_3 rfl (lv_at hl 0 rfl) ?_
      refine va_get (D := g.1) (ci := 5) (v := .ref h1) (C := RX5) (T := TX5) (N := 27) hx hb hts zl_X5 hown hK hP 0 rfl rfl 0 (by decide) (hts _ m_f_RX5_7) (fun _ h => h) rfl dX5_isResting_4 ?_
      refine lv_bipush (v := 12) hx hb dX5_isResting_7 (by decide) ?_
      refine va_iald (D := g.1) hx hb hK hP 1 0 rfl rfl (vp_in_iff.mpr (by decide +kernel)) dX5_isResting_9 ?_
      refine lv_topi (fun y0 ey0 => ?_)
      have qy0_0 : 0 ≤ y0.toInt := ((iW_at (i := (12 : Int32)) (a := 12) hF_Z0 (rfl) (by omega) (by omega) ey0).2.2.2.2.2 (by omega)).1
      have qy0_1 : y0.toInt ≤ 5 := ((iW_at (i := (12 : Int32)) (a := 12) hF_Z0 (rfl) (by omega) (by omega) ey0).2.2.2.2.2 (by omega)).2
      have qy0_2 : y0.toInt = (Z0 12).toInt := congrArg Int32.toInt ey0
      have qy0_3 : y0.toInt = B.n := (congrArg Int32.toInt ey0).trans (iW_n hF_Z0)
      refine lv_icmp_ge (tgt := 92) hx hb dX5_isResting_10 (by decide) (fun c_1 => ?_) (fun c_1 => ?_)
      · have i_1 : y0.toInt ≤ v2_0.toInt := z_le (rfl) (rfl) c_1
        have hf : (zRf B.n (zRg B.L B.n B.S B.V (zIv B.K) (zRw B.n B.P) B.lots.toNat)) p1.toInt.toNat = 1 := zRf_1 (by rw [hcst]; exact zRs_of (b := v2_0.toInt) (d := 0) (by assumption) (by omega))
        refine lv_iconst (v := 1) hx hb dX5_isResting_92 (by decide) ?_
        have hP9 := hP.sub (ws' := [(h0, .inr (5, [.ref h1, .int f0, .ref h2, .int f1, .int f2, .ref h3, .ref h4, .ref h5, .ref h6, .int f3, .ref h7, .ref h8, .ref h9, .int f4, .ref h10, .ref h11, .ref h12, .ref h13, .ref h14, .ref h15, .ref h16, .ref h17, .ref h18, .ref h19, .ref h20, .ref h21, .ref h22])), (h1, .inl (zI g, 180, .inl Z0)), (h17, .inl (zI g, 5120, .inl Z16))]) [0, 1, 2] rfl
        have hD9 := hD.sub (ws' := [(h0, .inr (5, [.ref h1, .int f0, .ref h2, .int f1, .int f2, .ref h3, .ref h4, .ref h5, .ref h6, .int f3, .ref h7, .ref h8, .ref h9, .int f4, .ref h10, .ref h11, .ref h12, .ref h13, .ref h14, .ref h15, .ref h16, .ref h17, .ref h18, .ref h19, .ref h20, .ref h21, .ref h22])), (h1, .inl (zI g, 180, .inl Z0)), (h17, .inl (zI g, 5120, .inl Z16))]) [0, 1, 2] (by decide) rfl
        exact W.zret (v := 1) hx hb hr (by decide) (fun t ht hW => ⟨⟨1, (0 : Nat), rfl, Or.inl ⟨(by first | omega | decide), rfl⟩, by rw [ht]; exact hP9, hD9⟩, hS.F ht⟩) hS.2.2 dX5_isResting_93
      · have i_1 : v2_0.toInt < y0.toInt := z_nle (rfl) (rfl) c_1
        refine lv_iconst (v := 1) hx hb dX5_isResting_13 (by decide) ?_
        refine lv_iconst (v := 2) hx hb dX5_isResting_14 (by decide) ?_
        refine lv_aload_n hx hb dX5_isResting_15 rfl (lv_at hl 0 rfl) ?_
        refine va_get (D := g.1) (ci := 5) (v := .ref h1) (C := RX5) (T := TX5) (N := 27) hx hb hts zl_X5 hown hK hP 0 rfl rfl 0 (by decide) (hts _ m_f_RX5_7) (fun _ h => h) rfl dX5_isResting_16 ?_
        refine lv_bipush (v := 12) hx hb dX5_isResting_19 (by decide) ?_
        refine va_iald (D := g.1) hx hb hK hP 1 0 rfl rfl (vp_in_iff.mpr (by decide +kernel)) dX5_isResting_21 ?_
        refine lv_topi (fun y1 ey1 => ?_)
        have qy1_0 : 0 ≤ y1.toInt := ((iW_at (i := (12 : Int32)) (a := 12) hF_Z0 (rfl) (by omega) (by omega) ey1).2.2.2.2.2 (by omega)).1
        have qy1_1 : y1.toInt ≤ 5 := ((iW_at (i := (12 : Int32)) (a := 12) hF_Z0 (rfl) (by omega) (by omega) ey1).2.2.2.2.2 (by omega)).2
        have qy1_2 : y1.toInt = (Z0 12).toInt := congrArg Int32.toInt ey1
        have qy1_3 : y1.toInt = B.n := (congrArg Int32.toInt ey1).trans (iW_n hF_Z0)
        refine lv_iconst (v := 1) hx hb dX5_isResting_22 (by decide) ?_
        refine lv_isub hx hb dX5_isResting_23 ?_
        refine lv_topi (fun y2 ey2 => ?_)
        have qy2_0 : y2.toInt = y1.toInt - 1 := zi_sub ey2 (rfl) (rfl) (by omega) (by omega)
        refine lv_iload_n hx hb dX5_isResting_24 rfl (lv_at hl 2 rfl) ?_
        refine lv_isub hx hb dX5_isResting_25 ?_
        refine lv_topi (fun y3 ey3 => ?_)
        have qy3_0 : y3.toInt = y2.toInt - v2_0.toInt := zi_sub ey3 (rfl) (rfl) (by omega) (by omega)
        have py3_0 : 0 ≤ y3.toInt := by omega
        refine lv_imul hx hb dX5_isResting_26 ?_
        refine lv_topi (fun y4 ey4 => ?_)
        have qy4_0 : y4.toInt = 2 * y3.toInt := zi_mul ey4 (rfl) (rfl) (by omega) (by omega)
        refine lv_ishl hx hb dX5_isResting_27 ?_
        refine lv_topi (fun y5 ey5 => ?_)
        have qy5_0 : 1 ≤ y5.toInt := (zi_shl 8 ey5 (rfl) (by omega) (by omega) (by decide)).1
        have qy5_1 : y5.toInt ≤ 256 := (zi_shl 8 ey5 (rfl) (by omega) (by omega) (by decide)).2
        have py5_0 : y5.toInt = zP4 (B.n - 1 - v2_0.toInt) := z_p4 ey5 (by omega) (by omega) (by omega)
        refine lv_istore_n (lv' := [(3, .int y5), (0, .ref h0), (1, .int p1), (2, .int v2_0)]) hx hb dX5_isResting_28 rfl hl (by decide) rfl (fun ls hl => ?_)
        refine lv_iload_n hx hb dX5_isResting_29 rfl (lv_at hl 2 rfl) ?_
        refine lv_iload_n hx hb dX5_isResting_30 rfl (lv_at hl 2 rfl) ?_
        refine lv_iload_n hx hb dX5_isResting_31 rfl (lv_at hl 0 rfl) ?_
        refine lv_idiv hx hb dX5_isResting_32 (z_nz rfl (by omega)) ?_
        refine lv_topi (fun y6 ey6 => ?_)
        have qy6_0 : 0 ≤ y6.toInt := (zi_div0 ey6 (rfl) (rfl) (by omega) (by omega)).1
        have qy6_1 : y6.toInt ≤ p1.toInt := (zi_div0 ey6 (rfl) (rfl) (by omega) (by omega)).2
        refine lv_iconst (v := 3) hx hb dX5_isResting_33 (by decide) ?_
        refine lv_iand hx hb dX5_isResting_34 ?_
        refine lv_topi (fun y7 ey7 => ?_)
        have qy7_0 : 0 ≤ y7.toInt := (zi_and3 ey7).1
        have qy7_1 : y7.toInt ≤ 3 := (zi_and3 ey7).2
        refine lv_iload_n hx hb dX5_isResting_35 rfl (lv_at hl 0 rfl) ?_
        refine lv_imul hx hb dX5_isResting_36 ?_
        refine lv_topi (fun y8 ey8 => ?_)
        refine lv_isub hx hb dX5_isResting_37 ?_
        refine lv_topi (fun y9 ey9 => ?_)
        have py9_0 : 0 ≤ y9.toInt := (z_bare (t := y3.toInt) ey5 (by omega) (by omega) (by omega) ey6 ey7 ey8 ey9 (by omega) (by omega)).1
        have py9_1 : y9.toInt + 3 * y5.toInt ≤ 1023 := (z_bare (t := y3.toInt) ey5 (by omega) (by omega) (by omega) ey6 ey7 ey8 ey9 (by omega) (by omega)).2
        have py9_2 : y9.toInt ≤ 1023 := by omega
        have py9_3 : y9.toInt = p1.toInt - zDg B.n p1.toInt v2_0.toInt * zP4 (B.n - 1 - v2_0.toInt) := z_bar9 (t := (B.n - 1 - v2_0.toInt)) (by omega) (by omega) (by omega) ey6 ey7 ey8 ey9 (by omega) (by omega)
        refine lv_istore (lv' := [(4, .int y9), (3, .int y5), (0, .ref h0), (1, .int p1), (2, .int v2_0)]) hx hb dX5_isResting_38 hl (by decide) rfl (fun ls hl => ?_)
        have hz1 : zRp B.n (zRg B.L B.n B.S B.V (zIv B.K) (zRw B.n B.P) B.lots.toNat) p1.toInt v2_0.toInt (0 : Int32).toInt := zRp_eq (b := v2_0.toInt) (d := 0) (by assumption) rfl rfl
        refine lv_iconst (v := 0) hx hb dX5_isResting_40 (by decide) ?_
        refine lv_istore (lv' := [(5, .int 0), (4, .int y9), (3, .int y5), (0, .ref h0), (1, .int p1), (2, .int v2_0)]) hx hb dX5_isResting_41 hl (by decide) rfl (fun ls hl => ?_)
        have loop43_2 : ∀ (n3 : Nat) (v5_2 : Int32) (n3_0 : 0 ≤ v5_2.toInt) (n3_1 : v5_2.toInt ≤ 4) (n3_2 : zRp B.n (zRg B.L B.n B.S B.V (zIv B.K) (zRw B.n B.P) B.lots.toNat) p1.toInt v2_0.toInt v5_2.toInt) (hm3 : 4 - v5_2.toInt < (n3 : Int)) (H : Heap) (locs : List Loc), va_P g.1 vwCl [(h0, .inr (5, [.ref h1, .int f0, .ref h2, .int f1, .int f2, .ref h3, .ref h4, .ref h5, .ref h6, .int f3, .ref h7, .ref h8, .ref h9, .int f4, .ref h10, .ref h11, .ref h12, .ref h13, .ref h14, .ref h15, .ref h16, .ref h17, .ref h18, .ref h19, .ref h20, .ref h21, .ref h22])), (h1, .inl (zI g, 180, .inl Z0)), (h17, .inl (zI g, 5120, .inl Z16))] H → va_D A [(h0, .inr (5, [.ref h1, .int f0, .ref h2, .int f1, .int f2, .ref h3, .ref h4, .ref h5, .ref h6, .int f3, .ref h7, .ref h8, .ref h9, .int f4, .ref h10, .ref h11, .ref h12, .ref h13, .ref h14, .ref h15, .ref h16, .ref h17, .ref h18, .ref h19, .ref h20, .ref h21, .ref h22])), (h1, .inl (zI g, 180, .inl Z0)), (h17, .inl (zI g, 5120, .inl Z16))] → va_S A s.heap H locs → ∀ (ls : Array Slot), lv_has ls 6 [(0, .ref h0), (1, .int p1), (2, .int v2_0), (3, .int y5), (4, .int y9), (5, .int v5_2)] → W p l e ({ frames := 0, cells := 0, slots := 0, locals := 0 }) s m args below meth c H locs 0 0 (MQ below (va_Qi (fun (r : Int32) (u : Nat) => ((zRf B.n (zRg B.L B.n B.S B.V (zIv B.K) (zRw B.n B.P) B.lots.toNat)) p1.toInt.toNat = 1 ∧ r = 1) ∨ ((zRf B.n (zRg B.L B.n B.S B.V (zIv B.K) (zRw B.n B.P) B.lots.toNat)) p1.toInt.toNat = 0 ∧ r = 0)) (zPost g (fun u : Nat => [(h0, .inr (5, [.ref h1, .int f0, .ref h2, .int f1, .int f2, .ref h3, .ref h4, .ref h5, .ref h6, .int f3, .ref h7, .ref h8, .ref h9, .int f4, .ref h10, .ref h11, .ref h12, .ref h13, .ref h14, .ref h15, .ref h16, .ref h17, .ref h18, .ref h19, .ref h20, .ref h21, .ref h22])), (h1, .inl (zI g, 180, .inl Z0)), (h17, .inl (zI g, 5120, .inl Z16))]) A) A) args s 0 0 A) (F0 m 43 ls []) := by
          intro n3
          induction n3 with
          | zero => intro v5_2 n3_0 n3_1 n3_2 hm3; exfalso; omega
          | succ n3 ih3 =>
            intro v5_2 n3_0 n3_1 n3_2 hm3 H locs hP hD hS ls hl
            refine lv_iload hx hb dX5_isResting_43 (lv_at hl 5 rfl) ?_
            refine lv_iconst (v := 4) hx hb dX5_isResting_45 (by decide) ?_
            refine lv_icmp_ge (tgt := 86) hx hb dX5_isResting_46 (by decide) (fun c_3 => ?_) (fun c_3 => ?_)
            · have i_3 : 4 ≤ v5_2.toInt := z_le (rfl) (rfl) c_3
              have hzb : zRp B.n (zRg B.L B.n B.S B.V (zIv B.K) (zRw B.n B.P) B.lots.toNat) p1.toInt (v2_0.toInt + 1) 0 := zRp_b (d := v5_2.toInt) (by assumption) (by omega) (by omega)
              obtain ⟨y10, ey10⟩ : ∃ z : Int32, z = v2_0 + 1 := ⟨_, rfl⟩
              have qy10 : y10.toInt = v2_0.toInt + 1 := zi_add ey10 (rfl) rfl (by omega) (by omega)
              refine lv_iinc (v := y10) (lv' := [(2, .int y10), (0, .ref h0), (1, .int p1), (3, .int y5), (4, .int y9), (5, .int v5_2)]) hx hb dX5_isResting_86 hl (k := 2) rfl ey10.symm (by decide) rfl (fun ls hl => ?_)
              have hzc : zRp B.n (zRg B.L B.n B.S B.V (zIv B.K) (zRw B.n B.P) B.lots.toNat) p1.toInt y10.toInt 0 := zRp_eq hzb (by omega) rfl
              refine lv_goto (tgt := 2) hx hb dX5_isResting_89 (by decide) ?_
              exact ih1 y10 (by omega) (by omega) (by assumption) (by omega) _ _ hP hD hS ls (lv_sub hl [1, 2, 0] rfl)
            · have i_3 : v5_2.toInt < 4 := z_nle (rfl) (rfl) c_3
              refine lv_aload_n hx hb dX5_isResting_49 rfl (lv_at hl 0 rfl) ?_
              refine va_get (D := g.1) (ci := 5) (v := .ref h17) (C := RX5) (T := TX5) (N := 27) hx hb hts zl_X5 hown hK hP 0 rfl rfl 21 (by decide) (hts _ m_f_RX5_58) (fun _ h => h) rfl dX5_isResting_50 ?_
              refine lv_iconst (v := 5) hx hb dX5_isResting_53 (by decide) ?_
              refine lv_iload hx hb dX5_isResting_54 (lv_at hl 4 rfl) ?_
              refine lv_iload hx hb dX5_isResting_56 (lv_at hl 5 rfl) ?_
              refine lv_iload_n hx hb dX5_isResting_58 rfl (lv_at hl 3 rfl) ?_
              refine lv_imul hx hb dX5_isResting_59 ?_
              refine lv_topi (fun y11 ey11 => ?_)
              have py11_0 : y11.toInt = v5_2.toInt * zP4 (B.n - 1 - v2_0.toInt) := (z_mu4 (t := (B.n - 1 - v2_0.toInt)) ey11 (by omega) (by omega) (by omega) (by omega) (by omega)).1
              have py11_1 : 0 ≤ y11.toInt := (z_mu ey11 (by omega) (by omega) (by omega) (by omega)).1
              have py11_2 : y11.toInt ≤ 3 * y5.toInt := (z_mu ey11 (by omega) (by omega) (by omega) (by omega)).2
              have py11_3 : y11.toInt ≤ 768 := by omega
              refine lv_iadd hx hb dX5_isResting_60 ?_
              refine lv_topi (fun y12 ey12 => ?_)
              have qy12_0 : y12.toInt = y9.toInt + y11.toInt := zi_add ey12 (rfl) (rfl) (by omega) (by omega)
              have hot : y12.toInt = zRd B.n p1.toInt v2_0.toInt v5_2.toInt := by
                unfold zRd
                omega
              have hrr := zRd_r (n := B.n) (r := p1.toInt) (b := v2_0.toInt) (d := v5_2.toInt) (by omega) (by omega) (by omega) (by omega) (by omega) (by omega) (by omega)
              refine lv_imul hx hb dX5_isResting_61 ?_
              refine lv_topi (fun y13 ey13 => ?_)
              have qy13_0 : y13.toInt = 5 * y12.toInt := zi_mul ey13 (rfl) (rfl) (by omega) (by omega)
              refine lv_iload_n hx hb dX5_isResting_62 rfl (lv_at hl 2 rfl) ?_
              refine lv_iadd hx hb dX5_isResting_63 ?_
              refine lv_topi (fun y14 ey14 => ?_)
              have qy14_0 : y14.toInt = y13.toInt + v2_0.toInt := zi_add ey14 (rfl) (rfl) (by omega) (by omega)
              refine va_iald (D := g.1) hx hb hK hP 2 0 rfl rfl (vp_in_iff.mpr ⟨by omega, by omega⟩) dX5_isResting_64 ?_
              refine lv_topi (fun y15 ey15 => ?_)
              have qy15_0 : y15.toInt = (Z16 y14.toNatClampNeg).toInt := congrArg Int32.toInt ey15
              have py15_0 : y15.toInt = (zRg B.L B.n B.S B.V (zIv B.K) (zRw B.n B.P) B.lots.toNat) (zRd B.n p1.toInt v2_0.toInt v5_2.toInt) v2_0.toInt.toNat := zTb_at (r := (zRd B.n p1.toInt v2_0.toInt v5_2.toInt)) (b := v2_0.toInt) hF_Z16 ey15 (by omega) (by omega) (by omega) (by omega) (by omega) (by omega)
              refine lv_aload_n hx hb dX5_isResting_65 rfl (lv_at hl 0 rfl) ?_
              refine va_get (D := g.1) (ci := 5) (v := .ref h17) (C := RX5) (T := TX5) (N := 27) hx hb hts zl_X5 hown hK hP 0 rfl rfl 21 (by decide) (hts _ m_f_RX5_58) (fun _ h => h) rfl dX5_isResting_66 ?_
              refine lv_iconst (v := 5) hx hb dX5_isResting_69 (by decide) ?_
              refine lv_iload_n hx hb dX5_isResting_70 rfl (lv_at hl 1 rfl) ?_
              refine lv_imul hx hb dX5_isResting_71 ?_
              refine lv_topi (fun y16 ey16 => ?_)
              have qy16_0 : y16.toInt = 5 * p1.toInt := zi_mul ey16 (rfl) (rfl) (by omega) (by omega)
              refine lv_iload_n hx hb dX5_isResting_72 rfl (lv_at hl 2 rfl) ?_
              refine lv_iadd hx hb dX5_isResting_73 ?_
              refine lv_topi (fun y17 ey17 => ?_)
              have qy17_0 : y17.toInt = y16.toInt + v2_0.toInt := zi_add ey17 (rfl) (rfl) (by omega) (by omega)
              refine va_iald (D := g.1) hx hb hK hP 2 0 rfl rfl (vp_in_iff.mpr ⟨by omega, by omega⟩) dX5_isResting_74 ?_
              refine lv_topi (fun y18 ey18 => ?_)
              have qy18_0 : y18.toInt = (Z16 y17.toNatClampNeg).toInt := congrArg Int32.toInt ey18
              have py18_0 : y18.toInt = (zRg B.L B.n B.S B.V (zIv B.K) (zRw B.n B.P) B.lots.toNat) p1.toInt v2_0.toInt.toNat := zTb_at (r := p1.toInt) (b := v2_0.toInt) hF_Z16 ey18 (by omega) (by omega) (by omega) (by omega) (by omega) (by omega)
              refine lv_icmp_le (tgt := 80) hx hb dX5_isResting_75 (by decide) (fun c_4 => ?_) (fun c_4 => ?_)
              · have i_4 : y15.toInt ≤ y18.toInt := z_le (rfl) (rfl) c_4
                have hzd : zRp B.n (zRg B.L B.n B.S B.V (zIv B.K) (zRw B.n B.P) B.lots.toNat) p1.toInt v2_0.toInt (v5_2.toInt + 1) := zRp_d (d := v5_2.toInt) (by assumption) (by omega)
                obtain ⟨y19, ey19⟩ : ∃ z : Int32, z = v5_2 + 1 := ⟨_, rfl⟩
                have qy19 : y19.toInt = v5_2.toInt + 1 := zi_add ey19 (rfl) rfl (by omega) (by omega)
                refine lv_iinc (v := y19) (lv' := [(5, .int y19), (0, .ref h0), (1, .int p1), (2, .int v2_0), (3, .int y5), (4, .int y9)]) hx hb dX5_isResting_80 hl (k := 5) rfl ey19.symm (by decide) rfl (fun ls hl => ?_)
                have hze : zRp B.n (zRg B.L B.n B.S B.V (zIv B.K) (zRw B.n B.P) B.lots.toNat) p1.toInt v2_0.toInt y19.toInt := zRp_eq hzd rfl (by omega)
                refine lv_goto (tgt := 43) hx hb dX5_isResting_83 (by decide) ?_
                exact ih3 y19 (by omega) (by omega) (by assumption) (by omega) _ _ hP hD hS ls (lv_sub hl [1, 2, 3, 4, 5, 0] rfl)
              · have i_4 : y18.toInt < y15.toInt := z_nle (rfl) (rfl) c_4
                have hf : (zRf B.n (zRg B.L B.n B.S B.V (zIv B.K) (zRw B.n B.P) B.lots.toNat)) p1.toInt.toNat = 0 := zRf_0 (by rw [hcst]; exact zRs_no (b := v2_0.toInt) (d := v5_2.toInt) (by omega) (by omega) (by omega) (by omega) (by omega) (by omega))
                refine lv_iconst (v := 0) hx hb dX5_isResting_78 (by decide) ?_
                have hP9 := hP.sub (ws' := [(h0, .inr (5, [.ref h1, .int f0, .ref h2, .int f1, .int f2, .ref h3, .ref h4, .ref h5, .ref h6, .int f3, .ref h7, .ref h8, .ref h9, .int f4, .ref h10, .ref h11, .ref h12, .ref h13, .ref h14, .ref h15, .ref h16, .ref h17, .ref h18, .ref h19, .ref h20, .ref h21, .ref h22])), (h1, .inl (zI g, 180, .inl Z0)), (h17, .inl (zI g, 5120, .inl Z16))]) [0, 1, 2] rfl
                have hD9 := hD.sub (ws' := [(h0, .inr (5, [.ref h1, .int f0, .ref h2, .int f1, .int f2, .ref h3, .ref h4, .ref h5, .ref h6, .int f3, .ref h7, .ref h8, .ref h9, .int f4, .ref h10, .ref h11, .ref h12, .ref h13, .ref h14, .ref h15, .ref h16, .ref h17, .ref h18, .ref h19, .ref h20, .ref h21, .ref h22])), (h1, .inl (zI g, 180, .inl Z0)), (h17, .inl (zI g, 5120, .inl Z16))]) [0, 1, 2] (by decide) rfl
                exact W.zret (v := 0) hx hb hr (by decide) (fun t ht hW => ⟨⟨0, (0 : Nat), rfl, Or.inr (⟨(by first | omega | decide), rfl⟩), by rw [ht]; exact hP9, hD9⟩, hS.F ht⟩) hS.2.2 dX5_isResting_79
        have : (0 : Int32).toInt = 0 := rfl
        exact loop43_2 ((4 - 0 : Int).toNat + 1) (0 : Int32) (by omega) (by omega) (by assumption) (by omega) _ _ hP hD hS ls (lv_sub hl [3, 4, 5, 2, 1, 0] rfl)
  have : (0 : Int32).toInt = 0 := rfl
  exact loop2_0 ((5 - 0 : Int).toNat + 1) (0 : Int32) (by omega) (by omega) (by assumption) (by omega) _ _ hP hD hS ls (lv_sub hl [1, 2, 0] rfl)

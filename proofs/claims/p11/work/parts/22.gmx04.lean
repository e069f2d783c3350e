set_option maxHeartbeats 8000000 in
set_option maxRecDepth 100000 in
theorem gX5_openMorning (l : Launch) (g : zG) (K : Prop) (B C : zBk) (hB : bOk B) (h0 h1 h2 h3 h4 h5 h6 h7 h8 h9 h10 h11 h12 h13 h14 h15 h16 h17 h18 h19 h20 h21 h22 : Nat) (sz : Nat) (f0 : Int32) (f1 : Int32) (f2 : Int32) (f3 : Int32) (f4 : Int32) (Z0 : Nat → Int32) (Z6 : Nat → Int32) (Z7 : Nat → Int32) (Z8 : Nat → Int32) (hf_f1 : 0 ≤ f1.toInt ∧ f1.toInt ≤ 60) (hf_f2 : 0 ≤ f2.toInt ∧ f2.toInt ≤ 60) (hf_f3 : 0 ≤ f3.toInt ∧ f3.toInt ≤ 31) (hf_f4 : 0 ≤ f4.toInt ∧ f4.toInt ≤ 1000) (hF_Z0 : iW K B C Z0) (hF_Z6 : iPu Z6) (hF_Z7 : iRo Z7) (hF_Z8 : iGa Z8) : Met l yX5_openMorning (.code yX5_openMorning cX5_openMorning 2 none :: zBig) ({ frames := 0, cells := 0, slots := 0, locals := 0 }) (va_Pc [.ref h0] (zPre g [(h0, .inr (5, [.ref h1, .int f0, .ref h2, .int f1, .int f2, .ref h3, .ref h4, .ref h5, .ref h6, .int f3, .ref h7, .ref h8, .ref h9, .int f4, .ref h10, .ref h11, .ref h12, .ref h13, .ref h14, .ref h15, .ref h16, .ref h17, .ref h18, .ref h19, .ref h20, .ref h21, .ref h22])), (h1, .inl (zI g, 180, .inl Z0)), (h7, .inl (zI g, 5, .inl Z6)), (h8, .inl (zI g, 5, .inl Z7)), (h9, .inl (zI g, 5, .inl Z8))] sz)) (va_Qv (fun u : Int32 × (Nat → Int32) × (Nat → Int32) × (Nat → Int32) => (u.1.toInt = 0) ∧ (0 ≤ u.1.toInt ∧ u.1.toInt ≤ 1000) ∧ zE iPu B.n (zRw B.n B.P) u.2.1 ∧ zEr B.n B.S (fun _ => 0) u.2.2.1 ∧ zE iGa B.n (fun _ => 0) u.2.2.2) (zPost g (fun u : Int32 × (Nat → Int32) × (Nat → Int32) × (Nat → Int32) => [(h0, .inr (5, [.ref h1, .int f0, .ref h2, .int f1, .int f2, .ref h3, .ref h4, .ref h5, .ref h6, .int f3, .ref h7, .ref h8, .ref h9, .int u.1, .ref h10, .ref h11, .ref h12, .ref h13, .ref h14, .ref h15, .ref h16, .ref h17, .ref h18, .ref h19, .ref h20, .ref h21, .ref h22])), (h1, .inl (zI g, 180, .inl Z0)), (h7, .inl (zI g, 5, .inl u.2.1)), (h8, .inl (zI g, 5, .inl u.2.2.1)), (h9, .inl (zI g, 5, .inl u.2.2.2))]) (va_A [(h0, .inr (5, [.ref h1, .int f0, .ref h2, .int f1, .int f2, .ref h3, .ref h4, .ref h5, .ref h6, .int f3, .ref h7, .ref h8, .ref h9, .int f4, .ref h10, .ref h11, .ref h12, .ref h13, .ref h14, .ref h15, .ref h16, .ref h17, .ref h18, .ref h19, .ref h20, .ref h21, .ref h22])), (h1, .inl (zI g, 180, .inl Z0)), (h7, .inl (zI g, 5, .inl Z6)), (h8, .inl (zI g, 5, .inl Z7)), (h9, .inl (zI g, 5, .inl Z8))] sz)) (va_A [(h0, .inr (5, [.ref h1, .int f0, .ref h2, .int f1, .int f2, .ref h3, .ref h4, .ref h5, .ref h6, .int f3, .ref h7, .ref h8, .ref h9, .int f4, .ref h10, .ref h11, .ref h12, .ref h13, .ref h14, .ref h15, .ref h16, .ref h17, .ref h18, .ref h19, .ref h20, .ref h21, .ref h22])), (h1, .inl (zI g, 180, .inl Z0)), (h7, .inl (zI g, 5, .inl Z6)), (h8, .inl (zI g, 5, .inl Z7)), (h9, .inl (zI g, 5, .inl Z8))] sz)) 0 0 (va_A [(h0, .inr (5, [.ref h1, .int f0, .ref h2, .int f1, .int f2, .ref h3, .ref h4, .ref h5, .ref h6, .int f3, .ref h7, .ref h8, .ref h9, .int f4, .ref h10, .ref h11, .ref h12, .ref h13, .ref h14, .ref h15, .ref h16, .ref h17, .ref h18, .ref h19, .ref h20, .ref h21, .ref h22])), (h1, .inl (zI g, 180, .inl Z0)), (h7, .inl (zI g, 5, .inl Z6)), (h8, .inl (zI g, 5, .inl Z7)), (h9, .inl (zI g, 5, .inl Z8))] sz) := by
  refine zMetV rfl (Nat.le_of_ble_eq_true rfl) ?_
  intro p e s m args below meth c A ls hx hb hml hr hlocks hin hown hts hK hN hZ hP hD hA hS hAe hl
  have hown : s.vm.findClass RX5 = some m.cls := hown
  have hl : lv_has ls 2 [(0, .ref h0)] := hl
  refine lv_aload_n hx hb dX5_openMorning_0 rfl (lv_at hl 0 rfl) ?_
  refine lv_iconst (v := 0) hx hb dX5_openMorning_1 (by decide) ?_
  refine va_put (D := g.1) (ci := 5) (v := .int 0) (ty := .int) (C := RX5) (T := TX5) (N := 27) hx hb hts zl_X5 tyX5 tyX5_ok nmX5 hown hK hP hD hS 0 rfl rfl 13 (by decide) (hts _ m_f_RX5_147) (fun _ h => h) rfl (by decide +kernel) rfl rfl (Nat.le_of_ble_eq_true rfl) dX5_openMorning_2 (fun H locs hP hD hS => ?_)
  have hP : va_P g.1 vwCl [(h0, .inr (5, [.ref h1, .int f0, .ref h2, .int f1, .int f2, .ref h3, .ref h4, .ref h5, .ref h6, .int f3, .ref h7, .ref h8, .ref h9, .int 0, .ref h10, .ref h11, .ref h12, .ref h13, .ref h14, .ref h15, .ref h16, .ref h17, .ref h18, .ref h19, .ref h20, .ref h21, .ref h22])), (h1, .inl (zI g, 180, .inl Z0)), (h7, .inl (zI g, 5, .inl Z6)), (h8, .inl (zI g, 5, .inl Z7)), (h9, .inl (zI g, 5, .inl Z8))] H := hP
  have hD : va_D A [(h0, .inr (5, [.ref h1, .int f0, .ref h2, .int f1, .int f2, .ref h3, .ref h4, .ref h5, .ref h6, .int f3, .ref h7, .ref h8, .ref h9, .int 0, .ref h10, .ref h11, .ref h12, .ref h13, .ref h14, .ref h15, .ref h16, .ref h17, .ref h18, .ref h19, .ref h20, .ref h21, .ref h22])), (h1, .inl (zI g, 180, .inl Z0)), (h7, .inl (zI g, 5, .inl Z6)), (h8, .inl (zI g, 5, .inl Z7)), (h9, .inl (zI g, 5, .inl Z8))] := hD
  have hnr := iW_nr hF_Z0
  have hI0 : zEP iPu (zRw B.n B.P) 0 Z6 := ⟨hF_Z6, zTo_0⟩
  have hI1 : zEP iRo (zCap B.S) 0 Z7 := ⟨hF_Z7, zTo_0⟩
  have hI2 : zEP iGa (fun _ => 0) 0 Z8 := ⟨hF_Z8, zTo_0⟩
  refine lv_iconst (v := 0) hx hb dX5_openMorning_5 (by decide) ?_
  refine lv_istore_n (lv' := [(1, .int 0), (0, .ref h0)]) hx hb dX5_openMorning_6 rfl hl (by decide) rfl (fun ls hl => ?_)
  have loop7_0 : ∀ (n1 : Nat) (v1_0 : Int32) (G0_0 : Nat → Int32) (G1_0 : Nat → Int32) (G2_0 : Nat → Int32) (hG0_0 : zEP iPu (zRw B.n B.P) (v1_0.toInt) G0_0) (hG1_0 : zEP iRo (zCap B.S) (v1_0.toInt) G1_0) (hG2_0 : zEP iGa (fun _ => 0) (v1_0.toInt) G2_0) (n1_0 : 0 ≤ v1_0.toInt) (n1_1 : v1_0.toInt ≤ B.n) (hm1 : 5 - v1_0.toInt < (n1 : Int)) (H : Heap) (locs : List Loc), va_P g.1 vwCl [(h0, .inr (5, [.ref h1, .int f0, .ref h2, .int f1, .int f2, .ref h3, .ref h4, .ref h5, .ref h6, .int f3, .ref h7, .ref h8, .ref h9, .int 0, .ref h10, .ref h11, .ref h12, .ref h13, .ref h14, .ref h15, .ref h16, .ref h17, .ref h18, .ref h19, .ref h20, .ref h21, .ref h22])), (h1, .inl (zI g, 180, .inl Z0)), (h7, .inl (zI g, 5, .inl G0_0)), (h8, .inl (zI g, 5, .inl G1_0)), (h9, .inl (zI g, 5, .inl G2_0))] H → va_D A [(h0, .inr (5, [.ref h1, .int f0, .ref h2, .int f1, .int f2, .ref h3, .ref h4, .ref h5, .ref h6, .int f3, .ref h7, .ref h8, .ref h9, .int 0, .ref h10, .ref h11, .ref h12, .ref h13, .ref h14, .ref h15, .ref h16, .ref h17, .ref h18, .ref h19, .ref h20, .ref h21, .ref h22])), (h1, .inl (zI g, 180, .inl Z0)), (h7, .inl (zI g, 5, .inl G0_0)), (h8, .inl (zI g, 5, .inl G1_0)), (h9, .inl (zI g, 5, .inl G2_0))] → va_S A s.heap H locs → ∀ (ls : Array Slot), lv_has ls 2 [(0, .ref h0), (1, .int v1_0)] → W p l e ({ frames := 0, cells := 0, slots := 0, locals := 0 }) s m args below meth c H locs 0 0 (MQ below (va_Qv (fun u : Int32 × (Nat → Int32) × (Nat → Int32) × (Nat → Int32) => (u.1.toInt = 0) ∧ (0 ≤ u.1.toInt ∧ u.1.toInt ≤ 1000) ∧ zE iPu B.n (zRw B.n B.P) u.2.1 ∧ zEr B.n B.S (fun _ => 0) u.2.2.1 ∧ zE iGa B.n (fun _ => 0) u.2.2.2) (zPost g (fun u : Int32 × (Nat → Int32) × (Nat → Int32) × (Nat → Int32) => [(h0, .inr (5, [.ref h1, .int f0, .ref h2, .int f1, .int f2, .ref h3, .ref h4, .ref h5, .ref h6, .int f3, .ref h7, .ref h8, .ref h9, .int u.1, .ref h10, .ref h11, .ref h12, .ref h13, .ref h14, .ref h15, .ref h16, .ref h17, .ref h18, .ref h19, .ref h20, .ref h21, .ref h22])), (h1, .inl (zI g, 180, .inl Z0)), (h7, .inl (zI g, 5, .inl u.2.1)), (h8, .inl (zI g, 5, .inl u.2.2.1)), (h9, .inl (zI g, 5, .inl u.2.2.2))]) A) A) args s 0 0 A) (F0 m 7 ls []) := by
    intro n1
    induction n1 with
    | zero => intro v1_0 G0_0 G1_0 G2_0 hG0_0 hG1_0 hG2_0 n1_0 n1_1 hm1; exfalso; omega
    | succ n1 ih1 =>
      intro v1_0 G0_0 G1_0 G2_0 hG0_0 hG1_0 hG2_0 n1_0 n1_1 hm1 H locs hP hD hS ls hl
      refine lv_iload_n hx hb dX5_openMorning_7 rfl (lv_at hl 1 rfl) ?_
      refine lv_aload_n hx hb dX5_openMorning_8 rfl (lv_at hl 0 rfl) ?_
      refine va_get (D := g.1) (ci := 5) (v := .ref h1) (C := RX5) (T := TX5) (N := 27) hx hb hts zl_X5 hown hK hP 0 rfl rfl 0 (by decide) (hts _ m_f_RX5_7) (fun _ h => h) rfl dX5_openMorning_9 ?_
      refine lv_bipush (v := 12) hx hb dX5_openMorning_12 (by decide) ?_
      refine va_iald (D := g.1) hx hb hK hP 1 0 rfl rfl (vp_in_iff.mpr (by decide +kernel)) dX5_openMorning_14 ?_
      refine lv_topi (fun y3 ey3 => ?_)
      have qy3_0 : 0 ≤ y3.toInt := ((iW_at (i := (12 : Int32)) (a := 12) hF_Z0 (rfl) (by omega) (by omega) ey3).2.2.2.2.2 (by omega)).1
      have qy3_1 : y3.toInt ≤ 5 := ((iW_at (i := (12 : Int32)) (a := 12) hF_Z0 (rfl) (by omega) (by omega) ey3).2.2.2.2.2 (by omega)).2
      have qy3_2 : y3.toInt = (Z0 12).toInt := congrArg Int32.toInt ey3
      have qy3_3 : y3.toInt = B.n := (congrArg Int32.toInt ey3).trans (iW_n hF_Z0)
      refine lv_icmp_ge (tgt := 70) hx hb dX5_openMorning_15 (by decide) (fun c_1 => ?_) (fun c_1 => ?_)
      · have i_1 : y3.toInt ≤ v1_0.toInt := z_le (rfl) (rfl) c_1
        have hk9 : v1_0.toInt = B.n := by omega
        have hI4 : zE iPu B.n (zRw B.n B.P) G0_0 := ⟨hG0_0.1, zTo_rwB (zTo_eq hG0_0.2 hk9)⟩
        have hI5 : zEr B.n B.S (fun _ => 0) G1_0 := ⟨hG1_0.1, zHd_cap (zTo_eq hG1_0.2 hk9)⟩
        have hI6 : zE iGa B.n (fun _ => 0) G2_0 := ⟨hG2_0.1, zTo_rw (zTo_eq hG2_0.2 hk9) (fun _ _ => rfl)⟩
        have hP9 := hP.sub (ws' := [(h0, .inr (5, [.ref h1, .int f0, .ref h2, .int f1, .int f2, .ref h3, .ref h4, .ref h5, .ref h6, .int f3, .ref h7, .ref h8, .ref h9, .int 0, .ref h10, .ref h11, .ref h12, .ref h13, .ref h14, .ref h15, .ref h16, .ref h17, .ref h18, .ref h19, .ref h20, .ref h21, .ref h22])), (h1, .inl (zI g, 180, .inl Z0)), (h7, .inl (zI g, 5, .inl G0_0)), (h8, .inl (zI g, 5, .inl G1_0)), (h9, .inl (zI g, 5, .inl G2_0))]) [0, 1, 2, 3, 4] rfl
        have hD9 := hD.sub (ws' := [(h0, .inr (5, [.ref h1, .int f0, .ref h2, .int f1, .int f2, .ref h3, .ref h4, .ref h5, .ref h6, .int f3, .ref h7, .ref h8, .ref h9, .int 0, .ref h10, .ref h11, .ref h12, .ref h13, .ref h14, .ref h15, .ref h16, .ref h17, .ref h18, .ref h19, .ref h20, .ref h21, .ref h22])), (h1, .inl (zI g, 180, .inl Z0)), (h7, .inl (zI g, 5, .inl G0_0)), (h8, .inl (zI g, 5, .inl G1_0)), (h9, .inl (zI g, 5, .inl G2_0))]) [0, 1, 2, 3, 4] (by decide) rfl
        exact W.vret hx hb hr (fun t ht hW => ⟨⟨⟨0, G0_0, G1_0, G2_0⟩, rfl, ⟨(show 0 = 0 from by first | omega | decide), ⟨show 0 ≤ (0 : Int32).toInt from by decide, show (0 : Int32).toInt ≤ 1000 from by decide⟩, hI4, hI5, hI6⟩, by rw [ht]; exact hP9, hD9⟩, hS.F ht⟩) hS.2.2 dX5_openMorning_70
      · have i_1 : v1_0.toInt < y3.toInt := z_nle (rfl) (rfl) c_1
        refine lv_aload_n hx hb dX5_openMorning_18 rfl (lv_at hl 0 rfl) ?_
        refine va_get (D := g.1) (ci := 5) (v := .ref h7) (C := RX5) (T := TX5) (N := 27) hx hb hts zl_X5 hown hK hP 0 rfl rfl 10 (by decide) (hts _ m_f_RX5_28) (fun _ h => h) rfl dX5_openMorning_19 ?_
        refine lv_iload_n hx hb dX5_openMorning_22 rfl (lv_at hl 1 rfl) ?_
        refine lv_aload_n hx hb dX5_openMorning_23 rfl (lv_at hl 0 rfl) ?_
        refine va_get (D := g.1) (ci := 5) (v := .ref h1) (C := RX5) (T := TX5) (N := 27) hx hb hts zl_X5 hown hK hP 0 rfl rfl 0 (by decide) (hts _ m_f_RX5_7) (fun _ h => h) rfl dX5_openMorning_24 ?_
        refine lv_bipush (v := 18) hx hb dX5_openMorning_27 (by decide) ?_
        refine lv_iload_n hx hb dX5_openMorning_29 rfl (lv_at hl 1 rfl) ?_
        refine lv_iadd hx hb dX5_openMorning_30 ?_
        refine lv_topi (fun y7 ey7 => ?_)
        have qy7_0 : y7.toInt = 18 + v1_0.toInt := zi_add ey7 (rfl) (rfl) (by omega) (by omega)
        refine va_iald (D := g.1) hx hb hK hP 1 0 rfl rfl (vp_in_iff.mpr ⟨by omega, by omega⟩) dX5_openMorning_31 ?_
        refine lv_topi (fun y8 ey8 => ?_)
        have qy8_0 : y8.toInt = (Z0 y7.toNatClampNeg).toInt := congrArg Int32.toInt ey8
        have py8_0 : y8.toInt = (B.P v1_0.toNatClampNeg).toInt := congrArg Int32.toInt (iW_P (i := y7) (a := v1_0.toInt) hF_Z0 (by omega) (by omega) (by omega) ey8)
        have py8_1 : (-99) ≤ y8.toInt := by have := i_at (N := 5) (lo := (-99)) (hi := 9999) (i := v1_0) (a := v1_0.toInt) hB.2.2.2.1 rfl (by omega) (by omega) rfl; omega
        have py8_2 : y8.toInt ≤ 9999 := by have := i_at (N := 5) (lo := (-99)) (hi := 9999) (i := v1_0) (a := v1_0.toInt) hB.2.2.2.1 rfl (by omega) (by omega) rfl; omega
        refine va_iast (D := g.1) hx hb hK hP hD hS 2 0 rfl rfl (vp_in_iff.mpr ⟨by omega, by omega⟩) dX5_openMorning_32 (fun H locs hP hD hS => ?_)
        have hP : va_P g.1 vwCl [(h0, .inr (5, [.ref h1, .int f0, .ref h2, .int f1, .int f2, .ref h3, .ref h4, .ref h5, .ref h6, .int f3, .ref h7, .ref h8, .ref h9, .int 0, .ref h10, .ref h11, .ref h12, .ref h13, .ref h14, .ref h15, .ref h16, .ref h17, .ref h18, .ref h19, .ref h20, .ref h21, .ref h22])), (h1, .inl (zI g, 180, .inl Z0)), (h7, .inl (zI g, 5, .inl (upd G0_0 v1_0.toNatClampNeg y8))), (h8, .inl (zI g, 5, .inl G1_0)), (h9, .inl (zI g, 5, .inl G2_0))] H := hP
        have hD : va_D A [(h0, .inr (5, [.ref h1, .int f0, .ref h2, .int f1, .int f2, .ref h3, .ref h4, .ref h5, .ref h6, .int f3, .ref h7, .ref h8, .ref h9, .int 0, .ref h10, .ref h11, .ref h12, .ref h13, .ref h14, .ref h15, .ref h16, .ref h17, .ref h18, .ref h19, .ref h20, .ref h21, .ref h22])), (h1, .inl (zI g, 180, .inl Z0)), (h7, .inl (zI g, 5, .inl (upd G0_0 v1_0.toNatClampNeg y8))), (h8, .inl (zI g, 5, .inl G1_0)), (h9, .inl (zI g, 5, .inl G2_0))] := hD
        have hI9 : zEP iPu (zRw B.n B.P) (v1_0.toInt + 1) (upd G0_0 v1_0.toNatClampNeg y8) := zEP_put (i := v1_0) hG0_0 (i_put (N := 5) (lo := (-99)) (hi := 9999) hG0_0.1 (by first | omega | decide) (by first | omega | decide)) rfl (by omega) (rfl) (by rw [zRw_i (by omega) (by omega)]; omega)
        obtain ⟨R10, eR10⟩ : ∃ z : Nat → Int32, z = (upd G0_0 v1_0.toNatClampNeg y8) := ⟨_, rfl⟩
        rw [← eR10] at hP hD hI9
        refine lv_aload_n hx hb dX5_openMorning_33 rfl (lv_at hl 0 rfl) ?_
        refine va_get (D := g.1) (ci := 5) (v := .ref h8) (C := RX5) (T := TX5) (N := 27) hx hb hts zl_X5 hown hK hP 0 rfl rfl 11 (by decide) (hts _ m_f_RX5_31) (fun _ h => h) rfl dX5_openMorning_34 ?_
        refine lv_iload_n hx hb dX5_openMorning_37 rfl (lv_at hl 1 rfl) ?_
        refine lv_aload_n hx hb dX5_openMorning_38 rfl (lv_at hl 0 rfl) ?_
        refine va_get (D := g.1) (ci := 5) (v := .ref h1) (C := RX5) (T := TX5) (N := 27) hx hb hts zl_X5 hown hK hP 0 rfl rfl 0 (by decide) (hts _ m_f_RX5_7) (fun _ h => h) rfl dX5_openMorning_39 ?_
        refine lv_bipush (v := 13) hx hb dX5_openMorning_42 (by decide) ?_
        refine lv_iload_n hx hb dX5_openMorning_44 rfl (lv_at hl 1 rfl) ?_
        refine lv_iadd hx hb dX5_openMorning_45 ?_
        refine lv_topi (fun y11 ey11 => ?_)
        have qy11_0 : y11.toInt = 13 + v1_0.toInt := zi_add ey11 (rfl) (rfl) (by omega) (by omega)
        refine va_iald (D := g.1) hx hb hK hP 1 0 rfl rfl (vp_in_iff.mpr ⟨by omega, by omega⟩) dX5_openMorning_46 ?_
        refine lv_topi (fun y12 ey12 => ?_)
        have qy12_0 : y12.toInt = (Z0 y11.toNatClampNeg).toInt := congrArg Int32.toInt ey12
        have py12_0 : y12.toInt = (B.S v1_0.toNatClampNeg).toInt := congrArg Int32.toInt (iW_S (i := y11) (a := v1_0.toInt) hF_Z0 (by omega) (by omega) (by omega) ey12)
        have py12_1 : 0 ≤ y12.toInt := by have := i_at (N := 5) (lo := 0) (hi := 4) (i := v1_0) (a := v1_0.toInt) hB.2.2.1 rfl (by omega) (by omega) rfl; omega
        have py12_2 : y12.toInt ≤ 4 := by have := i_at (N := 5) (lo := 0) (hi := 4) (i := v1_0) (a := v1_0.toInt) hB.2.2.1 rfl (by omega) (by omega) rfl; omega
        refine lv_iconst (v := 2) hx hb dX5_openMorning_47 (by decide) ?_
        refine lv_icmp_ne (tgt := 55) hx hb dX5_openMorning_48 (by decide) (fun c_2 => ?_) (fun c_2 => ?_)
        · have i_2 : y12.toInt ≠ 2 := z_ne (rfl) (rfl) c_2
          refine lv_iconst (v := 1) hx hb dX5_openMorning_55 (by decide) ?_
          refine va_iast (D := g.1) hx hb hK hP hD hS 3 0 rfl rfl (vp_in_iff.mpr ⟨by omega, by omega⟩) dX5_openMorning_56 (fun H locs hP hD hS => ?_)
          have hP : va_P g.1 vwCl [(h0, .inr (5, [.ref h1, .int f0, .ref h2, .int f1, .int f2, .ref h3, .ref h4, .ref h5, .ref h6, .int f3, .ref h7, .ref h8, .ref h9, .int 0, .ref h10, .ref h11, .ref h12, .ref h13, .ref h14, .ref h15, .ref h16, .ref h17, .ref h18, .ref h19, .ref h20, .ref h21, .ref h22])), (h1, .inl (zI g, 180, .inl Z0)), (h7, .inl (zI g, 5, .inl R10)), (h8, .inl (zI g, 5, .inl (upd G1_0 v1_0.toNatClampNeg 1))), (h9, .inl (zI g, 5, .inl G2_0))] H := hP
          have hD : va_D A [(h0, .inr (5, [.ref h1, .int f0, .ref h2, .int f1, .int f2, .ref h3, .ref h4, .ref h5, .ref h6, .int f3, .ref h7, .ref h8, .ref h9, .int 0, .ref h10, .ref h11, .ref h12, .ref h13, .ref h14, .ref h15, .ref h16, .ref h17, .ref h18, .ref h19, .ref h20, .ref h21, .ref h22])), (h1, .inl (zI g, 180, .inl Z0)), (h7, .inl (zI g, 5, .inl R10)), (h8, .inl (zI g, 5, .inl (upd G1_0 v1_0.toNatClampNeg 1))), (h9, .inl (zI g, 5, .inl G2_0))] := hD
          have hI13 : zEP iRo (zCap B.S) (v1_0.toInt + 1) (upd G1_0 v1_0.toNatClampNeg 1) := zEP_put (i := v1_0) hG1_0 (i_put (N := 5) (lo := 0) (hi := 2) hG1_0.1 (by first | omega | decide) (by first | omega | decide)) rfl (by omega) (rfl) (by rw [zCap_1 (by omega)]; rfl)
          obtain ⟨R14, eR14⟩ : ∃ z : Nat → Int32, z = (upd G1_0 v1_0.toNatClampNeg 1) := ⟨_, rfl⟩
          rw [← eR14] at hP hD hI13
          refine lv_aload_n hx hb dX5_openMorning_57 rfl (lv_at hl 0 rfl) ?_
          refine va_get (D := g.1) (ci := 5) (v := .ref h9) (C := RX5) (T := TX5) (N := 27) hx hb hts zl_X5 hown hK hP 0 rfl rfl 12 (by decide) (hts _ m_f_RX5_34) (fun _ h => h) rfl dX5_openMorning_58 ?_
          refine lv_iload_n hx hb dX5_openMorning_61 rfl (lv_at hl 1 rfl) ?_
          refine lv_iconst (v := 0) hx hb dX5_openMorning_62 (by decide) ?_
          refine va_iast (D := g.1) hx hb hK hP hD hS 4 0 rfl rfl (vp_in_iff.mpr ⟨by omega, by omega⟩) dX5_openMorning_63 (fun H locs hP hD hS => ?_)
          have hP : va_P g.1 vwCl [(h0, .inr (5, [.ref h1, .int f0, .ref h2, .int f1, .int f2, .ref h3, .ref h4, .ref h5, .ref h6, .int f3, .ref h7, .ref h8, .ref h9, .int 0, .ref h10, .ref h11, .ref h12, .ref h13, .ref h14, .ref h15, .ref h16, .ref h17, .ref h18, .ref h19, .ref h20, .ref h21, .ref h22])), (h1, .inl (zI g, 180, .inl Z0)), (h7, .inl (zI g, 5, .inl R10)), (h8, .inl (zI g, 5, .inl R14)), (h9, .inl (zI g, 5, .inl (upd G2_0 v1_0.toNatClampNeg 0)))] H := hP
          have hD : va_D A [(h0, .inr (5, [.ref h1, .int f0, .ref h2, .int f1, .int f2, .ref h3, .ref h4, .ref h5, .ref h6, .int f3, .ref h7, .ref h8, .ref h9, .int 0, .ref h10, .ref h11, .ref h12, .ref h13, .ref h14, .ref h15, .ref h16, .ref h17, .ref h18, .ref h19, .ref h20, .ref h21, .ref h22])), (h1, .inl (zI g, 180, .inl Z0)), (h7, .inl (zI g, 5, .inl R10)), (h8, .inl (zI g, 5, .inl R14)), (h9, .inl (zI g, 5, .inl (upd G2_0 v1_0.toNatClampNeg 0)))] := hD
          have hI15 : zEP iGa (fun _ => 0) (v1_0.toInt + 1) (upd G2_0 v1_0.toNatClampNeg 0) := zEP_put (i := v1_0) hG2_0 (i_put (N := 5) (lo := (-1000)) (hi := 1000) hG2_0.1 (by first | omega | decide) (by first | omega | decide)) rfl (by omega) (rfl) (rfl)
          obtain ⟨R16, eR16⟩ : ∃ z : Nat → Int32, z = (upd G2_0 v1_0.toNatClampNeg 0) := ⟨_, rfl⟩
          rw [← eR16] at hP hD hI15
          obtain ⟨y17, ey17⟩ : ∃ z : Int32, z = v1_0 + 1 := ⟨_, rfl⟩
          have qy17 : y17.toInt = v1_0.toInt + 1 := zi_add ey17 (rfl) rfl (by omega) (by omega)
          refine lv_iinc (v := y17) (lv' := [(1, .int y17), (0, .ref h0)]) hx hb dX5_openMorning_64 hl (k := 1) rfl ey17.symm (by decide) rfl (fun ls hl => ?_)
          refine lv_goto (tgt := 7) hx hb dX5_openMorning_67 (by decide) ?_
          exact ih1 y17 R10 R14 R16 (zEP_eq hI9 (by omega)) (zEP_eq hI13 (by omega)) (zEP_eq hI15 (by omega)) (by omega) (by omega) (by omega) _ _ hP hD hS ls (lv_sub hl [1, 0] rfl)
        · have i_2 : y12.toInt = 2 := z_eq (rfl) (rfl) c_2
          refine lv_iconst (v := 2) hx hb dX5_openMorning_51 (by decide) ?_
          refine lv_goto (tgt := 56) hx hb dX5_openMorning_52 (by decide) ?_
          refine va_iast (D := g.1) hx hb hK hP hD hS 3 0 rfl rfl (vp_in_iff.mpr ⟨by omega, by omega⟩) dX5_openMorning_56 (fun H locs hP hD hS => ?_)
          have hP : va_P g.1 vwCl [(h0, .inr (5, [.ref h1, .int f0, .ref h2, .int f1, .int f2, .ref h3, .ref h4, .ref h5, .ref h6, .int f3, .ref h7, .ref h8, .ref h9, .int 0, .ref h10, .ref h11, .ref h12, .ref h13, .ref h14, .ref h15, .ref h16, .ref h17, .ref h18, .ref h19, .ref h20, .ref h21, .ref h22])), (h1, .inl (zI g, 180, .inl Z0)), (h7, .inl (zI g, 5, .inl R10)), (h8, .inl (zI g, 5, .inl (upd G1_0 v1_0.toNatClampNeg 2))), (h9, .inl (zI g, 5, .inl G2_0))] H := hP
          have hD : va_D A [(h0, .inr (5, [.ref h1, .int f0, .ref h2, .int f1, .int f2, .ref h3, .ref h4, .ref h5, .ref h6, .int f3, .ref h7, .ref h8, .ref h9, .int 0, .ref h10, .ref h11, .ref h12, .ref h13, .ref h14, .ref h15, .ref h16, .ref h17, .ref h18, .ref h19, .ref h20, .ref h21, .ref h22])), (h1, .inl (zI g, 180, .inl Z0)), (h7, .inl (zI g, 5, .inl R10)), (h8, .inl (zI g, 5, .inl (upd G1_0 v1_0.toNatClampNeg 2))), (h9, .inl (zI g, 5, .inl G2_0))] := hD
          have hI18 : zEP iRo (zCap B.S) (v1_0.toInt + 1) (upd G1_0 v1_0.toNatClampNeg 2) := zEP_put (i := v1_0) hG1_0 (i_put (N := 5) (lo := 0) (hi := 2) hG1_0.1 (by first | omega | decide) (by first | omega | decide)) rfl (by omega) (rfl) (by rw [zCap_2 (by omega)]; rfl)
          obtain ⟨R19, eR19⟩ : ∃ z : Nat → Int32, z = (upd G1_0 v1_0.toNatClampNeg 2) := ⟨_, rfl⟩
          rw [← eR19] at hP hD hI18
          refine lv_aload_n hx hb dX5_openMorning_57 rfl (lv_at hl 0 rfl) ?_
          refine va_get (D := g.1) (ci := 5) (v := .ref h9) (C := RX5) (T := TX5) (N := 27) hx hb hts zl_X5 hown hK hP 0 rfl rfl 12 (by decide) (hts _ m_f_RX5_34) (fun _ h => h) rfl dX5_openMorning_58 ?_
          refine lv_iload_n hx hb dX5_openMorning_61 rfl (lv_at hl 1 rfl) ?_
          refine lv_iconst (v := 0) hx hb dX5_openMorning_62 (by decide) ?_
          refine va_iast (D := g.1) hx hb hK hP hD hS 4 0 rfl rfl (vp_in_iff.mpr ⟨by omega, by omega⟩) dX5_openMorning_63 (fun H locs hP hD hS => ?_)
          have hP : va_P g.1 vwCl [(h0, .inr (5, [.ref h1, .int f0, .ref h2, .int f1, .int f2, .ref h3, .ref h4, .ref h5, .ref h6, .int f3, .ref h7, .ref h8, .ref h9, .int 0, .ref h10, .ref h11, .ref h12, .ref h13, .ref h14, .ref h15, .ref h16, .ref h17, .ref h18, .ref h19, .ref h20, .ref h21, .ref h22])), (h1, .inl (zI g, 180, .inl Z0)), (h7, .inl (zI g, 5, .inl R10)), (h8, .inl (zI g, 5, .inl R19)), (h9, .inl (zI g, 5, .inl (upd G2_0 v1_0.toNatClampNeg 0)))] H := hP
          have hD : va_D A [(h0, .inr (5, [.ref h1, .int f0, .ref h2, .int f1, .int f2, .ref h3, .ref h4, .ref h5, .ref h6, .int f3, .ref h7, .ref h8, .ref h9, .int 0, .ref h10, .ref h11, .ref h12, .ref h13, .ref h14, .ref h15, .ref h16, .ref h17, .ref h18, .ref h19, .ref h20, .ref h21, .ref h22])), (h1, .inl (zI g, 180, .inl Z0)), (h7, .inl (zI g, 5, .inl R10)), (h8, .inl (zI g, 5, .inl R19)), (h9, .inl (zI g, 5, .inl (upd G2_0 v1_0.toNatClampNeg 0)))] := hD
          have hI20 : zEP iGa (fun _ => 0) (v1_0.toInt + 1) (upd G2_0 v1_0.toNatClampNeg 0) := zEP_put (i := v1_0) hG2_0 (i_put (N := 5) (lo := (-1000)) (hi := 1000) hG2_0.1 (by first | omega | decide) (by first | omega | decide)) rfl (by omega) (rfl) (rfl)
          obtain ⟨R21, eR21⟩ : ∃ z : Nat → Int32, z = (upd G2_0 v1_0.toNatClampNeg 0) := ⟨_, rfl⟩
          rw [← eR21] at hP hD hI20
          obtain ⟨y22, ey22⟩ : ∃ z : Int32, z = v1_0 + 1 := ⟨_, rfl⟩
          have qy22 : y22.toInt = v1_0.toInt + 1 := zi_add ey22 (rfl) rfl (by omega) (by omega)
          refine lv_iinc (v := y22) (lv' := [(1, .int y22), (0, .ref h0)]) hx hb dX5_openMorning_64 hl (k := 1) rfl ey22.symm (by decide) rfl (fun ls hl => ?_)
          refine lv_goto (tgt := 7) hx hb dX5_openMorning_67 (by decide) ?_
          exact ih1 y22 R10 R19 R21 (zEP_eq hI9 (by omega)) (zEP_eq hI18 (by omega)) (zEP_eq hI20 (by omega)) (by omega) (by omega) (by omega) _ _ hP hD hS ls (lv_sub hl [1, 0] rfl)
  have : (0 : Int32).toInt = 0 := rfl
  exact loop7_0 ((5 - 0 : Int).toNat + 1) (0 : Int32) Z6 Z7 Z8 (zEP_eq hI0 (by omega)) (zEP_eq hI1 (by omega)) (zEP_eq hI2 (by omega)) (by omega) (by omega) (by omega) _ _ hP hD hS ls (lv_sub hl [1, 0] rfl)
set_option maxHeartbeats 8000000 in
set_option maxRecDepth 100000 in
theorem gX5_has (l : Launch) (g : zG) (sz : Nat) (p0 : Int32) (p1 : Int32) : Met l yX5_has (.code yX5_has cX5_has 2 (some .boolean) :: zBig) ({ frames := 0, cells := 0, slots := 0, locals := 0 }) (va_Pc [.int p0, .int p1] (zPre g [] sz)) (va_Qi (fun (r : Int32) (u : Nat) => (zbit p0 p1 = 1 ∧ r = 1) ∨ (zbit p0 p1 = 0 ∧ r = 0)) (zPost g (fun u : Nat => []) (va_A [] sz)) (va_A [] sz)) 0 0 (va_A [] sz) := by
  refine zMetI rfl (Nat.le_of_ble_eq_true rfl) ?_
  intro p e s m args below meth c A ls hx hb hml hr hlocks hin hown hts hK hN hZ hP hD hA hS hAe hl
  have hown : s.vm.findClass RX5 = some m.cls := hown
  have hl : lv_has ls 2 [(0, .int p0), (1, .int p1)] := hl
  refine lv_iload_n hx hb dX5_has_0 rfl (lv_at hl 0 rfl) ?_
  refine lv_iload_n hx hb dX5_has_1 rfl (lv_at hl 1 rfl) ?_
  refine lv_ishr hx hb dX5_has_2 ?_
  refine lv_topi (fun y0 ey0 => ?_)
  refine lv_iconst (v := 1) hx hb dX5_has_3 (by decide) ?_
  refine lv_iand hx hb dX5_has_4 ?_
  refine lv_topi (fun y1 ey1 => ?_)
  have qy1_0 : 0 ≤ y1.toInt := (zi_and1 ey1).1
  have qy1_1 : y1.toInt ≤ 1 := (zi_and1 ey1).2
  have py1_0 : zbit p0 p1 = y1.toInt := zbit_eq ey0 ey1
  refine lv_iconst (v := 1) hx hb dX5_has_5 (by decide) ?_
  refine lv_icmp_ne (tgt := 13) hx hb dX5_has_6 (by decide) (fun c_0 => ?_) (fun c_0 => ?_)
  · have i_0 : y1.toInt ≠ 1 := z_ne (rfl) (rfl) c_0
    refine lv_iconst (v := 0) hx hb dX5_has_13 (by decide) ?_
    have hP9 := hP.sub (ws' := []) [] rfl
    have hD9 := hD.sub (ws' := []) [] (by decide) rfl
    exact W.zret (v := 0) hx hb hr (by decide) (fun t ht hW => ⟨⟨0, (0 : Nat), rfl, Or.inr (⟨(by first | omega | decide), rfl⟩), by rw [ht]; exact hP9, hD9⟩, hS.F ht⟩) hS.2.2 dX5_has_14
  · have i_0 : y1.toInt = 1 := z_eq (rfl) (rfl) c_0
    refine lv_iconst (v := 1) hx hb dX5_has_9 (by decide) ?_
    refine lv_goto (tgt := 14) hx hb dX5_has_10 (by decide) ?_
    have hP9 := hP.sub (ws' := []) [] rfl
    have hD9 := hD.sub (ws' := []) [] (by decide) rfl
    exact W.zret (v := 1) hx hb hr (by decide) (fun t ht hW => ⟨⟨1, (0 : Nat), rfl, Or.inl ⟨(by first | omega | decide), rfl⟩, by rw [ht]; exact hP9, hD9⟩, hS.F ht⟩) hS.2.2 dX5_has_14
set_option maxHeartbeats 8000000 in
set_option maxRecDepth 100000 in
theorem gX5_worthOf (l : Launch) (g : zG) (K : Prop) (B C : zBk) (hB : bOk B) (h0 h1 h2 h3 h4 h5 h6 h7 h8 h9 h10 h11 h12 h13 h14 h15 h16 h17 h18 h19 h20 h21 h22 : Nat) (sz : Nat) (p1 : Int32) (p2 : Int32) (f0 : Int32) (f1 : Int32) (f2 : Int32) (f3 : Int32) (f4 : Int32) (Z0 : Nat → Int32) (hp0 : 0 ≤ p1.toInt) (hp1 : p1.toInt < B.n) (hp2 : 0 ≤ p2.toInt) (hp3 : p2.toInt ≤ 3) (hf_f1 : 0 ≤ f1.toInt ∧ f1.toInt ≤ 60) (hf_f2 : 0 ≤ f2.toInt ∧ f2.toInt ≤ 60) (hf_f3 : 0 ≤ f3.toInt ∧ f3.toInt ≤ 31) (hf_f4 : 0 ≤ f4.toInt ∧ f4.toInt ≤ 1000) (hF_Z0 : iW K B C Z0) : Met l yX5_worthOf (.code yX5_worthOf cX5_worthOf 3 (some .int) :: zBig) ({ frames := 0, cells := 0, slots := 0, locals := 0 }) (va_Pc [.ref h0, .int p1, .int p2] (zPre g [(h0, .inr (5, [.ref h1, .int f0, .ref h2, .int f1, .int f2, .ref h3, .ref h4, .ref h5, .ref h6, .int f3, .ref h7, .ref h8, .ref h9, .int f4, .ref h10, .ref h11, .ref h12, .ref h13, .ref h14, .ref h15, .ref h16, .ref h17, .ref h18, .ref h19, .ref h20, .ref h21, .ref h22])), (h1, .inl (zI g, 180, .inl Z0))] sz)) (va_Qi (fun (r : Int32) (u : Nat) => r.toInt = zWq B.n B.V p1.toInt p2.toInt ∧ 0 ≤ r.toInt ∧ r.toInt ≤ 99) (zPost g (fun u : Nat => [(h0, .inr (5, [.ref h1, .int f0, .ref h2, .int f1, .int f2, .ref h3, .ref h4, .ref h5, .ref h6, .int f3, .ref h7, .ref h8, .ref h9, .int f4, .ref h10, .ref h11, .ref h12, .ref h13, .ref h14, .ref h15, .ref h16, .ref h17, .ref h18, .ref h19, .ref h20, .ref h21, .ref h22])), (h1, .inl (zI g, 180, .inl Z0))]) (va_A [(h0, .inr (5, [.ref h1, .int f0, .ref h2, .int f1, .int f2, .ref h3, .ref h4, .ref h5, .ref h6, .int f3, .ref h7, .ref h8, .ref h9, .int f4, .ref h10, .ref h11, .ref h12, .ref h13, .ref h14, .ref h15, .ref h16, .ref h17, .ref h18, .ref h19, .ref h20, .ref h21, .ref h22])), (h1, .inl (zI g, 180, .inl Z0))] sz)) (va_A [(h0, .inr (5, [.ref h1, .int f0, .ref h2, .int f1, .int f2, .ref h3, .ref h4, .ref h5, .ref h6, .int f3, .ref h7, .ref h8, .ref h9, .int f4, .ref h10, .ref h11, .ref h12, .ref h13, .ref h14, .ref h15, .ref h16, .ref h17, .ref h18, .ref h19, .ref h20, .ref h21, .ref h22])), (h1, .inl (zI g, 180, .inl Z0))] sz)) 0 0 (va_A [(h0, .inr (5, [.ref h1, .int f0, .ref h2, .int f1, .int f2, .ref h3, .ref h4, .ref h5, .ref h6, .int f3, .ref h7, .ref h8, .ref h9, .int f4, .ref h10, .ref h11, .ref h12, .ref h13, .ref h14, .ref h15, .ref h16, .ref h17, .ref h18, .ref h19, .ref h20, .ref h21, .ref h22])), (h1, .inl (zI g, 180, .inl Z0))] sz) := by
  refine zMetI rfl (Nat.le_of_ble_eq_true rfl) ?_
  intro p e s m args below meth c A ls hx hb hml hr hlocks hin hown hts hK hN hZ hP hD hA hS hAe hl
  have hown : s.vm.findClass RX5 = some m.cls := hown
  have hl : lv_has ls 3 [(0, .ref h0), (1, .int p1), (2, .int p2)] := hl
  have hnr := iW_nr hF_Z0
  refine lv_aload_n hx hb dX5_worthOf_0 rfl (lv_at hl 0 rfl) ?_
  refine va_get (D := g.1) (ci := 5) (v := .ref h1) (C := RX5) (T := TX5) (N := 27) hx hb hts zl_X5 hown hK hP 0 rfl rfl 0 (by decide) (hts _ m_f_RX5_7) (fun _ h => h) rfl dX5_worthOf_1 ?_
  refine lv_bipush (v := 28) hx hb dX5_worthOf_4 (by decide) ?_
  refine lv_iconst (v := 4) hx hb dX5_worthOf_6 (by decide) ?_
  refine lv_iload_n hx hb dX5_worthOf_7 rfl (lv_at hl 1 rfl) ?_
  refine lv_imul hx hb dX5_worthOf_8 ?_
  refine lv_topi (fun y0 ey0 => ?_)
  have qy0_0 : y0.toInt = 4 * p1.toInt := zi_mul ey0 (rfl) (rfl) (by omega) (by omega)
  refine lv_iadd hx hb dX5_worthOf_9 ?_
  refine lv_topi (fun y1 ey1 => ?_)
  have qy1_0 : y1.toInt = 28 + y0.toInt := zi_add ey1 (rfl) (rfl) (by omega) (by omega)
  refine lv_iload_n hx hb dX5_worthOf_10 rfl (lv_at hl 2 rfl) ?_
  refine lv_iadd hx hb dX5_worthOf_11 ?_
  refine lv_topi (fun y2 ey2 => ?_)
  have qy2_0 : y2.toInt = y1.toInt + p2.toInt := zi_add ey2 (rfl) (rfl) (by omega) (by omega)
  refine va_iald (D := g.1) hx hb hK hP 1 0 rfl rfl (vp_in_iff.mpr ⟨by omega, by omega⟩) dX5_worthOf_12 ?_
  refine lv_topi (fun y3 ey3 => ?_)
  have qy3_0 : y3.toInt = (Z0 y2.toNatClampNeg).toInt := congrArg Int32.toInt ey3
  have py3_0 : y3.toInt = (B.V (4 * p1.toInt + p2.toInt).toNat).toInt := congrArg Int32.toInt (iW_V (i := y2) (a := 4 * p1.toInt + p2.toInt) hF_Z0 (by omega) (by omega) (by omega) ey3)
  have hz : zWq B.n B.V p1.toInt p2.toInt = y3.toInt := (zWq_in (by omega) (by omega) (by omega) (by omega) (by omega)).trans (by rw [(by omega : (B.V (4 * p1.toInt + p2.toInt).toNat).toInt = y3.toInt)])
  have hzr := zWq_r (n := B.n) hB.2.2.2.2.2.1 (by omega) p1.toInt p2.toInt
  have hP9 := hP.sub (ws' := [(h0, .inr (5, [.ref h1, .int f0, .ref h2, .int f1, .int f2, .ref h3, .ref h4, .ref h5, .ref h6, .int f3, .ref h7, .ref h8, .ref h9, .int f4, .ref h10, .ref h11, .ref h12, .ref h13, .ref h14, .ref h15, .ref h16, .ref h17, .ref h18, .ref h19, .ref h20, .ref h21, .ref h22])), (h1, .inl (zI g, 180, .inl Z0))]) [0, 1] rfl
  have hD9 := hD.sub (ws' := [(h0, .inr (5, [.ref h1, .int f0, .ref h2, .int f1, .int f2, .ref h3, .ref h4, .ref h5, .ref h6, .int f3, .ref h7, .ref h8, .ref h9, .int f4, .ref h10, .ref h11, .ref h12, .ref h13, .ref h14, .ref h15, .ref h16, .ref h17, .ref h18, .ref h19, .ref h20, .ref h21, .ref h22])), (h1, .inl (zI g, 180, .inl Z0))]) [0, 1] (by decide) rfl
  exact W.iret (v := y3) hx hb hr (fun t ht hW => ⟨⟨y3, (0 : Nat), rfl, ⟨(by first | omega | decide), (by first | omega | decide), (by first | omega | decide)⟩, by rw [ht]; exact hP9, hD9⟩, hS.F ht⟩) hS.2.2 dX5_worthOf_13
set_option maxHeartbeats 8000000 in
set_option maxRecDepth 100000 in
theorem gX5_listening (l : Launch) (g : zG) (K : Prop) (B C : zBk) (hB : bOk B) (h0 h1 h2 h3 h4 h5 h6 h7 h8 h9 h10 h11 h12 h13 h14 h15 h16 h17 h18 h19 h20 h21 h22 : Nat) (sz : Nat) (p1 : Int32) (f0 : Int32) (f1 : Int32) (f2 : Int32) (f3 : Int32) (f4 : Int32) (Z0 : Nat → Int32) (Z7 : Nat → Int32) (hp0 : 0 ≤ p1.toInt) (hp1 : p1.toInt ≤ 3) (hf_f1 : 0 ≤ f1.toInt ∧ f1.toInt ≤ 60) (hf_f2 : 0 ≤ f2.toInt ∧ f2.toInt ≤ 60) (hf_f3 : 0 ≤ f3.toInt ∧ f3.toInt ≤ 31) (hf_f4 : 0 ≤ f4.toInt ∧ f4.toInt ≤ 1000) (hF_Z0 : iW K B C Z0) (hF_Z7 : iRo Z7) : Met l yX5_listening (.code yX5_listening cX5_listening 5 (some .int) :: zBig) ({ frames := 1, cells := 0, slots := 0, locals := 22 }) (va_Pc [.ref h0, .int p1] (zPre g [(h0, .inr (5, [.ref h1, .int f0, .ref h2, .int f1, .int f2, .ref h3, .ref h4, .ref h5, .ref h6, .int f3, .ref h7, .ref h8, .ref h9, .int f4, .ref h10, .ref h11, .ref h12, .ref h13, .ref h14, .ref h15, .ref h16, .ref h17, .ref h18, .ref h19, .ref h20, .ref h21, .ref h22])), (h1, .inl (zI g, 180, .inl Z0)), (h8, .inl (zI g, 5, .inl Z7))] sz)) (va_Qi (fun (r : Int32) (u : Nat) => r.toInt = zS5 (zOp B.n B.S B.V f3 p1.toInt (zHd B.n B.S Z7)) ∧ 0 ≤ r.toInt ∧ r.toInt ≤ 31) (zPost g (fun u : Nat => [(h0, .inr (5, [.ref h1, .int f0, .ref h2, .int f1, .int f2, .ref h3, .ref h4, .ref h5, .ref h6, .int f3, .ref h7, .ref h8, .ref h9, .int f4, .ref h10, .ref h11, .ref h12, .ref h13, .ref h14, .ref h15, .ref h16, .ref h17, .ref h18, .ref h19, .ref h20, .ref h21, .ref h22])), (h1, .inl (zI g, 180, .inl Z0)), (h8, .inl (zI g, 5, .inl Z7))]) (va_A [(h0, .inr (5, [.ref h1, .int f0, .ref h2, .int f1, .int f2, .ref h3, .ref h4, .ref h5, .ref h6, .int f3, .ref h7, .ref h8, .ref h9, .int f4, .ref h10, .ref h11, .ref h12, .ref h13, .ref h14, .ref h15, .ref h16, .ref h17, .ref h18, .ref h19, .ref h20, .ref h21, .ref h22])), (h1, .inl (zI g, 180, .inl Z0)), (h8, .inl (zI g, 5, .inl Z7))] sz)) (va_A [(h0, .inr (5, [.ref h1, .int f0, .ref h2, .int f1, .int f2, .ref h3, .ref h4, .ref h5, .ref h6, .int f3, .ref h7, .ref h8, .ref h9, .int f4, .ref h10, .ref h11, .ref h12, .ref h13, .ref h14, .ref h15, .ref h16, .ref h17, .ref h18, .ref h19, .ref h20, .ref h21, .ref h22])), (h1, .inl (zI g, 180, .inl Z0)), (h8, .inl (zI g, 5, .inl Z7))] sz)) 0 0 (va_A [(h0, .inr (5, [.ref h1, .int f0, .ref h2, .int f1, .int f2, .ref h3, .ref h4, .ref h5, .ref h6, .int f3, .ref h7, .ref h8, .ref h9, .int f4, .ref h10, .ref h11, .ref h12, .ref h13, .ref h14, .ref h15, .ref h16, .ref h17, .ref h18, .ref h19, .ref h20, .ref h21, .ref h22])), (h1, .inl (zI g, 180, .inl Z0)), (h8, .inl (zI g, 5, .inl Z7))] sz) := by
  refine zMetI rfl (Nat.le_of_ble_eq_true rfl) ?_
  intro p e s m args below meth c A ls hx hb hml hr hlocks hin hown hts hK hN hZ hP hD hA hS hAe hl
  have hown : s.vm.findClass RX5 = some m.cls := hown
  have hl : lv_has ls 5 [(0, .ref h0), (1, .int p1)] := hl
  have hnr := iW_nr hF_Z0
  have hsk0 : zSk (zNo (zRm B.n B.S (zHd B.n B.S Z7)) (zIb f3)) (0 : Int32).toInt = 0 := zSk_0
  have hv0 : zVo f3 (zWf B.n B.V p1.toInt) (zRm B.n B.S (zHd B.n B.S Z7)) (0 : Int32).toInt.toNat = -1 := rfl
  have hv00 : (-1 : Int32).toInt = -1 := rfl
  refine lv_iconst (v := 0) hx hb dX5_listening_0 (by decide) ?_
  refine lv_istore_n (lv' := [(2, .int 0), (0, .ref h0), (1, .int p1)]) hx hb dX5_listening_1 rfl hl (by decide) rfl (fun ls hl => ?_)
  refine lv_iconst (v := (-1)) hx hb dX5_listening_2 (by decide) ?_
  refine lv_istore_n (lv' := [(3, .int (-1)), (2, .int 0), (0, .ref h0), (1, .int p1)]) hx hb dX5_listening_3 rfl hl (by decide) rfl (fun ls hl => ?_)
  refine lv_iconst (v := 0) hx hb dX5_listening_4 (by decide) ?_
  refine lv_istore (lv' := [(4, .int 0), (3, .int (-1)), (2, .int 0), (0, .ref h0), (1, .int p1)]) hx hb dX5_listening_5 hl (by decide) rfl (fun ls hl => ?_)
  have loop7_0 : ∀ (n1 : Nat) (v2_0 : Int32) (v3_0 : Int32) (v4_0 : Int32) (n1_0 : 0 ≤ v4_0.toInt) (n1_1 : v4_0.toInt ≤ B.n) (n1_2 : -1 ≤ v3_0.toInt) (n1_3 : v3_0.toInt < B.n) (n1_4 : 0 ≤ v2_0.toInt) (n1_5 : v2_0.toInt ≤ 31) (n1_6 : v2_0.toInt = zSk (zNo (zRm B.n B.S (zHd B.n B.S Z7)) (zIb f3)) v4_0.toInt) (n1_7 : v3_0.toInt = zVo f3 (zWf B.n B.V p1.toInt) (zRm B.n B.S (zHd B.n B.S Z7)) v4_0.toInt.toNat) (hm1 : 5 - v4_0.toInt < (n1 : Int)) (H : Heap) (locs : List Loc), va_P g.1 vwCl [(h0, .inr (5, [.ref h1, .int f0, .ref h2, .int f1, .int f2, .ref h3, .ref h4, .ref h5, .ref h6, .int f3, .ref h7, .ref h8, .ref h9, .int f4, .ref h10, .ref h11, .ref h12, .ref h13, .ref h14, .ref h15, .ref h16, .ref h17, .ref h18, .ref h19, .ref h20, .ref h21, .ref h22])), (h1, .inl (zI g, 180, .inl Z0)), (h8, .inl (zI g, 5, .inl Z7))] H → va_D A [(h0, .inr (5, [.ref h1, .int f0, .ref h2, .int f1, .int f2, .ref h3, .ref h4, .ref h5, .ref h6, .int f3, .ref h7, .ref h8, .ref h9, .int f4, .ref h10, .ref h11, .ref h12, .ref h13, .ref h14, .ref h15, .ref h16, .ref h17, .ref h18, .ref h19, .ref h20, .ref h21, .ref h22])), (h1, .inl (zI g, 180, .inl Z0)), (h8, .inl (zI g, 5, .inl Z7))] → va_S A s.heap H locs → ∀ (ls : Array Slot), lv_has ls 5 [(0, .ref h0), (1, .int p1), (2, .int v2_0), (3, .int v3_0), (4, .int v4_0)] → W p l e ({ frames := 1, cells := 0, slots := 0, locals := 22 }) s m args below meth c H locs 0 0 (MQ below (va_Qi (fun (r : Int32) (u : Nat) => r.toInt = zS5 (zOp B.n B.S B.V f3 p1.toInt (zHd B.n B.S Z7)) ∧ 0 ≤ r.toInt ∧ r.toInt ≤ 31) (zPost g (fun u : Nat => [(h0, .inr (5, [.ref h1, .int f0, .ref h2, .int f1, .int f2, .ref h3, .ref h4, .ref h5, .ref h6, .int f3, .ref h7, .ref h8, .ref h9, .int f4, .ref h10, .ref h11, .ref h12, .ref h13, .ref h14, .ref h15, .ref h16, .ref h17, .ref h18, .ref h19, .ref h20, .ref h21, .ref h22])), (h1, .inl (zI g, 180, .inl Z0)), (h8, .inl (zI g, 5, .inl Z7))]) A) A) args s 0 0 A) (F0 m 7 ls []) := by
    intro n1
    induction n1 with
    | zero => intro v2_0 v3_0 v4_0 n1_0 n1_1 n1_2 n1_3 n1_4 n1_5 n1_6 n1_7 hm1; exfalso; omega
    | succ n1 ih1 =>
      intro v2_0 v3_0 v4_0 n1_0 n1_1 n1_2 n1_3 n1_4 n1_5 n1_6 n1_7 hm1 H locs hP hD hS ls hl
      refine lv_iload hx hb dX5_listening_7 (lv_at hl 4 rfl) ?_
      refine lv_aload_n hx hb dX5_listening_9 rfl (lv_at hl 0 rfl) ?_
      refine va_get (D := g.1) (ci := 5) (v := .ref h1) (C := RX5) (T := TX5) (N := 27) hx hb hts zl_X5 hown hK hP 0 rfl rfl 0 (by decide) (hts _ m_f_RX5_7) (fun _ h => h) rfl dX5_listening_10 ?_
      refine lv_bipush (v := 12) hx hb dX5_listening_13 (by decide) ?_
      refine va_iald (D := g.1) hx hb hK hP 1 0 rfl rfl (vp_in_iff.mpr (by decide +kernel)) dX5_listening_15 ?_
      refine lv_topi (fun y0 ey0 => ?_)
      have qy0_0 : 0 ≤ y0.toInt := ((iW_at (i := (12 : Int32)) (a := 12) hF_Z0 (rfl) (by omega) (by omega) ey0).2.2.2.2.2 (by omega)).1
      have qy0_1 : y0.toInt ≤ 5 := ((iW_at (i := (12 : Int32)) (a := 12) hF_Z0 (rfl) (by omega) (by omega) ey0).2.2.2.2.2 (by omega)).2
      have qy0_2 : y0.toInt = (Z0 12).toInt := congrArg Int32.toInt ey0
      have qy0_3 : y0.toInt = B.n := (congrArg Int32.toInt ey0).trans (iW_n hF_Z0)
      refine lv_icmp_ge (tgt := 94) hx hb dX5_listening_16 (by decide) (fun c_1 => ?_) (fun c_1 => ?_)
      · have i_1 : y0.toInt ≤ v4_0.toInt := z_le (rfl) (rfl) c_1
        have hk9 : v4_0.toInt = B.n := by omega
        have hs9 : zSk (zNo (zRm B.n B.S (zHd B.n B.S Z7)) (zIb f3)) v4_0.toInt = zS5 (zNo (zRm B.n B.S (zHd B.n B.S Z7)) (zIb f3)) := zSk_all (by omega) (fun b hb _ => zNo_0 (Or.inl (by rw [zRm_0 (Or.inl (by omega))]; decide)))
        have hv5 : zVo f3 (zWf B.n B.V p1.toInt) (zRm B.n B.S (zHd B.n B.S Z7)) 5 = zVo f3 (zWf B.n B.V p1.toInt) (zRm B.n B.S (zHd B.n B.S Z7)) v4_0.toInt.toNat := (zVo_out (by omega) (fun b hb => zRm_0 (Or.inl (by omega)))).symm
        refine lv_iload_n hx hb dX5_listening_94 rfl (lv_at hl 3 rfl) ?_
        refine lv_if_ge (tgt := 102) hx hb dX5_listening_95 (by decide) (fun c_2 => ?_) (fun c_2 => ?_)
        · have i_2 : 0 ≤ v3_0.toInt := z_le (rfl) (rfl) c_2
          refine lv_iload_n hx hb dX5_listening_102 rfl (lv_at hl 2 rfl) ?_
          refine lv_iconst (v := 1) hx hb dX5_listening_103 (by decide) ?_
          refine lv_iload_n hx hb dX5_listening_104 rfl (lv_at hl 3 rfl) ?_
          refine lv_ishl hx hb dX5_listening_105 ?_
          refine lv_topi (fun y1 ey1 => ?_)
          have qy1_0 : 1 ≤ y1.toInt := (zi_shl 4 ey1 (rfl) (by omega) (by omega) (by decide)).1
          have qy1_1 : y1.toInt ≤ 16 := (zi_shl 4 ey1 (rfl) (by omega) (by omega) (by decide)).2
          refine lv_ior hx hb dX5_listening_106 ?_
          refine lv_topi (fun y2 ey2 => ?_)
          have qy2_0 : v2_0.toInt ≤ y2.toInt := (zi_or ey2 (rfl) (rfl) (by omega) (by omega) (by omega) (by omega)).1
          have qy2_1 : y1.toInt ≤ y2.toInt := (zi_or ey2 (rfl) (rfl) (by omega) (by omega) (by omega) (by omega)).2.1
          have qy2_2 : y2.toInt ≤ 31 := (zi_or ey2 (rfl) (rfl) (by omega) (by omega) (by omega) (by omega)).2.2
          have hop := zOp_pos (n := B.n) (S := B.S) (V := B.V) (ring := f3) (kd := p1.toInt) (H := (zHd B.n B.S Z7)) (v := v3_0.toInt) (by omega) (by omega)
          have hz : y2.toInt = zS5 (zOp B.n B.S B.V f3 p1.toInt (zHd B.n B.S Z7)) := by
            rw [hop.2]
            exact zor_new ey2 ey1 rfl (by omega) (by omega) (zNo_01 _ _) (by omega) hop.1
          have hzr := zS5_r (zOp_01 (n := B.n) (S := B.S) (V := B.V) (ring := f3) (kd := p1.toInt) (H := (zHd B.n B.S Z7)))
          have hP9 := hP.sub (ws' := [(h0, .inr (5, [.ref h1, .int f0, .ref h2, .int f1, .int f2, .ref h3, .ref h4, .ref h5, .ref h6, .int f3, .ref h7, .ref h8, .ref h9, .int f4, .ref h10, .ref h11, .ref h12, .ref h13, .ref h14, .ref h15, .ref h16, .ref h17, .ref h18, .ref h19, .ref h20, .ref h21, .ref h22])), (h1, .inl (zI g, 180, .inl Z0)), (h8, .inl (zI g, 5, .inl Z7))]) [0, 1, 2] rfl
          have hD9 := hD.sub (ws' := [(h0, .inr (5, [.ref h1, .int f0, .ref h2, .int f1, .int f2, .ref h3, .ref h4, .ref h5, .ref h6, .int f3, .ref h7, .ref h8, .ref h9, .int f4, .ref h10, .ref h11, .ref h12, .ref h13, .ref h14, .ref h15, .ref h16, .ref h17, .ref h18, .ref h19, .ref h20, .ref h21, .ref h22])), (h1, .inl (zI g, 180, .inl Z0)), (h8, .inl (zI g, 5, .inl Z7))]) [0, 1, 2] (by decide) rfl
          exact W.iret (v := y2) hx hb hr (fun t ht hW => ⟨⟨y2, (0 : Nat), rfl, ⟨(by first | omega | decide), (by first | omega | decide), (by first | omega | decide)⟩, by rw [ht]; exact hP9, hD9⟩, hS.F ht⟩) hS.2.2 dX5_listening_107
        · have i_2 : v3_0.toInt < 0 := z_nle (rfl) (rfl) c_2
          refine lv_iload_n hx hb dX5_listening_98 rfl (lv_at hl 2 rfl) ?_
          refine lv_goto (tgt := 107) hx hb dX5_listening_99 (by decide) ?_
          have hz : v2_0.toInt = zS5 (zOp B.n B.S B.V f3 p1.toInt (zHd B.n B.S Z7)) := by
            rw [← zOp_neg (by omega) (by omega) (by omega)]
            omega
          have hzr := zS5_r (zOp_01 (n := B.n) (S := B.S) (V := B.V) (ring := f3) (kd := p1.toInt) (H := (zHd B.n B.S Z7)))
          have hP9 := hP.sub (ws' := [(h0, .inr (5, [.ref h1, .int f0, .ref h2, .int f1, .int f2, .ref h3, .ref h4, .ref h5, .ref h6, .int f3, .ref h7, .ref h8, .ref h9, .int f4, .ref h10, .ref h11, .ref h12, .ref h13, .ref h14, .ref h15, .ref h16, .ref h17, .ref h18, .ref h19, .ref h20, .ref h21, .ref h22])), (h1, .inl (zI g, 180, .inl Z0)), (h8, .inl (zI g, 5, .inl Z7))]) [0, 1, 2] rfl
          have hD9 := hD.sub (ws' := [(h0, .inr (5, [.ref h1, .int f0, .ref h2, .int f1, .int f2, .ref h3, .ref h4, .ref h5, .ref h6, .int f3, .ref h7, .ref h8, .ref h9, .int f4, .ref h10, .ref h11, .ref h12, .ref h13, .ref h14, .ref h15, .ref h16, .ref h17, .ref h18, .ref h19, .ref h20, .ref h21, .ref h22])), (h1, .inl (zI g, 180, .inl Z0)), (h8, .inl (zI g, 5, .inl Z7))]) [0, 1, 2] (by decide) rfl
          exact W.iret (v := v2_0) hx hb hr (fun t ht hW => ⟨⟨v2_0, (0 : Nat), rfl, ⟨(by first | omega | decide), (by first | omega | decide), (by first | omega | decide)⟩, by rw [ht]; exact hP9, hD9⟩, hS.F ht⟩) hS.2.2 dX5_listening_107
      · have i_1 : v4_0.toInt < y0.toInt := z_nle (rfl) (rfl) c_1
        refine lv_aload_n hx hb dX5_listening_19 rfl (lv_at hl 0 rfl) ?_
        refine va_get (D := g.1) (ci := 5) (v := .ref h8) (C := RX5) (T := TX5) (N := 27) hx hb hts zl_X5 hown hK hP 0 rfl rfl 11 (by decide) (hts _ m_f_RX5_31) (fun _ h => h) rfl dX5_listening_20 ?_
        refine lv_iload hx hb dX5_listening_23 (lv_at hl 4 rfl) ?_
        refine va_iald (D := g.1) hx hb hK hP 2 0 rfl rfl (vp_in_iff.mpr ⟨by omega, by omega⟩) dX5_listening_25 ?_
        refine lv_topi (fun y3 ey3 => ?_)
        have qy3_0 : 0 ≤ y3.toInt := (i_at (N := 5) (lo := 0) (hi := 2) (i := v4_0) (a := v4_0.toInt) hF_Z7 (rfl) (by omega) (by omega) ey3).1
        have qy3_1 : y3.toInt ≤ 2 := (i_at (N := 5) (lo := 0) (hi := 2) (i := v4_0) (a := v4_0.toInt) hF_Z7 (rfl) (by omega) (by omega) ey3).2
        have qy3_2 : y3.toInt = (Z7 v4_0.toNatClampNeg).toInt := congrArg Int32.toInt ey3
        refine lv_if_le (tgt := 71) hx hb dX5_listening_26 (by decide) (fun c_3 => ?_) (fun c_3 => ?_)
        · have i_3 : y3.toInt ≤ 0 := z_le (rfl) (rfl) c_3
          refine lv_aload_n hx hb dX5_listening_71 rfl (lv_at hl 0 rfl) ?_
          refine va_get (D := g.1) (ci := 5) (v := .ref h8) (C := RX5) (T := TX5) (N := 27) hx hb hts zl_X5 hown hK hP 0 rfl rfl 11 (by decide) (hts _ m_f_RX5_31) (fun _ h => h) rfl dX5_listening_72 ?_
          refine lv_iload hx hb dX5_listening_75 (lv_at hl 4 rfl) ?_
          refine va_iald (D := g.1) hx hb hK hP 2 0 rfl rfl (vp_in_iff.mpr ⟨by omega, by omega⟩) dX5_listening_77 ?_
          refine lv_topi (fun y4 ey4 => ?_)
          have qy4_0 : 0 ≤ y4.toInt := (i_at (N := 5) (lo := 0) (hi := 2) (i := v4_0) (a := v4_0.toInt) hF_Z7 (rfl) (by omega) (by omega) ey4).1
          have qy4_1 : y4.toInt ≤ 2 := (i_at (N := 5) (lo := 0) (hi := 2) (i := v4_0) (a := v4_0.toInt) hF_Z7 (rfl) (by omega) (by omega) ey4).2
          have qy4_2 : y4.toInt = (Z7 v4_0.toNatClampNeg).toInt := congrArg Int32.toInt ey4
          refine lv_if_le (tgt := 88) hx hb dX5_listening_78 (by decide) (fun c_4 => ?_) (fun c_4 => absurd (show 0 < y4.toInt from z_nle (rfl) (rfl) c_4) (by omega))
          have i_4 : y4.toInt ≤ 0 := z_le (rfl) (rfl) c_4
          have hrm : (zRm B.n B.S (zHd B.n B.S Z7)) v4_0.toNatClampNeg = 0 := zRm_h0 (i := v4_0) (by omega) (by omega) (by omega)
          have hib : zIb f3 v4_0.toNatClampNeg = zbit f3 v4_0 := by
            have hb5 := z_tn' (i := v4_0) rfl (by omega)
            unfold zIb
            rw [if_pos (by omega)]
            exact (zib_i (s := f3) (i := v4_0) rfl (by omega))
          have hno : (zNo (zRm B.n B.S (zHd B.n B.S Z7)) (zIb f3)) v4_0.toNatClampNeg = 0 := zNo_0 (by omega)
          have hsk : zSk (zNo (zRm B.n B.S (zHd B.n B.S Z7)) (zIb f3)) (v4_0.toInt + 1) = zSk (zNo (zRm B.n B.S (zHd B.n B.S Z7)) (zIb f3)) v4_0.toInt := zSk_n (by omega) (by omega) hno
          have hvs : zVo f3 (zWf B.n B.V p1.toInt) (zRm B.n B.S (zHd B.n B.S Z7)) (v4_0.toInt.toNat + 1) = zVo f3 (zWf B.n B.V p1.toInt) (zRm B.n B.S (zHd B.n B.S Z7)) v4_0.toInt.toNat := zVo_n (Or.inr (Or.inl (by rw [show (zRm B.n B.S (zHd B.n B.S Z7)) v4_0.toInt.toNat = 0 from hrm]; decide)))
          obtain ⟨y5, ey5⟩ : ∃ z : Int32, z = v4_0 + 1 := ⟨_, rfl⟩
          have qy5 : y5.toInt = v4_0.toInt + 1 := zi_add ey5 (rfl) rfl (by omega) (by omega)
          refine lv_iinc (v := y5) (lv' := [(4, .int y5), (0, .ref h0), (1, .int p1), (2, .int v2_0), (3, .int v3_0)]) hx hb dX5_listening_88 hl (k := 4) rfl ey5.symm (by decide) rfl (fun ls hl => ?_)
          have hskb : zSk (zNo (zRm B.n B.S (zHd B.n B.S Z7)) (zIb f3)) y5.toInt = zSk (zNo (zRm B.n B.S (zHd B.n B.S Z7)) (zIb f3)) (v4_0.toInt + 1) := by rw [(by omega : y5.toInt = v4_0.toInt + 1)]
          have hvt : zVo f3 (zWf B.n B.V p1.toInt) (zRm B.n B.S (zHd B.n B.S Z7)) y5.toInt.toNat = zVo f3 (zWf B.n B.V p1.toInt) (zRm B.n B.S (zHd B.n B.S Z7)) (v4_0.toInt.toNat + 1) := by rw [(by omega : y5.toInt.toNat = v4_0.toInt.toNat + 1)]
          refine lv_goto (tgt := 7) hx hb dX5_listening_91 (by decide) ?_
          exact ih1 v2_0 v3_0 y5 (by omega) (by omega) (by omega) (by omega) (by omega) (by omega) (by omega) (by omega) (by omega) _ _ hP hD hS ls (lv_sub hl [1, 2, 3, 4, 0] rfl)
        · have i_3 : 0 < y3.toInt := z_nle (rfl) (rfl) c_3
          refine lv_aload_n hx hb dX5_listening_29 rfl (lv_at hl 0 rfl) ?_
          refine va_get (D := g.1) (ci := 5) (v := .int f3) (C := RX5) (T := TX5) (N := 27) hx hb hts zl_X5 hown hK hP 0 rfl rfl 9 (by decide) (hts _ m_f_RX5_153) (fun _ h => h) rfl dX5_listening_30 ?_
          refine lv_iload hx hb dX5_listening_33 (lv_at hl 4 rfl) ?_
          refine z_calli (wr := [(h0, .inr (5, [.ref h1, .int f0, .ref h2, .int f1, .int f2, .ref h3, .ref h4, .ref h5, .ref h6, .int f3, .ref h7, .ref h8, .ref h9, .int f4, .ref h10, .ref h11, .ref h12, .ref h13, .ref h14, .ref h15, .ref h16, .ref h17, .ref h18, .ref h19, .ref h20, .ref h21, .ref h22])), (h1, .inl (zI g, 180, .inl Z0)), (h8, .inl (zI g, 5, .inl Z7))]) hP hD hS hA [] [0, 1, 2] (by decide) rfl rfl (by decide) (va_runS (As := [.int f3, .int v4_0]) (rest := []) ⟨hx, hb, hml, hown, hts⟩ (gX5_has l g  H.size f3 v4_0) ⟨callB_of 2 hts (zGood m_o_yX5_has) rfl rfl rfl (hts _ m_z_RX5) (hts _ m_m_RX5_156) ⟨by decide +kernel, by decide +kernel, by decide +kernel⟩ ⟨Nat.le_of_ble_eq_true rfl, Nat.le_of_ble_eq_true rfl⟩, hts _ m_s_yX5_has⟩ (zPreS hK hN hZ hP hD hS hA [] (by decide) rfl rfl) rfl rfl hl.1 rfl (lv_room (Nat.le_of_ble_eq_true rfl)) dX5_listening_35 ⟨Nat.le_of_ble_eq_true rfl, Nat.le_of_ble_eq_true rfl⟩) (fun r u H locs hw hP hD hS => ?_)
          rcases hw with ⟨i_5, rfl⟩ | ⟨i_6, rfl⟩
          · skip
            have i_5 : zbit f3 v4_0 = 1 := i_5
            have hP : va_P g.1 vwCl [(h0, .inr (5, [.ref h1, .int f0, .ref h2, .int f1, .int f2, .ref h3, .ref h4, .ref h5, .ref h6, .int f3, .ref h7, .ref h8, .ref h9, .int f4, .ref h10, .ref h11, .ref h12, .ref h13, .ref h14, .ref h15, .ref h16, .ref h17, .ref h18, .ref h19, .ref h20, .ref h21, .ref h22])), (h1, .inl (zI g, 180, .inl Z0)), (h8, .inl (zI g, 5, .inl Z7))] H := hP
            have hD : va_D A [(h0, .inr (5, [.ref h1, .int f0, .ref h2, .int f1, .int f2, .ref h3, .ref h4, .ref h5, .ref h6, .int f3, .ref h7, .ref h8, .ref h9, .int f4, .ref h10, .ref h11, .ref h12, .ref h13, .ref h14, .ref h15, .ref h16, .ref h17, .ref h18, .ref h19, .ref h20, .ref h21, .ref h22])), (h1, .inl (zI g, 180, .inl Z0)), (h8, .inl (zI g, 5, .inl Z7))] := hD
            refine lv_if_eq (tgt := 71) hx hb dX5_listening_38 (by decide) (fun h => absurd h (by decide +kernel)) (fun _ => ?_)
            refine lv_iload_n hx hb dX5_listening_41 rfl (lv_at hl 3 rfl) ?_
            refine lv_if_lt (tgt := 61) hx hb dX5_listening_42 (by decide) (fun c_7 => ?_) (fun c_7 => ?_)
            · have i_7 : v3_0.toInt < 0 := z_lt (rfl) (rfl) c_7
              refine lv_iload hx hb dX5_listening_61 (lv_at hl 4 rfl) ?_
              refine lv_goto (tgt := 67) hx hb dX5_listening_63 (by decide) ?_
              refine lv_istore_n (lv' := [(3, .int v4_0), (0, .ref h0), (1, .int p1), (2, .int v2_0), (4, .int v4_0)]) hx hb dX5_listening_67 rfl hl (by decide) rfl (fun ls hl => ?_)
              refine lv_goto (tgt := 88) hx hb dX5_listening_68 (by decide) ?_
              have hrm : (zRm B.n B.S (zHd B.n B.S Z7)) v4_0.toNatClampNeg = 1 := zRm_h1 (i := v4_0) (by omega) (by omega) (by omega)
              have hib : zIb f3 v4_0.toNatClampNeg = zbit f3 v4_0 := by
                have hb5 := z_tn' (i := v4_0) rfl (by omega)
                unfold zIb
                rw [if_pos (by omega)]
                exact (zib_i (s := f3) (i := v4_0) rfl (by omega))
              have hno : (zNo (zRm B.n B.S (zHd B.n B.S Z7)) (zIb f3)) v4_0.toNatClampNeg = 0 := zNo_0 (by omega)
              have hsk : zSk (zNo (zRm B.n B.S (zHd B.n B.S Z7)) (zIb f3)) (v4_0.toInt + 1) = zSk (zNo (zRm B.n B.S (zHd B.n B.S Z7)) (zIb f3)) v4_0.toInt := zSk_n (by omega) (by omega) hno
              have hvs : zVo f3 (zWf B.n B.V p1.toInt) (zRm B.n B.S (zHd B.n B.S Z7)) (v4_0.toInt.toNat + 1) = ((v4_0.toInt.toNat : Nat) : Int) := zVo_1 ((zib_i (s := f3) (i := v4_0) rfl (by omega)).trans (by omega)) hrm (by rw [← (by omega : v3_0.toInt = zVo f3 (zWf B.n B.V p1.toInt) (zRm B.n B.S (zHd B.n B.S Z7)) v4_0.toInt.toNat)]; omega)
              obtain ⟨y6, ey6⟩ : ∃ z : Int32, z = v4_0 + 1 := ⟨_, rfl⟩
              have qy6 : y6.toInt = v4_0.toInt + 1 := zi_add ey6 (rfl) rfl (by omega) (by omega)
              refine lv_iinc (v := y6) (lv' := [(4, .int y6), (3, .int v4_0), (0, .ref h0), (1, .int p1), (2, .int v2_0)]) hx hb dX5_listening_88 hl (k := 4) rfl ey6.symm (by decide) rfl (fun ls hl => ?_)
              have hskb : zSk (zNo (zRm B.n B.S (zHd B.n B.S Z7)) (zIb f3)) y6.toInt = zSk (zNo (zRm B.n B.S (zHd B.n B.S Z7)) (zIb f3)) (v4_0.toInt + 1) := by rw [(by omega : y6.toInt = v4_0.toInt + 1)]
              have hvt : zVo f3 (zWf B.n B.V p1.toInt) (zRm B.n B.S (zHd B.n B.S Z7)) y6.toInt.toNat = zVo f3 (zWf B.n B.V p1.toInt) (zRm B.n B.S (zHd B.n B.S Z7)) (v4_0.toInt.toNat + 1) := by rw [(by omega : y6.toInt.toNat = v4_0.toInt.toNat + 1)]
              refine lv_goto (tgt := 7) hx hb dX5_listening_91 (by decide) ?_
              exact ih1 v2_0 v4_0 y6 (by omega) (by omega) (by omega) (by omega) (by omega) (by omega) (by omega) (by omega) (by omega) _ _ hP hD hS ls (lv_sub hl [2, 3, 4, 1, 0] rfl)
            · have i_7 : 0 ≤ v3_0.toInt := z_nlt (rfl) (rfl) c_7
              refine lv_aload_n hx hb dX5_listening_45 rfl (lv_at hl 0 rfl) ?_
              refine lv_iload hx hb dX5_listening_46 (lv_at hl 4 rfl) ?_
              refine lv_iload_n hx hb dX5_listening_48 rfl (lv_at hl 1 rfl) ?_
              refine z_calli (wr := [(h8, .inl (zI g, 5, .inl Z7))]) hP hD hS hA [0, 1] [2] (by decide) rfl rfl (by decide) (va_runV (As := [.int v4_0, .int p1]) (rest := []) ⟨hx, hb, hml, hown, hts⟩ (gX5_worthOf l g K B C hB h0 h1 h2 h3 h4 h5 h6 h7 h8 h9 h10 h11 h12 h13 h14 h15 h16 h17 h18 h19 h20 h21 h22 H.size v4_0 p1 f0 f1 f2 f3 f4 Z0 (by omega) (by omega) (by omega) (by omega) (by constructor <;> omega) (by constructor <;> omega) (by constructor <;> omega) (by constructor <;> omega) hF_Z0) ⟨callB_of 2 hts (zGood m_o_yX5_worthOf) rfl rfl rfl (hts _ m_z_RX5) (hts _ m_m_RX5_150) ⟨by decide +kernel, by decide +kernel, by decide +kernel⟩ ⟨Nat.le_of_ble_eq_true rfl, Nat.le_of_ble_eq_true rfl⟩, hts _ m_i_yX5_worthOf, hts _ m_e_yX5_worthOf⟩ (zPreV hK hN hZ hP hD hS hA [0, 1] (by decide) rfl rfl 5 0 rfl rfl) rfl rfl hl.1 rfl (lv_room (Nat.le_of_ble_eq_true rfl)) dX5_listening_49 ⟨Nat.le_of_ble_eq_true rfl, Nat.le_of_ble_eq_true rfl⟩) (fun r u H locs hw hP hD hS => ?_)
              obtain ⟨y7, rfl⟩ : ∃ z, z = r := ⟨_, rfl⟩
              obtain ⟨q8_0, q8_1, q8_2⟩ := hw
              have q8_0 : y7.toInt = zWq B.n B.V v4_0.toInt p1.toInt := q8_0
              have q8_1 : 0 ≤ y7.toInt := q8_1
              have q8_2 : y7.toInt ≤ 99 := q8_2
              have hP : va_P g.1 vwCl [(h8, .inl (zI g, 5, .inl Z7)), (h0, .inr (5, [.ref h1, .int f0, .ref h2, .int f1, .int f2, .ref h3, .ref h4, .ref h5, .ref h6, .int f3, .ref h7, .ref h8, .ref h9, .int f4, .ref h10, .ref h11, .ref h12, .ref h13, .ref h14, .ref h15, .ref h16, .ref h17, .ref h18, .ref h19, .ref h20, .ref h21, .ref h22])), (h1, .inl (zI g, 180, .inl Z0))] H := hP
              have hD : va_D A [(h8, .inl (zI g, 5, .inl Z7)), (h0, .inr (5, [.ref h1, .int f0, .ref h2, .int f1, .int f2, .ref h3, .ref h4, .ref h5, .ref h6, .int f3, .ref h7, .ref h8, .ref h9, .int f4, .ref h10, .ref h11, .ref h12, .ref h13, .ref h14, .ref h15, .ref h16, .ref h17, .ref h18, .ref h19, .ref h20, .ref h21, .ref h22])), (h1, .inl (zI g, 180, .inl Z0))] := hD
              refine lv_aload_n hx hb dX5_listening_52 rfl (lv_at hl 0 rfl) ?_
              refine lv_iload_n hx hb dX5_listening_53 rfl (lv_at hl 3 rfl) ?_
              refine lv_iload_n hx hb dX5_listening_54 rfl (lv_at hl 1 rfl) ?_
              refine z_calli (wr := [(h8, .inl (zI g, 5, .inl Z7))]) hP hD hS hA [1, 2] [0] (by decide) rfl rfl (by decide) (va_runV (As := [.int v3_0, .int p1]) (rest := [.int y7]) ⟨hx, hb, hml, hown, hts⟩ (gX5_worthOf l g K B C hB h0 h1 h2 h3 h4 h5 h6 h7 h8 h9 h10 h11 h12 h13 h14 h15 h16 h17 h18 h19 h20 h21 h22 H.size v3_0 p1 f0 f1 f2 f3 f4 Z0 (by omega) (by omega) (by omega) (by omega) (by constructor <;> omega) (by constructor <;> omega) (by constructor <;> omega) (by constructor <;> omega) hF_Z0) ⟨callB_of 2 hts (zGood m_o_yX5_worthOf) rfl rfl rfl (hts _ m_z_RX5) (hts _ m_m_RX5_150) ⟨by decide +kernel, by decide +kernel, by decide +kernel⟩ ⟨Nat.le_of_ble_eq_true rfl, Nat.le_of_ble_eq_true rfl⟩, hts _ m_i_yX5_worthOf, hts _ m_e_yX5_worthOf⟩ (zPreV hK hN hZ hP hD hS hA [1, 2] (by decide) rfl rfl 5 1 rfl rfl) rfl rfl hl.1 rfl (lv_room (Nat.le_of_ble_eq_true rfl)) dX5_listening_55 ⟨Nat.le_of_ble_eq_true rfl, Nat.le_of_ble_eq_true rfl⟩) (fun r u H locs hw hP hD hS => ?_)
              obtain ⟨y9, rfl⟩ : ∃ z, z = r := ⟨_, rfl⟩
              obtain ⟨q10_0, q10_1, q10_2⟩ := hw
              have q10_0 : y9.toInt = zWq B.n B.V v3_0.toInt p1.toInt := q10_0
              have q10_1 : 0 ≤ y9.toInt := q10_1
              have q10_2 : y9.toInt ≤ 99 := q10_2
              have hP : va_P g.1 vwCl [(h8, .inl (zI g, 5, .inl Z7)), (h0, .inr (5, [.ref h1, .int f0, .ref h2, .int f1, .int f2, .ref h3, .ref h4, .ref h5, .ref h6, .int f3, .ref h7, .ref h8, .ref h9, .int f4, .ref h10, .ref h11, .ref h12, .ref h13, .ref h14, .ref h15, .ref h16, .ref h17, .ref h18, .ref h19, .ref h20, .ref h21, .ref h22])), (h1, .inl (zI g, 180, .inl Z0))] H := hP
              have hD : va_D A [(h8, .inl (zI g, 5, .inl Z7)), (h0, .inr (5, [.ref h1, .int f0, .ref h2, .int f1, .int f2, .ref h3, .ref h4, .ref h5, .ref h6, .int f3, .ref h7, .ref h8, .ref h9, .int f4, .ref h10, .ref h11, .ref h12, .ref h13, .ref h14, .ref h15, .ref h16, .ref h17, .ref h18, .ref h19, .ref h20, .ref h21, .ref h22])), (h1, .inl (zI g, 180, .inl Z0))] := hD
              refine lv_icmp_le (tgt := 66) hx hb dX5_listening_58 (by decide) (fun c_8 => ?_) (fun c_8 => ?_)
              · have i_8 : y7.toInt ≤ y9.toInt := z_le (rfl) (rfl) c_8
                refine lv_iload_n hx hb dX5_listening_66 rfl (lv_at hl 3 rfl) ?_
                refine lv_istore_n (lv' := [(3, .int v3_0), (0, .ref h0), (1, .int p1), (2, .int v2_0), (4, .int v4_0)]) hx hb dX5_listening_67 rfl hl (by decide) rfl (fun ls hl => ?_)
                refine lv_goto (tgt := 88) hx hb dX5_listening_68 (by decide) ?_
                have hrm : (zRm B.n B.S (zHd B.n B.S Z7)) v4_0.toNatClampNeg = 1 := zRm_h1 (i := v4_0) (by omega) (by omega) (by omega)
                have hib : zIb f3 v4_0.toNatClampNeg = zbit f3 v4_0 := by
                  have hb5 := z_tn' (i := v4_0) rfl (by omega)
                  unfold zIb
                  rw [if_pos (by omega)]
                  exact (zib_i (s := f3) (i := v4_0) rfl (by omega))
                have hno : (zNo (zRm B.n B.S (zHd B.n B.S Z7)) (zIb f3)) v4_0.toNatClampNeg = 0 := zNo_0 (by omega)
                have hsk : zSk (zNo (zRm B.n B.S (zHd B.n B.S Z7)) (zIb f3)) (v4_0.toInt + 1) = zSk (zNo (zRm B.n B.S (zHd B.n B.S Z7)) (zIb f3)) v4_0.toInt := zSk_n (by omega) (by omega) hno
                have hwb : (zWf B.n B.V p1.toInt) v4_0.toInt.toNat = y7.toInt := (zWf_i (i := v4_0) (by omega)).trans (by omega)
                have hwh : (zWf B.n B.V p1.toInt) v3_0.toInt.toNat = y9.toInt := (zWf_i (i := v3_0) (by omega)).trans (by omega)
                have hvs : zVo f3 (zWf B.n B.V p1.toInt) (zRm B.n B.S (zHd B.n B.S Z7)) (v4_0.toInt.toNat + 1) = zVo f3 (zWf B.n B.V p1.toInt) (zRm B.n B.S (zHd B.n B.S Z7)) v4_0.toInt.toNat := zVo_n (Or.inr (Or.inr (by rw [← (by omega : v3_0.toInt = zVo f3 (zWf B.n B.V p1.toInt) (zRm B.n B.S (zHd B.n B.S Z7)) v4_0.toInt.toNat)]; omega)))
                obtain ⟨y11, ey11⟩ : ∃ z : Int32, z = v4_0 + 1 := ⟨_, rfl⟩
                have qy11 : y11.toInt = v4_0.toInt + 1 := zi_add ey11 (rfl) rfl (by omega) (by omega)
                refine lv_iinc (v := y11) (lv' := [(4, .int y11), (3, .int v3_0), (0, .ref h0), (1, .int p1), (2, .int v2_0)]) hx hb dX5_listening_88 hl (k := 4) rfl ey11.symm (by decide) rfl (fun ls hl => ?_)
                have hskb : zSk (zNo (zRm B.n B.S (zHd B.n B.S Z7)) (zIb f3)) y11.toInt = zSk (zNo (zRm B.n B.S (zHd B.n B.S Z7)) (zIb f3)) (v4_0.toInt + 1) := by rw [(by omega : y11.toInt = v4_0.toInt + 1)]
                have hvt : zVo f3 (zWf B.n B.V p1.toInt) (zRm B.n B.S (zHd B.n B.S Z7)) y11.toInt.toNat = zVo f3 (zWf B.n B.V p1.toInt) (zRm B.n B.S (zHd B.n B.S Z7)) (v4_0.toInt.toNat + 1) := by rw [(by omega : y11.toInt.toNat = v4_0.toInt.toNat + 1)]
                refine lv_goto (tgt := 7) hx hb dX5_listening_91 (by decide) ?_
                have hP := hP.sub (ws' := [(h0, .inr (5, [.ref h1, .int f0, .ref h2, .int f1, .int f2, .ref h3, .ref h4, .ref h5, .ref h6, .int f3, .ref h7, .ref h8, .ref h9, .int f4, .ref h10, .ref h11, .ref h12, .ref h13, .ref h14, .ref h15, .ref h16, .ref h17, .ref h18, .ref h19, .ref h20, .ref h21, .ref h22])), (h1, .inl (zI g, 180, .inl Z0)), (h8, .inl (zI g, 5, .inl Z7))]) [1, 2, 0] rfl
                have hD := hD.sub (ws' := [(h0, .inr (5, [.ref h1, .int f0, .ref h2, .int f1, .int f2, .ref h3, .ref h4, .ref h5, .ref h6, .int f3, .ref h7, .ref h8, .ref h9, .int f4, .ref h10, .ref h11, .ref h12, .ref h13, .ref h14, .ref h15, .ref h16, .ref h17, .ref h18, .ref h19, .ref h20, .ref h21, .ref h22])), (h1, .inl (zI g, 180, .inl Z0)), (h8, .inl (zI g, 5, .inl Z7))]) [1, 2, 0] (by decide) rfl
                exact ih1 v2_0 v3_0 y11 (by omega) (by omega) (by omega) (by omega) (by omega) (by omega) (by omega) (by omega) (by omega) _ _ hP hD hS ls (lv_sub hl [2, 3, 4, 1, 0] rfl)
              · have i_8 : y9.toInt < y7.toInt := z_nle (rfl) (rfl) c_8
                refine lv_iload hx hb dX5_listening_61 (lv_at hl 4 rfl) ?_
                refine lv_goto (tgt := 67) hx hb dX5_listening_63 (by decide) ?_
                refine lv_istore_n (lv' := [(3, .int v4_0), (0, .ref h0), (1, .int p1), (2, .int v2_0), (4, .int v4_0)]) hx hb dX5_listening_67 rfl hl (by decide) rfl (fun ls hl => ?_)
                refine lv_goto (tgt := 88) hx hb dX5_listening_68 (by decide) ?_
                have hrm : (zRm B.n B.S (zHd B.n B.S Z7)) v4_0.toNatClampNeg = 1 := zRm_h1 (i := v4_0) (by omega) (by omega) (by omega)
                have hib : zIb f3 v4_0.toNatClampNeg = zbit f3 v4_0 := by
                  have hb5 := z_tn' (i := v4_0) rfl (by omega)
                  unfold zIb
                  rw [if_pos (by omega)]
                  exact (zib_i (s := f3) (i := v4_0) rfl (by omega))
                have hno : (zNo (zRm B.n B.S (zHd B.n B.S Z7)) (zIb f3)) v4_0.toNatClampNeg = 0 := zNo_0 (by omega)
                have hsk : zSk (zNo (zRm B.n B.S (zHd B.n B.S Z7)) (zIb f3)) (v4_0.toInt + 1) = zSk (zNo (zRm B.n B.S (zHd B.n B.S Z7)) (zIb f3)) v4_0.toInt := zSk_n (by omega) (by omega) hno
                have hwb : (zWf B.n B.V p1.toInt) v4_0.toInt.toNat = y7.toInt := (zWf_i (i := v4_0) (by omega)).trans (by omega)
                have hwh : (zWf B.n B.V p1.toInt) v3_0.toInt.toNat = y9.toInt := (zWf_i (i := v3_0) (by omega)).trans (by omega)
                have hvs : zVo f3 (zWf B.n B.V p1.toInt) (zRm B.n B.S (zHd B.n B.S Z7)) (v4_0.toInt.toNat + 1) = ((v4_0.toInt.toNat : Nat) : Int) := zVo_1 ((zib_i (s := f3) (i := v4_0) rfl (by omega)).trans (by omega)) hrm (by rw [← (by omega : v3_0.toInt = zVo f3 (zWf B.n B.V p1.toInt) (zRm B.n B.S (zHd B.n B.S Z7)) v4_0.toInt.toNat)]; omega)
                obtain ⟨y12, ey12⟩ : ∃ z : Int32, z = v4_0 + 1 := ⟨_, rfl⟩
                have qy12 : y12.toInt = v4_0.toInt + 1 := zi_add ey12 (rfl) rfl (by omega) (by omega)
                refine lv_iinc (v := y12) (lv' := [(4, .int y12), (3, .int v4_0), (0, .ref h0), (1, .int p1), (2, .int v2_0)]) hx hb dX5_listening_88 hl (k := 4) rfl ey12.symm (by decide) rfl (fun ls hl => ?_)
                have hskb : zSk (zNo (zRm B.n B.S (zHd B.n B.S Z7)) (zIb f3)) y12.toInt = zSk (zNo (zRm B.n B.S (zHd B.n B.S Z7)) (zIb f3)) (v4_0.toInt + 1) := by rw [(by omega : y12.toInt = v4_0.toInt + 1)]
                have hvt : zVo f3 (zWf B.n B.V p1.toInt) (zRm B.n B.S (zHd B.n B.S Z7)) y12.toInt.toNat = zVo f3 (zWf B.n B.V p1.toInt) (zRm B.n B.S (zHd B.n B.S Z7)) (v4_0.toInt.toNat + 1) := by rw [(by omega : y12.toInt.toNat = v4_0.toInt.toNat + 1)]
                refine lv_goto (tgt := 7) hx hb dX5_listening_91 (by decide) ?_
                have hP := hP.sub (ws' := [(h0, .inr (5, [.ref h1, .int f0, .ref h2, .int f1, .int f2, .ref h3, .ref h4, .ref h5, .ref h6, .int f3, .ref h7, .ref h8, .ref h9, .int f4, .ref h10, .ref h11, .ref h12, .ref h13, .ref h14, .ref h15, .ref h16, .ref h17, .ref h18, .ref h19, .ref h20, .ref h21, .ref h22])), (h1, .inl (zI g, 180, .inl Z0)), (h8, .inl (zI g, 5, .inl Z7))]) [1, 2, 0] rfl
                have hD := hD.sub (ws' := [(h0, .inr (5, [.ref h1, .int f0, .ref h2, .int f1, .int f2, .ref h3, .ref h4, .ref h5, .ref h6, .int f3, .ref h7, .ref h8, .ref h9, .int f4, .ref h10, .ref h11, .ref h12, .ref h13, .ref h14, .ref h15, .ref h16, .ref h17, .ref h18, .ref h19, .ref h20, .ref h21, .ref h22])), (h1, .inl (zI g, 180, .inl Z0)), (h8, .inl (zI g, 5, .inl Z7))]) [1, 2, 0] (by decide) rfl
                exact ih1 v2_0 v4_0 y12 (by omega) (by omega) (by omega) (by omega) (by omega) (by omega) (by omega) (by omega) (by omega) _ _ hP hD hS ls (lv_sub hl [2, 3, 4, 1, 0] rfl)
          · skip
            have i_6 : zbit f3 v4_0 = 0 := i_6
            have hP : va_P g.1 vwCl [(h0, .inr (5, [.ref h1, .int f0, .ref h2, .int f1, .int f2, .ref h3, .ref h4, .ref h5, .ref h6, .int f3, .ref h7, .ref h8, .ref h9, .int f4, .ref h10, .ref h11, .ref h12, .ref h13, .ref h14, .ref h15, .ref h16, .ref h17, .ref h18, .ref h19, .ref h20, .ref h21, .ref h22])), (h1, .inl (zI g, 180, .inl Z0)), (h8, .inl (zI g, 5, .inl Z7))] H := hP
            have hD : va_D A [(h0, .inr (5, [.ref h1, .int f0, .ref h2, .int f1, .int f2, .ref h3, .ref h4, .ref h5, .ref h6, .int f3, .ref h7, .ref h8, .ref h9, .int f4, .ref h10, .ref h11, .ref h12, .ref h13, .ref h14, .ref h15, .ref h16, .ref h17, .ref h18, .ref h19, .ref h20, .ref h21, .ref h22])), (h1, .inl (zI g, 180, .inl Z0)), (h8, .inl (zI g, 5, .inl Z7))] := hD
            refine lv_if_eq (tgt := 71) hx hb dX5_listening_38 (by decide) (fun _ => ?_) (fun h => absurd h (by decide +kernel))
            refine lv_aload_n hx hb dX5_listening_71 rfl (lv_at hl 0 rfl) ?_
            refine va_get (D := g.1) (ci := 5) (v := .ref h8) (C := RX5) (T := TX5) (N := 27) hx hb hts zl_X5 hown hK hP 0 rfl rfl 11 (by decide) (hts _ m_f_RX5_31) (fun _ h => h) rfl dX5_listening_72 ?_
            refine lv_iload hx hb dX5_listening_75 (lv_at hl 4 rfl) ?_
            refine va_iald (D := g.1) hx hb hK hP 2 0 rfl rfl (vp_in_iff.mpr ⟨by omega, by omega⟩) dX5_listening_77 ?_
            refine lv_topi (fun y13 ey13 => ?_)
            have qy13_0 : 0 ≤ y13.toInt := (i_at (N := 5) (lo := 0) (hi := 2) (i := v4_0) (a := v4_0.toInt) hF_Z7 (rfl) (by omega) (by omega) ey13).1
            have qy13_1 : y13.toInt ≤ 2 := (i_at (N := 5) (lo := 0) (hi := 2) (i := v4_0) (a := v4_0.toInt) hF_Z7 (rfl) (by omega) (by omega) ey13).2
            have qy13_2 : y13.toInt = (Z7 v4_0.toNatClampNeg).toInt := congrArg Int32.toInt ey13
            refine lv_if_le (tgt := 88) hx hb dX5_listening_78 (by decide) (fun c_9 => absurd (show y13.toInt ≤ 0 from z_le (rfl) (rfl) c_9) (by omega)) (fun c_9 => ?_)
            have i_9 : 0 < y13.toInt := z_nle (rfl) (rfl) c_9
            refine lv_iload_n hx hb dX5_listening_81 rfl (lv_at hl 2 rfl) ?_
            refine lv_iconst (v := 1) hx hb dX5_listening_82 (by decide) ?_
            refine lv_iload hx hb dX5_listening_83 (lv_at hl 4 rfl) ?_
            refine lv_ishl hx hb dX5_listening_85 ?_
            refine lv_topi (fun y14 ey14 => ?_)
            have qy14_0 : 1 ≤ y14.toInt := (zi_shl 4 ey14 (rfl) (by omega) (by omega) (by decide)).1
            have qy14_1 : y14.toInt ≤ 16 := (zi_shl 4 ey14 (rfl) (by omega) (by omega) (by decide)).2
            have hskr := zSk_r (f := (zNo (zRm B.n B.S (zHd B.n B.S Z7)) (zIb f3))) (zNo_01 _ _) (k := v4_0.toInt) (by omega) (by omega)
            refine lv_ior hx hb dX5_listening_86 ?_
            refine lv_topi (fun y15 ey15 => ?_)
            have qy15_0 : v2_0.toInt ≤ y15.toInt := (zi_or ey15 (rfl) (rfl) (by omega) (by omega) (by omega) (by omega)).1
            have qy15_1 : y14.toInt ≤ y15.toInt := (zi_or ey15 (rfl) (rfl) (by omega) (by omega) (by omega) (by omega)).2.1
            have qy15_2 : y15.toInt ≤ 31 := (zi_or ey15 (rfl) (rfl) (by omega) (by omega) (by omega) (by omega)).2.2
            have py15_0 : y15.toInt = v2_0.toInt + zP2 v4_0.toInt := zor_bit ey15 ey14 rfl (by omega) (by omega) (by omega) (by omega)
            refine lv_istore_n (lv' := [(2, .int y15), (0, .ref h0), (1, .int p1), (3, .int v3_0), (4, .int v4_0)]) hx hb dX5_listening_87 rfl hl (by decide) rfl (fun ls hl => ?_)
            have hrm : (zRm B.n B.S (zHd B.n B.S Z7)) v4_0.toNatClampNeg = 1 := zRm_h1 (i := v4_0) (by omega) (by omega) (by omega)
            have hib : zIb f3 v4_0.toNatClampNeg = zbit f3 v4_0 := by
              have hb5 := z_tn' (i := v4_0) rfl (by omega)
              unfold zIb
              rw [if_pos (by omega)]
              exact (zib_i (s := f3) (i := v4_0) rfl (by omega))
            have hno : (zNo (zRm B.n B.S (zHd B.n B.S Z7)) (zIb f3)) v4_0.toNatClampNeg = 1 := zNo_1 hrm (by omega)
            have hsk : zSk (zNo (zRm B.n B.S (zHd B.n B.S Z7)) (zIb f3)) (v4_0.toInt + 1) = zSk (zNo (zRm B.n B.S (zHd B.n B.S Z7)) (zIb f3)) v4_0.toInt + zP2 v4_0.toInt := zSk_1 (by omega) (by omega) hno
            have hvs : zVo f3 (zWf B.n B.V p1.toInt) (zRm B.n B.S (zHd B.n B.S Z7)) (v4_0.toInt.toNat + 1) = zVo f3 (zWf B.n B.V p1.toInt) (zRm B.n B.S (zHd B.n B.S Z7)) v4_0.toInt.toNat := zVo_n (Or.inl (by rw [show zib f3 v4_0.toInt.toNat = zbit f3 v4_0 from (zib_i (s := f3) (i := v4_0) rfl (by omega))]; omega))
            obtain ⟨y16, ey16⟩ : ∃ z : Int32, z = v4_0 + 1 := ⟨_, rfl⟩
            have qy16 : y16.toInt = v4_0.toInt + 1 := zi_add ey16 (rfl) rfl (by omega) (by omega)
            refine lv_iinc (v := y16) (lv' := [(4, .int y16), (2, .int y15), (0, .ref h0), (1, .int p1), (3, .int v3_0)]) hx hb dX5_listening_88 hl (k := 4) rfl ey16.symm (by decide) rfl (fun ls hl => ?_)
            have hskb : zSk (zNo (zRm B.n B.S (zHd B.n B.S Z7)) (zIb f3)) y16.toInt = zSk (zNo (zRm B.n B.S (zHd B.n B.S Z7)) (zIb f3)) (v4_0.toInt + 1) := by rw [(by omega : y16.toInt = v4_0.toInt + 1)]
            have hvt : zVo f3 (zWf B.n B.V p1.toInt) (zRm B.n B.S (zHd B.n B.S Z7)) y16.toInt.toNat = zVo f3 (zWf B.n B.V p1.toInt) (zRm B.n B.S (zHd B.n B.S Z7)) (v4_0.toInt.toNat + 1) := by rw [(by omega : y16.toInt.toNat = v4_0.toInt.toNat + 1)]
            refine lv_goto (tgt := 7) hx hb dX5_listening_91 (by decide) ?_
            exact ih1 y15 v3_0 y16 (by omega) (by omega) (by omega) (by omega) (by omega) (by omega) (by omega) (by omega) (by omega) _ _ hP hD hS ls (lv_sub hl [2, 3, 1, 4, 0] rfl)
  have : ((-1) : Int32).toInt = (-1) := rfl
  have : (0 : Int32).toInt = 0 := rfl
  exact loop7_0 ((5 - 0 : Int).toNat + 1) (0 : Int32) ((-1) : Int32) (0 : Int32) (by omega) (by omega) (by omega) (by omega) (by omega) (by omega) (by omega) (by omega) (by omega) _ _ hP hD hS ls (lv_sub hl [3, 4, 2, 1, 0] rfl)
set_option maxHeartbeats 8000000 in
set_option maxRecDepth 100000 in
theorem gX5_marginOf (l : Launch) (g : zG) (K : Prop) (B C : zBk) (hB : bOk B) (h0 h1 h2 h3 h4 h5 h6 h7 h8 h9 h10 h11 h12 h13 h14 h15 h16 h17 h18 h19 h20 h21 h22 : Nat) (sz : Nat) (p1 : Int32) (f0 : Int32) (f1 : Int32) (f2 : Int32) (f3 : Int32) (f4 : Int32) (Z0 : Nat → Int32) (Z5 : Nat → Int32) (hp0 : 0 ≤ p1.toInt) (hp1 : p1.toInt < B.n) (hf_f1 : 0 ≤ f1.toInt ∧ f1.toInt ≤ 60) (hf_f2 : 0 ≤ f2.toInt ∧ f2.toInt ≤ 60) (hf_f3 : 0 ≤ f3.toInt ∧ f3.toInt ≤ 31) (hf_f4 : 0 ≤ f4.toInt ∧ f4.toInt ≤ 1000) (hF_Z0 : iW K B C Z0) (hF_Z5 : iMa Z5) : Met l yX5_marginOf (.code yX5_marginOf cX5_marginOf 2 (some .int) :: zBig) ({ frames := 0, cells := 0, slots := 0, locals := 0 }) (va_Pc [.ref h0, .int p1] (zPre g [(h0, .inr (5, [.ref h1, .int f0, .ref h2, .int f1, .int f2, .ref h3, .ref h4, .ref h5, .ref h6, .int f3, .ref h7, .ref h8, .ref h9, .int f4, .ref h10, .ref h11, .ref h12, .ref h13, .ref h14, .ref h15, .ref h16, .ref h17, .ref h18, .ref h19, .ref h20, .ref h21, .ref h22])), (h1, .inl (zI g, 180, .inl Z0)), (h6, .inl (zI g, 5, .inl Z5))] sz)) (va_Qi (fun (r : Int32) (u : Nat) => r.toInt = zCh B.S (zIv Z5) p1.toNatClampNeg ∧ 0 ≤ r.toInt ∧ r.toInt ≤ 40) (zPost g (fun u : Nat => [(h0, .inr (5, [.ref h1, .int f0, .ref h2, .int f1, .int f2, .ref h3, .ref h4, .ref h5, .ref h6, .int f3, .ref h7, .ref h8, .ref h9, .int f4, .ref h10, .ref h11, .ref h12, .ref h13, .ref h14, .ref h15, .ref h16, .ref h17, .ref h18, .ref h19, .ref h20, .ref h21, .ref h22])), (h1, .inl (zI g, 180, .inl Z0)), (h6, .inl (zI g, 5, .inl Z5))]) (va_A [(h0, .inr (5, [.ref h1, .int f0, .ref h2, .int f1, .int f2, .ref h3, .ref h4, .ref h5, .ref h6, .int f3, .ref h7, .ref h8, .ref h9, .int f4, .ref h10, .ref h11, .ref h12, .ref h13, .ref h14, .ref h15, .ref h16, .ref h17, .ref h18, .ref h19, .ref h20, .ref h21, .ref h22])), (h1, .inl (zI g, 180, .inl Z0)), (h6, .inl (zI g, 5, .inl Z5))] sz)) (va_A [(h0, .inr (5, [.ref h1, .int f0, .ref h2, .int f1, .int f2, .ref h3, .ref h4, .ref h5, .ref h6, .int f3, .ref h7, .ref h8, .ref h9, .int f4, .ref h10, .ref h11, .ref h12, .ref h13, .ref h14, .ref h15, .ref h16, .ref h17, .ref h18, .ref h19, .ref h20, .ref h21, .ref h22])), (h1, .inl (zI g, 180, .inl Z0)), (h6, .inl (zI g, 5, .inl Z5))] sz)) 0 0 (va_A [(h0, .inr (5, [.ref h1, .int f0, .ref h2, .int f1, .int f2, .ref h3, .ref h4, .ref h5, .ref h6, .int f3, .ref h7, .ref h8, .ref h9, .int f4, .ref h10, .ref h11, .ref h12, .ref h13, .ref h14, .ref h15, .ref h16, .ref h17, .ref h18, .ref h19, .ref h20, .ref h21, .ref h22])), (h1, .inl (zI g, 180, .inl Z0)), (h6, .inl (zI g, 5, .inl Z5))] sz) := by
  refine zMetI rfl (Nat.le_of_ble_eq_true rfl) ?_
  intro p e s m args below meth c A ls hx hb hml hr hlocks hin hown hts hK hN hZ hP hD hA hS hAe hl
  have hown : s.vm.findClass RX5 = some m.cls := hown
  have hl : lv_has ls 2 [(0, .ref h0), (1, .int p1)] := hl
  have hnr := iW_nr hF_Z0
  refine lv_aload_n hx hb dX5_marginOf_0 rfl (lv_at hl 0 rfl) ?_
  refine va_get (D := g.1) (ci := 5) (v := .ref h1) (C := RX5) (T := TX5) (N := 27) hx hb hts zl_X5 hown hK hP 0 rfl rfl 0 (by decide) (hts _ m_f_RX5_7) (fun _ h => h) rfl dX5_marginOf_1 ?_
  refine lv_bipush (v := 13) hx hb dX5_marginOf_4 (by decide) ?_
  refine lv_iload_n hx hb dX5_marginOf_6 rfl (lv_at hl 1 rfl) ?_
  refine lv_iadd hx hb dX5_marginOf_7 ?_
  refine lv_topi (fun y0 ey0 => ?_)
  have qy0_0 : y0.toInt = 13 + p1.toInt := zi_add ey0 (rfl) (rfl) (by omega) (by omega)
  refine va_iald (D := g.1) hx hb hK hP 1 0 rfl rfl (vp_in_iff.mpr ⟨by omega, by omega⟩) dX5_marginOf_8 ?_
  refine lv_topi (fun y1 ey1 => ?_)
  have qy1_0 : y1.toInt = (Z0 y0.toNatClampNeg).toInt := congrArg Int32.toInt ey1
  have py1_0 : y1.toInt = (B.S p1.toNatClampNeg).toInt := congrArg Int32.toInt (iW_S (i := y0) (a := p1.toInt) hF_Z0 (by omega) (by omega) (by omega) ey1)
  have py1_1 : 0 ≤ y1.toInt := by have := i_at (N := 5) (lo := 0) (hi := 4) (i := p1) (a := p1.toInt) hB.2.2.1 rfl (by omega) (by omega) rfl; omega
  have py1_2 : y1.toInt ≤ 4 := by have := i_at (N := 5) (lo := 0) (hi := 4) (i := p1) (a := p1.toInt) hB.2.2.1 rfl (by omega) (by omega) rfl; omega
  refine lv_iconst (v := 3) hx hb dX5_marginOf_9 (by decide) ?_
  refine lv_icmp_ne (tgt := 24) hx hb dX5_marginOf_10 (by decide) (fun c_0 => ?_) (fun c_0 => ?_)
  · have i_0 : y1.toInt ≠ 3 := z_ne (rfl) (rfl) c_0
    refine lv_aload_n hx hb dX5_marginOf_24 rfl (lv_at hl 0 rfl) ?_
    refine va_get (D := g.1) (ci := 5) (v := .ref h6) (C := RX5) (T := TX5) (N := 27) hx hb hts zl_X5 hown hK hP 0 rfl rfl 8 (by decide) (hts _ m_f_RX5_25) (fun _ h => h) rfl dX5_marginOf_25 ?_
    refine lv_iload_n hx hb dX5_marginOf_28 rfl (lv_at hl 1 rfl) ?_
    refine va_iald (D := g.1) hx hb hK hP 2 0 rfl rfl (vp_in_iff.mpr ⟨by omega, by omega⟩) dX5_marginOf_29 ?_
    refine lv_topi (fun y2 ey2 => ?_)
    have qy2_0 : 0 ≤ y2.toInt := (i_at (N := 5) (lo := 0) (hi := 40) (i := p1) (a := p1.toInt) hF_Z5 (rfl) (by omega) (by omega) ey2).1
    have qy2_1 : y2.toInt ≤ 40 := (i_at (N := 5) (lo := 0) (hi := 40) (i := p1) (a := p1.toInt) hF_Z5 (rfl) (by omega) (by omega) ey2).2
    have qy2_2 : y2.toInt = (Z5 p1.toNatClampNeg).toInt := congrArg Int32.toInt ey2
    have hz : zCh B.S (zIv Z5) p1.toNatClampNeg = y2.toInt := by
      unfold zCh
      rw [if_neg (by omega)]
      show (Z5 p1.toNatClampNeg).toInt = y2.toInt
      omega
    have hP9 := hP.sub (ws' := [(h0, .inr (5, [.ref h1, .int f0, .ref h2, .int f1, .int f2, .ref h3, .ref h4, .ref h5, .ref h6, .int f3, .ref h7, .ref h8, .ref h9, .int f4, .ref h10, .ref h11, .ref h12, .ref h13, .ref h14, .ref h15, .ref h16, .ref h17, .ref h18, .ref h19, .ref h20, .ref h21, .ref h22])), (h1, .inl (zI g, 180, .inl Z0)), (h6, .inl (zI g, 5, .inl Z5))]) [0, 1, 2] rfl
    have hD9 := hD.sub (ws' := [(h0, .inr (5, [.ref h1, .int f0, .ref h2, .int f1, .int f2, .ref h3, .ref h4, .ref h5, .ref h6, .int f3, .ref h7, .ref h8, .ref h9, .int f4, .ref h10, .ref h11, .ref h12, .ref h13, .ref h14, .ref h15, .ref h16, .ref h17, .ref h18, .ref h19, .ref h20, .ref h21, .ref h22])), (h1, .inl (zI g, 180, .inl Z0)), (h6, .inl (zI g, 5, .inl Z5))]) [0, 1, 2] (by decide) rfl
    exact W.iret (v := y2) hx hb hr (fun t ht hW => ⟨⟨y2, (0 : Nat), rfl, ⟨(by first | omega | decide), (by first | omega | decide), (by first | omega | decide)⟩, by rw [ht]; exact hP9, hD9⟩, hS.F ht⟩) hS.2.2 dX5_marginOf_30
  · have i_0 : y1.toInt = 3 := z_eq (rfl) (rfl) c_0
    refine lv_aload_n hx hb dX5_marginOf_13 rfl (lv_at hl 0 rfl) ?_
    refine va_get (D := g.1) (ci := 5) (v := .ref h6) (C := RX5) (T := TX5) (N := 27) hx hb hts zl_X5 hown hK hP 0 rfl rfl 8 (by decide) (hts _ m_f_RX5_25) (fun _ h => h) rfl dX5_marginOf_14 ?_
    refine lv_iload_n hx hb dX5_marginOf_17 rfl (lv_at hl 1 rfl) ?_
    refine va_iald (D := g.1) hx hb hK hP 2 0 rfl rfl (vp_in_iff.mpr ⟨by omega, by omega⟩) dX5_marginOf_18 ?_
    refine lv_topi (fun y3 ey3 => ?_)
    have qy3_0 : 0 ≤ y3.toInt := (i_at (N := 5) (lo := 0) (hi := 40) (i := p1) (a := p1.toInt) hF_Z5 (rfl) (by omega) (by omega) ey3).1
    have qy3_1 : y3.toInt ≤ 40 := (i_at (N := 5) (lo := 0) (hi := 40) (i := p1) (a := p1.toInt) hF_Z5 (rfl) (by omega) (by omega) ey3).2
    have qy3_2 : y3.toInt = (Z5 p1.toNatClampNeg).toInt := congrArg Int32.toInt ey3
    refine lv_iconst (v := 2) hx hb dX5_marginOf_19 (by decide) ?_
    refine lv_idiv hx hb dX5_marginOf_20 (by decide) ?_
    have : (2 : Int32).toInt = 2 := rfl
    refine lv_topi (fun y4 ey4 => ?_)
    have qy4_0 : 0 ≤ y4.toInt := (zi_div0 ey4 (rfl) (rfl) (by omega) (by omega)).1
    have qy4_1 : y4.toInt ≤ y3.toInt := (zi_div0 ey4 (rfl) (rfl) (by omega) (by omega)).2
    have py4_0 : y4.toInt = y3.toInt / 2 := zi_div ey4 (rfl) (rfl) (by omega) (by omega)
    refine lv_goto (tgt := 30) hx hb dX5_marginOf_21 (by decide) ?_
    have hz : zCh B.S (zIv Z5) p1.toNatClampNeg = y4.toInt := by
      unfold zCh
      rw [if_pos (by omega)]
      show (Z5 p1.toNatClampNeg).toInt / 2 = y4.toInt
      omega
    have hP9 := hP.sub (ws' := [(h0, .inr (5, [.ref h1, .int f0, .ref h2, .int f1, .int f2, .ref h3, .ref h4, .ref h5, .ref h6, .int f3, .ref h7, .ref h8, .ref h9, .int f4, .ref h10, .ref h11, .ref h12, .ref h13, .ref h14, .ref h15, .ref h16, .ref h17, .ref h18, .ref h19, .ref h20, .ref h21, .ref h22])), (h1, .inl (zI g, 180, .inl Z0)), (h6, .inl (zI g, 5, .inl Z5))]) [0, 1, 2] rfl
    have hD9 := hD.sub (ws' := [(h0, .inr (5, [.ref h1, .int f0, .ref h2, .int f1, .int f2, .ref h3, .ref h4, .ref h5, .ref h6, .int f3, .ref h7, .ref h8, .ref h9, .int f4, .ref h10, .ref h11, .ref h12, .ref h13, .ref h14, .ref h15, .ref h16, .ref h17, .ref h18, .ref h19, .ref h20, .ref h21, .ref h22])), (h1, .inl (zI g, 180, .inl Z0)), (h6, .inl (zI g, 5, .inl Z5))]) [0, 1, 2] (by decide) rfl
    exact W.iret (v := y4) hx hb hr (fun t ht hW => ⟨⟨y4, (0 : Nat), rfl, ⟨(by first | omega | decide), (by first | omega | decide), (by first | omega | decide)⟩, by rw [ht]; exact hP9, hD9⟩, hS.F ht⟩) hS.2.2 dX5_marginOf_30
set_option maxHeartbeats 8000000 in
set_option maxRecDepth 100000 in
theorem gX5_payOf (l : Launch) (g : zG) (K : Prop) (B C : zBk) (hB : bOk B) (h0 h1 h2 h3 h4 h5 h6 h7 h8 h9 h10 h11 h12 h13 h14 h15 h16 h17 h18 h19 h20 h21 h22 : Nat) (sz : Nat) (p1 : Int32) (f0 : Int32) (f1 : Int32) (f2 : Int32) (f3 : Int32) (f4 : Int32) (Z0 : Nat → Int32) (Z6 : Nat → Int32) (hp0 : 0 ≤ p1.toInt) (hp1 : p1.toInt < B.n) (hf_f1 : 0 ≤ f1.toInt ∧ f1.toInt ≤ 60) (hf_f2 : 0 ≤ f2.toInt ∧ f2.toInt ≤ 60) (hf_f3 : 0 ≤ f3.toInt ∧ f3.toInt ≤ 31) (hf_f4 : 0 ≤ f4.toInt ∧ f4.toInt ≤ 1000) (hF_Z0 : iW K B C Z0) (hF_Z6 : iPu Z6) : Met l yX5_payOf (.code yX5_payOf cX5_payOf 2 (some .int) :: zBig) ({ frames := 0, cells := 0, slots := 0, locals := 0 }) (va_Pc [.ref h0, .int p1] (zPre g [(h0, .inr (5, [.ref h1, .int f0, .ref h2, .int f1, .int f2, .ref h3, .ref h4, .ref h5, .ref h6, .int f3, .ref h7, .ref h8, .ref h9, .int f4, .ref h10, .ref h11, .ref h12, .ref h13, .ref h14, .ref h15, .ref h16, .ref h17, .ref h18, .ref h19, .ref h20, .ref h21, .ref h22])), (h1, .inl (zI g, 180, .inl Z0)), (h7, .inl (zI g, 5, .inl Z6))] sz)) (va_Qi (fun (r : Int32) (u : Nat) => r.toInt = zMon B.L B.n B.S (zRw B.n Z6) p1.toNatClampNeg ∧ -99 ≤ r.toInt ∧ r.toInt ≤ 10098) (zPost g (fun u : Nat => [(h0, .inr (5, [.ref h1, .int f0, .ref h2, .int f1, .int f2, .ref h3, .ref h4, .ref h5, .ref h6, .int f3, .ref h7, .ref h8, .ref h9, .int f4, .ref h10, .ref h11, .ref h12, .ref h13, .ref h14, .ref h15, .ref h16, .ref h17, .ref h18, .ref h19, .ref h20, .ref h21, .ref h22])), (h1, .inl (zI g, 180, .inl Z0)), (h7, .inl (zI g, 5, .inl Z6))]) (va_A [(h0, .inr (5, [.ref h1, .int f0, .ref h2, .int f1, .int f2, .ref h3, .ref h4, .ref h5, .ref h6, .int f3, .ref h7, .ref h8, .ref h9, .int f4, .ref h10, .ref h11, .ref h12, .ref h13, .ref h14, .ref h15, .ref h16, .ref h17, .ref h18, .ref h19, .ref h20, .ref h21, .ref h22])), (h1, .inl (zI g, 180, .inl Z0)), (h7, .inl (zI g, 5, .inl Z6))] sz)) (va_A [(h0, .inr (5, [.ref h1, .int f0, .ref h2, .int f1, .int f2, .ref h3, .ref h4, .ref h5, .ref h6, .int f3, .ref h7, .ref h8, .ref h9, .int f4, .ref h10, .ref h11, .ref h12, .ref h13, .ref h14, .ref h15, .ref h16, .ref h17, .ref h18, .ref h19, .ref h20, .ref h21, .ref h22])), (h1, .inl (zI g, 180, .inl Z0)), (h7, .inl (zI g, 5, .inl Z6))] sz)) 0 0 (va_A [(h0, .inr (5, [.ref h1, .int f0, .ref h2, .int f1, .int f2, .ref h3, .ref h4, .ref h5, .ref h6, .int f3, .ref h7, .ref h8, .ref h9, .int f4, .ref h10, .ref h11, .ref h12, .ref h13, .ref h14, .ref h15, .ref h16, .ref h17, .ref h18, .ref h19, .ref h20, .ref h21, .ref h22])), (h1, .inl (zI g, 180, .inl Z0)), (h7, .inl (zI g, 5, .inl Z6))] sz) := by
  refine zMetI rfl (Nat.le_of_ble_eq_true rfl) ?_
  intro p e s m args below meth c A ls hx hb hml hr hlocks hin hown hts hK hN hZ hP hD hA hS hAe hl
  have hown : s.vm.findClass RX5 = some m.cls := hown
  have hl : lv_has ls 2 [(0, .ref h0), (1, .int p1)] := hl
  have hnr := iW_nr hF_Z0
  refine lv_aload_n hx hb dX5_payOf_0 rfl (lv_at hl 0 rfl) ?_
  refine va_get (D := g.1) (ci := 5) (v := .ref h7) (C := RX5) (T := TX5) (N := 27) hx hb hts zl_X5 hown hK hP 0 rfl rfl 10 (by decide) (hts _ m_f_RX5_28) (fun _ h => h) rfl dX5_payOf_1 ?_
  refine lv_iload_n hx hb dX5_payOf_4 rfl (lv_at hl 1 rfl) ?_
  refine va_iald (D := g.1) hx hb hK hP 2 0 rfl rfl (vp_in_iff.mpr ⟨by omega, by omega⟩) dX5_payOf_5 ?_
  refine lv_topi (fun y0 ey0 => ?_)
  have qy0_0 : (-99) ≤ y0.toInt := (i_at (N := 5) (lo := (-99)) (hi := 9999) (i := p1) (a := p1.toInt) hF_Z6 (rfl) (by omega) (by omega) ey0).1
  have qy0_1 : y0.toInt ≤ 9999 := (i_at (N := 5) (lo := (-99)) (hi := 9999) (i := p1) (a := p1.toInt) hF_Z6 (rfl) (by omega) (by omega) ey0).2
  have qy0_2 : y0.toInt = (Z6 p1.toNatClampNeg).toInt := congrArg Int32.toInt ey0
  refine lv_aload_n hx hb dX5_payOf_6 rfl (lv_at hl 0 rfl) ?_
  refine va_get (D := g.1) (ci := 5) (v := .ref h1) (C := RX5) (T := TX5) (N := 27) hx hb hts zl_X5 hown hK hP 0 rfl rfl 0 (by decide) (hts _ m_f_RX5_7) (fun _ h => h) rfl dX5_payOf_7 ?_
  refine lv_bipush (v := 13) hx hb dX5_payOf_10 (by decide) ?_
  refine lv_iload_n hx hb dX5_payOf_12 rfl (lv_at hl 1 rfl) ?_
  refine lv_iadd hx hb dX5_payOf_13 ?_
  refine lv_topi (fun y1 ey1 => ?_)
  have qy1_0 : y1.toInt = 13 + p1.toInt := zi_add ey1 (rfl) (rfl) (by omega) (by omega)
  refine va_iald (D := g.1) hx hb hK hP 1 0 rfl rfl (vp_in_iff.mpr ⟨by omega, by omega⟩) dX5_payOf_14 ?_
  refine lv_topi (fun y2 ey2 => ?_)
  have qy2_0 : y2.toInt = (Z0 y1.toNatClampNeg).toInt := congrArg Int32.toInt ey2
  have py2_0 : y2.toInt = (B.S p1.toNatClampNeg).toInt := congrArg Int32.toInt (iW_S (i := y1) (a := p1.toInt) hF_Z0 (by omega) (by omega) (by omega) ey2)
  have py2_1 : 0 ≤ y2.toInt := by have := i_at (N := 5) (lo := 0) (hi := 4) (i := p1) (a := p1.toInt) hB.2.2.1 rfl (by omega) (by omega) rfl; omega
  have py2_2 : y2.toInt ≤ 4 := by have := i_at (N := 5) (lo := 0) (hi := 4) (i := p1) (a := p1.toInt) hB.2.2.1 rfl (by omega) (by omega) rfl; omega
  refine lv_iconst (v := 4) hx hb dX5_payOf_15 (by decide) ?_
  refine lv_icmp_ne (tgt := 28) hx hb dX5_payOf_16 (by decide) (fun c_0 => ?_) (fun c_0 => ?_)
  · have i_0 : y2.toInt ≠ 4 := z_ne (rfl) (rfl) c_0
    refine lv_iconst (v := 0) hx hb dX5_payOf_28 (by decide) ?_
    refine lv_iadd hx hb dX5_payOf_29 ?_
    refine lv_topi (fun y3 ey3 => ?_)
    have qy3_0 : y3.toInt = y0.toInt + 0 := zi_add ey3 (rfl) (rfl) (by omega) (by omega)
    have hz : zMon B.L B.n B.S (zRw B.n Z6) p1.toNatClampNeg = y3.toInt := (zMon_i (i := p1) (by omega) (by omega)).trans (by rw [zRw_i (by omega) (by omega), if_neg (by omega)]; omega)
    have hP9 := hP.sub (ws' := [(h0, .inr (5, [.ref h1, .int f0, .ref h2, .int f1, .int f2, .ref h3, .ref h4, .ref h5, .ref h6, .int f3, .ref h7, .ref h8, .ref h9, .int f4, .ref h10, .ref h11, .ref h12, .ref h13, .ref h14, .ref h15, .ref h16, .ref h17, .ref h18, .ref h19, .ref h20, .ref h21, .ref h22])), (h1, .inl (zI g, 180, .inl Z0)), (h7, .inl (zI g, 5, .inl Z6))]) [0, 1, 2] rfl
    have hD9 := hD.sub (ws' := [(h0, .inr (5, [.ref h1, .int f0, .ref h2, .int f1, .int f2, .ref h3, .ref h4, .ref h5, .ref h6, .int f3, .ref h7, .ref h8, .ref h9, .int f4, .ref h10, .ref h11, .ref h12, .ref h13, .ref h14, .ref h15, .ref h16, .ref h17, .ref h18, .ref h19, .ref h20, .ref h21, .ref h22])), (h1, .inl (zI g, 180, .inl Z0)), (h7, .inl (zI g, 5, .inl Z6))]) [0, 1, 2] (by decide) rfl
    exact W.iret (v := y3) hx hb hr (fun t ht hW => ⟨⟨y3, (0 : Nat), rfl, ⟨(by first | omega | decide), (by first | omega | decide), (by first | omega | decide)⟩, by rw [ht]; exact hP9, hD9⟩, hS.F ht⟩) hS.2.2 dX5_payOf_30
  · have i_0 : y2.toInt = 4 := z_eq (rfl) (rfl) c_0
    refine lv_aload_n hx hb dX5_payOf_19 rfl (lv_at hl 0 rfl) ?_
    refine va_get (D := g.1) (ci := 5) (v := .ref h1) (C := RX5) (T := TX5) (N := 27) hx hb hts zl_X5 hown hK hP 0 rfl rfl 0 (by decide) (hts _ m_f_RX5_7) (fun _ h => h) rfl dX5_payOf_20 ?_
    refine lv_iconst (v := 4) hx hb dX5_payOf_23 (by decide) ?_
    refine va_iald (D := g.1) hx hb hK hP 1 0 rfl rfl (vp_in_iff.mpr (by decide +kernel)) dX5_payOf_24 ?_
    refine lv_topi (fun y4 ey4 => ?_)
    have qy4_0 : 0 ≤ y4.toInt := (iLaw_n (lo := 0) (hi := 99) (i := (4 : Int32)) (a := 4) hB.1 (rfl) (by omega) (by omega) (iW_L (i := (4 : Int32)) (a := 4) hF_Z0 (rfl) (by omega) (by omega) ey4) (by decide) (by decide)).1
    have qy4_1 : y4.toInt ≤ 99 := (iLaw_n (lo := 0) (hi := 99) (i := (4 : Int32)) (a := 4) hB.1 (rfl) (by omega) (by omega) (iW_L (i := (4 : Int32)) (a := 4) hF_Z0 (rfl) (by omega) (by omega) ey4) (by decide) (by decide)).2
    have qy4_2 : y4.toInt = (Z0 4).toInt := congrArg Int32.toInt ey4
    have qy4_3 : y4.toInt = (B.L 4).toInt := congrArg Int32.toInt (iW_L (i := (4 : Int32)) (a := 4) hF_Z0 (rfl) (by omega) (by omega) ey4)
    refine lv_goto (tgt := 29) hx hb dX5_payOf_25 (by decide) ?_
    refine lv_iadd hx hb dX5_payOf_29 ?_
    refine lv_topi (fun y5 ey5 => ?_)
    have qy5_0 : y5.toInt = y0.toInt + y4.toInt := zi_add ey5 (rfl) (rfl) (by omega) (by omega)
    have hz : zMon B.L B.n B.S (zRw B.n Z6) p1.toNatClampNeg = y5.toInt := (zMon_i (i := p1) (by omega) (by omega)).trans (by rw [zRw_i (by omega) (by omega), if_pos (by omega)]; omega)
    have hP9 := hP.sub (ws' := [(h0, .inr (5, [.ref h1, .int f0, .ref h2, .int f1, .int f2, .ref h3, .ref h4, .ref h5, .ref h6, .int f3, .ref h7, .ref h8, .ref h9, .int f4, .ref h10, .ref h11, .ref h12, .ref h13, .ref h14, .ref h15, .ref h16, .ref h17, .ref h18, .ref h19, .ref h20, .ref h21, .ref h22])), (h1, .inl (zI g, 180, .inl Z0)), (h7, .inl (zI g, 5, .inl Z6))]) [0, 1, 2] rfl
    have hD9 := hD.sub (ws' := [(h0, .inr (5, [.ref h1, .int f0, .ref h2, .int f1, .int f2, .ref h3, .ref h4, .ref h5, .ref h6, .int f3, .ref h7, .ref h8, .ref h9, .int f4, .ref h10, .ref h11, .ref h12, .ref h13, .ref h14, .ref h15, .ref h16, .ref h17, .ref h18, .ref h19, .ref h20, .ref h21, .ref h22])), (h1, .inl (zI g, 180, .inl Z0)), (h7, .inl (zI g, 5, .inl Z6))]) [0, 1, 2] (by decide) rfl
    exact W.iret (v := y5) hx hb hr (fun t ht hW => ⟨⟨y5, (0 : Nat), rfl, ⟨(by first | omega | decide), (by first | omega | decide), (by first | omega | decide)⟩, by rw [ht]; exact hP9, hD9⟩, hS.F ht⟩) hS.2.2 dX5_payOf_30
set_option maxHeartbeats 8000000 in
set_option maxRecDepth 100000 in
theorem gX5_up (l : Launch) (g : zG) (sz : Nat) (p0 : Int32) (p1 : Int32) (hp0 : 1 ≤ p1.toInt) (hp1 : p1.toInt ≤ 9) (hp2 : -20000 ≤ p0.toInt) (hp3 : p0.toInt ≤ 10000) : Met l yX5_up (.code yX5_up cX5_up 2 (some .int) :: zBig) ({ frames := 0, cells := 0, slots := 0, locals := 0 }) (va_Pc [.int p0, .int p1] (zPre g [] sz)) (va_Qi (fun (r : Int32) (u : Nat) => r.toInt = zUp p0.toInt p1.toInt ∧ 0 ≤ r.toInt ∧ r.toInt ≤ 20000) (zPost g (fun u : Nat => []) (va_A [] sz)) (va_A [] sz)) 0 0 (va_A [] sz) := by
  refine zMetI rfl (Nat.le_of_ble_eq_true rfl) ?_
  intro p e s m args below meth c A ls hx hb hml hr hlocks hin hown hts hK hN hZ hP hD hA hS hAe hl
  have hown : s.vm.findClass RX5 = some m.cls := hown
  have hl : lv_has ls 2 [(0, .int p0), (1, .int p1)] := hl
  refine lv_iload_n hx hb dX5_up_0 rfl (lv_at hl 0 rfl) ?_
  refine lv_if_gt (tgt := 8) hx hb dX5_up_1 (by decide) (fun c_0 => ?_) (fun c_0 => ?_)
  · have i_0 : 0 < p0.toInt := z_lt (rfl) (rfl) c_0
    refine lv_iload_n hx hb dX5_up_8 rfl (lv_at hl 0 rfl) ?_
    refine lv_iload_n hx hb dX5_up_9 rfl (lv_at hl 1 rfl) ?_
    refine lv_iadd hx hb dX5_up_10 ?_
    refine lv_topi (fun y0 ey0 => ?_)
    have qy0_0 : y0.toInt = p0.toInt + p1.toInt := zi_add ey0 (rfl) (rfl) (by omega) (by omega)
    refine lv_iconst (v := 1) hx hb dX5_up_11 (by decide) ?_
    refine lv_isub hx hb dX5_up_12 ?_
    refine lv_topi (fun y1 ey1 => ?_)
    have qy1_0 : y1.toInt = y0.toInt - 1 := zi_sub ey1 (rfl) (rfl) (by omega) (by omega)
    refine lv_iload_n hx hb dX5_up_13 rfl (lv_at hl 1 rfl) ?_
    refine lv_idiv hx hb dX5_up_14 (z_nz rfl (by omega)) ?_
    refine lv_topi (fun y2 ey2 => ?_)
    have qy2_0 : 0 ≤ y2.toInt := (zi_div0 ey2 (rfl) (rfl) (by omega) (by omega)).1
    have qy2_1 : y2.toInt ≤ y1.toInt := (zi_div0 ey2 (rfl) (rfl) (by omega) (by omega)).2
    have py2_0 : y2.toInt = y1.toInt / p1.toInt := zi_div ey2 (rfl) (rfl) (by omega) (by omega)
    have hz : zUp p0.toInt p1.toInt = y2.toInt := by unfold zUp; rw [if_neg (by omega), (by omega : p0.toInt + p1.toInt - 1 = y1.toInt)]; omega
    have hP9 := hP.sub (ws' := []) [] rfl
    have hD9 := hD.sub (ws' := []) [] (by decide) rfl
    exact W.iret (v := y2) hx hb hr (fun t ht hW => ⟨⟨y2, (0 : Nat), rfl, ⟨(by first | omega | decide), (by first | omega | decide), (by first | omega | decide)⟩, by rw [ht]; exact hP9, hD9⟩, hS.F ht⟩) hS.2.2 dX5_up_15
  · have i_0 : p0.toInt ≤ 0 := z_nlt (rfl) (rfl) c_0
    refine lv_iconst (v := 0) hx hb dX5_up_4 (by decide) ?_
    refine lv_goto (tgt := 15) hx hb dX5_up_5 (by decide) ?_
    have hz : zUp p0.toInt p1.toInt = 0 := by unfold zUp; rw [if_pos (by omega)]
    have : (0 : Int32).toInt = 0 := rfl
    have hP9 := hP.sub (ws' := []) [] rfl
    have hD9 := hD.sub (ws' := []) [] (by decide) rfl
    exact W.iret (v := 0) hx hb hr (fun t ht hW => ⟨⟨0, (0 : Nat), rfl, ⟨(by first | omega | decide), (by first | omega | decide), (by first | omega | decide)⟩, by rw [ht]; exact hP9, hD9⟩, hS.F ht⟩) hS.2.2 dX5_up_15
set_option maxHeartbeats 8000000 in
set_option maxRecDepth 100000 in
theorem gX5_greater (l : Launch) (g : zG) (sz : Nat) (p0 : Int32) (p1 : Int32) : Met l yX5_greater (.code yX5_greater cX5_greater 2 (some .int) :: zBig) ({ frames := 0, cells := 0, slots := 0, locals := 0 }) (va_Pc [.int p0, .int p1] (zPre g [] sz)) (va_Qi (fun (r : Int32) (u : Nat) => p0.toInt ≤ r.toInt ∧ p1.toInt ≤ r.toInt ∧ (r.toInt = p0.toInt ∨ r.toInt = p1.toInt)) (zPost g (fun u : Nat => []) (va_A [] sz)) (va_A [] sz)) 0 0 (va_A [] sz) := by
  refine zMetI rfl (Nat.le_of_ble_eq_true rfl) ?_
  intro p e s m args below meth c A ls hx hb hml hr hlocks hin hown hts hK hN hZ hP hD hA hS hAe hl
  have hown : s.vm.findClass RX5 = some m.cls := hown
  have hl : lv_has ls 2 [(0, .int p0), (1, .int p1)] := hl
  refine lv_iload_n hx hb dX5_greater_0 rfl (lv_at hl 0 rfl) ?_
  refine lv_iload_n hx hb dX5_greater_1 rfl (lv_at hl 1 rfl) ?_
  refine lv_icmp_le (tgt := 9) hx hb dX5_greater_2 (by decide) (fun c_0 => ?_) (fun c_0 => ?_)
  · have i_0 : p0.toInt ≤ p1.toInt := z_le (rfl) (rfl) c_0
    refine lv_iload_n hx hb dX5_greater_9 rfl (lv_at hl 1 rfl) ?_
    have hP9 := hP.sub (ws' := []) [] rfl
    have hD9 := hD.sub (ws' := []) [] (by decide) rfl
    exact W.iret (v := p1) hx hb hr (fun t ht hW => ⟨⟨p1, (0 : Nat), rfl, ⟨(by first | omega | decide), (by first | omega | decide), (by first | omega | decide)⟩, by rw [ht]; exact hP9, hD9⟩, hS.F ht⟩) hS.2.2 dX5_greater_10
  · have i_0 : p1.toInt < p0.toInt := z_nle (rfl) (rfl) c_0
    refine lv_iload_n hx hb dX5_greater_5 rfl (lv_at hl 0 rfl) ?_
    refine lv_goto (tgt := 10) hx hb dX5_greater_6 (by decide) ?_
    have hP9 := hP.sub (ws' := []) [] rfl
    have hD9 := hD.sub (ws' := []) [] (by decide) rfl
    exact W.iret (v := p0) hx hb hr (fun t ht hW => ⟨⟨p0, (0 : Nat), rfl, ⟨(by first | omega | decide), (by first | omega | decide), (by first | omega | decide)⟩, by rw [ht]; exact hP9, hD9⟩, hS.F ht⟩) hS.2.2 dX5_greater_10
set_option maxHeartbeats 8000000 in
set_option maxRecDepth 100000 in
theorem gX5_waits (l : Launch) (g : zG) (K : Prop) (B C : zBk) (hB : bOk B) (h0 h1 h2 h3 h4 h5 h6 h7 h8 h9 h10 h11 h12 h13 h14 h15 h16 h17 h18 h19 h20 h21 h22 : Nat) (sz : Nat) (p1 : Int32) (p2 : Int32) (p3 : Int32) (p4 : Int32) (f0 : Int32) (f1 : Int32) (f2 : Int32) (f3 : Int32) (f4 : Int32) (Z0 : Nat → Int32) (Z5 : Nat → Int32) (Z6 : Nat → Int32) (hp0 : 0 ≤ p1.toInt) (hp1 : p1.toInt < B.n) (hp2 : 0 ≤ p2.toInt) (hp3 : p2.toInt ≤ 3) (hp4 : 0 ≤ p3.toInt) (hp5 : p3.toInt ≤ 99) (hf_f1 : 0 ≤ f1.toInt ∧ f1.toInt ≤ 60) (hf_f2 : 0 ≤ f2.toInt ∧ f2.toInt ≤ 60) (hf_f3 : 0 ≤ f3.toInt ∧ f3.toInt ≤ 31) (hf_f4 : 0 ≤ f4.toInt ∧ f4.toInt ≤ 1000) (hF_Z0 : iW K B C Z0) (hF_Z5 : iMa Z5) (hF_Z6 : iPu Z6) : Met l yX5_waits (.code yX5_waits cX5_waits 7 (some .int) :: zBig) ({ frames := 1, cells := 0, slots := 0, locals := 22 }) (va_Pc [.ref h0, .int p1, .int p2, .int p3, .int p4] (zPre g [(h0, .inr (5, [.ref h1, .int f0, .ref h2, .int f1, .int f2, .ref h3, .ref h4, .ref h5, .ref h6, .int f3, .ref h7, .ref h8, .ref h9, .int f4, .ref h10, .ref h11, .ref h12, .ref h13, .ref h14, .ref h15, .ref h16, .ref h17, .ref h18, .ref h19, .ref h20, .ref h21, .ref h22])), (h1, .inl (zI g, 180, .inl Z0)), (h6, .inl (zI g, 5, .inl Z5)), (h7, .inl (zI g, 5, .inl Z6))] sz)) (va_Qi (fun (r : Int32) (u : Nat) => r.toInt = zWt B.S (zLim B.n B.S B.V (zRw B.n Z5) p2.toInt) (zMon B.L B.n B.S (zRw B.n Z6)) (B.L 1).toInt p3.toInt p4.toInt p1.toNatClampNeg ∧ 0 ≤ r.toInt ∧ r.toInt ≤ 30000) (zPost g (fun u : Nat => [(h0, .inr (5, [.ref h1, .int f0, .ref h2, .int f1, .int f2, .ref h3, .ref h4, .ref h5, .ref h6, .int f3, .ref h7, .ref h8, .ref h9, .int f4, .ref h10, .ref h11, .ref h12, .ref h13, .ref h14, .ref h15, .ref h16, .ref h17, .ref h18, .ref h19, .ref h20, .ref h21, .ref h22])), (h1, .inl (zI g, 180, .inl Z0)), (h6, .inl (zI g, 5, .inl Z5)), (h7, .inl (zI g, 5, .inl Z6))]) (va_A [(h0, .inr (5, [.ref h1, .int f0, .ref h2, .int f1, .int f2, .ref h3, .ref h4, .ref h5, .ref h6, .int f3, .ref h7, .ref h8, .ref h9, .int f4, .ref h10, .ref h11, .ref h12, .ref h13, .ref h14, .ref h15, .ref h16, .ref h17, .ref h18, .ref h19, .ref h20, .ref h21, .ref h22])), (h1, .inl (zI g, 180, .inl Z0)), (h6, .inl (zI g, 5, .inl Z5)), (h7, .inl (zI g, 5, .inl Z6))] sz)) (va_A [(h0, .inr (5, [.ref h1, .int f0, .ref h2, .int f1, .int f2, .ref h3, .ref h4, .ref h5, .ref h6, .int f3, .ref h7, .ref h8, .ref h9, .int f4, .ref h10, .ref h11, .ref h12, .ref h13, .ref h14, .ref h15, .ref h16, .ref h17, .ref h18, .ref h19, .ref h20, .ref h21, .ref h22])), (h1, .inl (zI g, 180, .inl Z0)), (h6, .inl (zI g, 5, .inl Z5)), (h7, .inl (zI g, 5, .inl Z6))] sz)) 0 0 (va_A [(h0, .inr (5, [.ref h1, .int f0, .ref h2, .int f1, .int f2, .ref h3, .ref h4, .ref h5, .ref h6, .int f3, .ref h7, .ref h8, .ref h9, .int f4, .ref h10, .ref h11, .ref h12, .ref h13, .ref h14, .ref h15, .ref h16, .ref h17, .ref h18, .ref h19, .ref h20, .ref h21, .ref h22])), (h1, .inl (zI g, 180, .inl Z0)), (h6, .inl (zI g, 5, .inl Z5)), (h7, .inl (zI g, 5, .inl Z6))] sz) := by
  refine zMetI rfl (Nat.le_of_ble_eq_true rfl) ?_
  intro p e s m args below meth c A ls hx hb hml hr hlocks hin hown hts hK hN hZ hP hD hA hS hAe hl
  have hown : s.vm.findClass RX5 = some m.cls := hown
  have hl : lv_has ls 7 [(0, .ref h0), (1, .int p1), (2, .int p2), (3, .int p3), (4, .int p4)] := hl
  have hnr := iW_nr hF_Z0
  refine lv_aload_n hx hb dX5_waits_0 rfl (lv_at hl 0 rfl) ?_
  refine lv_iload_n hx hb dX5_waits_1 rfl (lv_at hl 1 rfl) ?_
  refine lv_iload_n hx hb dX5_waits_2 rfl (lv_at hl 2 rfl) ?_
  refine z_calli (wr := [(h6, .inl (zI g, 5, .inl Z5)), (h7, .inl (zI g, 5, .inl Z6))]) hP hD hS hA [0, 1] [2, 3] (by decide) rfl rfl (by decide) (va_runV (As := [.int p1, .int p2]) (rest := []) ⟨hx, hb, hml, hown, hts⟩ (gX5_worthOf l g K B C hB h0 h1 h2 h3 h4 h5 h6 h7 h8 h9 h10 h11 h12 h13 h14 h15 h16 h17 h18 h19 h20 h21 h22 s.heap.size p1 p2 f0 f1 f2 f3 f4 Z0 (by omega) (by omega) (by omega) (by omega) (by constructor <;> omega) (by constructor <;> omega) (by constructor <;> omega) (by constructor <;> omega) hF_Z0) ⟨callB_of 2 hts (zGood m_o_yX5_worthOf) rfl rfl rfl (hts _ m_z_RX5) (hts _ m_m_RX5_150) ⟨by decide +kernel, by decide +kernel, by decide +kernel⟩ ⟨Nat.le_of_ble_eq_true rfl, Nat.le_of_ble_eq_true rfl⟩, hts _ m_i_yX5_worthOf, hts _ m_e_yX5_worthOf⟩ (zPreV hK hN hZ hP hD hS hA [0, 1] (by decide) rfl rfl 5 0 rfl rfl) rfl rfl hl.1 rfl (lv_room (Nat.le_of_ble_eq_true rfl)) dX5_waits_3 ⟨Nat.le_of_ble_eq_true rfl, Nat.le_of_ble_eq_true rfl⟩) (fun r u H locs hw hP hD hS => ?_)
  obtain ⟨y0, rfl⟩ : ∃ z, z = r := ⟨_, rfl⟩
  obtain ⟨q1_0, q1_1, q1_2⟩ := hw
  have q1_0 : y0.toInt = zWq B.n B.V p1.toInt p2.toInt := q1_0
  have q1_1 : 0 ≤ y0.toInt := q1_1
  have q1_2 : y0.toInt ≤ 99 := q1_2
  have hP : va_P g.1 vwCl [(h6, .inl (zI g, 5, .inl Z5)), (h7, .inl (zI g, 5, .inl Z6)), (h0, .inr (5, [.ref h1, .int f0, .ref h2, .int f1, .int f2, .ref h3, .ref h4, .ref h5, .ref h6, .int f3, .ref h7, .ref h8, .ref h9, .int f4, .ref h10, .ref h11, .ref h12, .ref h13, .ref h14, .ref h15, .ref h16, .ref h17, .ref h18, .ref h19, .ref h20, .ref h21, .ref h22])), (h1, .inl (zI g, 180, .inl Z0))] H := hP
  have hD : va_D A [(h6, .inl (zI g, 5, .inl Z5)), (h7, .inl (zI g, 5, .inl Z6)), (h0, .inr (5, [.ref h1, .int f0, .ref h2, .int f1, .int f2, .ref h3, .ref h4, .ref h5, .ref h6, .int f3, .ref h7, .ref h8, .ref h9, .int f4, .ref h10, .ref h11, .ref h12, .ref h13, .ref h14, .ref h15, .ref h16, .ref h17, .ref h18, .ref h19, .ref h20, .ref h21, .ref h22])), (h1, .inl (zI g, 180, .inl Z0))] := hD
  refine lv_aload_n hx hb dX5_waits_6 rfl (lv_at hl 0 rfl) ?_
  refine lv_iload_n hx hb dX5_waits_7 rfl (lv_at hl 1 rfl) ?_
  refine z_calli (wr := [(h7, .inl (zI g, 5, .inl Z6))]) hP hD hS hA [2, 3, 0] [1] (by decide) rfl rfl (by decide) (va_runV (As := [.int p1]) (rest := [.int y0]) ⟨hx, hb, hml, hown, hts⟩ (gX5_marginOf l g K B C hB h0 h1 h2 h3 h4 h5 h6 h7 h8 h9 h10 h11 h12 h13 h14 h15 h16 h17 h18 h19 h20 h21 h22 H.size p1 f0 f1 f2 f3 f4 Z0 Z5 (by omega) (by omega) (by constructor <;> omega) (by constructor <;> omega) (by constructor <;> omega) (by constructor <;> omega) hF_Z0 hF_Z5) ⟨callB_of 1 hts (zGood m_o_yX5_marginOf) rfl rfl rfl (hts _ m_z_RX5) (hts _ m_m_RX5_160) ⟨by decide +kernel, by decide +kernel, by decide +kernel⟩ ⟨Nat.le_of_ble_eq_true rfl, Nat.le_of_ble_eq_true rfl⟩, hts _ m_i_yX5_marginOf, hts _ m_e_yX5_marginOf⟩ (zPreV hK hN hZ hP hD hS hA [2, 3, 0] (by decide) rfl rfl 5 2 rfl rfl) rfl rfl hl.1 rfl (lv_room (Nat.le_of_ble_eq_true rfl)) dX5_waits_8 ⟨Nat.le_of_ble_eq_true rfl, Nat.le_of_ble_eq_true rfl⟩) (fun r u H locs hw hP hD hS => ?_)
  obtain ⟨y2, rfl⟩ : ∃ z, z = r := ⟨_, rfl⟩
  obtain ⟨q3_0, q3_1, q3_2⟩ := hw
  have q3_0 : y2.toInt = zCh B.S (zIv Z5) p1.toNatClampNeg := q3_0
  have q3_1 : 0 ≤ y2.toInt := q3_1
  have q3_2 : y2.toInt ≤ 40 := q3_2
  have hP : va_P g.1 vwCl [(h7, .inl (zI g, 5, .inl Z6)), (h0, .inr (5, [.ref h1, .int f0, .ref h2, .int f1, .int f2, .ref h3, .ref h4, .ref h5, .ref h6, .int f3, .ref h7, .ref h8, .ref h9, .int f4, .ref h10, .ref h11, .ref h12, .ref h13, .ref h14, .ref h15, .ref h16, .ref h17, .ref h18, .ref h19, .ref h20, .ref h21, .ref h22])), (h1, .inl (zI g, 180, .inl Z0)), (h6, .inl (zI g, 5, .inl Z5))] H := hP
  have hD : va_D A [(h7, .inl (zI g, 5, .inl Z6)), (h0, .inr (5, [.ref h1, .int f0, .ref h2, .int f1, .int f2, .ref h3, .ref h4, .ref h5, .ref h6, .int f3, .ref h7, .ref h8, .ref h9, .int f4, .ref h10, .ref h11, .ref h12, .ref h13, .ref h14, .ref h15, .ref h16, .ref h17, .ref h18, .ref h19, .ref h20, .ref h21, .ref h22])), (h1, .inl (zI g, 180, .inl Z0)), (h6, .inl (zI g, 5, .inl Z5))] := hD
  refine lv_isub hx hb dX5_waits_11 ?_
  refine lv_topi (fun y4 ey4 => ?_)
  have qy4_0 : y4.toInt = y0.toInt - y2.toInt := zi_sub ey4 (rfl) (rfl) (by omega) (by omega)
  refine lv_istore (lv' := [(5, .int y4), (0, .ref h0), (1, .int p1), (2, .int p2), (3, .int p3), (4, .int p4)]) hx hb dX5_waits_12 hl (by decide) rfl (fun ls hl => ?_)
  refine lv_iload_n hx hb dX5_waits_14 rfl (lv_at hl 4 rfl) ?_
  refine lv_aload_n hx hb dX5_waits_15 rfl (lv_at hl 1 rfl) ?_
  refine lv_iload_n hx hb dX5_waits_16 rfl (lv_at hl 2 rfl) ?_
  refine z_calli (wr := [(h6, .inl (zI g, 5, .inl Z5))]) hP hD hS hA [1, 2, 0] [3] (by decide) rfl rfl (by decide) (va_runV (As := [.int p1]) (rest := [.int p3]) ⟨hx, hb, hml, hown, hts⟩ (gX5_payOf l g K B C hB h0 h1 h2 h3 h4 h5 h6 h7 h8 h9 h10 h11 h12 h13 h14 h15 h16 h17 h18 h19 h20 h21 h22 H.size p1 f0 f1 f2 f3 f4 Z0 Z6 (by omega) (by omega) (by constructor <;> omega) (by constructor <;> omega) (by constructor <;> omega) (by constructor <;> omega) hF_Z0 hF_Z6) ⟨callB_of 1 hts (zGood m_o_yX5_payOf) rfl rfl rfl (hts _ m_z_RX5) (hts _ m_m_RX5_163) ⟨by decide +kernel, by decide +kernel, by decide +kernel⟩ ⟨Nat.le_of_ble_eq_true rfl, Nat.le_of_ble_eq_true rfl⟩, hts _ m_i_yX5_payOf, hts _ m_e_yX5_payOf⟩ (zPreV hK hN hZ hP hD hS hA [1, 2, 0] (by decide) rfl rfl 5 1 rfl rfl) rfl rfl hl.1 rfl (lv_room (Nat.le_of_ble_eq_true rfl)) dX5_waits_17 ⟨Nat.le_of_ble_eq_true rfl, Nat.le_of_ble_eq_true rfl⟩) (fun r u H locs hw hP hD hS => ?_)
  obtain ⟨y5, rfl⟩ : ∃ z, z = r := ⟨_, rfl⟩
  obtain ⟨q6_0, q6_1, q6_2⟩ := hw
  have q6_0 : y5.toInt = zMon B.L B.n B.S (zRw B.n Z6) p1.toNatClampNeg := q6_0
  have q6_1 : -99 ≤ y5.toInt := q6_1
  have q6_2 : y5.toInt ≤ 10098 := q6_2
  have hP : va_P g.1 vwCl [(h6, .inl (zI g, 5, .inl Z5)), (h0, .inr (5, [.ref h1, .int f0, .ref h2, .int f1, .int f2, .ref h3, .ref h4, .ref h5, .ref h6, .int f3, .ref h7, .ref h8, .ref h9, .int f4, .ref h10, .ref h11, .ref h12, .ref h13, .ref h14, .ref h15, .ref h16, .ref h17, .ref h18, .ref h19, .ref h20, .ref h21, .ref h22])), (h1, .inl (zI g, 180, .inl Z0)), (h7, .inl (zI g, 5, .inl Z6))] H := hP
  have hD : va_D A [(h6, .inl (zI g, 5, .inl Z5)), (h0, .inr (5, [.ref h1, .int f0, .ref h2, .int f1, .int f2, .ref h3, .ref h4, .ref h5, .ref h6, .int f3, .ref h7, .ref h8, .ref h9, .int f4, .ref h10, .ref h11, .ref h12, .ref h13, .ref h14, .ref h15, .ref h16, .ref h17, .ref h18, .ref h19, .ref h20, .ref h21, .ref h22])), (h1, .inl (zI g, 180, .inl Z0)), (h7, .inl (zI g, 5, .inl Z6))] := hD
  refine lv_isub hx hb dX5_waits_20 ?_
  refine lv_topi (fun y7 ey7 => ?_)
  have qy7_0 : y7.toInt = p3.toInt - y5.toInt := zi_sub ey7 (rfl) (rfl) (by omega) (by omega)
  refine lv_aload_n hx hb dX5_waits_21 rfl (lv_at hl 1 rfl) ?_
  refine va_get (D := g.1) (ci := 5) (v := .ref h1) (C := RX5) (T := TX5) (N := 27) hx hb hts zl_X5 hown hK hP 1 rfl rfl 0 (by decide) (hts _ m_f_RX5_7) (fun _ h => h) rfl dX5_waits_22 ?_
  refine lv_iconst (v := 1) hx hb dX5_waits_25 (by decide) ?_
  refine va_iald (D := g.1) hx hb hK hP 2 0 rfl rfl (vp_in_iff.mpr (by decide +kernel)) dX5_waits_26 ?_
  refine lv_topi (fun y8 ey8 => ?_)
  have qy8_0 : 1 ≤ y8.toInt := (iLaw_n (lo := 1) (hi := 9) (i := (1 : Int32)) (a := 1) hB.1 (rfl) (by omega) (by omega) (iW_L (i := (1 : Int32)) (a := 1) hF_Z0 (rfl) (by omega) (by omega) ey8) (by decide) (by decide)).1
  have qy8_1 : y8.toInt ≤ 9 := (iLaw_n (lo := 1) (hi := 9) (i := (1 : Int32)) (a := 1) hB.1 (rfl) (by omega) (by omega) (iW_L (i := (1 : Int32)) (a := 1) hF_Z0 (rfl) (by omega) (by omega) ey8) (by decide) (by decide)).2
  have qy8_2 : y8.toInt = (Z0 1).toInt := congrArg Int32.toInt ey8
  have qy8_3 : y8.toInt = (B.L 1).toInt := congrArg Int32.toInt (iW_L (i := (1 : Int32)) (a := 1) hF_Z0 (rfl) (by omega) (by omega) ey8)
  refine z_calli (wr := [(h6, .inl (zI g, 5, .inl Z5)), (h0, .inr (5, [.ref h1, .int f0, .ref h2, .int f1, .int f2, .ref h3, .ref h4, .ref h5, .ref h6, .int f3, .ref h7, .ref h8, .ref h9, .int f4, .ref h10, .ref h11, .ref h12, .ref h13, .ref h14, .ref h15, .ref h16, .ref h17, .ref h18, .ref h19, .ref h20, .ref h21, .ref h22])), (h1, .inl (zI g, 180, .inl Z0)), (h7, .inl (zI g, 5, .inl Z6))]) hP hD hS hA [] [0, 1, 2, 3] (by decide) rfl rfl (by decide) (va_runS (As := [.int y7, .int y8]) (rest := []) ⟨hx, hb, hml, hown, hts⟩ (gX5_up l g  H.size y7 y8 (by omega) (by omega) (by omega) (by omega)) ⟨callB_of 2 hts (zGood m_o_yX5_up) rfl rfl rfl (hts _ m_z_RX5) (hts _ m_m_RX5_166) ⟨by decide +kernel, by decide +kernel, by decide +kernel⟩ ⟨Nat.le_of_ble_eq_true rfl, Nat.le_of_ble_eq_true rfl⟩, hts _ m_s_yX5_up⟩ (zPreS hK hN hZ hP hD hS hA [] (by decide) rfl rfl) rfl rfl hl.1 rfl (lv_room (Nat.le_of_ble_eq_true rfl)) dX5_waits_27 ⟨Nat.le_of_ble_eq_true rfl, Nat.le_of_ble_eq_true rfl⟩) (fun r u H locs hw hP hD hS => ?_)
  obtain ⟨y9, rfl⟩ : ∃ z, z = r := ⟨_, rfl⟩
  obtain ⟨q10_0, q10_1, q10_2⟩ := hw
  have q10_0 : y9.toInt = zUp y7.toInt y8.toInt := q10_0
  have q10_1 : 0 ≤ y9.toInt := q10_1
  have q10_2 : y9.toInt ≤ 20000 := q10_2
  have hP : va_P g.1 vwCl [(h6, .inl (zI g, 5, .inl Z5)), (h0, .inr (5, [.ref h1, .int f0, .ref h2, .int f1, .int f2, .ref h3, .ref h4, .ref h5, .ref h6, .int f3, .ref h7, .ref h8, .ref h9, .int f4, .ref h10, .ref h11, .ref h12, .ref h13, .ref h14, .ref h15, .ref h16, .ref h17, .ref h18, .ref h19, .ref h20, .ref h21, .ref h22])), (h1, .inl (zI g, 180, .inl Z0)), (h7, .inl (zI g, 5, .inl Z6))] H := hP
  have hD : va_D A [(h6, .inl (zI g, 5, .inl Z5)), (h0, .inr (5, [.ref h1, .int f0, .ref h2, .int f1, .int f2, .ref h3, .ref h4, .ref h5, .ref h6, .int f3, .ref h7, .ref h8, .ref h9, .int f4, .ref h10, .ref h11, .ref h12, .ref h13, .ref h14, .ref h15, .ref h16, .ref h17, .ref h18, .ref h19, .ref h20, .ref h21, .ref h22])), (h1, .inl (zI g, 180, .inl Z0)), (h7, .inl (zI g, 5, .inl Z6))] := hD
  refine lv_istore (lv' := [(6, .int y9), (5, .int y4), (0, .ref h0), (1, .int p1), (2, .int p2), (3, .int p3), (4, .int p4)]) hx hb dX5_waits_30 hl (by decide) rfl (fun ls hl => ?_)
  refine lv_aload_n hx hb dX5_waits_32 rfl (lv_at hl 2 rfl) ?_
  refine va_get (D := g.1) (ci := 5) (v := .ref h1) (C := RX5) (T := TX5) (N := 27) hx hb hts zl_X5 hown hK hP 1 rfl rfl 0 (by decide) (hts _ m_f_RX5_7) (fun _ h => h) rfl dX5_waits_33 ?_
  refine lv_bipush (v := 13) hx hb dX5_waits_36 (by decide) ?_
  refine lv_iload_n hx hb dX5_waits_38 rfl (lv_at hl 3 rfl) ?_
  refine lv_iadd hx hb dX5_waits_39 ?_
  refine lv_topi (fun y11 ey11 => ?_)
  have qy11_0 : y11.toInt = 13 + p1.toInt := zi_add ey11 (rfl) (rfl) (by omega) (by omega)
  refine va_iald (D := g.1) hx hb hK hP 2 0 rfl rfl (vp_in_iff.mpr ⟨by omega, by omega⟩) dX5_waits_40 ?_
  refine lv_topi (fun y12 ey12 => ?_)
  have qy12_0 : y12.toInt = (Z0 y11.toNatClampNeg).toInt := congrArg Int32.toInt ey12
  have py12_0 : y12.toInt = (B.S p1.toNatClampNeg).toInt := congrArg Int32.toInt (iW_S (i := y11) (a := p1.toInt) hF_Z0 (by omega) (by omega) (by omega) ey12)
  have py12_1 : 0 ≤ y12.toInt := by have := i_at (N := 5) (lo := 0) (hi := 4) (i := p1) (a := p1.toInt) hB.2.2.1 rfl (by omega) (by omega) rfl; omega
  have py12_2 : y12.toInt ≤ 4 := by have := i_at (N := 5) (lo := 0) (hi := 4) (i := p1) (a := p1.toInt) hB.2.2.1 rfl (by omega) (by omega) rfl; omega
  refine lv_iconst (v := 1) hx hb dX5_waits_41 (by decide) ?_
  refine lv_icmp_eq (tgt := 64) hx hb dX5_waits_42 (by decide) (fun c_0 => ?_) (fun c_0 => ?_)
  · have i_0 : y12.toInt = 1 := z_eq (rfl) (rfl) c_0
    refine lv_iload hx hb dX5_waits_64 (lv_at hl 6 rfl) ?_
    refine lv_iload hx hb dX5_waits_66 (lv_at hl 1 rfl) ?_
    refine lv_icmp_gt (tgt := 80) hx hb dX5_waits_68 (by decide) (fun c_1 => ?_) (fun c_1 => ?_)
    · have i_1 : y4.toInt < p4.toInt := z_lt (rfl) (rfl) c_1
      refine lv_iload hx hb dX5_waits_80 (lv_at hl 0 rfl) ?_
      refine lv_iconst (v := 1) hx hb dX5_waits_82 (by decide) ?_
      refine lv_iload_n hx hb dX5_waits_83 rfl (lv_at hl 5 rfl) ?_
      refine lv_iload hx hb dX5_waits_84 (lv_at hl 1 rfl) ?_
      refine lv_isub hx hb dX5_waits_86 ?_
      refine lv_topi (fun y13 ey13 => ?_)
      have qy13_0 : y13.toInt = p3.toInt - y4.toInt := zi_sub ey13 (rfl) (rfl) (by omega) (by omega)
      refine lv_aload_n hx hb dX5_waits_87 rfl (lv_at hl 2 rfl) ?_
      refine va_get (D := g.1) (ci := 5) (v := .ref h1) (C := RX5) (T := TX5) (N := 27) hx hb hts zl_X5 hown hK hP 1 rfl rfl 0 (by decide) (hts _ m_f_RX5_7) (fun _ h => h) rfl dX5_waits_88 ?_
      refine lv_iconst (v := 1) hx hb dX5_waits_91 (by decide) ?_
      refine va_iald (D := g.1) hx hb hK hP 2 0 rfl rfl (vp_in_iff.mpr (by decide +kernel)) dX5_waits_92 ?_
      refine lv_topi (fun y14 ey14 => ?_)
      have qy14_0 : 1 ≤ y14.toInt := (iLaw_n (lo := 1) (hi := 9) (i := (1 : Int32)) (a := 1) hB.1 (rfl) (by omega) (by omega) (iW_L (i := (1 : Int32)) (a := 1) hF_Z0 (rfl) (by omega) (by omega) ey14) (by decide) (by decide)).1
      have qy14_1 : y14.toInt ≤ 9 := (iLaw_n (lo := 1) (hi := 9) (i := (1 : Int32)) (a := 1) hB.1 (rfl) (by omega) (by omega) (iW_L (i := (1 : Int32)) (a := 1) hF_Z0 (rfl) (by omega) (by omega) ey14) (by decide) (by decide)).2
      have qy14_2 : y14.toInt = (Z0 1).toInt := congrArg Int32.toInt ey14
      have qy14_3 : y14.toInt = (B.L 1).toInt := congrArg Int32.toInt (iW_L (i := (1 : Int32)) (a := 1) hF_Z0 (rfl) (by omega) (by omega) ey14)
      refine z_calli (wr := [(h6, .inl (zI g, 5, .inl Z5)), (h0, .inr (5, [.ref h1, .int f0, .ref h2, .int f1, .int f2, .ref h3, .ref h4, .ref h5, .ref h6, .int f3, .ref h7, .ref h8, .ref h9, .int f4, .ref h10, .ref h11, .ref h12, .ref h13, .ref h14, .ref h15, .ref h16, .ref h17, .ref h18, .ref h19, .ref h20, .ref h21, .ref h22])), (h1, .inl (zI g, 180, .inl Z0)), (h7, .inl (zI g, 5, .inl Z6))]) hP hD hS hA [] [0, 1, 2, 3] (by decide) rfl rfl (by decide) (va_runS (As := [.int y13, .int y14]) (rest := [.int 1, .int y9]) ⟨hx, hb, hml, hown, hts⟩ (gX5_up l g  H.size y13 y14 (by omega) (by omega) (by omega) (by omega)) ⟨callB_of 2 hts (zGood m_o_yX5_up) rfl rfl rfl (hts _ m_z_RX5) (hts _ m_m_RX5_166) ⟨by decide +kernel, by decide +kernel, by decide +kernel⟩ ⟨Nat.le_of_ble_eq_true rfl, Nat.le_of_ble_eq_true rfl⟩, hts _ m_s_yX5_up⟩ (zPreS hK hN hZ hP hD hS hA [] (by decide) rfl rfl) rfl rfl hl.1 rfl (lv_room (Nat.le_of_ble_eq_true rfl)) dX5_waits_93 ⟨Nat.le_of_ble_eq_true rfl, Nat.le_of_ble_eq_true rfl⟩) (fun r u H locs hw hP hD hS => ?_)
      obtain ⟨y15, rfl⟩ : ∃ z, z = r := ⟨_, rfl⟩
      obtain ⟨q16_0, q16_1, q16_2⟩ := hw
      have q16_0 : y15.toInt = zUp y13.toInt y14.toInt := q16_0
      have q16_1 : 0 ≤ y15.toInt := q16_1
      have q16_2 : y15.toInt ≤ 20000 := q16_2
      have hP : va_P g.1 vwCl [(h6, .inl (zI g, 5, .inl Z5)), (h0, .inr (5, [.ref h1, .int f0, .ref h2, .int f1, .int f2, .ref h3, .ref h4, .ref h5, .ref h6, .int f3, .ref h7, .ref h8, .ref h9, .int f4, .ref h10, .ref h11, .ref h12, .ref h13, .ref h14, .ref h15, .ref h16, .ref h17, .ref h18, .ref h19, .ref h20, .ref h21, .ref h22])), (h1, .inl (zI g, 180, .inl Z0)), (h7, .inl (zI g, 5, .inl Z6))] H := hP
      have hD : va_D A [(h6, .inl (zI g, 5, .inl Z5)), (h0, .inr (5, [.ref h1, .int f0, .ref h2, .int f1, .int f2, .ref h3, .ref h4, .ref h5, .ref h6, .int f3, .ref h7, .ref h8, .ref h9, .int f4, .ref h10, .ref h11, .ref h12, .ref h13, .ref h14, .ref h15, .ref h16, .ref h17, .ref h18, .ref h19, .ref h20, .ref h21, .ref h22])), (h1, .inl (zI g, 180, .inl Z0)), (h7, .inl (zI g, 5, .inl Z6))] := hD
      refine lv_iadd hx hb dX5_waits_96 ?_
      refine lv_topi (fun y17 ey17 => ?_)
      have qy17_0 : y17.toInt = 1 + y15.toInt := zi_add ey17 (rfl) (rfl) (by omega) (by omega)
      refine z_calli (wr := [(h6, .inl (zI g, 5, .inl Z5)), (h0, .inr (5, [.ref h1, .int f0, .ref h2, .int f1, .int f2, .ref h3, .ref h4, .ref h5, .ref h6, .int f3, .ref h7, .ref h8, .ref h9, .int f4, .ref h10, .ref h11, .ref h12, .ref h13, .ref h14, .ref h15, .ref h16, .ref h17, .ref h18, .ref h19, .ref h20, .ref h21, .ref h22])), (h1, .inl (zI g, 180, .inl Z0)), (h7, .inl (zI g, 5, .inl Z6))]) hP hD hS hA [] [0, 1, 2, 3] (by decide) rfl rfl (by decide) (va_runS (As := [.int y9, .int y17]) (rest := []) ⟨hx, hb, hml, hown, hts⟩ (gX5_greater l g  H.size y9 y17) ⟨callB_of 2 hts (zGood m_o_yX5_greater) rfl rfl rfl (hts _ m_z_RX5) (hts _ m_m_RX5_169) ⟨by decide +kernel, by decide +kernel, by decide +kernel⟩ ⟨Nat.le_of_ble_eq_true rfl, Nat.le_of_ble_eq_true rfl⟩, hts _ m_s_yX5_greater⟩ (zPreS hK hN hZ hP hD hS hA [] (by decide) rfl rfl) rfl rfl hl.1 rfl (lv_room (Nat.le_of_ble_eq_true rfl)) dX5_waits_97 ⟨Nat.le_of_ble_eq_true rfl, Nat.le_of_ble_eq_true rfl⟩) (fun r u H locs hw hP hD hS => ?_)
      obtain ⟨y18, rfl⟩ : ∃ z, z = r := ⟨_, rfl⟩
      obtain ⟨q19_0, q19_1, q19_2⟩ := hw
      have q19_0 : y9.toInt ≤ y18.toInt := q19_0
      have q19_1 : y17.toInt ≤ y18.toInt := q19_1
      have q19_2 : (y18.toInt = y9.toInt ∨ y18.toInt = y17.toInt) := q19_2
      have q20_0 : 1 ≤ y18.toInt := by omega
      have q20_1 : y18.toInt ≤ 20001 := by omega
      have hP : va_P g.1 vwCl [(h6, .inl (zI g, 5, .inl Z5)), (h0, .inr (5, [.ref h1, .int f0, .ref h2, .int f1, .int f2, .ref h3, .ref h4, .ref h5, .ref h6, .int f3, .ref h7, .ref h8, .ref h9, .int f4, .ref h10, .ref h11, .ref h12, .ref h13, .ref h14, .ref h15, .ref h16, .ref h17, .ref h18, .ref h19, .ref h20, .ref h21, .ref h22])), (h1, .inl (zI g, 180, .inl Z0)), (h7, .inl (zI g, 5, .inl Z6))] H := hP
      have hD : va_D A [(h6, .inl (zI g, 5, .inl Z5)), (h0, .inr (5, [.ref h1, .int f0, .ref h2, .int f1, .int f2, .ref h3, .ref h4, .ref h5, .ref h6, .int f3, .ref h7, .ref h8, .ref h9, .int f4, .ref h10, .ref h11, .ref h12, .ref h13, .ref h14, .ref h15, .ref h16, .ref h17, .ref h18, .ref h19, .ref h20, .ref h21, .ref h22])), (h1, .inl (zI g, 180, .inl Z0)), (h7, .inl (zI g, 5, .inl Z6))] := hD
      have hli : (zLim B.n B.S B.V (zRw B.n Z5) p2.toInt) p1.toNatClampNeg = y4.toInt := by
        rw [zLim_i (by omega) (by omega), zCh_rw (by omega) (by omega)]
        omega
      have hmo : (zMon B.L B.n B.S (zRw B.n Z6)) p1.toNatClampNeg = y5.toInt := by omega
      have hu1 : zUp (p3.toInt - y5.toInt) (B.L 1).toInt = y9.toInt := by
        rw [(by omega : p3.toInt - y5.toInt = y7.toInt), (by omega : (B.L 1).toInt = y8.toInt)]
        omega
      have hu2 : zUp (p3.toInt - y4.toInt) (B.L 1).toInt = y15.toInt := by
        rw [(by omega : p3.toInt - y4.toInt = y13.toInt), (by omega : (B.L 1).toInt = y14.toInt)]
        omega
      have hz : zWt B.S (zLim B.n B.S B.V (zRw B.n Z5) p2.toInt) (zMon B.L B.n B.S (zRw B.n Z6)) (B.L 1).toInt p3.toInt p4.toInt p1.toNatClampNeg = y18.toInt := by
        unfold zWt
        rw [hli, hmo, hu1, hu2]
        rw [if_neg (by omega), if_neg (by omega)]
        omega
      have hP9 := hP.sub (ws' := [(h0, .inr (5, [.ref h1, .int f0, .ref h2, .int f1, .int f2, .ref h3, .ref h4, .ref h5, .ref h6, .int f3, .ref h7, .ref h8, .ref h9, .int f4, .ref h10, .ref h11, .ref h12, .ref h13, .ref h14, .ref h15, .ref h16, .ref h17, .ref h18, .ref h19, .ref h20, .ref h21, .ref h22])), (h1, .inl (zI g, 180, .inl Z0)), (h6, .inl (zI g, 5, .inl Z5)), (h7, .inl (zI g, 5, .inl Z6))]) [1, 2, 0, 3] rfl
      have hD9 := hD.sub (ws' := [(h0, .inr (5, [.ref h1, .int f0, .ref h2, .int f1, .int f2, .ref h3, .ref h4, .ref h5, .ref h6, .int f3, .ref h7, .ref h8, .ref h9, .int f4, .ref h10, .ref h11, .ref h12, .ref h13, .ref h14, .ref h15, .ref h16, .ref h17, .ref h18, .ref h19, .ref h20, .ref h21, .ref h22])), (h1, .inl (zI g, 180, .inl Z0)), (h6, .inl (zI g, 5, .inl Z5)), (h7, .inl (zI g, 5, .inl Z6))]) [1, 2, 0, 3] (by decide) rfl
      exact W.iret (v := y18) hx hb hr (fun t ht hW => ⟨⟨y18, (0 : Nat), rfl, ⟨(by first | omega | decide), (by first | omega | decide), (by first | omega | decide)⟩, by rw [ht]; exact hP9, hD9⟩, hS.F ht⟩) hS.2.2 dX5_waits_100
    · have i_1 : p4.toInt ≤ y4.toInt := z_nlt (rfl) (rfl) c_1
      refine lv_iload hx hb dX5_waits_71 (lv_at hl 0 rfl) ?_
      refine lv_if_ne (tgt := 80) hx hb dX5_waits_73 (by decide) (fun c_2 => ?_) (fun c_2 => ?_)
      · have i_2 : y9.toInt ≠ 0 := z_ne (rfl) (rfl) c_2
        refine lv_iload hx hb dX5_waits_80 (lv_at hl 0 rfl) ?_
        refine lv_iconst (v := 1) hx hb dX5_waits_82 (by decide) ?_
        refine lv_iload_n hx hb dX5_waits_83 rfl (lv_at hl 5 rfl) ?_
        refine lv_iload hx hb dX5_waits_84 (lv_at hl 1 rfl) ?_
        refine lv_isub hx hb dX5_waits_86 ?_
        refine lv_topi (fun y21 ey21 => ?_)
        have qy21_0 : y21.toInt = p3.toInt - y4.toInt := zi_sub ey21 (rfl) (rfl) (by omega) (by omega)
        refine lv_aload_n hx hb dX5_waits_87 rfl (lv_at hl 2 rfl) ?_
        refine va_get (D := g.1) (ci := 5) (v := .ref h1) (C := RX5) (T := TX5) (N := 27) hx hb hts zl_X5 hown hK hP 1 rfl rfl 0 (by decide) (hts _ m_f_RX5_7) (fun _ h => h) rfl dX5_waits_88 ?_
        refine lv_iconst (v := 1) hx hb dX5_waits_91 (by decide) ?_
        refine va_iald (D := g.1) hx hb hK hP 2 0 rfl rfl (vp_in_iff.mpr (by decide +kernel)) dX5_waits_92 ?_
        refine lv_topi (fun y22 ey22 => ?_)
        have qy22_0 : 1 ≤ y22.toInt := (iLaw_n (lo := 1) (hi := 9) (i := (1 : Int32)) (a := 1) hB.1 (rfl) (by omega) (by omega) (iW_L (i := (1 : Int32)) (a := 1) hF_Z0 (rfl) (by omega) (by omega) ey22) (by decide) (by decide)).1
        have qy22_1 : y22.toInt ≤ 9 := (iLaw_n (lo := 1) (hi := 9) (i := (1 : Int32)) (a := 1) hB.1 (rfl) (by omega) (by omega) (iW_L (i := (1 : Int32)) (a := 1) hF_Z0 (rfl) (by omega) (by omega) ey22) (by decide) (by decide)).2
        have qy22_2 : y22.toInt = (Z0 1).toInt := congrArg Int32.toInt ey22
        have qy22_3 : y22.toInt = (B.L 1).toInt := congrArg Int32.toInt (iW_L (i := (1 : Int32)) (a := 1) hF_Z0 (rfl) (by omega) (by omega) ey22)
        refine z_calli (wr := [(h6, .inl (zI g, 5, .inl Z5)), (h0, .inr (5, [.ref h1, .int f0, .ref h2, .int f1, .int f2, .ref h3, .ref h4, .ref h5, .ref h6, .int f3, .ref h7, .ref h8, .ref h9, .int f4, .ref h10, .ref h11, .ref h12, .ref h13, .ref h14, .ref h15, .ref h16, .ref h17, .ref h18, .ref h19, .ref h20, .ref h21, .ref h22])), (h1, .inl (zI g, 180, .inl Z0)), (h7, .inl (zI g, 5, .inl Z6))]) hP hD hS hA [] [0, 1, 2, 3] (by decide) rfl rfl (by decide) (va_runS (As := [.int y21, .int y22]) (rest := [.int 1, .int y9]) ⟨hx, hb, hml, hown, hts⟩ (gX5_up l g  H.size y21 y22 (by omega) (by omega) (by omega) (by omega)) ⟨callB_of 2 hts (zGood m_o_yX5_up) rfl rfl rfl (hts _ m_z_RX5) (hts _ m_m_RX5_166) ⟨by decide +kernel, by decide +kernel, by decide +kernel⟩ ⟨Nat.le_of_ble_eq_true rfl, Nat.le_of_ble_eq_true rfl⟩, hts _ m_s_yX5_up⟩ (zPreS hK hN hZ hP hD hS hA [] (by decide) rfl rfl) rfl rfl hl.1 rfl (lv_room (Nat.le_of_ble_eq_true rfl)) dX5_waits_93 ⟨Nat.le_of_ble_eq_true rfl, Nat.le_of_ble_eq_true rfl⟩) (fun r u H locs hw hP hD hS => ?_)
        obtain ⟨y23, rfl⟩ : ∃ z, z = r := ⟨_, rfl⟩
        obtain ⟨q24_0, q24_1, q24_2⟩ := hw
        have q24_0 : y23.toInt = zUp y21.toInt y22.toInt := q24_0
        have q24_1 : 0 ≤ y23.toInt := q24_1
        have q24_2 : y23.toInt ≤ 20000 := q24_2
        have hP : va_P g.1 vwCl [(h6, .inl (zI g, 5, .inl Z5)), (h0, .inr (5, [.ref h1, .int f0, .ref h2, .int f1, .int f2, .ref h3, .ref h4, .ref h5, .ref h6, .int f3, .ref h7, .ref h8, .ref h9, .int f4, .ref h10, .ref h11, .ref h12, .ref h13, .ref h14, .ref h15, .ref h16, .ref h17, .ref h18, .ref h19, .ref h20, .ref h21, .ref h22])), (h1, .inl (zI g, 180, .inl Z0)), (h7, .inl (zI g, 5, .inl Z6))] H := hP
        have hD : va_D A [(h6, .inl (zI g, 5, .inl Z5)), (h0, .inr (5, [.ref h1, .int f0, .ref h2, .int f1, .int f2, .ref h3, .ref h4, .ref h5, .ref h6, .int f3, .ref h7, .ref h8, .ref h9, .int f4, .ref h10, .ref h11, .ref h12, .ref h13, .ref h14, .ref h15, .ref h16, .ref h17, .ref h18, .ref h19, .ref h20, .ref h21, .ref h22])), (h1, .inl (zI g, 180, .inl Z0)), (h7, .inl (zI g, 5, .inl Z6))] := hD
        refine lv_iadd hx hb dX5_waits_96 ?_
        refine lv_topi (fun y25 ey25 => ?_)
        have qy25_0 : y25.toInt = 1 + y23.toInt := zi_add ey25 (rfl) (rfl) (by omega) (by omega)
        refine z_calli (wr := [(h6, .inl (zI g, 5, .inl Z5)), (h0, .inr (5, [.ref h1, .int f0, .ref h2, .int f1, .int f2, .ref h3, .ref h4, .ref h5, .ref h6, .int f3, .ref h7, .ref h8, .ref h9, .int f4, .ref h10, .ref h11, .ref h12, .ref h13, .ref h14, .ref h15, .ref h16, .ref h17, .ref h18, .ref h19, .ref h20, .ref h21, .ref h22])), (h1, .inl (zI g, 180, .inl Z0)), (h7, .inl (zI g, 5, .inl Z6))]) hP hD hS hA [] [0, 1, 2, 3] (by decide) rfl rfl (by decide) (va_runS (As := [.int y9, .int y25]) (rest := []) ⟨hx, hb, hml, hown, hts⟩ (gX5_greater l g  H.size y9 y25) ⟨callB_of 2 hts (zGood m_o_yX5_greater) rfl rfl rfl (hts _ m_z_RX5) (hts _ m_m_RX5_169) ⟨by decide +kernel, by decide +kernel, by decide +kernel⟩ ⟨Nat.le_of_ble_eq_true rfl, Nat.le_of_ble_eq_true rfl⟩, hts _ m_s_yX5_greater⟩ (zPreS hK hN hZ hP hD hS hA [] (by decide) rfl rfl) rfl rfl hl.1 rfl (lv_room (Nat.le_of_ble_eq_true rfl)) dX5_waits_97 ⟨Nat.le_of_ble_eq_true rfl, Nat.le_of_ble_eq_true rfl⟩) (fun r u H locs hw hP hD hS => ?_)
        obtain ⟨y26, rfl⟩ : ∃ z, z = r := ⟨_, rfl⟩
        obtain ⟨q27_0, q27_1, q27_2⟩ := hw
        have q27_0 : y9.toInt ≤ y26.toInt := q27_0
        have q27_1 : y25.toInt ≤ y26.toInt := q27_1
        have q27_2 : (y26.toInt = y9.toInt ∨ y26.toInt = y25.toInt) := q27_2
        have q28_0 : 1 ≤ y26.toInt := by omega
        have q28_1 : y26.toInt ≤ 20001 := by omega
        have hP : va_P g.1 vwCl [(h6, .inl (zI g, 5, .inl Z5)), (h0, .inr (5, [.ref h1, .int f0, .ref h2, .int f1, .int f2, .ref h3, .ref h4, .ref h5, .ref h6, .int f3, .ref h7, .ref h8, .ref h9, .int f4, .ref h10, .ref h11, .ref h12, .ref h13, .ref h14, .ref h15, .ref h16, .ref h17, .ref h18, .ref h19, .ref h20, .ref h21, .ref h22])), (h1, .inl (zI g, 180, .inl Z0)), (h7, .inl (zI g, 5, .inl Z6))] H := hP
        have hD : va_D A [(h6, .inl (zI g, 5, .inl Z5)), (h0, .inr (5, [.ref h1, .int f0, .ref h2, .int f1, .int f2, .ref h3, .ref h4, .ref h5, .ref h6, .int f3, .ref h7, .ref h8, .ref h9, .int f4, .ref h10, .ref h11, .ref h12, .ref h13, .ref h14, .ref h15, .ref h16, .ref h17, .ref h18, .ref h19, .ref h20, .ref h21, .ref h22])), (h1, .inl (zI g, 180, .inl Z0)), (h7, .inl (zI g, 5, .inl Z6))] := hD
        have hli : (zLim B.n B.S B.V (zRw B.n Z5) p2.toInt) p1.toNatClampNeg = y4.toInt := by
          rw [zLim_i (by omega) (by omega), zCh_rw (by omega) (by omega)]
          omega
        have hmo : (zMon B.L B.n B.S (zRw B.n Z6)) p1.toNatClampNeg = y5.toInt := by omega
        have hu1 : zUp (p3.toInt - y5.toInt) (B.L 1).toInt = y9.toInt := by
          rw [(by omega : p3.toInt - y5.toInt = y7.toInt), (by omega : (B.L 1).toInt = y8.toInt)]
          omega
        have hu2 : zUp (p3.toInt - y4.toInt) (B.L 1).toInt = y23.toInt := by
          rw [(by omega : p3.toInt - y4.toInt = y21.toInt), (by omega : (B.L 1).toInt = y22.toInt)]
          omega
        have hz : zWt B.S (zLim B.n B.S B.V (zRw B.n Z5) p2.toInt) (zMon B.L B.n B.S (zRw B.n Z6)) (B.L 1).toInt p3.toInt p4.toInt p1.toNatClampNeg = y26.toInt := by
          unfold zWt
          rw [hli, hmo, hu1, hu2]
          rw [if_neg (by omega), if_neg (by omega)]
          omega
        have hP9 := hP.sub (ws' := [(h0, .inr (5, [.ref h1, .int f0, .ref h2, .int f1, .int f2, .ref h3, .ref h4, .ref h5, .ref h6, .int f3, .ref h7, .ref h8, .ref h9, .int f4, .ref h10, .ref h11, .ref h12, .ref h13, .ref h14, .ref h15, .ref h16, .ref h17, .ref h18, .ref h19, .ref h20, .ref h21, .ref h22])), (h1, .inl (zI g, 180, .inl Z0)), (h6, .inl (zI g, 5, .inl Z5)), (h7, .inl (zI g, 5, .inl Z6))]) [1, 2, 0, 3] rfl
        have hD9 := hD.sub (ws' := [(h0, .inr (5, [.ref h1, .int f0, .ref h2, .int f1, .int f2, .ref h3, .ref h4, .ref h5, .ref h6, .int f3, .ref h7, .ref h8, .ref h9, .int f4, .ref h10, .ref h11, .ref h12, .ref h13, .ref h14, .ref h15, .ref h16, .ref h17, .ref h18, .ref h19, .ref h20, .ref h21, .ref h22])), (h1, .inl (zI g, 180, .inl Z0)), (h6, .inl (zI g, 5, .inl Z5)), (h7, .inl (zI g, 5, .inl Z6))]) [1, 2, 0, 3] (by decide) rfl
        exact W.iret (v := y26) hx hb hr (fun t ht hW => ⟨⟨y26, (0 : Nat), rfl, ⟨(by first | omega | decide), (by first | omega | decide), (by first | omega | decide)⟩, by rw [ht]; exact hP9, hD9⟩, hS.F ht⟩) hS.2.2 dX5_waits_100
      · have i_2 : y9.toInt = 0 := z_eq (rfl) (rfl) c_2
        refine lv_iconst (v := 0) hx hb dX5_waits_76 (by decide) ?_
        refine lv_goto (tgt := 100) hx hb dX5_waits_77 (by decide) ?_
        have hli : (zLim B.n B.S B.V (zRw B.n Z5) p2.toInt) p1.toNatClampNeg = y4.toInt := by
          rw [zLim_i (by omega) (by omega), zCh_rw (by omega) (by omega)]
          omega
        have hmo : (zMon B.L B.n B.S (zRw B.n Z6)) p1.toNatClampNeg = y5.toInt := by omega
        have hu1 : zUp (p3.toInt - y5.toInt) (B.L 1).toInt = y9.toInt := by
          rw [(by omega : p3.toInt - y5.toInt = y7.toInt), (by omega : (B.L 1).toInt = y8.toInt)]
          omega
        have : (0 : Int32).toInt = 0 := rfl
        have hz : zWt B.S (zLim B.n B.S B.V (zRw B.n Z5) p2.toInt) (zMon B.L B.n B.S (zRw B.n Z6)) (B.L 1).toInt p3.toInt p4.toInt p1.toNatClampNeg = 0 := by
          unfold zWt
          rw [hli, hmo, hu1]
          rw [if_neg (by omega), if_pos ⟨by omega, by omega⟩]
        have hP9 := hP.sub (ws' := [(h0, .inr (5, [.ref h1, .int f0, .ref h2, .int f1, .int f2, .ref h3, .ref h4, .ref h5, .ref h6, .int f3, .ref h7, .ref h8, .ref h9, .int f4, .ref h10, .ref h11, .ref h12, .ref h13, .ref h14, .ref h15, .ref h16, .ref h17, .ref h18, .ref h19, .ref h20, .ref h21, .ref h22])), (h1, .inl (zI g, 180, .inl Z0)), (h6, .inl (zI g, 5, .inl Z5)), (h7, .inl (zI g, 5, .inl Z6))]) [1, 2, 0, 3] rfl
        have hD9 := hD.sub (ws' := [(h0, .inr (5, [.ref h1, .int f0, .ref h2, .int f1, .int f2, .ref h3, .ref h4, .ref h5, .ref h6, .int f3, .ref h7, .ref h8, .ref h9, .int f4, .ref h10, .ref h11, .ref h12, .ref h13, .ref h14, .ref h15, .ref h16, .ref h17, .ref h18, .ref h19, .ref h20, .ref h21, .ref h22])), (h1, .inl (zI g, 180, .inl Z0)), (h6, .inl (zI g, 5, .inl Z5)), (h7, .inl (zI g, 5, .inl Z6))]) [1, 2, 0, 3] (by decide) rfl
        exact W.iret (v := 0) hx hb hr (fun t ht hW => ⟨⟨0, (0 : Nat), rfl, ⟨(by first | omega | decide), (by first | omega | decide), (by first | omega | decide)⟩, by rw [ht]; exact hP9, hD9⟩, hS.F ht⟩) hS.2.2 dX5_waits_100
  · have i_0 : y12.toInt ≠ 1 := z_ne (rfl) (rfl) c_0
    refine lv_iload hx hb dX5_waits_45 (lv_at hl 0 rfl) ?_
    refine lv_iload_n hx hb dX5_waits_47 rfl (lv_at hl 5 rfl) ?_
    refine lv_iload hx hb dX5_waits_48 (lv_at hl 1 rfl) ?_
    refine lv_isub hx hb dX5_waits_50 ?_
    refine lv_topi (fun y29 ey29 => ?_)
    have qy29_0 : y29.toInt = p3.toInt - y4.toInt := zi_sub ey29 (rfl) (rfl) (by omega) (by omega)
    refine lv_aload_n hx hb dX5_waits_51 rfl (lv_at hl 2 rfl) ?_
    refine va_get (D := g.1) (ci := 5) (v := .ref h1) (C := RX5) (T := TX5) (N := 27) hx hb hts zl_X5 hown hK hP 1 rfl rfl 0 (by decide) (hts _ m_f_RX5_7) (fun _ h => h) rfl dX5_waits_52 ?_
    refine lv_iconst (v := 1) hx hb dX5_waits_55 (by decide) ?_
    refine va_iald (D := g.1) hx hb hK hP 2 0 rfl rfl (vp_in_iff.mpr (by decide +kernel)) dX5_waits_56 ?_
    refine lv_topi (fun y30 ey30 => ?_)
    have qy30_0 : 1 ≤ y30.toInt := (iLaw_n (lo := 1) (hi := 9) (i := (1 : Int32)) (a := 1) hB.1 (rfl) (by omega) (by omega) (iW_L (i := (1 : Int32)) (a := 1) hF_Z0 (rfl) (by omega) (by omega) ey30) (by decide) (by decide)).1
    have qy30_1 : y30.toInt ≤ 9 := (iLaw_n (lo := 1) (hi := 9) (i := (1 : Int32)) (a := 1) hB.1 (rfl) (by omega) (by omega) (iW_L (i := (1 : Int32)) (a := 1) hF_Z0 (rfl) (by omega) (by omega) ey30) (by decide) (by decide)).2
    have qy30_2 : y30.toInt = (Z0 1).toInt := congrArg Int32.toInt ey30
    have qy30_3 : y30.toInt = (B.L 1).toInt := congrArg Int32.toInt (iW_L (i := (1 : Int32)) (a := 1) hF_Z0 (rfl) (by omega) (by omega) ey30)
    refine z_calli (wr := [(h6, .inl (zI g, 5, .inl Z5)), (h0, .inr (5, [.ref h1, .int f0, .ref h2, .int f1, .int f2, .ref h3, .ref h4, .ref h5, .ref h6, .int f3, .ref h7, .ref h8, .ref h9, .int f4, .ref h10, .ref h11, .ref h12, .ref h13, .ref h14, .ref h15, .ref h16, .ref h17, .ref h18, .ref h19, .ref h20, .ref h21, .ref h22])), (h1, .inl (zI g, 180, .inl Z0)), (h7, .inl (zI g, 5, .inl Z6))]) hP hD hS hA [] [0, 1, 2, 3] (by decide) rfl rfl (by decide) (va_runS (As := [.int y29, .int y30]) (rest := [.int y9]) ⟨hx, hb, hml, hown, hts⟩ (gX5_up l g  H.size y29 y30 (by omega) (by omega) (by omega) (by omega)) ⟨callB_of 2 hts (zGood m_o_yX5_up) rfl rfl rfl (hts _ m_z_RX5) (hts _ m_m_RX5_166) ⟨by decide +kernel, by decide +kernel, by decide +kernel⟩ ⟨Nat.le_of_ble_eq_true rfl, Nat.le_of_ble_eq_true rfl⟩, hts _ m_s_yX5_up⟩ (zPreS hK hN hZ hP hD hS hA [] (by decide) rfl rfl) rfl rfl hl.1 rfl (lv_room (Nat.le_of_ble_eq_true rfl)) dX5_waits_57 ⟨Nat.le_of_ble_eq_true rfl, Nat.le_of_ble_eq_true rfl⟩) (fun r u H locs hw hP hD hS => ?_)
    obtain ⟨y31, rfl⟩ : ∃ z, z = r := ⟨_, rfl⟩
    obtain ⟨q32_0, q32_1, q32_2⟩ := hw
    have q32_0 : y31.toInt = zUp y29.toInt y30.toInt := q32_0
    have q32_1 : 0 ≤ y31.toInt := q32_1
    have q32_2 : y31.toInt ≤ 20000 := q32_2
    have hP : va_P g.1 vwCl [(h6, .inl (zI g, 5, .inl Z5)), (h0, .inr (5, [.ref h1, .int f0, .ref h2, .int f1, .int f2, .ref h3, .ref h4, .ref h5, .ref h6, .int f3, .ref h7, .ref h8, .ref h9, .int f4, .ref h10, .ref h11, .ref h12, .ref h13, .ref h14, .ref h15, .ref h16, .ref h17, .ref h18, .ref h19, .ref h20, .ref h21, .ref h22])), (h1, .inl (zI g, 180, .inl Z0)), (h7, .inl (zI g, 5, .inl Z6))] H := hP
    have hD : va_D A [(h6, .inl (zI g, 5, .inl Z5)), (h0, .inr (5, [.ref h1, .int f0, .ref h2, .int f1, .int f2, .ref h3, .ref h4, .ref h5, .ref h6, .int f3, .ref h7, .ref h8, .ref h9, .int f4, .ref h10, .ref h11, .ref h12, .ref h13, .ref h14, .ref h15, .ref h16, .ref h17, .ref h18, .ref h19, .ref h20, .ref h21, .ref h22])), (h1, .inl (zI g, 180, .inl Z0)), (h7, .inl (zI g, 5, .inl Z6))] := hD
    refine z_calli (wr := [(h6, .inl (zI g, 5, .inl Z5)), (h0, .inr (5, [.ref h1, .int f0, .ref h2, .int f1, .int f2, .ref h3, .ref h4, .ref h5, .ref h6, .int f3, .ref h7, .ref h8, .ref h9, .int f4, .ref h10, .ref h11, .ref h12, .ref h13, .ref h14, .ref h15, .ref h16, .ref h17, .ref h18, .ref h19, .ref h20, .ref h21, .ref h22])), (h1, .inl (zI g, 180, .inl Z0)), (h7, .inl (zI g, 5, .inl Z6))]) hP hD hS hA [] [0, 1, 2, 3] (by decide) rfl rfl (by decide) (va_runS (As := [.int y9, .int y31]) (rest := []) ⟨hx, hb, hml, hown, hts⟩ (gX5_greater l g  H.size y9 y31) ⟨callB_of 2 hts (zGood m_o_yX5_greater) rfl rfl rfl (hts _ m_z_RX5) (hts _ m_m_RX5_169) ⟨by decide +kernel, by decide +kernel, by decide +kernel⟩ ⟨Nat.le_of_ble_eq_true rfl, Nat.le_of_ble_eq_true rfl⟩, hts _ m_s_yX5_greater⟩ (zPreS hK hN hZ hP hD hS hA [] (by decide) rfl rfl) rfl rfl hl.1 rfl (lv_room (Nat.le_of_ble_eq_true rfl)) dX5_waits_60 ⟨Nat.le_of_ble_eq_true rfl, Nat.le_of_ble_eq_true rfl⟩) (fun r u H locs hw hP hD hS => ?_)
    obtain ⟨y33, rfl⟩ : ∃ z, z = r := ⟨_, rfl⟩
    obtain ⟨q34_0, q34_1, q34_2⟩ := hw
    have q34_0 : y9.toInt ≤ y33.toInt := q34_0
    have q34_1 : y31.toInt ≤ y33.toInt := q34_1
    have q34_2 : (y33.toInt = y9.toInt ∨ y33.toInt = y31.toInt) := q34_2
    have q35_0 : 0 ≤ y33.toInt := by omega
    have q35_1 : y33.toInt ≤ 20000 := by omega
    have hP : va_P g.1 vwCl [(h6, .inl (zI g, 5, .inl Z5)), (h0, .inr (5, [.ref h1, .int f0, .ref h2, .int f1, .int f2, .ref h3, .ref h4, .ref h5, .ref h6, .int f3, .ref h7, .ref h8, .ref h9, .int f4, .ref h10, .ref h11, .ref h12, .ref h13, .ref h14, .ref h15, .ref h16, .ref h17, .ref h18, .ref h19, .ref h20, .ref h21, .ref h22])), (h1, .inl (zI g, 180, .inl Z0)), (h7, .inl (zI g, 5, .inl Z6))] H := hP
    have hD : va_D A [(h6, .inl (zI g, 5, .inl Z5)), (h0, .inr (5, [.ref h1, .int f0, .ref h2, .int f1, .int f2, .ref h3, .ref h4, .ref h5, .ref h6, .int f3, .ref h7, .ref h8, .ref h9, .int f4, .ref h10, .ref h11, .ref h12, .ref h13, .ref h14, .ref h15, .ref h16, .ref h17, .ref h18, .ref h19, .ref h20, .ref h21, .ref h22])), (h1, .inl (zI g, 180, .inl Z0)), (h7, .inl (zI g, 5, .inl Z6))] := hD
    have hli : (zLim B.n B.S B.V (zRw B.n Z5) p2.toInt) p1.toNatClampNeg = y4.toInt := by
      rw [zLim_i (by omega) (by omega), zCh_rw (by omega) (by omega)]
      omega
    have hmo : (zMon B.L B.n B.S (zRw B.n Z6)) p1.toNatClampNeg = y5.toInt := by omega
    have hu1 : zUp (p3.toInt - y5.toInt) (B.L 1).toInt = y9.toInt := by
      rw [(by omega : p3.toInt - y5.toInt = y7.toInt), (by omega : (B.L 1).toInt = y8.toInt)]
      omega
    have hu2 : zUp (p3.toInt - y4.toInt) (B.L 1).toInt = y31.toInt := by
      rw [(by omega : p3.toInt - y4.toInt = y29.toInt), (by omega : (B.L 1).toInt = y30.toInt)]
      omega
    have hz : zWt B.S (zLim B.n B.S B.V (zRw B.n Z5) p2.toInt) (zMon B.L B.n B.S (zRw B.n Z6)) (B.L 1).toInt p3.toInt p4.toInt p1.toNatClampNeg = y33.toInt := by
      unfold zWt
      rw [hli, hmo, hu1, hu2]
      rw [if_pos (by omega)]
      omega
    have hP9 := hP.sub (ws' := [(h0, .inr (5, [.ref h1, .int f0, .ref h2, .int f1, .int f2, .ref h3, .ref h4, .ref h5, .ref h6, .int f3, .ref h7, .ref h8, .ref h9, .int f4, .ref h10, .ref h11, .ref h12, .ref h13, .ref h14, .ref h15, .ref h16, .ref h17, .ref h18, .ref h19, .ref h20, .ref h21, .ref h22])), (h1, .inl (zI g, 180, .inl Z0)), (h6, .inl (zI g, 5, .inl Z5)), (h7, .inl (zI g, 5, .inl Z6))]) [1, 2, 0, 3] rfl
    have hD9 := hD.sub (ws' := [(h0, .inr (5, [.ref h1, .int f0, .ref h2, .int f1, .int f2, .ref h3, .ref h4, .ref h5, .ref h6, .int f3, .ref h7, .ref h8, .ref h9, .int f4, .ref h10, .ref h11, .ref h12, .ref h13, .ref h14, .ref h15, .ref h16, .ref h17, .ref h18, .ref h19, .ref h20, .ref h21, .ref h22])), (h1, .inl (zI g, 180, .inl Z0)), (h6, .inl (zI g, 5, .inl Z5)), (h7, .inl (zI g, 5, .inl Z6))]) [1, 2, 0, 3] (by decide) rfl
    exact W.iret (v := y33) hx hb hr (fun t ht hW => ⟨⟨y33, (0 : Nat), rfl, ⟨(by first | omega | decide), (by first | omega | decide), (by first | omega | decide)⟩, by rw [ht]; exact hP9, hD9⟩, hS.F ht⟩) hS.2.2 dX5_waits_63

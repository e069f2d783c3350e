set_option maxHeartbeats 8000000 in
set_option maxRecDepth 100000 in
theorem gX5_ahead (l : Launch) (g : zG) (h0 h1 h2 h3 h4 h5 h6 h7 h8 h9 h10 h11 h12 h13 h14 h15 h16 h17 h18 h19 h20 h21 h22 : Nat) (sz : Nat) (f0 : Int32) (f1 : Int32) (f2 : Int32) (f3 : Int32) (f4 : Int32) (Z1 : Nat → Int32) (hf_f1 : 0 ≤ f1.toInt ∧ f1.toInt ≤ 60) (hf_f2 : 0 ≤ f2.toInt ∧ f2.toInt ≤ 60) : Met l yX5_ahead (.code yX5_ahead cX5_ahead 1 (some .int) :: zBig) ({ frames := 0, cells := 0, slots := 0, locals := 0 }) (va_Pc [.ref h0] (zPre g [(h0, .inr (5, [.ref h1, .int f0, .ref h2, .int f1, .int f2, .ref h3, .ref h4, .ref h5, .ref h6, .int f3, .ref h7, .ref h8, .ref h9, .int f4, .ref h10, .ref h11, .ref h12, .ref h13, .ref h14, .ref h15, .ref h16, .ref h17, .ref h18, .ref h19, .ref h20, .ref h21, .ref h22])), (h2, .inl (zI g, 60, .inl Z1))] sz)) (va_Qi (fun (r : Int32) (u : Int32) => ((r.toInt = -1 ∨ u.toInt < f1.toInt) ∧ f2.toInt ≤ u.toInt ∧ u.toInt = zsk Z1 f1.toInt f2.toInt ∧ (u.toInt < f1.toInt → r.toInt = zc Z1 u.toInt) ∧ (f1.toInt ≤ u.toInt → r.toInt = -1)) ∧ 0 ≤ u.toInt ∧ u.toInt ≤ 60) (zPost g (fun u : Int32 => [(h0, .inr (5, [.ref h1, .int f0, .ref h2, .int f1, .int u, .ref h3, .ref h4, .ref h5, .ref h6, .int f3, .ref h7, .ref h8, .ref h9, .int f4, .ref h10, .ref h11, .ref h12, .ref h13, .ref h14, .ref h15, .ref h16, .ref h17, .ref h18, .ref h19, .ref h20, .ref h21, .ref h22])), (h2, .inl (zI g, 60, .inl Z1))]) (va_A [(h0, .inr (5, [.ref h1, .int f0, .ref h2, .int f1, .int f2, .ref h3, .ref h4, .ref h5, .ref h6, .int f3, .ref h7, .ref h8, .ref h9, .int f4, .ref h10, .ref h11, .ref h12, .ref h13, .ref h14, .ref h15, .ref h16, .ref h17, .ref h18, .ref h19, .ref h20, .ref h21, .ref h22])), (h2, .inl (zI g, 60, .inl Z1))] sz)) (va_A [(h0, .inr (5, [.ref h1, .int f0, .ref h2, .int f1, .int f2, .ref h3, .ref h4, .ref h5, .ref h6, .int f3, .ref h7, .ref h8, .ref h9, .int f4, .ref h10, .ref h11, .ref h12, .ref h13, .ref h14, .ref h15, .ref h16, .ref h17, .ref h18, .ref h19, .ref h20, .ref h21, .ref h22])), (h2, .inl (zI g, 60, .inl Z1))] sz)) 0 0 (va_A [(h0, .inr (5, [.ref h1, .int f0, .ref h2, .int f1, .int f2, .ref h3, .ref h4, .ref h5, .ref h6, .int f3, .ref h7, .ref h8, .ref h9, .int f4, .ref h10, .ref h11, .ref h12, .ref h13, .ref h14, .ref h15, .ref h16, .ref h17, .ref h18, .ref h19, .ref h20, .ref h21, .ref h22])), (h2, .inl (zI g, 60, .inl Z1))] sz) := by
  refine zMetI rfl (Nat.le_of_ble_eq_true rfl) ?_
  intro p e s m args below meth c A ls hx hb hml hr hlocks hin hown hts hK hN hZ hP hD hA hS hAe hl
  have hown : s.vm.findClass RX5 = some m.cls := hown
  have hl : lv_has ls 1 [(0, .ref h0)] := hl
  have loop0_0 : ∀ (n1 : Nat) (g0_0 : Int32) (hg0_0a : 0 ≤ g0_0.toInt) (hg0_0b : g0_0.toInt ≤ 60) (n1_0 : f2.toInt ≤ g0_0.toInt) (n1_1 : zsk Z1 f1.toInt g0_0.toInt = zsk Z1 f1.toInt f2.toInt) (hm1 : 60 - g0_0.toInt < (n1 : Int)) (H : Heap) (locs : List Loc), va_P g.1 vwCl [(h0, .inr (5, [.ref h1, .int f0, .ref h2, .int f1, .int g0_0, .ref h3, .ref h4, .ref h5, .ref h6, .int f3, .ref h7, .ref h8, .ref h9, .int f4, .ref h10, .ref h11, .ref h12, .ref h13, .ref h14, .ref h15, .ref h16, .ref h17, .ref h18, .ref h19, .ref h20, .ref h21, .ref h22])), (h2, .inl (zI g, 60, .inl Z1))] H → va_D A [(h0, .inr (5, [.ref h1, .int f0, .ref h2, .int f1, .int g0_0, .ref h3, .ref h4, .ref h5, .ref h6, .int f3, .ref h7, .ref h8, .ref h9, .int f4, .ref h10, .ref h11, .ref h12, .ref h13, .ref h14, .ref h15, .ref h16, .ref h17, .ref h18, .ref h19, .ref h20, .ref h21, .ref h22])), (h2, .inl (zI g, 60, .inl Z1))] → va_S A s.heap H locs → ∀ (ls : Array Slot), lv_has ls 1 [(0, .ref h0)] → W p l e ({ frames := 0, cells := 0, slots := 0, locals := 0 }) s m args below meth c H locs 0 0 (MQ below (va_Qi (fun (r : Int32) (u : Int32) => ((r.toInt = -1 ∨ u.toInt < f1.toInt) ∧ f2.toInt ≤ u.toInt ∧ u.toInt = zsk Z1 f1.toInt f2.toInt ∧ (u.toInt < f1.toInt → r.toInt = zc Z1 u.toInt) ∧ (f1.toInt ≤ u.toInt → r.toInt = -1)) ∧ 0 ≤ u.toInt ∧ u.toInt ≤ 60) (zPost g (fun u : Int32 => [(h0, .inr (5, [.ref h1, .int f0, .ref h2, .int f1, .int u, .ref h3, .ref h4, .ref h5, .ref h6, .int f3, .ref h7, .ref h8, .ref h9, .int f4, .ref h10, .ref h11, .ref h12, .ref h13, .ref h14, .ref h15, .ref h16, .ref h17, .ref h18, .ref h19, .ref h20, .ref h21, .ref h22])), (h2, .inl (zI g, 60, .inl Z1))]) A) A) args s 0 0 A) (F0 m 0 ls []) := by
    intro n1
    induction n1 with
    | zero => intro g0_0 hg0_0a hg0_0b n1_0 n1_1 hm1; exfalso; omega
    | succ n1 ih1 =>
      intro g0_0 hg0_0a hg0_0b n1_0 n1_1 hm1 H locs hP hD hS ls hl
      refine lv_aload_n hx hb dX5_ahead_0 rfl (lv_at hl 0 rfl) ?_
      refine va_get (D := g.1) (ci := 5) (v := .int g0_0) (C := RX5) (T := TX5) (N := 27) hx hb hts zl_X5 hown hK hP 0 rfl rfl 4 (by decide) (hts _ m_f_RX5_118) (fun _ h => h) rfl dX5_ahead_1 ?_
      refine lv_aload_n hx hb dX5_ahead_4 rfl (lv_at hl 0 rfl) ?_
      refine va_get (D := g.1) (ci := 5) (v := .int f1) (C := RX5) (T := TX5) (N := 27) hx hb hts zl_X5 hown hK hP 0 rfl rfl 3 (by decide) (hts _ m_f_RX5_114) (fun _ h => h) rfl dX5_ahead_5 ?_
      refine lv_icmp_ge (tgt := 38) hx hb dX5_ahead_8 (by decide) (fun c_1 => ?_) (fun c_1 => ?_)
      · have i_1 : f1.toInt ≤ g0_0.toInt := z_le (rfl) (rfl) c_1
        have hze : g0_0.toInt = zsk Z1 f1.toInt f2.toInt := by
          rw [← (by assumption : zsk Z1 f1.toInt g0_0.toInt = zsk Z1 f1.toInt f2.toInt)]
          first | exact (zsk_end (by omega)).symm | exact (zsk_stop (by omega) (by omega)).symm
        refine lv_aload_n hx hb dX5_ahead_38 rfl (lv_at hl 0 rfl) ?_
        refine va_get (D := g.1) (ci := 5) (v := .int g0_0) (C := RX5) (T := TX5) (N := 27) hx hb hts zl_X5 hown hK hP 0 rfl rfl 4 (by decide) (hts _ m_f_RX5_118) (fun _ h => h) rfl dX5_ahead_39 ?_
        refine lv_aload_n hx hb dX5_ahead_42 rfl (lv_at hl 0 rfl) ?_
        refine va_get (D := g.1) (ci := 5) (v := .int f1) (C := RX5) (T := TX5) (N := 27) hx hb hts zl_X5 hown hK hP 0 rfl rfl 3 (by decide) (hts _ m_f_RX5_114) (fun _ h => h) rfl dX5_ahead_43 ?_
        refine lv_icmp_ge (tgt := 61) hx hb dX5_ahead_46 (by decide) (fun c_2 => ?_) (fun c_2 => absurd (show g0_0.toInt < f1.toInt from z_nle (rfl) (rfl) c_2) (by omega))
        have i_2 : f1.toInt ≤ g0_0.toInt := z_le (rfl) (rfl) c_2
        refine lv_iconst (v := (-1)) hx hb dX5_ahead_61 (by decide) ?_
        have : ((-1) : Int32).toInt = (-1) := rfl
        have hP9 := hP.sub (ws' := [(h0, .inr (5, [.ref h1, .int f0, .ref h2, .int f1, .int g0_0, .ref h3, .ref h4, .ref h5, .ref h6, .int f3, .ref h7, .ref h8, .ref h9, .int f4, .ref h10, .ref h11, .ref h12, .ref h13, .ref h14, .ref h15, .ref h16, .ref h17, .ref h18, .ref h19, .ref h20, .ref h21, .ref h22])), (h2, .inl (zI g, 60, .inl Z1))]) [0, 1] rfl
        have hD9 := hD.sub (ws' := [(h0, .inr (5, [.ref h1, .int f0, .ref h2, .int f1, .int g0_0, .ref h3, .ref h4, .ref h5, .ref h6, .int f3, .ref h7, .ref h8, .ref h9, .int f4, .ref h10, .ref h11, .ref h12, .ref h13, .ref h14, .ref h15, .ref h16, .ref h17, .ref h18, .ref h19, .ref h20, .ref h21, .ref h22])), (h2, .inl (zI g, 60, .inl Z1))]) [0, 1] (by decide) rfl
        exact W.iret (v := (-1)) hx hb hr (fun t ht hW => ⟨⟨(-1), g0_0, rfl, ⟨⟨(by first | omega | decide), (by first | omega | decide), (show g0_0.toInt = zsk Z1 f1.toInt f2.toInt from by first | omega | decide), (show (g0_0.toInt < f1.toInt → ((-1) : Int32).toInt = zc Z1 g0_0.toInt) from by first | omega | decide), (show (f1.toInt ≤ g0_0.toInt → ((-1) : Int32).toInt = -1) from by first | omega | decide)⟩, ⟨show 0 ≤ g0_0.toInt from by omega, show g0_0.toInt ≤ 60 from by omega⟩⟩, by rw [ht]; exact hP9, hD9⟩, hS.F ht⟩) hS.2.2 dX5_ahead_62
      · have i_1 : g0_0.toInt < f1.toInt := z_nle (rfl) (rfl) c_1
        refine lv_aload_n hx hb dX5_ahead_11 rfl (lv_at hl 0 rfl) ?_
        refine va_get (D := g.1) (ci := 5) (v := .ref h2) (C := RX5) (T := TX5) (N := 27) hx hb hts zl_X5 hown hK hP 0 rfl rfl 2 (by decide) (hts _ m_f_RX5_13) (fun _ h => h) rfl dX5_ahead_12 ?_
        refine lv_aload_n hx hb dX5_ahead_15 rfl (lv_at hl 0 rfl) ?_
        refine va_get (D := g.1) (ci := 5) (v := .int g0_0) (C := RX5) (T := TX5) (N := 27) hx hb hts zl_X5 hown hK hP 0 rfl rfl 4 (by decide) (hts _ m_f_RX5_118) (fun _ h => h) rfl dX5_ahead_16 ?_
        refine va_iald (D := g.1) hx hb hK hP 1 0 rfl rfl (vp_in_iff.mpr ⟨by omega, by omega⟩) dX5_ahead_19 ?_
        refine lv_topi (fun y0 ey0 => ?_)
        have qy0_0 : y0.toInt = (Z1 g0_0.toNatClampNeg).toInt := congrArg Int32.toInt ey0
        have py0_0 : y0.toInt = zc Z1 g0_0.toInt := congrArg Int32.toInt ey0
        refine lv_bipush (v := 32) hx hb dX5_ahead_20 (by decide) ?_
        refine lv_icmp_ne (tgt := 38) hx hb dX5_ahead_22 (by decide) (fun c_3 => ?_) (fun c_3 => ?_)
        · have i_3 : y0.toInt ≠ 32 := z_ne (rfl) (rfl) c_3
          have hze : g0_0.toInt = zsk Z1 f1.toInt f2.toInt := by
            rw [← (by assumption : zsk Z1 f1.toInt g0_0.toInt = zsk Z1 f1.toInt f2.toInt)]
            first | exact (zsk_end (by omega)).symm | exact (zsk_stop (by omega) (by omega)).symm
          refine lv_aload_n hx hb dX5_ahead_38 rfl (lv_at hl 0 rfl) ?_
          refine va_get (D := g.1) (ci := 5) (v := .int g0_0) (C := RX5) (T := TX5) (N := 27) hx hb hts zl_X5 hown hK hP 0 rfl rfl 4 (by decide) (hts _ m_f_RX5_118) (fun _ h => h) rfl dX5_ahead_39 ?_
          refine lv_aload_n hx hb dX5_ahead_42 rfl (lv_at hl 0 rfl) ?_
          refine va_get (D := g.1) (ci := 5) (v := .int f1) (C := RX5) (T := TX5) (N := 27) hx hb hts zl_X5 hown hK hP 0 rfl rfl 3 (by decide) (hts _ m_f_RX5_114) (fun _ h => h) rfl dX5_ahead_43 ?_
          refine lv_icmp_ge (tgt := 61) hx hb dX5_ahead_46 (by decide) (fun c_4 => absurd (show f1.toInt ≤ g0_0.toInt from z_le (rfl) (rfl) c_4) (by omega)) (fun c_4 => ?_)
          have i_4 : g0_0.toInt < f1.toInt := z_nle (rfl) (rfl) c_4
          refine lv_aload_n hx hb dX5_ahead_49 rfl (lv_at hl 0 rfl) ?_
          refine va_get (D := g.1) (ci := 5) (v := .ref h2) (C := RX5) (T := TX5) (N := 27) hx hb hts zl_X5 hown hK hP 0 rfl rfl 2 (by decide) (hts _ m_f_RX5_13) (fun _ h => h) rfl dX5_ahead_50 ?_
          refine lv_aload_n hx hb dX5_ahead_53 rfl (lv_at hl 0 rfl) ?_
          refine va_get (D := g.1) (ci := 5) (v := .int g0_0) (C := RX5) (T := TX5) (N := 27) hx hb hts zl_X5 hown hK hP 0 rfl rfl 4 (by decide) (hts _ m_f_RX5_118) (fun _ h => h) rfl dX5_ahead_54 ?_
          refine va_iald (D := g.1) hx hb hK hP 1 0 rfl rfl (vp_in_iff.mpr ⟨by omega, by omega⟩) dX5_ahead_57 ?_
          refine lv_topi (fun y1 ey1 => ?_)
          have qy1_0 : y1.toInt = (Z1 g0_0.toNatClampNeg).toInt := congrArg Int32.toInt ey1
          have py1_0 : y1.toInt = zc Z1 g0_0.toInt := congrArg Int32.toInt ey1
          refine lv_goto (tgt := 62) hx hb dX5_ahead_58 (by decide) ?_
          have hP9 := hP.sub (ws' := [(h0, .inr (5, [.ref h1, .int f0, .ref h2, .int f1, .int g0_0, .ref h3, .ref h4, .ref h5, .ref h6, .int f3, .ref h7, .ref h8, .ref h9, .int f4, .ref h10, .ref h11, .ref h12, .ref h13, .ref h14, .ref h15, .ref h16, .ref h17, .ref h18, .ref h19, .ref h20, .ref h21, .ref h22])), (h2, .inl (zI g, 60, .inl Z1))]) [0, 1] rfl
          have hD9 := hD.sub (ws' := [(h0, .inr (5, [.ref h1, .int f0, .ref h2, .int f1, .int g0_0, .ref h3, .ref h4, .ref h5, .ref h6, .int f3, .ref h7, .ref h8, .ref h9, .int f4, .ref h10, .ref h11, .ref h12, .ref h13, .ref h14, .ref h15, .ref h16, .ref h17, .ref h18, .ref h19, .ref h20, .ref h21, .ref h22])), (h2, .inl (zI g, 60, .inl Z1))]) [0, 1] (by decide) rfl
          exact W.iret (v := y1) hx hb hr (fun t ht hW => ⟨⟨y1, g0_0, rfl, ⟨⟨(by first | omega | decide), (by first | omega | decide), (show g0_0.toInt = zsk Z1 f1.toInt f2.toInt from by first | omega | decide), (show (g0_0.toInt < f1.toInt → y1.toInt = zc Z1 g0_0.toInt) from by first | omega | decide), (show (f1.toInt ≤ g0_0.toInt → y1.toInt = -1) from by first | omega | decide)⟩, ⟨show 0 ≤ g0_0.toInt from by omega, show g0_0.toInt ≤ 60 from by omega⟩⟩, by rw [ht]; exact hP9, hD9⟩, hS.F ht⟩) hS.2.2 dX5_ahead_62
        · have i_3 : y0.toInt = 32 := z_eq (rfl) (rfl) c_3
          refine lv_aload_n hx hb dX5_ahead_25 rfl (lv_at hl 0 rfl) ?_
          refine lv_dup hx hb dX5_ahead_26 rfl ?_
          refine va_get (D := g.1) (ci := 5) (v := .int g0_0) (C := RX5) (T := TX5) (N := 27) hx hb hts zl_X5 hown hK hP 0 rfl rfl 4 (by decide) (hts _ m_f_RX5_118) (fun _ h => h) rfl dX5_ahead_27 ?_
          refine lv_iconst (v := 1) hx hb dX5_ahead_30 (by decide) ?_
          refine lv_iadd hx hb dX5_ahead_31 ?_
          refine lv_topi (fun y2 ey2 => ?_)
          have qy2_0 : y2.toInt = g0_0.toInt + 1 := zi_add ey2 (rfl) (rfl) (by omega) (by omega)
          refine va_put (D := g.1) (ci := 5) (v := .int y2) (ty := .int) (C := RX5) (T := TX5) (N := 27) hx hb hts zl_X5 tyX5 tyX5_ok nmX5 hown hK hP hD hS 0 rfl rfl 4 (by decide) (hts _ m_f_RX5_118) (fun _ h => h) rfl (by decide +kernel) rfl rfl (Nat.le_of_ble_eq_true rfl) dX5_ahead_32 (fun H locs hP hD hS => ?_)
          have hP : va_P g.1 vwCl [(h0, .inr (5, [.ref h1, .int f0, .ref h2, .int f1, .int y2, .ref h3, .ref h4, .ref h5, .ref h6, .int f3, .ref h7, .ref h8, .ref h9, .int f4, .ref h10, .ref h11, .ref h12, .ref h13, .ref h14, .ref h15, .ref h16, .ref h17, .ref h18, .ref h19, .ref h20, .ref h21, .ref h22])), (h2, .inl (zI g, 60, .inl Z1))] H := hP
          have hD : va_D A [(h0, .inr (5, [.ref h1, .int f0, .ref h2, .int f1, .int y2, .ref h3, .ref h4, .ref h5, .ref h6, .int f3, .ref h7, .ref h8, .ref h9, .int f4, .ref h10, .ref h11, .ref h12, .ref h13, .ref h14, .ref h15, .ref h16, .ref h17, .ref h18, .ref h19, .ref h20, .ref h21, .ref h22])), (h2, .inl (zI g, 60, .inl Z1))] := hD
          have hzk : zsk Z1 f1.toInt y2.toInt = zsk Z1 f1.toInt f2.toInt := by
            have h3 := zsk_blank (F := Z1) (len := f1.toInt) (a := g0_0.toInt) (by omega) (by omega)
            have h4 : y2.toInt = g0_0.toInt + 1 := by omega
            rw [h4, ← h3]
            assumption
          refine lv_goto (tgt := 0) hx hb dX5_ahead_35 (by decide) ?_
          exact ih1 y2 (by omega) (by omega) (by omega) (by omega) (by omega) _ _ hP hD hS ls (lv_sub hl [0] rfl)
  exact loop0_0 ((60 - f2.toInt : Int).toNat + 1) f2 (by omega) (by omega) (by omega) (by omega) (by omega) _ _ hP hD hS ls (lv_sub hl [0] rfl)
set_option maxHeartbeats 8000000 in
set_option maxRecDepth 100000 in
theorem gX5_ruleOf (l : Launch) (g : zG) (sz : Nat) (p0 : Int32) : Met l yX5_ruleOf (.code yX5_ruleOf cX5_ruleOf 1 (some .int) :: zBig) ({ frames := 0, cells := 0, slots := 0, locals := 0 }) (va_Pc [.int p0] (zPre g [] sz)) (va_Qi (fun (r : Int32) (u : Nat) => r.toInt = zrl p0.toInt ∧ -1 ≤ r.toInt ∧ r.toInt ≤ 4) (zPost g (fun u : Nat => []) (va_A [] sz)) (va_A [] sz)) 0 0 (va_A [] sz) := by
  refine zMetI rfl (Nat.le_of_ble_eq_true rfl) ?_
  intro p e s m args below meth c A ls hx hb hml hr hlocks hin hown hts hK hN hZ hP hD hA hS hAe hl
  have hown : s.vm.findClass RX5 = some m.cls := hown
  have hl : lv_has ls 1 [(0, .int p0)] := hl
  refine lv_iload_n hx hb dX5_ruleOf_0 rfl (lv_at hl 0 rfl) ?_
  refine lv_bipush (v := 115) hx hb dX5_ruleOf_1 (by decide) ?_
  refine lv_icmp_ne (tgt := 10) hx hb dX5_ruleOf_3 (by decide) (fun c_0 => ?_) (fun c_0 => ?_)
  · have i_0 : p0.toInt ≠ 115 := z_ne (rfl) (rfl) c_0
    refine lv_iload_n hx hb dX5_ruleOf_10 rfl (lv_at hl 0 rfl) ?_
    refine lv_bipush (v := 100) hx hb dX5_ruleOf_11 (by decide) ?_
    refine lv_icmp_ne (tgt := 20) hx hb dX5_ruleOf_13 (by decide) (fun c_1 => ?_) (fun c_1 => ?_)
    · have i_1 : p0.toInt ≠ 100 := z_ne (rfl) (rfl) c_1
      refine lv_iload_n hx hb dX5_ruleOf_20 rfl (lv_at hl 0 rfl) ?_
      refine lv_bipush (v := 102) hx hb dX5_ruleOf_21 (by decide) ?_
      refine lv_icmp_ne (tgt := 30) hx hb dX5_ruleOf_23 (by decide) (fun c_2 => ?_) (fun c_2 => ?_)
      · have i_2 : p0.toInt ≠ 102 := z_ne (rfl) (rfl) c_2
        refine lv_iload_n hx hb dX5_ruleOf_30 rfl (lv_at hl 0 rfl) ?_
        refine lv_bipush (v := 98) hx hb dX5_ruleOf_31 (by decide) ?_
        refine lv_icmp_ne (tgt := 40) hx hb dX5_ruleOf_33 (by decide) (fun c_3 => ?_) (fun c_3 => ?_)
        · have i_3 : p0.toInt ≠ 98 := z_ne (rfl) (rfl) c_3
          refine lv_iload_n hx hb dX5_ruleOf_40 rfl (lv_at hl 0 rfl) ?_
          refine lv_bipush (v := 99) hx hb dX5_ruleOf_41 (by decide) ?_
          refine lv_icmp_ne (tgt := 50) hx hb dX5_ruleOf_43 (by decide) (fun c_4 => ?_) (fun c_4 => ?_)
          · have i_4 : p0.toInt ≠ 99 := z_ne (rfl) (rfl) c_4
            refine lv_iconst (v := (-1)) hx hb dX5_ruleOf_50 (by decide) ?_
            have hz : zrl p0.toInt = (-1) := by unfold zrl; (repeat' split) <;> omega
            have : ((-1) : Int32).toInt = (-1) := rfl
            have hP9 := hP.sub (ws' := []) [] rfl
            have hD9 := hD.sub (ws' := []) [] (by decide) rfl
            exact W.iret (v := (-1)) hx hb hr (fun t ht hW => ⟨⟨(-1), (0 : Nat), rfl, ⟨(by first | omega | decide), (by first | omega | decide), (by first | omega | decide)⟩, by rw [ht]; exact hP9, hD9⟩, hS.F ht⟩) hS.2.2 dX5_ruleOf_51
          · have i_4 : p0.toInt = 99 := z_eq (rfl) (rfl) c_4
            refine lv_iconst (v := 4) hx hb dX5_ruleOf_46 (by decide) ?_
            refine lv_goto (tgt := 51) hx hb dX5_ruleOf_47 (by decide) ?_
            have hz : zrl p0.toInt = 4 := by unfold zrl; (repeat' split) <;> omega
            have : (4 : Int32).toInt = 4 := rfl
            have hP9 := hP.sub (ws' := []) [] rfl
            have hD9 := hD.sub (ws' := []) [] (by decide) rfl
            exact W.iret (v := 4) hx hb hr (fun t ht hW => ⟨⟨4, (0 : Nat), rfl, ⟨(by first | omega | decide), (by first | omega | decide), (by first | omega | decide)⟩, by rw [ht]; exact hP9, hD9⟩, hS.F ht⟩) hS.2.2 dX5_ruleOf_51
        · have i_3 : p0.toInt = 98 := z_eq (rfl) (rfl) c_3
          refine lv_iconst (v := 3) hx hb dX5_ruleOf_36 (by decide) ?_
          refine lv_goto (tgt := 51) hx hb dX5_ruleOf_37 (by decide) ?_
          have hz : zrl p0.toInt = 3 := by unfold zrl; (repeat' split) <;> omega
          have : (3 : Int32).toInt = 3 := rfl
          have hP9 := hP.sub (ws' := []) [] rfl
          have hD9 := hD.sub (ws' := []) [] (by decide) rfl
          exact W.iret (v := 3) hx hb hr (fun t ht hW => ⟨⟨3, (0 : Nat), rfl, ⟨(by first | omega | decide), (by first | omega | decide), (by first | omega | decide)⟩, by rw [ht]; exact hP9, hD9⟩, hS.F ht⟩) hS.2.2 dX5_ruleOf_51
      · have i_2 : p0.toInt = 102 := z_eq (rfl) (rfl) c_2
        refine lv_iconst (v := 2) hx hb dX5_ruleOf_26 (by decide) ?_
        refine lv_goto (tgt := 51) hx hb dX5_ruleOf_27 (by decide) ?_
        have hz : zrl p0.toInt = 2 := by unfold zrl; (repeat' split) <;> omega
        have : (2 : Int32).toInt = 2 := rfl
        have hP9 := hP.sub (ws' := []) [] rfl
        have hD9 := hD.sub (ws' := []) [] (by decide) rfl
        exact W.iret (v := 2) hx hb hr (fun t ht hW => ⟨⟨2, (0 : Nat), rfl, ⟨(by first | omega | decide), (by first | omega | decide), (by first | omega | decide)⟩, by rw [ht]; exact hP9, hD9⟩, hS.F ht⟩) hS.2.2 dX5_ruleOf_51
    · have i_1 : p0.toInt = 100 := z_eq (rfl) (rfl) c_1
      refine lv_iconst (v := 1) hx hb dX5_ruleOf_16 (by decide) ?_
      refine lv_goto (tgt := 51) hx hb dX5_ruleOf_17 (by decide) ?_
      have hz : zrl p0.toInt = 1 := by unfold zrl; (repeat' split) <;> omega
      have : (1 : Int32).toInt = 1 := rfl
      have hP9 := hP.sub (ws' := []) [] rfl
      have hD9 := hD.sub (ws' := []) [] (by decide) rfl
      exact W.iret (v := 1) hx hb hr (fun t ht hW => ⟨⟨1, (0 : Nat), rfl, ⟨(by first | omega | decide), (by first | omega | decide), (by first | omega | decide)⟩, by rw [ht]; exact hP9, hD9⟩, hS.F ht⟩) hS.2.2 dX5_ruleOf_51
  · have i_0 : p0.toInt = 115 := z_eq (rfl) (rfl) c_0
    refine lv_iconst (v := 0) hx hb dX5_ruleOf_6 (by decide) ?_
    refine lv_goto (tgt := 51) hx hb dX5_ruleOf_7 (by decide) ?_
    have hz : zrl p0.toInt = 0 := by unfold zrl; (repeat' split) <;> omega
    have : (0 : Int32).toInt = 0 := rfl
    have hP9 := hP.sub (ws' := []) [] rfl
    have hD9 := hD.sub (ws' := []) [] (by decide) rfl
    exact W.iret (v := 0) hx hb hr (fun t ht hW => ⟨⟨0, (0 : Nat), rfl, ⟨(by first | omega | decide), (by first | omega | decide), (by first | omega | decide)⟩, by rw [ht]; exact hP9, hD9⟩, hS.F ht⟩) hS.2.2 dX5_ruleOf_51
set_option maxHeartbeats 8000000 in
set_option maxRecDepth 100000 in
theorem gX5_lesser (l : Launch) (g : zG) (sz : Nat) (p0 : Int32) (p1 : Int32) : Met l yX5_lesser (.code yX5_lesser cX5_lesser 2 (some .int) :: zBig) ({ frames := 0, cells := 0, slots := 0, locals := 0 }) (va_Pc [.int p0, .int p1] (zPre g [] sz)) (va_Qi (fun (r : Int32) (u : Nat) => r.toInt ≤ p0.toInt ∧ r.toInt ≤ p1.toInt ∧ (r.toInt = p0.toInt ∨ r.toInt = p1.toInt)) (zPost g (fun u : Nat => []) (va_A [] sz)) (va_A [] sz)) 0 0 (va_A [] sz) := by
  refine zMetI rfl (Nat.le_of_ble_eq_true rfl) ?_
  intro p e s m args below meth c A ls hx hb hml hr hlocks hin hown hts hK hN hZ hP hD hA hS hAe hl
  have hown : s.vm.findClass RX5 = some m.cls := hown
  have hl : lv_has ls 2 [(0, .int p0), (1, .int p1)] := hl
  refine lv_iload_n hx hb dX5_lesser_0 rfl (lv_at hl 0 rfl) ?_
  refine lv_iload_n hx hb dX5_lesser_1 rfl (lv_at hl 1 rfl) ?_
  refine lv_icmp_ge (tgt := 9) hx hb dX5_lesser_2 (by decide) (fun c_0 => ?_) (fun c_0 => ?_)
  · have i_0 : p1.toInt ≤ p0.toInt := z_le (rfl) (rfl) c_0
    refine lv_iload_n hx hb dX5_lesser_9 rfl (lv_at hl 1 rfl) ?_
    have hP9 := hP.sub (ws' := []) [] rfl
    have hD9 := hD.sub (ws' := []) [] (by decide) rfl
    exact W.iret (v := p1) hx hb hr (fun t ht hW => ⟨⟨p1, (0 : Nat), rfl, ⟨(by first | omega | decide), (by first | omega | decide), (by first | omega | decide)⟩, by rw [ht]; exact hP9, hD9⟩, hS.F ht⟩) hS.2.2 dX5_lesser_10
  · have i_0 : p0.toInt < p1.toInt := z_nle (rfl) (rfl) c_0
    refine lv_iload_n hx hb dX5_lesser_5 rfl (lv_at hl 0 rfl) ?_
    refine lv_goto (tgt := 10) hx hb dX5_lesser_6 (by decide) ?_
    have hP9 := hP.sub (ws' := []) [] rfl
    have hD9 := hD.sub (ws' := []) [] (by decide) rfl
    exact W.iret (v := p0) hx hb hr (fun t ht hW => ⟨⟨p0, (0 : Nat), rfl, ⟨(by first | omega | decide), (by first | omega | decide), (by first | omega | decide)⟩, by rw [ht]; exact hP9, hD9⟩, hS.F ht⟩) hS.2.2 dX5_lesser_10

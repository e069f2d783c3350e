set_option maxHeartbeats 8000000 in
set_option maxRecDepth 100000 in
theorem gX5_ahead (l : Launch) (g : zG) (h0 h1 h2 h3 h4 h5 h6 h7 h8 h9 h10 h11 h12 h13 h14 h15 h16 h17 h18 h19 h20 h21 h22 : Nat) (sz : Nat) (f0 : Int32) (f1 : Int32) (f2 : Int32) (f3 : Int32) (f4 : Int32) (Z1 : Nat → Int32) (hf_f1 : 0 ≤ f1.toInt ∧ f1.toInt ≤ 60) (hf_f2 : 0 ≤ f2.toInt ∧ f2.toInt ≤ 60) : Met l yX5_ahead (.code yX5_ahead cX5_ahead 1 (some .int) :: zBig) ({ frames := 0, cells := 0, slots := 0, locals := 0 }) (va_Pc [.ref h0] (zPre g [(h0, .inr (5, [.ref h1, .int f0, .ref h2, .int f1, .int f2, .ref h3, .ref h4, .ref h5, .ref h6, .int f3, .ref h7, .ref h8, .ref h9, .int f4, .ref h10, .ref h11, .ref h12, .ref h13, .ref h14, .ref h15, .ref h16, .ref h17, .ref h18, .ref h19, .ref h20, .ref h21, .ref h22])), (h2, .inl (zI g, 60, .inl Z1))] sz)) (va_Qi (fun (r : Int32) (u : Int32) => ((r.toInt = -1 ∨ u.toInt < f1.toInt) ∧ f2.toInt ≤ u.toInt ∧ u.toInt = zsk Z1 f1.toInt f2.toInt ∧ (u.toInt < f1.toInt → r.toInt = zc Z1 u.toInt) ∧ (f1.toInt ≤ u.toInt → r.toInt = -1)) ∧ 0 ≤ u.toInt ∧ u.toInt ≤ 60) (zPost g (fun u : Int32 => [(h0, .inr (5, [.ref h1, .int f0, .ref h2, .int f1, .int u, .ref h3, .ref h4, .ref h5, .ref h6, .int f3, .ref h7, .ref h8, .ref h9, .int f4, .ref h10, .ref h11, .ref h12, .ref h13, .ref h14, .ref h15, .ref h16, .ref h17, .ref h18, .ref h19, .ref h20, .ref h21, .ref h22])), (h2, .inl (zI g, 60, .inl Z1))]) (va_A [(h0, .inr (5, [.ref h1, .int f0, .ref h2, .int f1, .int f2, .ref h3, .ref h4, .ref h5, .ref h6, .int f3, .ref h7, .ref h8, .ref h9, .int f4, .ref h10, .ref h11, .ref h12, .ref h13, .ref h14, .ref h15, .ref h16, .ref h17, .ref h18, .ref h19, .ref h20, .ref h21, .ref h22])), (h2, .inl (zI g, 60, .inl Z1))] sz)) (va_A [(h0, .inr (5, [.ref h1, .int f0, .ref h2, .int f1, .int f2, .ref h3, .ref h4, .ref h5, .ref h6, .int f3, .ref h7, .ref h8, .ref h9, .int f4, .ref h10, .ref h11, .ref h12, .ref h13, .ref h14, .ref h15, .ref h16, .ref h17, .ref h18, .ref h19, .ref h20, .ref h21, .ref h22])), (h2, .inl (zI g, 60, .inl Z1))] sz)) 0 0 (va_A [(h0, .inr (5, [.ref h1, .int f0, .ref h2, .int f1, .int f2, .ref h3, .ref h4, .ref h5, .ref h6, .int f3, .ref h7, .ref h8, .ref h9, .int f4, .ref h10, .ref h11, .ref h12, .ref h13, .ref h14, .ref h15, .ref h16, .ref h17, .ref h18, .ref h19, .ref h20, .ref h21, .ref h22])), (h2, .inl (zI g, 60, .inl Z1))] sz) := by
  refine zMetI rfl (Nat.le_of_ble_eq_true rfl) ?_
  intro p e s m args below meth c A ls hx hb hml hr hlocks hin hown hts hK hN hZ hP hD hA hS hAe hl
  have hown : s.vm.findClass RX5 = some m.cls := hown
  have hl : lv_has ls 1 [(0, .ref h0)] := hl
  have loop0_0 : ∀ (n1 : Nat) (g0_0 : Int32) (hg0_0a : 0 ≤ g0_0.toInt) (hg0_0b : g0_0.toInt ≤ 60) (n1_0 : f2.toInt ≤ g0_0.toInt) (n1_1 : zsk Z1 f1.toInt g0_0.toInt = zsk Z1 f1.toInt f2.toInt) (hm1 : 60 - g0_0.toInt < (n1 : Int)) (H : Heap) (locs : List Loc), va_P g.1 vwCl [(h0, .inr (5, [.ref h1, .int f0, .ref h2, .int f1, .int g0_0, .ref h3, .ref h4, .ref h5, .ref h6, .int f3, .ref h7, .ref h8, .ref h9, .int f4, .ref h10, .ref h11, .ref h12, .ref h13, .ref h14, .ref h15, .ref h16, .ref h17, .ref h18, .ref h19, .ref h20, .ref h21, .ref h22])), (h2, .inl (zI g, 60, .inl Z1))] H → va_D A [(h0, .inr (5, [.ref h1, .int f0, .ref h2, .int f1, .int g0_0, .ref h3, .ref h4, .ref h5, .ref h6, .int f3, .ref h7, .ref h8, .ref h9, .int f4, .ref h10, .ref h11, .ref h12, .ref h13, .ref h14, .ref h15, .ref h16, .ref h17, .ref h18, .ref h19, .ref h20, .ref h21, .ref h22])), (h2, .inl (zI g, 60, .inl Z1))] → va_S A s.heap H locs → ∀ (ls : Array Slot), lv_has ls 1 [(0, .ref h0)] → W p l e ({ frames := 0, cells := 0, slots := 0, locals := 0 }) s m args below meth c H locs 0 0 (MQ below (va_Qi (fun (r : Int32) (u : Int32) => ((r.toInt = -1 ∨ u.toInt < f1.toInt) ∧ f2.toInt ≤ u.toInt ∧ u.toInt = zsk Z1 f1.toInt f2.toInt ∧ (u.toInt < f1.toInt → r.toInt = zc Z1 u.toInt) ∧ (f1.toInt ≤ u.toInt → r.toInt = -1)) ∧ 0 ≤ u.toInt ∧ u.toInt ≤ 60) (zPost g (fun u : Int32 => [(h0, .inr (5, [.ref h1, .int f0, .ref h2, .int f1, .int u, .ref h3, .ref h4, .ref h5, .ref h6, .int f3, .ref h7, .ref h8, .ref h9, .int f4, .ref h10, .ref h11, .ref h12, .ref h13, .ref h14, .ref h15, .ref h16, .ref h17, .ref h18, .ref h19, .ref h20, .ref h21, .ref h22])), (h2, .inl (zI g, 60, .inl Z1))]) A) A) args s 0 0 A) (F0 m 0 ls []) := by
    intro n1
    induction n1 with
    | zero => intro g0_0 hg0_0a hg0_0b n1_0 n1_1 hm1; exfalso; omega
    | succ n1 ih1 =>
      intro g0_0 hg0_0a hg0_0b n1_0 n1_1 hm1 H locs hP hD hS ls hl
      refine lv_aload_n hx hb dX5_ahead_0 rfl (lv_at hl 0 rfl) ?_
      refine va_get (D := g.1) (ci := 5) (v := .int g0_0) (C := RX5) (T := TX5) (N := 27) hx hb hts zl_X5 hown hK hP 0 rfl rfl 4 (by decide) (hts _ m_f_RX5_118) (fun _ h => h) rfl dX5_ahead_1 ?_
      refine lv_aload_n hx hb dX5_ahead_4 rfl (lv_at hl 0 rfl) ?_
      refine va_get (D := g.1) (ci := 5) (v := .int f1) (C := RX5) (T := TX5) (N := 27) hx hb hts zl_X5 hown hK hP 0 rfl rfl 3 (by decide) (hts _ m_f_RX5_114) (fun _ h => h) rfl dX5_ahead_5 ?_
      refine lv_icmp_ge (tgt := 38) hx hb dX5_ahead_8 (by decide) (fun c_1 => ?_) (fun c_1 => ?_)
      · have i_1 : f1.toInt ≤ g0_0.toInt := z_le (rfl) (rfl) c_1
        have hze : g0_0.toInt = zsk Z1 f1.toInt f2.toInt := by
          rw [← (by assumption : zsk Z1 f1.toInt g0_0.toInt = zsk Z1 f1.toInt f2.toInt)]
          first | exact (zsk_end (by omega)).symm | exact (zsk_stop (by omega) (by omega)).symm
        refine lv_aload_n hx hb dX5_ahead_38 rfl (lv_at hl 0 rfl) ?_
        refine va_get (D := g.1) (ci := 5) (v := .int g0_0) (C := RX5) (T := TX5) (N := 27) hx hb hts zl_X5 hown hK hP 0 rfl rfl 4 (by decide) (hts _ m_f_RX5_118) (fun _ h => h) rfl dX5_ahead_39 ?_
        refine lv_aload_n hx hb dX5_ahead_42 rfl (lv_at hl 0 rfl) ?_
        refine va_get (D := g.1) (ci := 5) (v := .int f1) (C := RX5) (T := TX5) (N := 27) hx hb hts zl_X5 hown hK hP 0 rfl rfl 3 (by decide) (hts _ m_f_RX5_114) (fun _ h => h) rfl dX5_ahead_43 ?_
        refine lv_icmp_ge (tgt := 61) hx hb dX5_ahead_46 (by decide) (fun c_2 => ?_) (fun c_2 => absurd (show g0_0.toInt < f1.toInt from z_nle (rfl) (rfl) c_2) (by omega))
        have i_2 : f1.toInt ≤ g0_0.toInt := z_le (rfl) (rfl) c_2
        refine lv_iconst (v := (-1)) hx hb dX5_ahead_61 (by decide) ?_
        have : ((-1) : Int32).toInt = (-1) := rfl
        have hP9 := hP.sub (ws' := [(h0, .inr (5, [.ref h1, .int f0, .ref h2, .int f1, .int g0_0, .ref h3, .ref h4, .ref h5, .ref h6, .int f3, .ref h7, .ref h8, .ref h9, .int f4, .ref h10, .ref h11, .ref h12, .ref h13, .ref h14, .ref h15, .ref h16, .ref h17, .ref h18, .ref h19, .ref h20, .ref h21, .ref h22])), (h2, .inl (zI g, 60, .inl Z1))]) [0, 1] rfl
        have hD9 := hD.sub (ws' := [(h0, .inr (5, [.ref h1, .int f0, .ref h2, .int f1, .int g0_0, .ref h3, .ref h4, .ref h5, .ref h6, .int f3, .ref h7, .ref h8, .ref h9, .int f4, .ref h10, .ref h11, .ref h12, .ref h13, .ref h14, .ref h15, .ref h16, .ref h17, .ref h18, .ref h19, .ref h20, .ref h21, .ref h22])), (h2, .inl (zI g, 60, .inl Z1))]) [0, 1] (by decide) rfl
        exact W.iret (v := (-1)) hx hb hr (fun t ht hW => ⟨⟨(-1), g0_0, rfl, ⟨⟨(by first | omega | decide), (by first | omega | decide), (show g0_0.toInt = zsk Z1 f1.toInt f2.toInt from by first | omega | decide), (show (g0_0.toInt < f1.toInt → ((-1) : Int32).toInt = zc Z1 g0_0.toInt) from by first | omega | decide), (show (f1.toInt ≤ g0_0.toInt → ((-1) : Int32).toInt = -1) from by first | omega | decide)⟩, ⟨show 0 ≤ g0_0.toInt from by omega, show g0_0.toInt ≤ 60 from by omega⟩⟩, by rw [ht]; exact hP9, hD9⟩, hS.F ht⟩) hS.2.2 dX5_ahead_62
      · have i_1 : g0_0.toInt < f1.toInt := z_nle (rfl) (rfl) c_1
        refine lv_aload_n hx hb dX5_ahead_11 rfl (lv_at hl 0 rfl) ?_
        refine va_get (D := g.1) (ci := 5) (v := .ref h2) (C := RX5) (T := TX5) (N := 27) hx hb hts zl_X5 hown hK hP 0 rfl rfl 2 (by decide) (hts _ m_f_RX5_13) (fun _ h => h) rfl dX5_ahead_12 ?_
        refine lv_aload_n hx hb dX5_ahead_15 rfl (lv_at hl 0 rfl) ?_
        refine va_get (D := g.1) (ci := 5) (v := .int g0_0) (C := RX5) (T := TX5) (N := 27) hx hb hts zl_X5 hown hK hP 0 rfl rfl 4 (by decide) (hts _ m_f_RX5_118) (fun _ h => h) rfl dX5_ahead_16 ?_
        refine va_iald (D := g.1) hx hb hK hP 1 0 rfl rfl (vp_in_iff.mpr ⟨by omega, by omega⟩) dX5_ahead_19 ?_
        refine lv_topi (fun y0 ey0 => ?_)
        have qy0_0 : y0.toInt = (Z1 g0_0.toNatClampNeg).toInt := congrArg Int32.toInt ey0
        have py0_0 : y0.toInt = zc Z1 g0_0.toInt := congrArg Int32.toInt ey0
        refine lv_bipush (v := 32) hx hb dX5_ahead_20 (by decide) ?_
        refine lv_icmp_ne (tgt := 38) hx hb dX5_ahead_22 (by decide) (fun c_3 => ?_) (fun c_3 => ?_)
        · have i_3 : y0.toInt ≠ 32 := z_ne (rfl) (rfl) c_3
          have hze : g0_0.toInt = zsk Z1 f1.toInt f2.toInt := by
            rw [← (by assumption : zsk Z1 f1.toInt g0_0.toInt = zsk Z1 f1.toInt f2.toInt)]
            first | exact (zsk_end (by omega)).symm | exact (zsk_stop (by omega) (by omega)).symm
          refine lv_aload_n hx hb dX5_ahead_38 rfl (lv_at hl 0 rfl) ?_
          refine va_get (D := g.1) (ci := 5) (v := .int g0_0) (C := RX5) (T := TX5) (N := 27) hx hb hts zl_X5 hown hK hP 0 rfl rfl 4 (by decide) (hts _ m_f_RX5_118) (fun _ h => h) rfl dX5_ahead_39 ?_
          refine lv_aload_n hx hb dX5_ahead_42 rfl (lv_at hl 0 rfl) ?_
          refine va_get (D := g.1) (ci := 5) (v := .int f1) (C := RX5) (T := TX5) (N := 27) hx hb hts zl_X5 hown hK hP 0 rfl rfl 3 (by decide) (hts _ m_f_RX5_114) (fun _ h => h) rfl dX5_ahead_43 ?_
          refine lv_icmp_ge (tgt := 61) hx hb dX5_ahead_46 (by decide) (fun c_4 => absurd (show f1.toInt ≤ g0_0.toInt from z_le (rfl) (rfl) c_4) (by omega)) (fun c_4 => ?_)
          have i_4 : g0_0.toInt < f1.toInt := z_nle (rfl) (rfl) c_4
          refine lv_aload_n hx hb dX5_ahead_49 rfl (lv_at hl 0 rfl) ?_
          refine va_get (D := g.1) (ci := 5) (v := .ref h2) (C := RX5) (T := TX5) (N := 27) hx hb hts zl_X5 hown hK hP 0 rfl rfl 2 (by decide) (hts _ m_f_RX5_13) (fun _ h => h) rfl dX5_ahead_50 ?_
          refine lv_aload_n hx hb dX5_ahead_53 rfl (lv_at hl 0 rfl) ?_
          refine va_get (D := g.1) (ci := 5) (v := .int g0_0) (C := RX5) (T := TX5) (N := 27) hx hb hts zl_X5 hown hK hP 0 rfl rfl 4 (by decide) (hts _ m_f_RX5_118) (fun _ h => h) rfl dX5_ahead_54 ?_
          refine va_iald (D := g.1) hx hb hK hP 1 0 rfl rfl (vp_in_iff.mpr ⟨by omega, by omega⟩) dX5_ahead_57 ?_
          refine lv_topi (fun y1 ey1 => ?_)
          have qy1_0 : y1.toInt = (Z1 g0_0.toNatClampNeg).toInt := congrArg Int32.toInt ey1
          have py1_0 : y1.toInt = zc Z1 g0_0.toInt := congrArg Int32.toInt ey1
          refine lv_goto (tgt := 62) hx hb dX5_ahead_58 (by decide) ?_
          have hP9 := hP.sub (ws' := [(h0, .inr (5, [.ref h1, .int f0, .ref h2, .int f1, .int g0_0, .ref h3, .ref h4, .ref h5, .ref h6, .int f3, .ref h7, .ref h8, .ref h9, .int f4, .ref h10, .ref h11, .ref h12, .ref h13, .ref h14, .ref h15, .ref h16, .ref h17, .ref h18, .ref h19, .ref h20, .ref h21, .ref h22])), (h2, .inl (zI g, 60, .inl Z1))]) [0, 1] rfl
          have hD9 := hD.sub (ws' := [(h0, .inr (5, [.ref h1, .int f0, .ref h2, .int f1, .int g0_0, .ref h3, .ref h4, .ref h5, .ref h6, .int f3, .ref h7, .ref h8, .ref h9, .int f4, .ref h10, .ref h11, .ref h12, .ref h13, .ref h14, .ref h15, .ref h16, .ref h17, .ref h18, .ref h19, .ref h20, .ref h21, .ref h22])), (h2, .inl (zI g, 60, .inl Z1))]) [0, 1] (by decide) rfl
          exact W.iret (v := y1) hx hb hr (fun t ht hW => ⟨⟨y1, g0_0, rfl, ⟨⟨(by first | omega | decide), (by first | omega | decide), (show g0_0.toInt = zsk Z1 f1.toInt f2.toInt from by first | omega | decide), (show (g0_0.toInt < f1.toInt → y1.toInt = zc Z1 g0_0.toInt) from by first | omega | decide), (show (f1.toInt ≤ g0_0.toInt → y1.toInt = -1) from by first | omega | decide)⟩, ⟨show 0 ≤ g0_0.toInt from by omega, show g0_0.toInt ≤ 60 from by omega⟩⟩, by rw [ht]; exact hP9, hD9⟩, hS.F ht⟩) hS.2.2 dX5_ahead_62
        · have i_3 : y0.toInt = 32 := z_eq (rfl) (rfl) c_3
          refine lv_aload_n hx hb dX5_ahead_25 rfl (lv_at hl 0 rfl) ?_
          refine lv_dup hx hb dX5_ahead_26 rfl ?_
          refine va_get (D := g.1) (ci := 5) (v := .int g0_0) (C := RX5) (T := TX5) (N := 27) hx hb hts zl_X5 hown hK hP 0 rfl rfl 4 (by decide) (hts _ m_f_RX5_118) (fun _ h => h) rfl dX5_ahead_27 ?_
          refine lv_iconst (v := 1) hx hb dX5_ahead_30 (by decide) ?_
          refine lv_iadd hx hb dX5_ahead_31 ?_
          refine lv_topi (fun y2 ey2 => ?_)
          have qy2_0 : y2.toInt = g0_0.toInt + 1 := zi_add ey2 (rfl) (rfl) (by omega) (by omega)
          refine va_put (D := g.1) (ci := 5) (v := .int y2) (ty := .int) (C := RX5) (T := TX5) (N := 27) hx hb hts zl_X5 tyX5 tyX5_ok nmX5 hown hK hP hD hS 0 rfl rfl 4 (by decide) (hts _ m_f_RX5_118) (fun _ h => h) rfl (by decide +kernel) rfl rfl (Nat.le_of_ble_eq_true rfl) dX5_ahead_32 (fun H locs hP hD hS => ?_)
          have hP : va_P g.1 vwCl [(h0, .inr (5, [.ref h1, .int f0, .ref h2, .int f1, .int y2, .ref h3, .ref h4, .ref h5, .ref h6, .int f3, .ref h7, .ref h8, .ref h9, .int f4, .ref h10, .ref h11, .ref h12, .ref h13, .ref h14, .ref h15, .ref h16, .ref h17, .ref h18, .ref h19, .ref h20, .ref h21, .ref h22])), (h2, .inl (zI g, 60, .inl Z1))] H := hP
          have hD : va_D A [(h0, .inr (5, [.ref h1, .int f0, .ref h2, .int f1, .int y2, .ref h3, .ref h4, .ref h5, .ref h6, .int f3, .ref h7, .ref h8, .ref h9, .int f4, .ref h10, .ref h11, .ref h12, .ref h13, .ref h14, .ref h15, .ref h16, .ref h17, .ref h18, .ref h19, .ref h20, .ref h21, .ref h22])), (h2, .inl (zI g, 60, .inl Z1))] := hD
          have hzk : zsk Z1 f1.toInt y2.toInt = zsk Z1 f1.toInt f2.toInt := by
            have h3 := zsk_blank (F := Z1) (len := f1.toInt) (a := g0_0.toInt) (by omega) (by omega)
            have h4 : y2.toInt = g0_0.toInt + 1 := by omega
            rw [h4, ← h3]
            assumption
          refine lv_goto (tgt := 0) hx hb dX5_ahead_35 (by decide) ?_
          exact ih1 y2 (by omega) (by omega) (by omega) (by omega) (by omega) _ _ hP hD hS ls (lv_sub hl [0] rfl)
  exact loop0_0 ((60 - f2.toInt : Int).toNat + 1) f2 (by omega) (by omega) (by omega) (by omega) (by omega) _ _ hP hD hS ls (lv_sub hl [0] rfl)
set_option maxHeartbeats 8000000 in
set_option maxRecDepth 100000 in
theorem gX5_ruleOf (l : Launch) (g : zG) (sz : Nat) (p0 : Int32) : Met l yX5_ruleOf (.code yX5_ruleOf cX5_ruleOf 1 (some .int) :: zBig) ({ frames := 0, cells := 0, slots := 0, locals := 0 }) (va_Pc [.int p0] (zPre g [] sz)) (va_Qi (fun (r : Int32) (u : Nat) => -1 ≤ r.toInt ∧ r.toInt ≤ 4 ∧ (p0.toInt = -1 → r.toInt = -1)) (zPost g (fun u : Nat => []) (va_A [] sz)) (va_A [] sz)) 0 0 (va_A [] sz) := by
  refine zMetI rfl (Nat.le_of_ble_eq_true rfl) ?_
  intro p e s m args below meth c A ls hx hb hml hr hlocks hin hown hts hK hN hZ hP hD hA hS hAe hl
  have hown : s.vm.findClass RX5 = some m.cls := hown
  have hl : lv_has ls 1 [(0, .int p0)] := hl
  refine lv_iload_n hx hb dX5_ruleOf_0 rfl (lv_at hl 0 rfl) ?_
  refine lv_bipush (v := 115) hx hb dX5_ruleOf_1 (by decide) ?_
  refine lv_icmp_ne (tgt := 10) hx hb dX5_ruleOf_3 (by decide) (fun c_0 => ?_) (fun c_0 => ?_)
  · have i_0 : p0.toInt ≠ 115 := z_ne (rfl) (rfl) c_0
    refine lv_iload_n hx hb dX5_ruleOf_10 rfl (lv_at hl 0 rfl) ?_
    refine lv_bipush (v := 100) hx hb dX5_ruleOf_11 (by decide) ?_
    refine lv_icmp_ne (tgt := 20) hx hb dX5_ruleOf_13 (by decide) (fun c_1 => ?_) (fun c_1 => ?_)
    · have i_1 : p0.toInt ≠ 100 := z_ne (rfl) (rfl) c_1
      refine lv_iload_n hx hb dX5_ruleOf_20 rfl (lv_at hl 0 rfl) ?_
      refine lv_bipush (v := 102) hx hb dX5_ruleOf_21 (by decide) ?_
      refine lv_icmp_ne (tgt := 30) hx hb dX5_ruleOf_23 (by decide) (fun c_2 => ?_) (fun c_2 => ?_)
      · have i_2 : p0.toInt ≠ 102 := z_ne (rfl) (rfl) c_2
        refine lv_iload_n hx hb dX5_ruleOf_30 rfl (lv_at hl 0 rfl) ?_
        refine lv_bipush (v := 98) hx hb dX5_ruleOf_31 (by decide) ?_
        refine lv_icmp_ne (tgt := 40) hx hb dX5_ruleOf_33 (by decide) (fun c_3 => ?_) (fun c_3 => ?_)
        · have i_3 : p0.toInt ≠ 98 := z_ne (rfl) (rfl) c_3
          refine lv_iload_n hx hb dX5_ruleOf_40 rfl (lv_at hl 0 rfl) ?_
          refine lv_bipush (v := 99) hx hb dX5_ruleOf_41 (by decide) ?_
          refine lv_icmp_ne (tgt := 50) hx hb dX5_ruleOf_43 (by decide) (fun c_4 => ?_) (fun c_4 => ?_)
          · have i_4 : p0.toInt ≠ 99 := z_ne (rfl) (rfl) c_4
            refine lv_iconst (v := (-1)) hx hb dX5_ruleOf_50 (by decide) ?_
            have : ((-1) : Int32).toInt = (-1) := rfl
            have hP9 := hP.sub (ws' := []) [] rfl
            have hD9 := hD.sub (ws' := []) [] (by decide) rfl
            exact W.iret (v := (-1)) hx hb hr (fun t ht hW => ⟨⟨(-1), (0 : Nat), rfl, ⟨(by first | omega | decide), (by first | omega | decide), (by first | omega | decide)⟩, by rw [ht]; exact hP9, hD9⟩, hS.F ht⟩) hS.2.2 dX5_ruleOf_51
          · have i_4 : p0.toInt = 99 := z_eq (rfl) (rfl) c_4
            refine lv_iconst (v := 4) hx hb dX5_ruleOf_46 (by decide) ?_
            refine lv_goto (tgt := 51) hx hb dX5_ruleOf_47 (by decide) ?_
            have : (4 : Int32).toInt = 4 := rfl
            have hP9 := hP.sub (ws' := []) [] rfl
            have hD9 := hD.sub (ws' := []) [] (by decide) rfl
            exact W.iret (v := 4) hx hb hr (fun t ht hW => ⟨⟨4, (0 : Nat), rfl, ⟨(by first | omega | decide), (by first | omega | decide), (by first | omega | decide)⟩, by rw [ht]; exact hP9, hD9⟩, hS.F ht⟩) hS.2.2 dX5_ruleOf_51
        · have i_3 : p0.toInt = 98 := z_eq (rfl) (rfl) c_3
          refine lv_iconst (v := 3) hx hb dX5_ruleOf_36 (by decide) ?_
          refine lv_goto (tgt := 51) hx hb dX5_ruleOf_37 (by decide) ?_
          have : (3 : Int32).toInt = 3 := rfl
          have hP9 := hP.sub (ws' := []) [] rfl
          have hD9 := hD.sub (ws' := []) [] (by decide) rfl
          exact W.iret (v := 3) hx hb hr (fun t ht hW => ⟨⟨3, (0 : Nat), rfl, ⟨(by first | omega | decide), (by first | omega | decide), (by first | omega | decide)⟩, by rw [ht]; exact hP9, hD9⟩, hS.F ht⟩) hS.2.2 dX5_ruleOf_51
      · have i_2 : p0.toInt = 102 := z_eq (rfl) (rfl) c_2
        refine lv_iconst (v := 2) hx hb dX5_ruleOf_26 (by decide) ?_
        refine lv_goto (tgt := 51) hx hb dX5_ruleOf_27 (by decide) ?_
        have : (2 : Int32).toInt = 2 := rfl
        have hP9 := hP.sub (ws' := []) [] rfl
        have hD9 := hD.sub (ws' := []) [] (by decide) rfl
        exact W.iret (v := 2) hx hb hr (fun t ht hW => ⟨⟨2, (0 : Nat), rfl, ⟨(by first | omega | decide), (by first | omega | decide), (by first | omega | decide)⟩, by rw [ht]; exact hP9, hD9⟩, hS.F ht⟩) hS.2.2 dX5_ruleOf_51
    · have i_1 : p0.toInt = 100 := z_eq (rfl) (rfl) c_1
      refine lv_iconst (v := 1) hx hb dX5_ruleOf_16 (by decide) ?_
      refine lv_goto (tgt := 51) hx hb dX5_ruleOf_17 (by decide) ?_
      have : (1 : Int32).toInt = 1 := rfl
      have hP9 := hP.sub (ws' := []) [] rfl
      have hD9 := hD.sub (ws' := []) [] (by decide) rfl
      exact W.iret (v := 1) hx hb hr (fun t ht hW => ⟨⟨1, (0 : Nat), rfl, ⟨(by first | omega | decide), (by first | omega | decide), (by first | omega | decide)⟩, by rw [ht]; exact hP9, hD9⟩, hS.F ht⟩) hS.2.2 dX5_ruleOf_51
  · have i_0 : p0.toInt = 115 := z_eq (rfl) (rfl) c_0
    refine lv_iconst (v := 0) hx hb dX5_ruleOf_6 (by decide) ?_
    refine lv_goto (tgt := 51) hx hb dX5_ruleOf_7 (by decide) ?_
    have : (0 : Int32).toInt = 0 := rfl
    have hP9 := hP.sub (ws' := []) [] rfl
    have hD9 := hD.sub (ws' := []) [] (by decide) rfl
    exact W.iret (v := 0) hx hb hr (fun t ht hW => ⟨⟨0, (0 : Nat), rfl, ⟨(by first | omega | decide), (by first | omega | decide), (by first | omega | decide)⟩, by rw [ht]; exact hP9, hD9⟩, hS.F ht⟩) hS.2.2 dX5_ruleOf_51
set_option maxHeartbeats 8000000 in
set_option maxRecDepth 100000 in
theorem gX5_lesser (l : Launch) (g : zG) (sz : Nat) (p0 : Int32) (p1 : Int32) : Met l yX5_lesser (.code yX5_lesser cX5_lesser 2 (some .int) :: zBig) ({ frames := 0, cells := 0, slots := 0, locals := 0 }) (va_Pc [.int p0, .int p1] (zPre g [] sz)) (va_Qi (fun (r : Int32) (u : Nat) => r.toInt ≤ p0.toInt ∧ r.toInt ≤ p1.toInt ∧ (r.toInt = p0.toInt ∨ r.toInt = p1.toInt)) (zPost g (fun u : Nat => []) (va_A [] sz)) (va_A [] sz)) 0 0 (va_A [] sz) := by
  refine zMetI rfl (Nat.le_of_ble_eq_true rfl) ?_
  intro p e s m args below meth c A ls hx hb hml hr hlocks hin hown hts hK hN hZ hP hD hA hS hAe hl
  have hown : s.vm.findClass RX5 = some m.cls := hown
  have hl : lv_has ls 2 [(0, .int p0), (1, .int p1)] := hl
  refine lv_iload_n hx hb dX5_lesser_0 rfl (lv_at hl 0 rfl) ?_
  refine lv_iload_n hx hb dX5_lesser_1 rfl (lv_at hl 1 rfl) ?_
  refine lv_icmp_ge (tgt := 9) hx hb dX5_lesser_2 (by decide) (fun c_0 => ?_) (fun c_0 => ?_)
  · have i_0 : p1.toInt ≤ p0.toInt := z_le (rfl) (rfl) c_0
    refine lv_iload_n hx hb dX5_lesser_9 rfl (lv_at hl 1 rfl) ?_
    have hP9 := hP.sub (ws' := []) [] rfl
    have hD9 := hD.sub (ws' := []) [] (by decide) rfl
    exact W.iret (v := p1) hx hb hr (fun t ht hW => ⟨⟨p1, (0 : Nat), rfl, ⟨(by first | omega | decide), (by first | omega | decide), (by first | omega | decide)⟩, by rw [ht]; exact hP9, hD9⟩, hS.F ht⟩) hS.2.2 dX5_lesser_10
  · have i_0 : p0.toInt < p1.toInt := z_nle (rfl) (rfl) c_0
    refine lv_iload_n hx hb dX5_lesser_5 rfl (lv_at hl 0 rfl) ?_
    refine lv_goto (tgt := 10) hx hb dX5_lesser_6 (by decide) ?_
    have hP9 := hP.sub (ws' := []) [] rfl
    have hD9 := hD.sub (ws' := []) [] (by decide) rfl
    exact W.iret (v := p0) hx hb hr (fun t ht hW => ⟨⟨p0, (0 : Nat), rfl, ⟨(by first | omega | decide), (by first | omega | decide), (by first | omega | decide)⟩, by rw [ht]; exact hP9, hD9⟩, hS.F ht⟩) hS.2.2 dX5_lesser_10
set_option maxHeartbeats 8000000 in
set_option maxRecDepth 100000 in
theorem gX5_lawFault (l : Launch) (g : zG) (h0 h1 h2 h3 h4 h5 h6 h7 h8 h9 h10 h11 h12 h13 h14 h15 h16 h17 h18 h19 h20 h21 h22 : Nat) (sz : Nat) (f0 : Int32) (f1 : Int32) (f2 : Int32) (f3 : Int32) (f4 : Int32) (Z1 : Nat → Int32) (Z2 : Nat → Int32) (hf_f1 : 0 ≤ f1.toInt ∧ f1.toInt ≤ 60) (hf_f2 : 0 ≤ f2.toInt ∧ f2.toInt ≤ 60) : Met l yX5_lawFault (.code yX5_lawFault cX5_lawFault 5 (some .int) :: zBig) ({ frames := 1, cells := 0, slots := 0, locals := 25 }) (va_Pc [.ref h0] (zPre g [(h0, .inr (5, [.ref h1, .int f0, .ref h2, .int f1, .int f2, .ref h3, .ref h4, .ref h5, .ref h6, .int f3, .ref h7, .ref h8, .ref h9, .int f4, .ref h10, .ref h11, .ref h12, .ref h13, .ref h14, .ref h15, .ref h16, .ref h17, .ref h18, .ref h19, .ref h20, .ref h21, .ref h22])), (h2, .inl (zI g, 60, .inl Z1)), (h3, .inl (zI g, 5, .inl Z2))] sz)) (va_Qi (fun (r : Int32) (u : Int32 × (Nat → Int32)) => (-1 ≤ r.toInt ∧ r.toInt ≤ 60) ∧ (0 ≤ u.1.toInt ∧ u.1.toInt ≤ 60) ∧ iMeant u.2) (zPost g (fun u : Int32 × (Nat → Int32) => [(h0, .inr (5, [.ref h1, .int f0, .ref h2, .int f1, .int u.1, .ref h3, .ref h4, .ref h5, .ref h6, .int f3, .ref h7, .ref h8, .ref h9, .int f4, .ref h10, .ref h11, .ref h12, .ref h13, .ref h14, .ref h15, .ref h16, .ref h17, .ref h18, .ref h19, .ref h20, .ref h21, .ref h22])), (h2, .inl (zI g, 60, .inl Z1)), (h3, .inl (zI g, 5, .inl u.2))]) (va_A [(h0, .inr (5, [.ref h1, .int f0, .ref h2, .int f1, .int f2, .ref h3, .ref h4, .ref h5, .ref h6, .int f3, .ref h7, .ref h8, .ref h9, .int f4, .ref h10, .ref h11, .ref h12, .ref h13, .ref h14, .ref h15, .ref h16, .ref h17, .ref h18, .ref h19, .ref h20, .ref h21, .ref h22])), (h2, .inl (zI g, 60, .inl Z1)), (h3, .inl (zI g, 5, .inl Z2))] sz)) (va_A [(h0, .inr (5, [.ref h1, .int f0, .ref h2, .int f1, .int f2, .ref h3, .ref h4, .ref h5, .ref h6, .int f3, .ref h7, .ref h8, .ref h9, .int f4, .ref h10, .ref h11, .ref h12, .ref h13, .ref h14, .ref h15, .ref h16, .ref h17, .ref h18, .ref h19, .ref h20, .ref h21, .ref h22])), (h2, .inl (zI g, 60, .inl Z1)), (h3, .inl (zI g, 5, .inl Z2))] sz)) 0 0 (va_A [(h0, .inr (5, [.ref h1, .int f0, .ref h2, .int f1, .int f2, .ref h3, .ref h4, .ref h5, .ref h6, .int f3, .ref h7, .ref h8, .ref h9, .int f4, .ref h10, .ref h11, .ref h12, .ref h13, .ref h14, .ref h15, .ref h16, .ref h17, .ref h18, .ref h19, .ref h20, .ref h21, .ref h22])), (h2, .inl (zI g, 60, .inl Z1)), (h3, .inl (zI g, 5, .inl Z2))] sz) := by
  refine zMetI rfl (Nat.le_of_ble_eq_true rfl) ?_
  intro p e s m args below meth c A ls hx hb hml hr hlocks hin hown hts hK hN hZ hP hD hA hS hAe hl
  have hown : s.vm.findClass RX5 = some m.cls := hown
  have hl : lv_has ls 5 [(0, .ref h0)] := hl
  refine lv_iconst (v := 0) hx hb dX5_lawFault_0 (by decide) ?_
  refine lv_istore_n (lv' := [(1, .int 0), (0, .ref h0)]) hx hb dX5_lawFault_1 rfl hl (by decide) rfl (fun ls hl => ?_)
  refine lv_iload_n hx hb dX5_lawFault_2 rfl (lv_at hl 0 rfl) ?_
  refine lv_iconst (v := 5) hx hb dX5_lawFault_3 (by decide) ?_
  refine lv_icmp_ge (tgt := 20) hx hb dX5_lawFault_4 (by decide) (fun h => absurd h (by decide +kernel)) (fun _ => ?_)
  refine lv_aload_n hx hb dX5_lawFault_7 rfl (lv_at hl 1 rfl) ?_
  refine va_get (D := g.1) (ci := 5) (v := .ref h3) (C := RX5) (T := TX5) (N := 27) hx hb hts zl_X5 hown hK hP 0 rfl rfl 5 (by decide) (hts _ m_f_RX5_16) (fun _ h => h) rfl dX5_lawFault_8 ?_
  refine lv_iload_n hx hb dX5_lawFault_11 rfl (lv_at hl 0 rfl) ?_
  refine lv_iconst (v := (-1)) hx hb dX5_lawFault_12 (by decide) ?_
  refine va_iast (D := g.1) hx hb hK hP hD hS 2 0 rfl rfl (vp_in_iff.mpr (by decide +kernel)) dX5_lawFault_13 (fun H locs hP hD hS => ?_)
  have hP : va_P g.1 vwCl [(h0, .inr (5, [.ref h1, .int f0, .ref h2, .int f1, .int f2, .ref h3, .ref h4, .ref h5, .ref h6, .int f3, .ref h7, .ref h8, .ref h9, .int f4, .ref h10, .ref h11, .ref h12, .ref h13, .ref h14, .ref h15, .ref h16, .ref h17, .ref h18, .ref h19, .ref h20, .ref h21, .ref h22])), (h2, .inl (zI g, 60, .inl Z1)), (h3, .inl (zI g, 5, .inl (upd Z2 0 (-1))))] H := hP
  have hD : va_D A [(h0, .inr (5, [.ref h1, .int f0, .ref h2, .int f1, .int f2, .ref h3, .ref h4, .ref h5, .ref h6, .int f3, .ref h7, .ref h8, .ref h9, .int f4, .ref h10, .ref h11, .ref h12, .ref h13, .ref h14, .ref h15, .ref h16, .ref h17, .ref h18, .ref h19, .ref h20, .ref h21, .ref h22])), (h2, .inl (zI g, 60, .inl Z1)), (h3, .inl (zI g, 5, .inl (upd Z2 0 (-1))))] := hD
  obtain ⟨R1, eR1⟩ : ∃ z : Nat → Int32, z = (upd Z2 0 (-1)) := ⟨_, rfl⟩
  rw [← eR1] at hP hD
  have : ((-1) : Int32).toInt = (-1) := rfl
  have qR1 : (R1 0).toInt = (-1) := z_put eR1 (rfl)
  have qR1_1 : (R1 1).toInt = (Z2 1).toInt := z_keep eR1 (by decide)
  have qR1_2 : (R1 2).toInt = (Z2 2).toInt := z_keep eR1 (by decide)
  have qR1_3 : (R1 3).toInt = (Z2 3).toInt := z_keep eR1 (by decide)
  have qR1_4 : (R1 4).toInt = (Z2 4).toInt := z_keep eR1 (by decide)
  refine lv_iinc (v := 1) (lv' := [(1, .int 1), (0, .ref h0)]) hx hb dX5_lawFault_14 hl (k := 0) rfl (by decide) (by decide) rfl (fun ls hl => ?_)
  refine lv_goto (tgt := 2) hx hb dX5_lawFault_17 (by decide) ?_
  refine lv_iload_n hx hb dX5_lawFault_2 rfl (lv_at hl 0 rfl) ?_
  refine lv_iconst (v := 5) hx hb dX5_lawFault_3 (by decide) ?_
  refine lv_icmp_ge (tgt := 20) hx hb dX5_lawFault_4 (by decide) (fun h => absurd h (by decide +kernel)) (fun _ => ?_)
  refine lv_aload_n hx hb dX5_lawFault_7 rfl (lv_at hl 1 rfl) ?_
  refine va_get (D := g.1) (ci := 5) (v := .ref h3) (C := RX5) (T := TX5) (N := 27) hx hb hts zl_X5 hown hK hP 0 rfl rfl 5 (by decide) (hts _ m_f_RX5_16) (fun _ h => h) rfl dX5_lawFault_8 ?_
  refine lv_iload_n hx hb dX5_lawFault_11 rfl (lv_at hl 0 rfl) ?_
  refine lv_iconst (v := (-1)) hx hb dX5_lawFault_12 (by decide) ?_
  refine va_iast (D := g.1) hx hb hK hP hD hS 2 0 rfl rfl (vp_in_iff.mpr (by decide +kernel)) dX5_lawFault_13 (fun H locs hP hD hS => ?_)
  have hP : va_P g.1 vwCl [(h0, .inr (5, [.ref h1, .int f0, .ref h2, .int f1, .int f2, .ref h3, .ref h4, .ref h5, .ref h6, .int f3, .ref h7, .ref h8, .ref h9, .int f4, .ref h10, .ref h11, .ref h12, .ref h13, .ref h14, .ref h15, .ref h16, .ref h17, .ref h18, .ref h19, .ref h20, .ref h21, .ref h22])), (h2, .inl (zI g, 60, .inl Z1)), (h3, .inl (zI g, 5, .inl (upd R1 1 (-1))))] H := hP
  have hD : va_D A [(h0, .inr (5, [.ref h1, .int f0, .ref h2, .int f1, .int f2, .ref h3, .ref h4, .ref h5, .ref h6, .int f3, .ref h7, .ref h8, .ref h9, .int f4, .ref h10, .ref h11, .ref h12, .ref h13, .ref h14, .ref h15, .ref h16, .ref h17, .ref h18, .ref h19, .ref h20, .ref h21, .ref h22])), (h2, .inl (zI g, 60, .inl Z1)), (h3, .inl (zI g, 5, .inl (upd R1 1 (-1))))] := hD
  obtain ⟨R3, eR3⟩ : ∃ z : Nat → Int32, z = (upd R1 1 (-1)) := ⟨_, rfl⟩
  rw [← eR3] at hP hD
  have : ((-1) : Int32).toInt = (-1) := rfl
  have qR3 : (R3 1).toInt = (-1) := z_put eR3 (rfl)
  have qR3_0 : (R3 0).toInt = (R1 0).toInt := z_keep eR3 (by decide)
  have qR3_2 : (R3 2).toInt = (R1 2).toInt := z_keep eR3 (by decide)
  have qR3_3 : (R3 3).toInt = (R1 3).toInt := z_keep eR3 (by decide)
  have qR3_4 : (R3 4).toInt = (R1 4).toInt := z_keep eR3 (by decide)
  refine lv_iinc (v := 2) (lv' := [(1, .int 2), (0, .ref h0)]) hx hb dX5_lawFault_14 hl (k := 0) rfl (by decide) (by decide) rfl (fun ls hl => ?_)
  refine lv_goto (tgt := 2) hx hb dX5_lawFault_17 (by decide) ?_
  refine lv_iload_n hx hb dX5_lawFault_2 rfl (lv_at hl 0 rfl) ?_
  refine lv_iconst (v := 5) hx hb dX5_lawFault_3 (by decide) ?_
  refine lv_icmp_ge (tgt := 20) hx hb dX5_lawFault_4 (by decide) (fun h => absurd h (by decide +kernel)) (fun _ => ?_)
  refine lv_aload_n hx hb dX5_lawFault_7 rfl (lv_at hl 1 rfl) ?_
  refine va_get (D := g.1) (ci := 5) (v := .ref h3) (C := RX5) (T := TX5) (N := 27) hx hb hts zl_X5 hown hK hP 0 rfl rfl 5 (by decide) (hts _ m_f_RX5_16) (fun _ h => h) rfl dX5_lawFault_8 ?_
  refine lv_iload_n hx hb dX5_lawFault_11 rfl (lv_at hl 0 rfl) ?_
  refine lv_iconst (v := (-1)) hx hb dX5_lawFault_12 (by decide) ?_
  refine va_iast (D := g.1) hx hb hK hP hD hS 2 0 rfl rfl (vp_in_iff.mpr (by decide +kernel)) dX5_lawFault_13 (fun H locs hP hD hS => ?_)
  have hP : va_P g.1 vwCl [(h0, .inr (5, [.ref h1, .int f0, .ref h2, .int f1, .int f2, .ref h3, .ref h4, .ref h5, .ref h6, .int f3, .ref h7, .ref h8, .ref h9, .int f4, .ref h10, .ref h11, .ref h12, .ref h13, .ref h14, .ref h15, .ref h16, .ref h17, .ref h18, .ref h19, .ref h20, .ref h21, .ref h22])), (h2, .inl (zI g, 60, .inl Z1)), (h3, .inl (zI g, 5, .inl (upd R3 2 (-1))))] H := hP
  have hD : va_D A [(h0, .inr (5, [.ref h1, .int f0, .ref h2, .int f1, .int f2, .ref h3, .ref h4, .ref h5, .ref h6, .int f3, .ref h7, .ref h8, .ref h9, .int f4, .ref h10, .ref h11, .ref h12, .ref h13, .ref h14, .ref h15, .ref h16, .ref h17, .ref h18, .ref h19, .ref h20, .ref h21, .ref h22])), (h2, .inl (zI g, 60, .inl Z1)), (h3, .inl (zI g, 5, .inl (upd R3 2 (-1))))] := hD
  obtain ⟨R5, eR5⟩ : ∃ z : Nat → Int32, z = (upd R3 2 (-1)) := ⟨_, rfl⟩
  rw [← eR5] at hP hD
  have : ((-1) : Int32).toInt = (-1) := rfl
  have qR5 : (R5 2).toInt = (-1) := z_put eR5 (rfl)
  have qR5_0 : (R5 0).toInt = (R3 0).toInt := z_keep eR5 (by decide)
  have qR5_1 : (R5 1).toInt = (R3 1).toInt := z_keep eR5 (by decide)
  have qR5_3 : (R5 3).toInt = (R3 3).toInt := z_keep eR5 (by decide)
  have qR5_4 : (R5 4).toInt = (R3 4).toInt := z_keep eR5 (by decide)
  refine lv_iinc (v := 3) (lv' := [(1, .int 3), (0, .ref h0)]) hx hb dX5_lawFault_14 hl (k := 0) rfl (by decide) (by decide) rfl (fun ls hl => ?_)
  refine lv_goto (tgt := 2) hx hb dX5_lawFault_17 (by decide) ?_
  refine lv_iload_n hx hb dX5_lawFault_2 rfl (lv_at hl 0 rfl) ?_
  refine lv_iconst (v := 5) hx hb dX5_lawFault_3 (by decide) ?_
  refine lv_icmp_ge (tgt := 20) hx hb dX5_lawFault_4 (by decide) (fun h => absurd h (by decide +kernel)) (fun _ => ?_)
  refine lv_aload_n hx hb dX5_lawFault_7 rfl (lv_at hl 1 rfl) ?_
  refine va_get (D := g.1) (ci := 5) (v := .ref h3) (C := RX5) (T := TX5) (N := 27) hx hb hts zl_X5 hown hK hP 0 rfl rfl 5 (by decide) (hts _ m_f_RX5_16) (fun _ h => h) rfl dX5_lawFault_8 ?_
  refine lv_iload_n hx hb dX5_lawFault_11 rfl (lv_at hl 0 rfl) ?_
  refine lv_iconst (v := (-1)) hx hb dX5_lawFault_12 (by decide) ?_
  refine va_iast (D := g.1) hx hb hK hP hD hS 2 0 rfl rfl (vp_in_iff.mpr (by decide +kernel)) dX5_lawFault_13 (fun H locs hP hD hS => ?_)
  have hP : va_P g.1 vwCl [(h0, .inr (5, [.ref h1, .int f0, .ref h2, .int f1, .int f2, .ref h3, .ref h4, .ref h5, .ref h6, .int f3, .ref h7, .ref h8, .ref h9, .int f4, .ref h10, .ref h11, .ref h12, .ref h13, .ref h14, .ref h15, .ref h16, .ref h17, .ref h18, .ref h19, .ref h20, .ref h21, .ref h22])), (h2, .inl (zI g, 60, .inl Z1)), (h3, .inl (zI g, 5, .inl (upd R5 3 (-1))))] H := hP
  have hD : va_D A [(h0, .inr (5, [.ref h1, .int f0, .ref h2, .int f1, .int f2, .ref h3, .ref h4, .ref h5, .ref h6, .int f3, .ref h7, .ref h8, .ref h9, .int f4, .ref h10, .ref h11, .ref h12, .ref h13, .ref h14, .ref h15, .ref h16, .ref h17, .ref h18, .ref h19, .ref h20, .ref h21, .ref h22])), (h2, .inl (zI g, 60, .inl Z1)), (h3, .inl (zI g, 5, .inl (upd R5 3 (-1))))] := hD
  obtain ⟨R7, eR7⟩ : ∃ z : Nat → Int32, z = (upd R5 3 (-1)) := ⟨_, rfl⟩
  rw [← eR7] at hP hD
  have : ((-1) : Int32).toInt = (-1) := rfl
  have qR7 : (R7 3).toInt = (-1) := z_put eR7 (rfl)
  have qR7_0 : (R7 0).toInt = (R5 0).toInt := z_keep eR7 (by decide)
  have qR7_1 : (R7 1).toInt = (R5 1).toInt := z_keep eR7 (by decide)
  have qR7_2 : (R7 2).toInt = (R5 2).toInt := z_keep eR7 (by decide)
  have qR7_4 : (R7 4).toInt = (R5 4).toInt := z_keep eR7 (by decide)
  refine lv_iinc (v := 4) (lv' := [(1, .int 4), (0, .ref h0)]) hx hb dX5_lawFault_14 hl (k := 0) rfl (by decide) (by decide) rfl (fun ls hl => ?_)
  refine lv_goto (tgt := 2) hx hb dX5_lawFault_17 (by decide) ?_
  refine lv_iload_n hx hb dX5_lawFault_2 rfl (lv_at hl 0 rfl) ?_
  refine lv_iconst (v := 5) hx hb dX5_lawFault_3 (by decide) ?_
  refine lv_icmp_ge (tgt := 20) hx hb dX5_lawFault_4 (by decide) (fun h => absurd h (by decide +kernel)) (fun _ => ?_)
  refine lv_aload_n hx hb dX5_lawFault_7 rfl (lv_at hl 1 rfl) ?_
  refine va_get (D := g.1) (ci := 5) (v := .ref h3) (C := RX5) (T := TX5) (N := 27) hx hb hts zl_X5 hown hK hP 0 rfl rfl 5 (by decide) (hts _ m_f_RX5_16) (fun _ h => h) rfl dX5_lawFault_8 ?_
  refine lv_iload_n hx hb dX5_lawFault_11 rfl (lv_at hl 0 rfl) ?_
  refine lv_iconst (v := (-1)) hx hb dX5_lawFault_12 (by decide) ?_
  refine va_iast (D := g.1) hx hb hK hP hD hS 2 0 rfl rfl (vp_in_iff.mpr (by decide +kernel)) dX5_lawFault_13 (fun H locs hP hD hS => ?_)
  have hP : va_P g.1 vwCl [(h0, .inr (5, [.ref h1, .int f0, .ref h2, .int f1, .int f2, .ref h3, .ref h4, .ref h5, .ref h6, .int f3, .ref h7, .ref h8, .ref h9, .int f4, .ref h10, .ref h11, .ref h12, .ref h13, .ref h14, .ref h15, .ref h16, .ref h17, .ref h18, .ref h19, .ref h20, .ref h21, .ref h22])), (h2, .inl (zI g, 60, .inl Z1)), (h3, .inl (zI g, 5, .inl (upd R7 4 (-1))))] H := hP
  have hD : va_D A [(h0, .inr (5, [.ref h1, .int f0, .ref h2, .int f1, .int f2, .ref h3, .ref h4, .ref h5, .ref h6, .int f3, .ref h7, .ref h8, .ref h9, .int f4, .ref h10, .ref h11, .ref h12, .ref h13, .ref h14, .ref h15, .ref h16, .ref h17, .ref h18, .ref h19, .ref h20, .ref h21, .ref h22])), (h2, .inl (zI g, 60, .inl Z1)), (h3, .inl (zI g, 5, .inl (upd R7 4 (-1))))] := hD
  obtain ⟨R9, eR9⟩ : ∃ z : Nat → Int32, z = (upd R7 4 (-1)) := ⟨_, rfl⟩
  rw [← eR9] at hP hD
  have : ((-1) : Int32).toInt = (-1) := rfl
  have qR9 : (R9 4).toInt = (-1) := z_put eR9 (rfl)
  have qR9_0 : (R9 0).toInt = (R7 0).toInt := z_keep eR9 (by decide)
  have qR9_1 : (R9 1).toInt = (R7 1).toInt := z_keep eR9 (by decide)
  have qR9_2 : (R9 2).toInt = (R7 2).toInt := z_keep eR9 (by decide)
  have qR9_3 : (R9 3).toInt = (R7 3).toInt := z_keep eR9 (by decide)
  refine lv_iinc (v := 5) (lv' := [(1, .int 5), (0, .ref h0)]) hx hb dX5_lawFault_14 hl (k := 0) rfl (by decide) (by decide) rfl (fun ls hl => ?_)
  refine lv_goto (tgt := 2) hx hb dX5_lawFault_17 (by decide) ?_
  refine lv_iload_n hx hb dX5_lawFault_2 rfl (lv_at hl 0 rfl) ?_
  refine lv_iconst (v := 5) hx hb dX5_lawFault_3 (by decide) ?_
  refine lv_icmp_ge (tgt := 20) hx hb dX5_lawFault_4 (by decide) (fun _ => ?_) (fun h => absurd h (by decide +kernel))
  have hI10 : iMeant R9 := iMeant_of (by omega) (by omega) (by omega) (by omega) (by omega)
  refine lv_aload_n hx hb dX5_lawFault_20 rfl (lv_at hl 1 rfl) ?_
  refine lv_iconst (v := 0) hx hb dX5_lawFault_21 (by decide) ?_
  refine va_put (D := g.1) (ci := 5) (v := .int 0) (ty := .int) (C := RX5) (T := TX5) (N := 27) hx hb hts zl_X5 tyX5 tyX5_ok nmX5 hown hK hP hD hS 0 rfl rfl 4 (by decide) (hts _ m_f_RX5_118) (fun _ h => h) rfl (by decide +kernel) rfl rfl (Nat.le_of_ble_eq_true rfl) dX5_lawFault_22 (fun H locs hP hD hS => ?_)
  have hP : va_P g.1 vwCl [(h0, .inr (5, [.ref h1, .int f0, .ref h2, .int f1, .int 0, .ref h3, .ref h4, .ref h5, .ref h6, .int f3, .ref h7, .ref h8, .ref h9, .int f4, .ref h10, .ref h11, .ref h12, .ref h13, .ref h14, .ref h15, .ref h16, .ref h17, .ref h18, .ref h19, .ref h20, .ref h21, .ref h22])), (h2, .inl (zI g, 60, .inl Z1)), (h3, .inl (zI g, 5, .inl R9))] H := hP
  have hD : va_D A [(h0, .inr (5, [.ref h1, .int f0, .ref h2, .int f1, .int 0, .ref h3, .ref h4, .ref h5, .ref h6, .int f3, .ref h7, .ref h8, .ref h9, .int f4, .ref h10, .ref h11, .ref h12, .ref h13, .ref h14, .ref h15, .ref h16, .ref h17, .ref h18, .ref h19, .ref h20, .ref h21, .ref h22])), (h2, .inl (zI g, 60, .inl Z1)), (h3, .inl (zI g, 5, .inl R9))] := hD
  refine lv_iconst (v := 0) hx hb dX5_lawFault_25 (by decide) ?_
  refine lv_istore_n (lv' := [(1, .int 0), (0, .ref h0)]) hx hb dX5_lawFault_26 rfl hl (by decide) rfl (fun ls hl => ?_)
  have loop27_0 : ∀ (n1 : Nat) (v1_0 : Int32) (g0_0 : Int32) (G1_0 : Nat → Int32) (hg0_0a : 0 ≤ g0_0.toInt) (hg0_0b : g0_0.toInt ≤ 60) (hG1_0 : iMeant G1_0) (hm1 : 60 - g0_0.toInt < (n1 : Int)) (H : Heap) (locs : List Loc), va_P g.1 vwCl [(h0, .inr (5, [.ref h1, .int f0, .ref h2, .int f1, .int g0_0, .ref h3, .ref h4, .ref h5, .ref h6, .int f3, .ref h7, .ref h8, .ref h9, .int f4, .ref h10, .ref h11, .ref h12, .ref h13, .ref h14, .ref h15, .ref h16, .ref h17, .ref h18, .ref h19, .ref h20, .ref h21, .ref h22])), (h2, .inl (zI g, 60, .inl Z1)), (h3, .inl (zI g, 5, .inl G1_0))] H → va_D A [(h0, .inr (5, [.ref h1, .int f0, .ref h2, .int f1, .int g0_0, .ref h3, .ref h4, .ref h5, .ref h6, .int f3, .ref h7, .ref h8, .ref h9, .int f4, .ref h10, .ref h11, .ref h12, .ref h13, .ref h14, .ref h15, .ref h16, .ref h17, .ref h18, .ref h19, .ref h20, .ref h21, .ref h22])), (h2, .inl (zI g, 60, .inl Z1)), (h3, .inl (zI g, 5, .inl G1_0))] → va_S A s.heap H locs → ∀ (ls : Array Slot), lv_has ls 5 [(0, .ref h0), (1, .int v1_0)] → W p l e ({ frames := 1, cells := 0, slots := 0, locals := 25 }) s m args below meth c H locs 0 0 (MQ below (va_Qi (fun (r : Int32) (u : Int32 × (Nat → Int32)) => (-1 ≤ r.toInt ∧ r.toInt ≤ 60) ∧ (0 ≤ u.1.toInt ∧ u.1.toInt ≤ 60) ∧ iMeant u.2) (zPost g (fun u : Int32 × (Nat → Int32) => [(h0, .inr (5, [.ref h1, .int f0, .ref h2, .int f1, .int u.1, .ref h3, .ref h4, .ref h5, .ref h6, .int f3, .ref h7, .ref h8, .ref h9, .int f4, .ref h10, .ref h11, .ref h12, .ref h13, .ref h14, .ref h15, .ref h16, .ref h17, .ref h18, .ref h19, .ref h20, .ref h21, .ref h22])), (h2, .inl (zI g, 60, .inl Z1)), (h3, .inl (zI g, 5, .inl u.2))]) A) A) args s 0 0 A) (F0 m 27 ls []) := by
    intro n1
    induction n1 with
    | zero => intro v1_0 g0_0 G1_0 hg0_0a hg0_0b hG1_0 hm1; exfalso; omega
    | succ n1 ih1 =>
      intro v1_0 g0_0 G1_0 hg0_0a hg0_0b hG1_0 hm1 H locs hP hD hS ls hl
      refine lv_iload_n hx hb dX5_lawFault_27 rfl (lv_at hl 1 rfl) ?_
      refine lv_if_eq (tgt := 38) hx hb dX5_lawFault_28 (by decide) (fun c_1 => ?_) (fun c_1 => ?_)
      · have i_1 : v1_0.toInt = 0 := z_eq (rfl) (rfl) c_1
        refine lv_aload_n hx hb dX5_lawFault_38 rfl (lv_at hl 0 rfl) ?_
        refine z_calli (wr := [(h3, .inl (zI g, 5, .inl G1_0))]) hP hD hS hA [0, 1] [2] (by decide) rfl rfl (by decide) (va_runV (As := []) (rest := []) ⟨hx, hb, hml, hown, hts⟩ (gX5_ahead l g h0 h1 h2 h3 h4 h5 h6 h7 h8 h9 h10 h11 h12 h13 h14 h15 h16 h17 h18 h19 h20 h21 h22 H.size f0 f1 g0_0 f3 f4 Z1 (by constructor <;> omega) (by constructor <;> omega)) ⟨callB_of 0 hts (zGood m_o_yX5_ahead) rfl rfl rfl (hts _ m_z_RX5) (hts _ m_m_RX5_121) ⟨by decide +kernel, by decide +kernel, by decide +kernel⟩ ⟨Nat.le_of_ble_eq_true rfl, Nat.le_of_ble_eq_true rfl⟩, hts _ m_i_yX5_ahead, hts _ m_e_yX5_ahead⟩ (zPreV hK hN hZ hP hD hS hA [0, 1] (by decide) rfl rfl 5 0 rfl rfl) rfl rfl hl.1 rfl (lv_room (Nat.le_of_ble_eq_true rfl)) dX5_lawFault_39 ⟨Nat.le_of_ble_eq_true rfl, Nat.le_of_ble_eq_true rfl⟩) (fun r u H locs hw hP hD hS => ?_)
        obtain ⟨w11, rfl⟩ : ∃ z, z = u := ⟨_, rfl⟩
        obtain ⟨hw, hI12⟩ := hw
        obtain ⟨hI12a, hI12b⟩ := hI12
        obtain ⟨y13, rfl⟩ : ∃ z, z = r := ⟨_, rfl⟩
        obtain ⟨q14_0, q14_1, q14_2, q14_3, q14_4⟩ := hw
        have q14_0 : (y13.toInt = -1 ∨ w11.toInt < f1.toInt) := q14_0
        have q14_1 : g0_0.toInt ≤ w11.toInt := q14_1
        have q14_2 : w11.toInt = zsk Z1 f1.toInt g0_0.toInt := q14_2
        have q14_3 : (w11.toInt < f1.toInt → y13.toInt = zc Z1 w11.toInt) := q14_3
        have q14_4 : (f1.toInt ≤ w11.toInt → y13.toInt = -1) := q14_4
        have hP : va_P g.1 vwCl [(h3, .inl (zI g, 5, .inl G1_0)), (h0, .inr (5, [.ref h1, .int f0, .ref h2, .int f1, .int w11, .ref h3, .ref h4, .ref h5, .ref h6, .int f3, .ref h7, .ref h8, .ref h9, .int f4, .ref h10, .ref h11, .ref h12, .ref h13, .ref h14, .ref h15, .ref h16, .ref h17, .ref h18, .ref h19, .ref h20, .ref h21, .ref h22])), (h2, .inl (zI g, 60, .inl Z1))] H := hP
        have hD : va_D A [(h3, .inl (zI g, 5, .inl G1_0)), (h0, .inr (5, [.ref h1, .int f0, .ref h2, .int f1, .int w11, .ref h3, .ref h4, .ref h5, .ref h6, .int f3, .ref h7, .ref h8, .ref h9, .int f4, .ref h10, .ref h11, .ref h12, .ref h13, .ref h14, .ref h15, .ref h16, .ref h17, .ref h18, .ref h19, .ref h20, .ref h21, .ref h22])), (h2, .inl (zI g, 60, .inl Z1))] := hD
        refine z_calli (wr := [(h3, .inl (zI g, 5, .inl G1_0)), (h0, .inr (5, [.ref h1, .int f0, .ref h2, .int f1, .int w11, .ref h3, .ref h4, .ref h5, .ref h6, .int f3, .ref h7, .ref h8, .ref h9, .int f4, .ref h10, .ref h11, .ref h12, .ref h13, .ref h14, .ref h15, .ref h16, .ref h17, .ref h18, .ref h19, .ref h20, .ref h21, .ref h22])), (h2, .inl (zI g, 60, .inl Z1))]) hP hD hS hA [] [0, 1, 2] (by decide) rfl rfl (by decide) (va_runS (As := [.int y13]) (rest := []) ⟨hx, hb, hml, hown, hts⟩ (gX5_ruleOf l g  H.size y13) ⟨callB_of 1 hts (zGood m_o_yX5_ruleOf) rfl rfl rfl (hts _ m_z_RX5) (hts _ m_m_RX5_125) ⟨by decide +kernel, by decide +kernel, by decide +kernel⟩ ⟨Nat.le_of_ble_eq_true rfl, Nat.le_of_ble_eq_true rfl⟩, hts _ m_s_yX5_ruleOf⟩ (zPreS hK hN hZ hP hD hS hA [] (by decide) rfl rfl) rfl rfl hl.1 rfl (lv_room (Nat.le_of_ble_eq_true rfl)) dX5_lawFault_42 ⟨Nat.le_of_ble_eq_true rfl, Nat.le_of_ble_eq_true rfl⟩) (fun r u H locs hw hP hD hS => ?_)
        obtain ⟨y15, rfl⟩ : ∃ z, z = r := ⟨_, rfl⟩
        obtain ⟨q16_0, q16_1, q16_2⟩ := hw
        have q16_0 : -1 ≤ y15.toInt := q16_0
        have q16_1 : y15.toInt ≤ 4 := q16_1
        have q16_2 : (y13.toInt = -1 → y15.toInt = -1) := q16_2
        have hP : va_P g.1 vwCl [(h3, .inl (zI g, 5, .inl G1_0)), (h0, .inr (5, [.ref h1, .int f0, .ref h2, .int f1, .int w11, .ref h3, .ref h4, .ref h5, .ref h6, .int f3, .ref h7, .ref h8, .ref h9, .int f4, .ref h10, .ref h11, .ref h12, .ref h13, .ref h14, .ref h15, .ref h16, .ref h17, .ref h18, .ref h19, .ref h20, .ref h21, .ref h22])), (h2, .inl (zI g, 60, .inl Z1))] H := hP
        have hD : va_D A [(h3, .inl (zI g, 5, .inl G1_0)), (h0, .inr (5, [.ref h1, .int f0, .ref h2, .int f1, .int w11, .ref h3, .ref h4, .ref h5, .ref h6, .int f3, .ref h7, .ref h8, .ref h9, .int f4, .ref h10, .ref h11, .ref h12, .ref h13, .ref h14, .ref h15, .ref h16, .ref h17, .ref h18, .ref h19, .ref h20, .ref h21, .ref h22])), (h2, .inl (zI g, 60, .inl Z1))] := hD
        refine lv_istore_n (lv' := [(2, .int y15), (0, .ref h0), (1, .int v1_0)]) hx hb dX5_lawFault_45 rfl hl (by decide) rfl (fun ls hl => ?_)
        refine lv_iload_n hx hb dX5_lawFault_46 rfl (lv_at hl 0 rfl) ?_
        refine lv_if_lt (tgt := 59) hx hb dX5_lawFault_47 (by decide) (fun c_2 => ?_) (fun c_2 => ?_)
        · have i_2 : y15.toInt < 0 := z_lt (rfl) (rfl) c_2
          refine lv_aload_n hx hb dX5_lawFault_59 rfl (lv_at hl 1 rfl) ?_
          refine va_get (D := g.1) (ci := 5) (v := .int w11) (C := RX5) (T := TX5) (N := 27) hx hb hts zl_X5 hown hK hP 1 rfl rfl 4 (by decide) (hts _ m_f_RX5_118) (fun _ h => h) rfl dX5_lawFault_60 ?_
          have hP9 := hP.sub (ws' := [(h0, .inr (5, [.ref h1, .int f0, .ref h2, .int f1, .int w11, .ref h3, .ref h4, .ref h5, .ref h6, .int f3, .ref h7, .ref h8, .ref h9, .int f4, .ref h10, .ref h11, .ref h12, .ref h13, .ref h14, .ref h15, .ref h16, .ref h17, .ref h18, .ref h19, .ref h20, .ref h21, .ref h22])), (h2, .inl (zI g, 60, .inl Z1)), (h3, .inl (zI g, 5, .inl G1_0))]) [1, 2, 0] rfl
          have hD9 := hD.sub (ws' := [(h0, .inr (5, [.ref h1, .int f0, .ref h2, .int f1, .int w11, .ref h3, .ref h4, .ref h5, .ref h6, .int f3, .ref h7, .ref h8, .ref h9, .int f4, .ref h10, .ref h11, .ref h12, .ref h13, .ref h14, .ref h15, .ref h16, .ref h17, .ref h18, .ref h19, .ref h20, .ref h21, .ref h22])), (h2, .inl (zI g, 60, .inl Z1)), (h3, .inl (zI g, 5, .inl G1_0))]) [1, 2, 0] (by decide) rfl
          exact W.iret (v := w11) hx hb hr (fun t ht hW => ⟨⟨w11, ⟨w11, G1_0⟩, rfl, ⟨⟨(by first | omega | decide), (by first | omega | decide)⟩, ⟨show 0 ≤ w11.toInt from by omega, show w11.toInt ≤ 60 from by omega⟩, hG1_0⟩, by rw [ht]; exact hP9, hD9⟩, hS.F ht⟩) hS.2.2 dX5_lawFault_63
        · have i_2 : 0 ≤ y15.toInt := z_nlt (rfl) (rfl) c_2
          refine lv_aload_n hx hb dX5_lawFault_50 rfl (lv_at hl 1 rfl) ?_
          refine va_get (D := g.1) (ci := 5) (v := .ref h3) (C := RX5) (T := TX5) (N := 27) hx hb hts zl_X5 hown hK hP 1 rfl rfl 5 (by decide) (hts _ m_f_RX5_16) (fun _ h => h) rfl dX5_lawFault_51 ?_
          refine lv_iload_n hx hb dX5_lawFault_54 rfl (lv_at hl 0 rfl) ?_
          refine va_iald (D := g.1) hx hb hK hP 0 0 rfl rfl (vp_in_iff.mpr ⟨by omega, by omega⟩) dX5_lawFault_55 ?_
          refine lv_topi (fun y17 ey17 => ?_)
          have qy17_0 : (y15.toInt ≤ 2 → -1 ≤ y17.toInt ∧ y17.toInt ≤ 99) := (iMeant_at (i := y15) (a := y15.toInt) hG1_0 (rfl) (by omega) (by omega) ey17).1
          have qy17_1 : (y15.toInt = 1 → y17.toInt ≤ 9 ∧ y17.toInt ≠ 0) := (iMeant_at (i := y15) (a := y15.toInt) hG1_0 (rfl) (by omega) (by omega) ey17).2
          have qy17_2 : y17.toInt = (G1_0 y15.toNatClampNeg).toInt := congrArg Int32.toInt ey17
          refine lv_if_lt (tgt := 64) hx hb dX5_lawFault_56 (by decide) (fun c_3 => ?_) (fun c_3 => ?_)
          · have i_3 : y17.toInt < 0 := z_lt (rfl) (rfl) c_3
            refine lv_aload_n hx hb dX5_lawFault_64 rfl (lv_at hl 1 rfl) ?_
            refine lv_dup hx hb dX5_lawFault_65 rfl ?_
            refine va_get (D := g.1) (ci := 5) (v := .int w11) (C := RX5) (T := TX5) (N := 27) hx hb hts zl_X5 hown hK hP 1 rfl rfl 4 (by decide) (hts _ m_f_RX5_118) (fun _ h => h) rfl dX5_lawFault_66 ?_
            refine lv_iconst (v := 1) hx hb dX5_lawFault_69 (by decide) ?_
            refine lv_iadd hx hb dX5_lawFault_70 ?_
            refine lv_topi (fun y18 ey18 => ?_)
            have qy18_0 : y18.toInt = w11.toInt + 1 := zi_add ey18 (rfl) (rfl) (by omega) (by omega)
            refine va_put (D := g.1) (ci := 5) (v := .int y18) (ty := .int) (C := RX5) (T := TX5) (N := 27) hx hb hts zl_X5 tyX5 tyX5_ok nmX5 hown hK hP hD hS 1 rfl rfl 4 (by decide) (hts _ m_f_RX5_118) (fun _ h => h) rfl (by decide +kernel) rfl rfl (Nat.le_of_ble_eq_true rfl) dX5_lawFault_71 (fun H locs hP hD hS => ?_)
            have hP : va_P g.1 vwCl [(h3, .inl (zI g, 5, .inl G1_0)), (h0, .inr (5, [.ref h1, .int f0, .ref h2, .int f1, .int y18, .ref h3, .ref h4, .ref h5, .ref h6, .int f3, .ref h7, .ref h8, .ref h9, .int f4, .ref h10, .ref h11, .ref h12, .ref h13, .ref h14, .ref h15, .ref h16, .ref h17, .ref h18, .ref h19, .ref h20, .ref h21, .ref h22])), (h2, .inl (zI g, 60, .inl Z1))] H := hP
            have hD : va_D A [(h3, .inl (zI g, 5, .inl G1_0)), (h0, .inr (5, [.ref h1, .int f0, .ref h2, .int f1, .int y18, .ref h3, .ref h4, .ref h5, .ref h6, .int f3, .ref h7, .ref h8, .ref h9, .int f4, .ref h10, .ref h11, .ref h12, .ref h13, .ref h14, .ref h15, .ref h16, .ref h17, .ref h18, .ref h19, .ref h20, .ref h21, .ref h22])), (h2, .inl (zI g, 60, .inl Z1))] := hD
            refine lv_aload_n hx hb dX5_lawFault_74 rfl (lv_at hl 1 rfl) ?_
            refine z_calli (wr := [(h3, .inl (zI g, 5, .inl G1_0))]) hP hD hS hA [1, 2] [0] (by decide) rfl rfl (by decide) (va_runV (As := []) (rest := []) ⟨hx, hb, hml, hown, hts⟩ (gX5_ahead l g h0 h1 h2 h3 h4 h5 h6 h7 h8 h9 h10 h11 h12 h13 h14 h15 h16 h17 h18 h19 h20 h21 h22 H.size f0 f1 y18 f3 f4 Z1 (by constructor <;> omega) (by constructor <;> omega)) ⟨callB_of 0 hts (zGood m_o_yX5_ahead) rfl rfl rfl (hts _ m_z_RX5) (hts _ m_m_RX5_121) ⟨by decide +kernel, by decide +kernel, by decide +kernel⟩ ⟨Nat.le_of_ble_eq_true rfl, Nat.le_of_ble_eq_true rfl⟩, hts _ m_i_yX5_ahead, hts _ m_e_yX5_ahead⟩ (zPreV hK hN hZ hP hD hS hA [1, 2] (by decide) rfl rfl 5 1 rfl rfl) rfl rfl hl.1 rfl (lv_room (Nat.le_of_ble_eq_true rfl)) dX5_lawFault_75 ⟨Nat.le_of_ble_eq_true rfl, Nat.le_of_ble_eq_true rfl⟩) (fun r u H locs hw hP hD hS => ?_)
            obtain ⟨w19, rfl⟩ : ∃ z, z = u := ⟨_, rfl⟩
            obtain ⟨hw, hI20⟩ := hw
            obtain ⟨hI20a, hI20b⟩ := hI20
            obtain ⟨y21, rfl⟩ : ∃ z, z = r := ⟨_, rfl⟩
            obtain ⟨q22_0, q22_1, q22_2, q22_3, q22_4⟩ := hw
            have q22_0 : (y21.toInt = -1 ∨ w19.toInt < f1.toInt) := q22_0
            have q22_1 : y18.toInt ≤ w19.toInt := q22_1
            have q22_2 : w19.toInt = zsk Z1 f1.toInt y18.toInt := q22_2
            have q22_3 : (w19.toInt < f1.toInt → y21.toInt = zc Z1 w19.toInt) := q22_3
            have q22_4 : (f1.toInt ≤ w19.toInt → y21.toInt = -1) := q22_4
            have hP : va_P g.1 vwCl [(h3, .inl (zI g, 5, .inl G1_0)), (h0, .inr (5, [.ref h1, .int f0, .ref h2, .int f1, .int w19, .ref h3, .ref h4, .ref h5, .ref h6, .int f3, .ref h7, .ref h8, .ref h9, .int f4, .ref h10, .ref h11, .ref h12, .ref h13, .ref h14, .ref h15, .ref h16, .ref h17, .ref h18, .ref h19, .ref h20, .ref h21, .ref h22])), (h2, .inl (zI g, 60, .inl Z1))] H := hP
            have hD : va_D A [(h3, .inl (zI g, 5, .inl G1_0)), (h0, .inr (5, [.ref h1, .int f0, .ref h2, .int f1, .int w19, .ref h3, .ref h4, .ref h5, .ref h6, .int f3, .ref h7, .ref h8, .ref h9, .int f4, .ref h10, .ref h11, .ref h12, .ref h13, .ref h14, .ref h15, .ref h16, .ref h17, .ref h18, .ref h19, .ref h20, .ref h21, .ref h22])), (h2, .inl (zI g, 60, .inl Z1))] := hD
            refine lv_i2l (v := y21.toInt64) hx hb dX5_lawFault_78 rfl ?_
            refine lv_ldc2 (v := 48) hx hb hown (hts _ m_k_RX5_128) dX5_lawFault_79 ?_
            refine lv_ldc2 (v := 57) hx hb hown (hts _ m_k_RX5_130) dX5_lawFault_82 ?_
            refine z_calli (wr := [(h3, .inl (zI g, 5, .inl G1_0)), (h0, .inr (5, [.ref h1, .int f0, .ref h2, .int f1, .int w19, .ref h3, .ref h4, .ref h5, .ref h6, .int f3, .ref h7, .ref h8, .ref h9, .int f4, .ref h10, .ref h11, .ref h12, .ref h13, .ref h14, .ref h15, .ref h16, .ref h17, .ref h18, .ref h19, .ref h20, .ref h21, .ref h22])), (h2, .inl (zI g, 60, .inl Z1))]) hP hD hS hA [] [0, 1, 2] (by decide) rfl rfl (by decide) (va_runS (As := [.long y21.toInt64, .long 48, .long 57]) (rest := []) ⟨hx, hb, hml, hown, hts⟩ (gX5_in l g  H.size y21.toInt64 (48 : Int64) (57 : Int64)) ⟨callB_of 3 hts (zGood m_o_yX5_in) rfl rfl rfl (hts _ m_z_RX5) (hts _ m_m_RX5_77) ⟨by decide +kernel, by decide +kernel, by decide +kernel⟩ ⟨Nat.le_of_ble_eq_true rfl, Nat.le_of_ble_eq_true rfl⟩, hts _ m_s_yX5_in⟩ (zPreS hK hN hZ hP hD hS hA [] (by decide) rfl rfl) rfl rfl hl.1 rfl (lv_room (Nat.le_of_ble_eq_true rfl)) dX5_lawFault_85 ⟨Nat.le_of_ble_eq_true rfl, Nat.le_of_ble_eq_true rfl⟩) (fun r u H locs hw hP hD hS => ?_)
            rcases hw with ⟨i_4, rfl⟩ | ⟨i_5, i_6, rfl⟩ | ⟨i_7, i_8, rfl⟩
            · skip
              have i_4 : y21.toInt < 48 := by (try simp only [Int32.toInt_toInt64] at i_4); exact i_4
              have hP : va_P g.1 vwCl [(h3, .inl (zI g, 5, .inl G1_0)), (h0, .inr (5, [.ref h1, .int f0, .ref h2, .int f1, .int w19, .ref h3, .ref h4, .ref h5, .ref h6, .int f3, .ref h7, .ref h8, .ref h9, .int f4, .ref h10, .ref h11, .ref h12, .ref h13, .ref h14, .ref h15, .ref h16, .ref h17, .ref h18, .ref h19, .ref h20, .ref h21, .ref h22])), (h2, .inl (zI g, 60, .inl Z1))] H := hP
              have hD : va_D A [(h3, .inl (zI g, 5, .inl G1_0)), (h0, .inr (5, [.ref h1, .int f0, .ref h2, .int f1, .int w19, .ref h3, .ref h4, .ref h5, .ref h6, .int f3, .ref h7, .ref h8, .ref h9, .int f4, .ref h10, .ref h11, .ref h12, .ref h13, .ref h14, .ref h15, .ref h16, .ref h17, .ref h18, .ref h19, .ref h20, .ref h21, .ref h22])), (h2, .inl (zI g, 60, .inl Z1))] := hD
              refine lv_if_ne (tgt := 96) hx hb dX5_lawFault_88 (by decide) (fun h => absurd h (by decide +kernel)) (fun _ => ?_)
              refine lv_aload_n hx hb dX5_lawFault_91 rfl (lv_at hl 1 rfl) ?_
              refine va_get (D := g.1) (ci := 5) (v := .int w19) (C := RX5) (T := TX5) (N := 27) hx hb hts zl_X5 hown hK hP 1 rfl rfl 4 (by decide) (hts _ m_f_RX5_118) (fun _ h => h) rfl dX5_lawFault_92 ?_
              have hP9 := hP.sub (ws' := [(h0, .inr (5, [.ref h1, .int f0, .ref h2, .int f1, .int w19, .ref h3, .ref h4, .ref h5, .ref h6, .int f3, .ref h7, .ref h8, .ref h9, .int f4, .ref h10, .ref h11, .ref h12, .ref h13, .ref h14, .ref h15, .ref h16, .ref h17, .ref h18, .ref h19, .ref h20, .ref h21, .ref h22])), (h2, .inl (zI g, 60, .inl Z1)), (h3, .inl (zI g, 5, .inl G1_0))]) [1, 2, 0] rfl
              have hD9 := hD.sub (ws' := [(h0, .inr (5, [.ref h1, .int f0, .ref h2, .int f1, .int w19, .ref h3, .ref h4, .ref h5, .ref h6, .int f3, .ref h7, .ref h8, .ref h9, .int f4, .ref h10, .ref h11, .ref h12, .ref h13, .ref h14, .ref h15, .ref h16, .ref h17, .ref h18, .ref h19, .ref h20, .ref h21, .ref h22])), (h2, .inl (zI g, 60, .inl Z1)), (h3, .inl (zI g, 5, .inl G1_0))]) [1, 2, 0] (by decide) rfl
              exact W.iret (v := w19) hx hb hr (fun t ht hW => ⟨⟨w19, ⟨w19, G1_0⟩, rfl, ⟨⟨(by first | omega | decide), (by first | omega | decide)⟩, ⟨show 0 ≤ w19.toInt from by omega, show w19.toInt ≤ 60 from by omega⟩, hG1_0⟩, by rw [ht]; exact hP9, hD9⟩, hS.F ht⟩) hS.2.2 dX5_lawFault_95
            · skip
              have i_5 : 48 ≤ y21.toInt := by (try simp only [Int32.toInt_toInt64] at i_5); exact i_5
              have i_6 : 57 < y21.toInt := by (try simp only [Int32.toInt_toInt64] at i_6); exact i_6
              have hP : va_P g.1 vwCl [(h3, .inl (zI g, 5, .inl G1_0)), (h0, .inr (5, [.ref h1, .int f0, .ref h2, .int f1, .int w19, .ref h3, .ref h4, .ref h5, .ref h6, .int f3, .ref h7, .ref h8, .ref h9, .int f4, .ref h10, .ref h11, .ref h12, .ref h13, .ref h14, .ref h15, .ref h16, .ref h17, .ref h18, .ref h19, .ref h20, .ref h21, .ref h22])), (h2, .inl (zI g, 60, .inl Z1))] H := hP
              have hD : va_D A [(h3, .inl (zI g, 5, .inl G1_0)), (h0, .inr (5, [.ref h1, .int f0, .ref h2, .int f1, .int w19, .ref h3, .ref h4, .ref h5, .ref h6, .int f3, .ref h7, .ref h8, .ref h9, .int f4, .ref h10, .ref h11, .ref h12, .ref h13, .ref h14, .ref h15, .ref h16, .ref h17, .ref h18, .ref h19, .ref h20, .ref h21, .ref h22])), (h2, .inl (zI g, 60, .inl Z1))] := hD
              refine lv_if_ne (tgt := 96) hx hb dX5_lawFault_88 (by decide) (fun h => absurd h (by decide +kernel)) (fun _ => ?_)
              refine lv_aload_n hx hb dX5_lawFault_91 rfl (lv_at hl 1 rfl) ?_
              refine va_get (D := g.1) (ci := 5) (v := .int w19) (C := RX5) (T := TX5) (N := 27) hx hb hts zl_X5 hown hK hP 1 rfl rfl 4 (by decide) (hts _ m_f_RX5_118) (fun _ h => h) rfl dX5_lawFault_92 ?_
              have hP9 := hP.sub (ws' := [(h0, .inr (5, [.ref h1, .int f0, .ref h2, .int f1, .int w19, .ref h3, .ref h4, .ref h5, .ref h6, .int f3, .ref h7, .ref h8, .ref h9, .int f4, .ref h10, .ref h11, .ref h12, .ref h13, .ref h14, .ref h15, .ref h16, .ref h17, .ref h18, .ref h19, .ref h20, .ref h21, .ref h22])), (h2, .inl (zI g, 60, .inl Z1)), (h3, .inl (zI g, 5, .inl G1_0))]) [1, 2, 0] rfl
              have hD9 := hD.sub (ws' := [(h0, .inr (5, [.ref h1, .int f0, .ref h2, .int f1, .int w19, .ref h3, .ref h4, .ref h5, .ref h6, .int f3, .ref h7, .ref h8, .ref h9, .int f4, .ref h10, .ref h11, .ref h12, .ref h13, .ref h14, .ref h15, .ref h16, .ref h17, .ref h18, .ref h19, .ref h20, .ref h21, .ref h22])), (h2, .inl (zI g, 60, .inl Z1)), (h3, .inl (zI g, 5, .inl G1_0))]) [1, 2, 0] (by decide) rfl
              exact W.iret (v := w19) hx hb hr (fun t ht hW => ⟨⟨w19, ⟨w19, G1_0⟩, rfl, ⟨⟨(by first | omega | decide), (by first | omega | decide)⟩, ⟨show 0 ≤ w19.toInt from by omega, show w19.toInt ≤ 60 from by omega⟩, hG1_0⟩, by rw [ht]; exact hP9, hD9⟩, hS.F ht⟩) hS.2.2 dX5_lawFault_95
            · skip
              have i_7 : 48 ≤ y21.toInt := by (try simp only [Int32.toInt_toInt64] at i_7); exact i_7
              have i_8 : y21.toInt ≤ 57 := by (try simp only [Int32.toInt_toInt64] at i_8); exact i_8
              have hP : va_P g.1 vwCl [(h3, .inl (zI g, 5, .inl G1_0)), (h0, .inr (5, [.ref h1, .int f0, .ref h2, .int f1, .int w19, .ref h3, .ref h4, .ref h5, .ref h6, .int f3, .ref h7, .ref h8, .ref h9, .int f4, .ref h10, .ref h11, .ref h12, .ref h13, .ref h14, .ref h15, .ref h16, .ref h17, .ref h18, .ref h19, .ref h20, .ref h21, .ref h22])), (h2, .inl (zI g, 60, .inl Z1))] H := hP
              have hD : va_D A [(h3, .inl (zI g, 5, .inl G1_0)), (h0, .inr (5, [.ref h1, .int f0, .ref h2, .int f1, .int w19, .ref h3, .ref h4, .ref h5, .ref h6, .int f3, .ref h7, .ref h8, .ref h9, .int f4, .ref h10, .ref h11, .ref h12, .ref h13, .ref h14, .ref h15, .ref h16, .ref h17, .ref h18, .ref h19, .ref h20, .ref h21, .ref h22])), (h2, .inl (zI g, 60, .inl Z1))] := hD
              refine lv_if_ne (tgt := 96) hx hb dX5_lawFault_88 (by decide) (fun _ => ?_) (fun h => absurd h (by decide +kernel))
              refine lv_aload_n hx hb dX5_lawFault_96 rfl (lv_at hl 1 rfl) ?_
              refine va_get (D := g.1) (ci := 5) (v := .int w19) (C := RX5) (T := TX5) (N := 27) hx hb hts zl_X5 hown hK hP 1 rfl rfl 4 (by decide) (hts _ m_f_RX5_118) (fun _ h => h) rfl dX5_lawFault_97 ?_
              refine lv_istore_n (lv' := [(3, .int w19), (2, .int y15), (0, .ref h0), (1, .int v1_0)]) hx hb dX5_lawFault_100 rfl hl (by decide) rfl (fun ls hl => ?_)
              refine lv_iconst (v := 0) hx hb dX5_lawFault_101 (by decide) ?_
              refine lv_istore (lv' := [(4, .int 0), (3, .int w19), (2, .int y15), (0, .ref h0), (1, .int v1_0)]) hx hb dX5_lawFault_102 hl (by decide) rfl (fun ls hl => ?_)
              have loop104_9 : ∀ (n10 : Nat) (v4_9 : Int32) (g0_9 : Int32) (hg0_9a : 0 ≤ g0_9.toInt) (hg0_9b : g0_9.toInt ≤ 60) (n10_0 : 0 ≤ v4_9.toInt) (n10_1 : v4_9.toInt ≤ 1000) (n10_2 : w19.toInt ≤ g0_9.toInt) (hm10 : 60 - g0_9.toInt < (n10 : Int)) (H : Heap) (locs : List Loc), va_P g.1 vwCl [(h3, .inl (zI g, 5, .inl G1_0)), (h0, .inr (5, [.ref h1, .int f0, .ref h2, .int f1, .int g0_9, .ref h3, .ref h4, .ref h5, .ref h6, .int f3, .ref h7, .ref h8, .ref h9, .int f4, .ref h10, .ref h11, .ref h12, .ref h13, .ref h14, .ref h15, .ref h16, .ref h17, .ref h18, .ref h19, .ref h20, .ref h21, .ref h22])), (h2, .inl (zI g, 60, .inl Z1))] H → va_D A [(h3, .inl (zI g, 5, .inl G1_0)), (h0, .inr (5, [.ref h1, .int f0, .ref h2, .int f1, .int g0_9, .ref h3, .ref h4, .ref h5, .ref h6, .int f3, .ref h7, .ref h8, .ref h9, .int f4, .ref h10, .ref h11, .ref h12, .ref h13, .ref h14, .ref h15, .ref h16, .ref h17, .ref h18, .ref h19, .ref h20, .ref h21, .ref h22])), (h2, .inl (zI g, 60, .inl Z1))] → va_S A s.heap H locs → ∀ (ls : Array Slot), lv_has ls 5 [(0, .ref h0), (1, .int v1_0), (2, .int y15), (3, .int w19), (4, .int v4_9)] → W p l e ({ frames := 1, cells := 0, slots := 0, locals := 25 }) s m args below meth c H locs 0 0 (MQ below (va_Qi (fun (r : Int32) (u : Int32 × (Nat → Int32)) => (-1 ≤ r.toInt ∧ r.toInt ≤ 60) ∧ (0 ≤ u.1.toInt ∧ u.1.toInt ≤ 60) ∧ iMeant u.2) (zPost g (fun u : Int32 × (Nat → Int32) => [(h0, .inr (5, [.ref h1, .int f0, .ref h2, .int f1, .int u.1, .ref h3, .ref h4, .ref h5, .ref h6, .int f3, .ref h7, .ref h8, .ref h9, .int f4, .ref h10, .ref h11, .ref h12, .ref h13, .ref h14, .ref h15, .ref h16, .ref h17, .ref h18, .ref h19, .ref h20, .ref h21, .ref h22])), (h2, .inl (zI g, 60, .inl Z1)), (h3, .inl (zI g, 5, .inl u.2))]) A) A) args s 0 0 A) (F0 m 104 ls []) := by
                intro n10
                induction n10 with
                | zero => intro v4_9 g0_9 hg0_9a hg0_9b n10_0 n10_1 n10_2 hm10; exfalso; omega
                | succ n10 ih10 =>
                  intro v4_9 g0_9 hg0_9a hg0_9b n10_0 n10_1 n10_2 hm10 H locs hP hD hS ls hl
                  refine lv_aload_n hx hb dX5_lawFault_104 rfl (lv_at hl 0 rfl) ?_
                  refine va_get (D := g.1) (ci := 5) (v := .int g0_9) (C := RX5) (T := TX5) (N := 27) hx hb hts zl_X5 hown hK hP 1 rfl rfl 4 (by decide) (hts _ m_f_RX5_118) (fun _ h => h) rfl dX5_lawFault_105 ?_
                  refine lv_aload_n hx hb dX5_lawFault_108 rfl (lv_at hl 0 rfl) ?_
                  refine va_get (D := g.1) (ci := 5) (v := .int f1) (C := RX5) (T := TX5) (N := 27) hx hb hts zl_X5 hown hK hP 1 rfl rfl 3 (by decide) (hts _ m_f_RX5_114) (fun _ h => h) rfl dX5_lawFault_109 ?_
                  refine lv_icmp_ge (tgt := 176) hx hb dX5_lawFault_112 (by decide) (fun c_10 => ?_) (fun c_10 => ?_)
                  · have i_10 : f1.toInt ≤ g0_9.toInt := z_le (rfl) (rfl) c_10
                    refine lv_iload hx hb dX5_lawFault_176 (lv_at hl 4 rfl) ?_
                    refine lv_i2l (v := v4_9.toInt64) hx hb dX5_lawFault_178 rfl ?_
                    refine lv_iload_n hx hb dX5_lawFault_179 rfl (lv_at hl 2 rfl) ?_
                    refine z_calli (wr := [(h3, .inl (zI g, 5, .inl G1_0)), (h0, .inr (5, [.ref h1, .int f0, .ref h2, .int f1, .int g0_9, .ref h3, .ref h4, .ref h5, .ref h6, .int f3, .ref h7, .ref h8, .ref h9, .int f4, .ref h10, .ref h11, .ref h12, .ref h13, .ref h14, .ref h15, .ref h16, .ref h17, .ref h18, .ref h19, .ref h20, .ref h21, .ref h22])), (h2, .inl (zI g, 60, .inl Z1))]) hP hD hS hA [] [0, 1, 2] (by decide) rfl rfl (by decide) (va_runS (As := [.int y15]) (rest := [.long v4_9.toInt64]) ⟨hx, hb, hml, hown, hts⟩ (gX5_leastOf l g  H.size y15) ⟨callB_of 1 hts (zGood m_o_yX5_leastOf) rfl rfl rfl (hts _ m_z_RX5) (hts _ m_m_RX5_83) ⟨by decide +kernel, by decide +kernel, by decide +kernel⟩ ⟨Nat.le_of_ble_eq_true rfl, Nat.le_of_ble_eq_true rfl⟩, hts _ m_s_yX5_leastOf⟩ (zPreS hK hN hZ hP hD hS hA [] (by decide) rfl rfl) rfl rfl hl.1 rfl (lv_room (Nat.le_of_ble_eq_true rfl)) dX5_lawFault_180 ⟨Nat.le_of_ble_eq_true rfl, Nat.le_of_ble_eq_true rfl⟩) (fun r u H locs hw hP hD hS => ?_)
                    obtain ⟨y23, rfl⟩ : ∃ z, z = r := ⟨_, rfl⟩
                    obtain ⟨q24_0, q24_1, q24_2⟩ := hw
                    have q24_0 : 0 ≤ y23.toInt := q24_0
                    have q24_1 : y23.toInt ≤ 1 := q24_1
                    have q24_2 : (y15.toInt < 2 → y23.toInt = 1) := q24_2
                    have hP : va_P g.1 vwCl [(h3, .inl (zI g, 5, .inl G1_0)), (h0, .inr (5, [.ref h1, .int f0, .ref h2, .int f1, .int g0_9, .ref h3, .ref h4, .ref h5, .ref h6, .int f3, .ref h7, .ref h8, .ref h9, .int f4, .ref h10, .ref h11, .ref h12, .ref h13, .ref h14, .ref h15, .ref h16, .ref h17, .ref h18, .ref h19, .ref h20, .ref h21, .ref h22])), (h2, .inl (zI g, 60, .inl Z1))] H := hP
                    have hD : va_D A [(h3, .inl (zI g, 5, .inl G1_0)), (h0, .inr (5, [.ref h1, .int f0, .ref h2, .int f1, .int g0_9, .ref h3, .ref h4, .ref h5, .ref h6, .int f3, .ref h7, .ref h8, .ref h9, .int f4, .ref h10, .ref h11, .ref h12, .ref h13, .ref h14, .ref h15, .ref h16, .ref h17, .ref h18, .ref h19, .ref h20, .ref h21, .ref h22])), (h2, .inl (zI g, 60, .inl Z1))] := hD
                    refine lv_i2l (v := y23.toInt64) hx hb dX5_lawFault_183 rfl ?_
                    refine lv_iload_n hx hb dX5_lawFault_184 rfl (lv_at hl 2 rfl) ?_
                    refine z_calli (wr := [(h3, .inl (zI g, 5, .inl G1_0)), (h0, .inr (5, [.ref h1, .int f0, .ref h2, .int f1, .int g0_9, .ref h3, .ref h4, .ref h5, .ref h6, .int f3, .ref h7, .ref h8, .ref h9, .int f4, .ref h10, .ref h11, .ref h12, .ref h13, .ref h14, .ref h15, .ref h16, .ref h17, .ref h18, .ref h19, .ref h20, .ref h21, .ref h22])), (h2, .inl (zI g, 60, .inl Z1))]) hP hD hS hA [] [0, 1, 2] (by decide) rfl rfl (by decide) (va_runS (As := [.int y15]) (rest := [.long y23.toInt64, .long v4_9.toInt64]) ⟨hx, hb, hml, hown, hts⟩ (gX5_mostOf l g  H.size y15) ⟨callB_of 1 hts (zGood m_o_yX5_mostOf) rfl rfl rfl (hts _ m_z_RX5) (hts _ m_m_RX5_87) ⟨by decide +kernel, by decide +kernel, by decide +kernel⟩ ⟨Nat.le_of_ble_eq_true rfl, Nat.le_of_ble_eq_true rfl⟩, hts _ m_s_yX5_mostOf⟩ (zPreS hK hN hZ hP hD hS hA [] (by decide) rfl rfl) rfl rfl hl.1 rfl (lv_room (Nat.le_of_ble_eq_true rfl)) dX5_lawFault_185 ⟨Nat.le_of_ble_eq_true rfl, Nat.le_of_ble_eq_true rfl⟩) (fun r u H locs hw hP hD hS => ?_)
                    obtain ⟨y25, rfl⟩ : ∃ z, z = r := ⟨_, rfl⟩
                    obtain ⟨q26_0, q26_1, q26_2⟩ := hw
                    have q26_0 : y25.toInt ≤ 99 := q26_0
                    have q26_1 : 1 ≤ y25.toInt := q26_1
                    have q26_2 : (y15.toInt = 1 → y25.toInt = 9) := q26_2
                    have hP : va_P g.1 vwCl [(h3, .inl (zI g, 5, .inl G1_0)), (h0, .inr (5, [.ref h1, .int f0, .ref h2, .int f1, .int g0_9, .ref h3, .ref h4, .ref h5, .ref h6, .int f3, .ref h7, .ref h8, .ref h9, .int f4, .ref h10, .ref h11, .ref h12, .ref h13, .ref h14, .ref h15, .ref h16, .ref h17, .ref h18, .ref h19, .ref h20, .ref h21, .ref h22])), (h2, .inl (zI g, 60, .inl Z1))] H := hP
                    have hD : va_D A [(h3, .inl (zI g, 5, .inl G1_0)), (h0, .inr (5, [.ref h1, .int f0, .ref h2, .int f1, .int g0_9, .ref h3, .ref h4, .ref h5, .ref h6, .int f3, .ref h7, .ref h8, .ref h9, .int f4, .ref h10, .ref h11, .ref h12, .ref h13, .ref h14, .ref h15, .ref h16, .ref h17, .ref h18, .ref h19, .ref h20, .ref h21, .ref h22])), (h2, .inl (zI g, 60, .inl Z1))] := hD
                    refine lv_i2l (v := y25.toInt64) hx hb dX5_lawFault_188 rfl ?_
                    refine z_calli (wr := [(h3, .inl (zI g, 5, .inl G1_0)), (h0, .inr (5, [.ref h1, .int f0, .ref h2, .int f1, .int g0_9, .ref h3, .ref h4, .ref h5, .ref h6, .int f3, .ref h7, .ref h8, .ref h9, .int f4, .ref h10, .ref h11, .ref h12, .ref h13, .ref h14, .ref h15, .ref h16, .ref h17, .ref h18, .ref h19, .ref h20, .ref h21, .ref h22])), (h2, .inl (zI g, 60, .inl Z1))]) hP hD hS hA [] [0, 1, 2] (by decide) rfl rfl (by decide) (va_runS (As := [.long v4_9.toInt64, .long y23.toInt64, .long y25.toInt64]) (rest := []) ⟨hx, hb, hml, hown, hts⟩ (gX5_in l g  H.size v4_9.toInt64 y23.toInt64 y25.toInt64) ⟨callB_of 3 hts (zGood m_o_yX5_in) rfl rfl rfl (hts _ m_z_RX5) (hts _ m_m_RX5_77) ⟨by decide +kernel, by decide +kernel, by decide +kernel⟩ ⟨Nat.le_of_ble_eq_true rfl, Nat.le_of_ble_eq_true rfl⟩, hts _ m_s_yX5_in⟩ (zPreS hK hN hZ hP hD hS hA [] (by decide) rfl rfl) rfl rfl hl.1 rfl (lv_room (Nat.le_of_ble_eq_true rfl)) dX5_lawFault_189 ⟨Nat.le_of_ble_eq_true rfl, Nat.le_of_ble_eq_true rfl⟩) (fun r u H locs hw hP hD hS => ?_)
                    rcases hw with ⟨i_11, rfl⟩ | ⟨i_12, i_13, rfl⟩ | ⟨i_14, i_15, rfl⟩
                    · skip
                      have i_11 : v4_9.toInt < y23.toInt := by simpa only [Int32.toInt_toInt64] using i_11
                      have hP : va_P g.1 vwCl [(h3, .inl (zI g, 5, .inl G1_0)), (h0, .inr (5, [.ref h1, .int f0, .ref h2, .int f1, .int g0_9, .ref h3, .ref h4, .ref h5, .ref h6, .int f3, .ref h7, .ref h8, .ref h9, .int f4, .ref h10, .ref h11, .ref h12, .ref h13, .ref h14, .ref h15, .ref h16, .ref h17, .ref h18, .ref h19, .ref h20, .ref h21, .ref h22])), (h2, .inl (zI g, 60, .inl Z1))] H := hP
                      have hD : va_D A [(h3, .inl (zI g, 5, .inl G1_0)), (h0, .inr (5, [.ref h1, .int f0, .ref h2, .int f1, .int g0_9, .ref h3, .ref h4, .ref h5, .ref h6, .int f3, .ref h7, .ref h8, .ref h9, .int f4, .ref h10, .ref h11, .ref h12, .ref h13, .ref h14, .ref h15, .ref h16, .ref h17, .ref h18, .ref h19, .ref h20, .ref h21, .ref h22])), (h2, .inl (zI g, 60, .inl Z1))] := hD
                      refine lv_if_ne (tgt := 197) hx hb dX5_lawFault_192 (by decide) (fun h => absurd h (by decide +kernel)) (fun _ => ?_)
                      refine lv_iload_n hx hb dX5_lawFault_195 rfl (lv_at hl 3 rfl) ?_
                      have hP9 := hP.sub (ws' := [(h0, .inr (5, [.ref h1, .int f0, .ref h2, .int f1, .int g0_9, .ref h3, .ref h4, .ref h5, .ref h6, .int f3, .ref h7, .ref h8, .ref h9, .int f4, .ref h10, .ref h11, .ref h12, .ref h13, .ref h14, .ref h15, .ref h16, .ref h17, .ref h18, .ref h19, .ref h20, .ref h21, .ref h22])), (h2, .inl (zI g, 60, .inl Z1)), (h3, .inl (zI g, 5, .inl G1_0))]) [1, 2, 0] rfl
                      have hD9 := hD.sub (ws' := [(h0, .inr (5, [.ref h1, .int f0, .ref h2, .int f1, .int g0_9, .ref h3, .ref h4, .ref h5, .ref h6, .int f3, .ref h7, .ref h8, .ref h9, .int f4, .ref h10, .ref h11, .ref h12, .ref h13, .ref h14, .ref h15, .ref h16, .ref h17, .ref h18, .ref h19, .ref h20, .ref h21, .ref h22])), (h2, .inl (zI g, 60, .inl Z1)), (h3, .inl (zI g, 5, .inl G1_0))]) [1, 2, 0] (by decide) rfl
                      exact W.iret (v := w19) hx hb hr (fun t ht hW => ⟨⟨w19, ⟨g0_9, G1_0⟩, rfl, ⟨⟨(by first | omega | decide), (by first | omega | decide)⟩, ⟨show 0 ≤ g0_9.toInt from by omega, show g0_9.toInt ≤ 60 from by omega⟩, hG1_0⟩, by rw [ht]; exact hP9, hD9⟩, hS.F ht⟩) hS.2.2 dX5_lawFault_196
                    · skip
                      have i_12 : y23.toInt ≤ v4_9.toInt := by simpa only [Int32.toInt_toInt64] using i_12
                      have i_13 : y25.toInt < v4_9.toInt := by simpa only [Int32.toInt_toInt64] using i_13
                      have hP : va_P g.1 vwCl [(h3, .inl (zI g, 5, .inl G1_0)), (h0, .inr (5, [.ref h1, .int f0, .ref h2, .int f1, .int g0_9, .ref h3, .ref h4, .ref h5, .ref h6, .int f3, .ref h7, .ref h8, .ref h9, .int f4, .ref h10, .ref h11, .ref h12, .ref h13, .ref h14, .ref h15, .ref h16, .ref h17, .ref h18, .ref h19, .ref h20, .ref h21, .ref h22])), (h2, .inl (zI g, 60, .inl Z1))] H := hP
                      have hD : va_D A [(h3, .inl (zI g, 5, .inl G1_0)), (h0, .inr (5, [.ref h1, .int f0, .ref h2, .int f1, .int g0_9, .ref h3, .ref h4, .ref h5, .ref h6, .int f3, .ref h7, .ref h8, .ref h9, .int f4, .ref h10, .ref h11, .ref h12, .ref h13, .ref h14, .ref h15, .ref h16, .ref h17, .ref h18, .ref h19, .ref h20, .ref h21, .ref h22])), (h2, .inl (zI g, 60, .inl Z1))] := hD
                      refine lv_if_ne (tgt := 197) hx hb dX5_lawFault_192 (by decide) (fun h => absurd h (by decide +kernel)) (fun _ => ?_)
                      refine lv_iload_n hx hb dX5_lawFault_195 rfl (lv_at hl 3 rfl) ?_
                      have hP9 := hP.sub (ws' := [(h0, .inr (5, [.ref h1, .int f0, .ref h2, .int f1, .int g0_9, .ref h3, .ref h4, .ref h5, .ref h6, .int f3, .ref h7, .ref h8, .ref h9, .int f4, .ref h10, .ref h11, .ref h12, .ref h13, .ref h14, .ref h15, .ref h16, .ref h17, .ref h18, .ref h19, .ref h20, .ref h21, .ref h22])), (h2, .inl (zI g, 60, .inl Z1)), (h3, .inl (zI g, 5, .inl G1_0))]) [1, 2, 0] rfl
                      have hD9 := hD.sub (ws' := [(h0, .inr (5, [.ref h1, .int f0, .ref h2, .int f1, .int g0_9, .ref h3, .ref h4, .ref h5, .ref h6, .int f3, .ref h7, .ref h8, .ref h9, .int f4, .ref h10, .ref h11, .ref h12, .ref h13, .ref h14, .ref h15, .ref h16, .ref h17, .ref h18, .ref h19, .ref h20, .ref h21, .ref h22])), (h2, .inl (zI g, 60, .inl Z1)), (h3, .inl (zI g, 5, .inl G1_0))]) [1, 2, 0] (by decide) rfl
                      exact W.iret (v := w19) hx hb hr (fun t ht hW => ⟨⟨w19, ⟨g0_9, G1_0⟩, rfl, ⟨⟨(by first | omega | decide), (by first | omega | decide)⟩, ⟨show 0 ≤ g0_9.toInt from by omega, show g0_9.toInt ≤ 60 from by omega⟩, hG1_0⟩, by rw [ht]; exact hP9, hD9⟩, hS.F ht⟩) hS.2.2 dX5_lawFault_196
                    · skip
                      have i_14 : y23.toInt ≤ v4_9.toInt := by simpa only [Int32.toInt_toInt64] using i_14
                      have i_15 : v4_9.toInt ≤ y25.toInt := by simpa only [Int32.toInt_toInt64] using i_15
                      have hP : va_P g.1 vwCl [(h3, .inl (zI g, 5, .inl G1_0)), (h0, .inr (5, [.ref h1, .int f0, .ref h2, .int f1, .int g0_9, .ref h3, .ref h4, .ref h5, .ref h6, .int f3, .ref h7, .ref h8, .ref h9, .int f4, .ref h10, .ref h11, .ref h12, .ref h13, .ref h14, .ref h15, .ref h16, .ref h17, .ref h18, .ref h19, .ref h20, .ref h21, .ref h22])), (h2, .inl (zI g, 60, .inl Z1))] H := hP
                      have hD : va_D A [(h3, .inl (zI g, 5, .inl G1_0)), (h0, .inr (5, [.ref h1, .int f0, .ref h2, .int f1, .int g0_9, .ref h3, .ref h4, .ref h5, .ref h6, .int f3, .ref h7, .ref h8, .ref h9, .int f4, .ref h10, .ref h11, .ref h12, .ref h13, .ref h14, .ref h15, .ref h16, .ref h17, .ref h18, .ref h19, .ref h20, .ref h21, .ref h22])), (h2, .inl (zI g, 60, .inl Z1))] := hD
                      refine lv_if_ne (tgt := 197) hx hb dX5_lawFault_192 (by decide) (fun _ => ?_) (fun h => absurd h (by decide +kernel))
                      refine lv_aload_n hx hb dX5_lawFault_197 rfl (lv_at hl 0 rfl) ?_
                      refine va_get (D := g.1) (ci := 5) (v := .ref h3) (C := RX5) (T := TX5) (N := 27) hx hb hts zl_X5 hown hK hP 1 rfl rfl 5 (by decide) (hts _ m_f_RX5_16) (fun _ h => h) rfl dX5_lawFault_198 ?_
                      refine lv_iload_n hx hb dX5_lawFault_201 rfl (lv_at hl 2 rfl) ?_
                      refine lv_iload hx hb dX5_lawFault_202 (lv_at hl 4 rfl) ?_
                      refine va_iast (D := g.1) hx hb hK hP hD hS 0 0 rfl rfl (vp_in_iff.mpr ⟨by omega, by omega⟩) dX5_lawFault_204 (fun H locs hP hD hS => ?_)
                      have hP : va_P g.1 vwCl [(h3, .inl (zI g, 5, .inl (upd G1_0 y15.toNatClampNeg v4_9))), (h0, .inr (5, [.ref h1, .int f0, .ref h2, .int f1, .int g0_9, .ref h3, .ref h4, .ref h5, .ref h6, .int f3, .ref h7, .ref h8, .ref h9, .int f4, .ref h10, .ref h11, .ref h12, .ref h13, .ref h14, .ref h15, .ref h16, .ref h17, .ref h18, .ref h19, .ref h20, .ref h21, .ref h22])), (h2, .inl (zI g, 60, .inl Z1))] H := hP
                      have hD : va_D A [(h3, .inl (zI g, 5, .inl (upd G1_0 y15.toNatClampNeg v4_9))), (h0, .inr (5, [.ref h1, .int f0, .ref h2, .int f1, .int g0_9, .ref h3, .ref h4, .ref h5, .ref h6, .int f3, .ref h7, .ref h8, .ref h9, .int f4, .ref h10, .ref h11, .ref h12, .ref h13, .ref h14, .ref h15, .ref h16, .ref h17, .ref h18, .ref h19, .ref h20, .ref h21, .ref h22])), (h2, .inl (zI g, 60, .inl Z1))] := hD
                      have hI27 : iMeant (upd G1_0 y15.toNatClampNeg v4_9) := iMeant_put (i := y15) (a := y15.toInt) (v := v4_9) (b := v4_9.toInt) hG1_0 (rfl) (rfl) (by omega) (by omega) (by omega) (by omega)
                      obtain ⟨R28, eR28⟩ : ∃ z : Nat → Int32, z = (upd G1_0 y15.toNatClampNeg v4_9) := ⟨_, rfl⟩
                      rw [← eR28] at hP hD hI27
                      have qR28 : (R28 y15.toNatClampNeg).toInt = v4_9.toInt := z_put eR28 (rfl)
                      obtain ⟨y29, ey29⟩ : ∃ z : Int32, z = v1_0 + 1 := ⟨_, rfl⟩
                      have qy29 : y29.toInt = v1_0.toInt + 1 := zi_add ey29 (rfl) rfl (by omega) (by omega)
                      refine lv_iinc (v := y29) (lv' := [(1, .int y29), (0, .ref h0), (2, .int y15), (3, .int w19), (4, .int v4_9)]) hx hb dX5_lawFault_205 hl (k := 1) rfl ey29.symm (by decide) rfl (fun ls hl => ?_)
                      refine lv_goto (tgt := 27) hx hb dX5_lawFault_208 (by decide) ?_
                      have hP := hP.sub (ws' := [(h0, .inr (5, [.ref h1, .int f0, .ref h2, .int f1, .int g0_9, .ref h3, .ref h4, .ref h5, .ref h6, .int f3, .ref h7, .ref h8, .ref h9, .int f4, .ref h10, .ref h11, .ref h12, .ref h13, .ref h14, .ref h15, .ref h16, .ref h17, .ref h18, .ref h19, .ref h20, .ref h21, .ref h22])), (h2, .inl (zI g, 60, .inl Z1)), (h3, .inl (zI g, 5, .inl R28))]) [1, 2, 0] rfl
                      have hD := hD.sub (ws' := [(h0, .inr (5, [.ref h1, .int f0, .ref h2, .int f1, .int g0_9, .ref h3, .ref h4, .ref h5, .ref h6, .int f3, .ref h7, .ref h8, .ref h9, .int f4, .ref h10, .ref h11, .ref h12, .ref h13, .ref h14, .ref h15, .ref h16, .ref h17, .ref h18, .ref h19, .ref h20, .ref h21, .ref h22])), (h2, .inl (zI g, 60, .inl Z1)), (h3, .inl (zI g, 5, .inl R28))]) [1, 2, 0] (by decide) rfl
                      exact ih1 y29 g0_9 R28 (by omega) (by omega) (hI27) (by omega) _ _ hP hD hS ls (lv_sub hl [1, 0] rfl)
                  · have i_10 : g0_9.toInt < f1.toInt := z_nle (rfl) (rfl) c_10
                    refine lv_aload_n hx hb dX5_lawFault_115 rfl (lv_at hl 0 rfl) ?_
                    refine va_get (D := g.1) (ci := 5) (v := .ref h2) (C := RX5) (T := TX5) (N := 27) hx hb hts zl_X5 hown hK hP 1 rfl rfl 2 (by decide) (hts _ m_f_RX5_13) (fun _ h => h) rfl dX5_lawFault_116 ?_
                    refine lv_aload_n hx hb dX5_lawFault_119 rfl (lv_at hl 0 rfl) ?_
                    refine va_get (D := g.1) (ci := 5) (v := .int g0_9) (C := RX5) (T := TX5) (N := 27) hx hb hts zl_X5 hown hK hP 1 rfl rfl 4 (by decide) (hts _ m_f_RX5_118) (fun _ h => h) rfl dX5_lawFault_120 ?_
                    refine va_iald (D := g.1) hx hb hK hP 2 0 rfl rfl (vp_in_iff.mpr ⟨by omega, by omega⟩) dX5_lawFault_123 ?_
                    refine lv_topi (fun y30 ey30 => ?_)
                    have qy30_0 : y30.toInt = (Z1 g0_9.toNatClampNeg).toInt := congrArg Int32.toInt ey30
                    refine lv_i2l (v := y30.toInt64) hx hb dX5_lawFault_124 rfl ?_
                    refine lv_ldc2 (v := 48) hx hb hown (hts _ m_k_RX5_128) dX5_lawFault_125 ?_
                    refine lv_ldc2 (v := 57) hx hb hown (hts _ m_k_RX5_130) dX5_lawFault_128 ?_
                    refine z_calli (wr := [(h3, .inl (zI g, 5, .inl G1_0)), (h0, .inr (5, [.ref h1, .int f0, .ref h2, .int f1, .int g0_9, .ref h3, .ref h4, .ref h5, .ref h6, .int f3, .ref h7, .ref h8, .ref h9, .int f4, .ref h10, .ref h11, .ref h12, .ref h13, .ref h14, .ref h15, .ref h16, .ref h17, .ref h18, .ref h19, .ref h20, .ref h21, .ref h22])), (h2, .inl (zI g, 60, .inl Z1))]) hP hD hS hA [] [0, 1, 2] (by decide) rfl rfl (by decide) (va_runS (As := [.long y30.toInt64, .long 48, .long 57]) (rest := []) ⟨hx, hb, hml, hown, hts⟩ (gX5_in l g  H.size y30.toInt64 (48 : Int64) (57 : Int64)) ⟨callB_of 3 hts (zGood m_o_yX5_in) rfl rfl rfl (hts _ m_z_RX5) (hts _ m_m_RX5_77) ⟨by decide +kernel, by decide +kernel, by decide +kernel⟩ ⟨Nat.le_of_ble_eq_true rfl, Nat.le_of_ble_eq_true rfl⟩, hts _ m_s_yX5_in⟩ (zPreS hK hN hZ hP hD hS hA [] (by decide) rfl rfl) rfl rfl hl.1 rfl (lv_room (Nat.le_of_ble_eq_true rfl)) dX5_lawFault_131 ⟨Nat.le_of_ble_eq_true rfl, Nat.le_of_ble_eq_true rfl⟩) (fun r u H locs hw hP hD hS => ?_)
                    rcases hw with ⟨i_16, rfl⟩ | ⟨i_17, i_18, rfl⟩ | ⟨i_19, i_20, rfl⟩
                    · skip
                      have i_16 : y30.toInt < 48 := by (try simp only [Int32.toInt_toInt64] at i_16); exact i_16
                      have hP : va_P g.1 vwCl [(h3, .inl (zI g, 5, .inl G1_0)), (h0, .inr (5, [.ref h1, .int f0, .ref h2, .int f1, .int g0_9, .ref h3, .ref h4, .ref h5, .ref h6, .int f3, .ref h7, .ref h8, .ref h9, .int f4, .ref h10, .ref h11, .ref h12, .ref h13, .ref h14, .ref h15, .ref h16, .ref h17, .ref h18, .ref h19, .ref h20, .ref h21, .ref h22])), (h2, .inl (zI g, 60, .inl Z1))] H := hP
                      have hD : va_D A [(h3, .inl (zI g, 5, .inl G1_0)), (h0, .inr (5, [.ref h1, .int f0, .ref h2, .int f1, .int g0_9, .ref h3, .ref h4, .ref h5, .ref h6, .int f3, .ref h7, .ref h8, .ref h9, .int f4, .ref h10, .ref h11, .ref h12, .ref h13, .ref h14, .ref h15, .ref h16, .ref h17, .ref h18, .ref h19, .ref h20, .ref h21, .ref h22])), (h2, .inl (zI g, 60, .inl Z1))] := hD
                      refine lv_if_eq (tgt := 176) hx hb dX5_lawFault_134 (by decide) (fun _ => ?_) (fun h => absurd h (by decide +kernel))
                      refine lv_iload hx hb dX5_lawFault_176 (lv_at hl 4 rfl) ?_
                      refine lv_i2l (v := v4_9.toInt64) hx hb dX5_lawFault_178 rfl ?_
                      refine lv_iload_n hx hb dX5_lawFault_179 rfl (lv_at hl 2 rfl) ?_
                      refine z_calli (wr := [(h3, .inl (zI g, 5, .inl G1_0)), (h0, .inr (5, [.ref h1, .int f0, .ref h2, .int f1, .int g0_9, .ref h3, .ref h4, .ref h5, .ref h6, .int f3, .ref h7, .ref h8, .ref h9, .int f4, .ref h10, .ref h11, .ref h12, .ref h13, .ref h14, .ref h15, .ref h16, .ref h17, .ref h18, .ref h19, .ref h20, .ref h21, .ref h22])), (h2, .inl (zI g, 60, .inl Z1))]) hP hD hS hA [] [0, 1, 2] (by decide) rfl rfl (by decide) (va_runS (As := [.int y15]) (rest := [.long v4_9.toInt64]) ⟨hx, hb, hml, hown, hts⟩ (gX5_leastOf l g  H.size y15) ⟨callB_of 1 hts (zGood m_o_yX5_leastOf) rfl rfl rfl (hts _ m_z_RX5) (hts _ m_m_RX5_83) ⟨by decide +kernel, by decide +kernel, by decide +kernel⟩ ⟨Nat.le_of_ble_eq_true rfl, Nat.le_of_ble_eq_true rfl⟩, hts _ m_s_yX5_leastOf⟩ (zPreS hK hN hZ hP hD hS hA [] (by decide) rfl rfl) rfl rfl hl.1 rfl (lv_room (Nat.le_of_ble_eq_true rfl)) dX5_lawFault_180 ⟨Nat.le_of_ble_eq_true rfl, Nat.le_of_ble_eq_true rfl⟩) (fun r u H locs hw hP hD hS => ?_)
                      obtain ⟨y31, rfl⟩ : ∃ z, z = r := ⟨_, rfl⟩
                      obtain ⟨q32_0, q32_1, q32_2⟩ := hw
                      have q32_0 : 0 ≤ y31.toInt := q32_0
                      have q32_1 : y31.toInt ≤ 1 := q32_1
                      have q32_2 : (y15.toInt < 2 → y31.toInt = 1) := q32_2
                      have hP : va_P g.1 vwCl [(h3, .inl (zI g, 5, .inl G1_0)), (h0, .inr (5, [.ref h1, .int f0, .ref h2, .int f1, .int g0_9, .ref h3, .ref h4, .ref h5, .ref h6, .int f3, .ref h7, .ref h8, .ref h9, .int f4, .ref h10, .ref h11, .ref h12, .ref h13, .ref h14, .ref h15, .ref h16, .ref h17, .ref h18, .ref h19, .ref h20, .ref h21, .ref h22])), (h2, .inl (zI g, 60, .inl Z1))] H := hP
                      have hD : va_D A [(h3, .inl (zI g, 5, .inl G1_0)), (h0, .inr (5, [.ref h1, .int f0, .ref h2, .int f1, .int g0_9, .ref h3, .ref h4, .ref h5, .ref h6, .int f3, .ref h7, .ref h8, .ref h9, .int f4, .ref h10, .ref h11, .ref h12, .ref h13, .ref h14, .ref h15, .ref h16, .ref h17, .ref h18, .ref h19, .ref h20, .ref h21, .ref h22])), (h2, .inl (zI g, 60, .inl Z1))] := hD
                      refine lv_i2l (v := y31.toInt64) hx hb dX5_lawFault_183 rfl ?_
                      refine lv_iload_n hx hb dX5_lawFault_184 rfl (lv_at hl 2 rfl) ?_
                      refine z_calli (wr := [(h3, .inl (zI g, 5, .inl G1_0)), (h0, .inr (5, [.ref h1, .int f0, .ref h2, .int f1, .int g0_9, .ref h3, .ref h4, .ref h5, .ref h6, .int f3, .ref h7, .ref h8, .ref h9, .int f4, .ref h10, .ref h11, .ref h12, .ref h13, .ref h14, .ref h15, .ref h16, .ref h17, .ref h18, .ref h19, .ref h20, .ref h21, .ref h22])), (h2, .inl (zI g, 60, .inl Z1))]) hP hD hS hA [] [0, 1, 2] (by decide) rfl rfl (by decide) (va_runS (As := [.int y15]) (rest := [.long y31.toInt64, .long v4_9.toInt64]) ⟨hx, hb, hml, hown, hts⟩ (gX5_mostOf l g  H.size y15) ⟨callB_of 1 hts (zGood m_o_yX5_mostOf) rfl rfl rfl (hts _ m_z_RX5) (hts _ m_m_RX5_87) ⟨by decide +kernel, by decide +kernel, by decide +kernel⟩ ⟨Nat.le_of_ble_eq_true rfl, Nat.le_of_ble_eq_true rfl⟩, hts _ m_s_yX5_mostOf⟩ (zPreS hK hN hZ hP hD hS hA [] (by decide) rfl rfl) rfl rfl hl.1 rfl (lv_room (Nat.le_of_ble_eq_true rfl)) dX5_lawFault_185 ⟨Nat.le_of_ble_eq_true rfl, Nat.le_of_ble_eq_true rfl⟩) (fun r u H locs hw hP hD hS => ?_)
                      obtain ⟨y33, rfl⟩ : ∃ z, z = r := ⟨_, rfl⟩
                      obtain ⟨q34_0, q34_1, q34_2⟩ := hw
                      have q34_0 : y33.toInt ≤ 99 := q34_0
                      have q34_1 : 1 ≤ y33.toInt := q34_1
                      have q34_2 : (y15.toInt = 1 → y33.toInt = 9) := q34_2
                      have hP : va_P g.1 vwCl [(h3, .inl (zI g, 5, .inl G1_0)), (h0, .inr (5, [.ref h1, .int f0, .ref h2, .int f1, .int g0_9, .ref h3, .ref h4, .ref h5, .ref h6, .int f3, .ref h7, .ref h8, .ref h9, .int f4, .ref h10, .ref h11, .ref h12, .ref h13, .ref h14, .ref h15, .ref h16, .ref h17, .ref h18, .ref h19, .ref h20, .ref h21, .ref h22])), (h2, .inl (zI g, 60, .inl Z1))] H := hP
                      have hD : va_D A [(h3, .inl (zI g, 5, .inl G1_0)), (h0, .inr (5, [.ref h1, .int f0, .ref h2, .int f1, .int g0_9, .ref h3, .ref h4, .ref h5, .ref h6, .int f3, .ref h7, .ref h8, .ref h9, .int f4, .ref h10, .ref h11, .ref h12, .ref h13, .ref h14, .ref h15, .ref h16, .ref h17, .ref h18, .ref h19, .ref h20, .ref h21, .ref h22])), (h2, .inl (zI g, 60, .inl Z1))] := hD
                      refine lv_i2l (v := y33.toInt64) hx hb dX5_lawFault_188 rfl ?_
                      refine z_calli (wr := [(h3, .inl (zI g, 5, .inl G1_0)), (h0, .inr (5, [.ref h1, .int f0, .ref h2, .int f1, .int g0_9, .ref h3, .ref h4, .ref h5, .ref h6, .int f3, .ref h7, .ref h8, .ref h9, .int f4, .ref h10, .ref h11, .ref h12, .ref h13, .ref h14, .ref h15, .ref h16, .ref h17, .ref h18, .ref h19, .ref h20, .ref h21, .ref h22])), (h2, .inl (zI g, 60, .inl Z1))]) hP hD hS hA [] [0, 1, 2] (by decide) rfl rfl (by decide) (va_runS (As := [.long v4_9.toInt64, .long y31.toInt64, .long y33.toInt64]) (rest := []) ⟨hx, hb, hml, hown, hts⟩ (gX5_in l g  H.size v4_9.toInt64 y31.toInt64 y33.toInt64) ⟨callB_of 3 hts (zGood m_o_yX5_in) rfl rfl rfl (hts _ m_z_RX5) (hts _ m_m_RX5_77) ⟨by decide +kernel, by decide +kernel, by decide +kernel⟩ ⟨Nat.le_of_ble_eq_true rfl, Nat.le_of_ble_eq_true rfl⟩, hts _ m_s_yX5_in⟩ (zPreS hK hN hZ hP hD hS hA [] (by decide) rfl rfl) rfl rfl hl.1 rfl (lv_room (Nat.le_of_ble_eq_true rfl)) dX5_lawFault_189 ⟨Nat.le_of_ble_eq_true rfl, Nat.le_of_ble_eq_true rfl⟩) (fun r u H locs hw hP hD hS => ?_)
                      rcases hw with ⟨i_21, rfl⟩ | ⟨i_22, i_23, rfl⟩ | ⟨i_24, i_25, rfl⟩
                      · skip
                        have i_21 : v4_9.toInt < y31.toInt := by simpa only [Int32.toInt_toInt64] using i_21
                        have hP : va_P g.1 vwCl [(h3, .inl (zI g, 5, .inl G1_0)), (h0, .inr (5, [.ref h1, .int f0, .ref h2, .int f1, .int g0_9, .ref h3, .ref h4, .ref h5, .ref h6, .int f3, .ref h7, .ref h8, .ref h9, .int f4, .ref h10, .ref h11, .ref h12, .ref h13, .ref h14, .ref h15, .ref h16, .ref h17, .ref h18, .ref h19, .ref h20, .ref h21, .ref h22])), (h2, .inl (zI g, 60, .inl Z1))] H := hP
                        have hD : va_D A [(h3, .inl (zI g, 5, .inl G1_0)), (h0, .inr (5, [.ref h1, .int f0, .ref h2, .int f1, .int g0_9, .ref h3, .ref h4, .ref h5, .ref h6, .int f3, .ref h7, .ref h8, .ref h9, .int f4, .ref h10, .ref h11, .ref h12, .ref h13, .ref h14, .ref h15, .ref h16, .ref h17, .ref h18, .ref h19, .ref h20, .ref h21, .ref h22])), (h2, .inl (zI g, 60, .inl Z1))] := hD
                        refine lv_if_ne (tgt := 197) hx hb dX5_lawFault_192 (by decide) (fun h => absurd h (by decide +kernel)) (fun _ => ?_)
                        refine lv_iload_n hx hb dX5_lawFault_195 rfl (lv_at hl 3 rfl) ?_
                        have hP9 := hP.sub (ws' := [(h0, .inr (5, [.ref h1, .int f0, .ref h2, .int f1, .int g0_9, .ref h3, .ref h4, .ref h5, .ref h6, .int f3, .ref h7, .ref h8, .ref h9, .int f4, .ref h10, .ref h11, .ref h12, .ref h13, .ref h14, .ref h15, .ref h16, .ref h17, .ref h18, .ref h19, .ref h20, .ref h21, .ref h22])), (h2, .inl (zI g, 60, .inl Z1)), (h3, .inl (zI g, 5, .inl G1_0))]) [1, 2, 0] rfl
                        have hD9 := hD.sub (ws' := [(h0, .inr (5, [.ref h1, .int f0, .ref h2, .int f1, .int g0_9, .ref h3, .ref h4, .ref h5, .ref h6, .int f3, .ref h7, .ref h8, .ref h9, .int f4, .ref h10, .ref h11, .ref h12, .ref h13, .ref h14, .ref h15, .ref h16, .ref h17, .ref h18, .ref h19, .ref h20, .ref h21, .ref h22])), (h2, .inl (zI g, 60, .inl Z1)), (h3, .inl (zI g, 5, .inl G1_0))]) [1, 2, 0] (by decide) rfl
                        exact W.iret (v := w19) hx hb hr (fun t ht hW => ⟨⟨w19, ⟨g0_9, G1_0⟩, rfl, ⟨⟨(by first | omega | decide), (by first | omega | decide)⟩, ⟨show 0 ≤ g0_9.toInt from by omega, show g0_9.toInt ≤ 60 from by omega⟩, hG1_0⟩, by rw [ht]; exact hP9, hD9⟩, hS.F ht⟩) hS.2.2 dX5_lawFault_196
                      · skip
                        have i_22 : y31.toInt ≤ v4_9.toInt := by simpa only [Int32.toInt_toInt64] using i_22
                        have i_23 : y33.toInt < v4_9.toInt := by simpa only [Int32.toInt_toInt64] using i_23
                        have hP : va_P g.1 vwCl [(h3, .inl (zI g, 5, .inl G1_0)), (h0, .inr (5, [.ref h1, .int f0, .ref h2, .int f1, .int g0_9, .ref h3, .ref h4, .ref h5, .ref h6, .int f3, .ref h7, .ref h8, .ref h9, .int f4, .ref h10, .ref h11, .ref h12, .ref h13, .ref h14, .ref h15, .ref h16, .ref h17, .ref h18, .ref h19, .ref h20, .ref h21, .ref h22])), (h2, .inl (zI g, 60, .inl Z1))] H := hP
                        have hD : va_D A [(h3, .inl (zI g, 5, .inl G1_0)), (h0, .inr (5, [.ref h1, .int f0, .ref h2, .int f1, .int g0_9, .ref h3, .ref h4, .ref h5, .ref h6, .int f3, .ref h7, .ref h8, .ref h9, .int f4, .ref h10, .ref h11, .ref h12, .ref h13, .ref h14, .ref h15, .ref h16, .ref h17, .ref h18, .ref h19, .ref h20, .ref h21, .ref h22])), (h2, .inl (zI g, 60, .inl Z1))] := hD
                        refine lv_if_ne (tgt := 197) hx hb dX5_lawFault_192 (by decide) (fun h => absurd h (by decide +kernel)) (fun _ => ?_)
                        refine lv_iload_n hx hb dX5_lawFault_195 rfl (lv_at hl 3 rfl) ?_
                        have hP9 := hP.sub (ws' := [(h0, .inr (5, [.ref h1, .int f0, .ref h2, .int f1, .int g0_9, .ref h3, .ref h4, .ref h5, .ref h6, .int f3, .ref h7, .ref h8, .ref h9, .int f4, .ref h10, .ref h11, .ref h12, .ref h13, .ref h14, .ref h15, .ref h16, .ref h17, .ref h18, .ref h19, .ref h20, .ref h21, .ref h22])), (h2, .inl (zI g, 60, .inl Z1)), (h3, .inl (zI g, 5, .inl G1_0))]) [1, 2, 0] rfl
                        have hD9 := hD.sub (ws' := [(h0, .inr (5, [.ref h1, .int f0, .ref h2, .int f1, .int g0_9, .ref h3, .ref h4, .ref h5, .ref h6, .int f3, .ref h7, .ref h8, .ref h9, .int f4, .ref h10, .ref h11, .ref h12, .ref h13, .ref h14, .ref h15, .ref h16, .ref h17, .ref h18, .ref h19, .ref h20, .ref h21, .ref h22])), (h2, .inl (zI g, 60, .inl Z1)), (h3, .inl (zI g, 5, .inl G1_0))]) [1, 2, 0] (by decide) rfl
                        exact W.iret (v := w19) hx hb hr (fun t ht hW => ⟨⟨w19, ⟨g0_9, G1_0⟩, rfl, ⟨⟨(by first | omega | decide), (by first | omega | decide)⟩, ⟨show 0 ≤ g0_9.toInt from by omega, show g0_9.toInt ≤ 60 from by omega⟩, hG1_0⟩, by rw [ht]; exact hP9, hD9⟩, hS.F ht⟩) hS.2.2 dX5_lawFault_196
                      · skip
                        have i_24 : y31.toInt ≤ v4_9.toInt := by simpa only [Int32.toInt_toInt64] using i_24
                        have i_25 : v4_9.toInt ≤ y33.toInt := by simpa only [Int32.toInt_toInt64] using i_25
                        have hP : va_P g.1 vwCl [(h3, .inl (zI g, 5, .inl G1_0)), (h0, .inr (5, [.ref h1, .int f0, .ref h2, .int f1, .int g0_9, .ref h3, .ref h4, .ref h5, .ref h6, .int f3, .ref h7, .ref h8, .ref h9, .int f4, .ref h10, .ref h11, .ref h12, .ref h13, .ref h14, .ref h15, .ref h16, .ref h17, .ref h18, .ref h19, .ref h20, .ref h21, .ref h22])), (h2, .inl (zI g, 60, .inl Z1))] H := hP
                        have hD : va_D A [(h3, .inl (zI g, 5, .inl G1_0)), (h0, .inr (5, [.ref h1, .int f0, .ref h2, .int f1, .int g0_9, .ref h3, .ref h4, .ref h5, .ref h6, .int f3, .ref h7, .ref h8, .ref h9, .int f4, .ref h10, .ref h11, .ref h12, .ref h13, .ref h14, .ref h15, .ref h16, .ref h17, .ref h18, .ref h19, .ref h20, .ref h21, .ref h22])), (h2, .inl (zI g, 60, .inl Z1))] := hD
                        refine lv_if_ne (tgt := 197) hx hb dX5_lawFault_192 (by decide) (fun _ => ?_) (fun h => absurd h (by decide +kernel))
                        refine lv_aload_n hx hb dX5_lawFault_197 rfl (lv_at hl 0 rfl) ?_
                        refine va_get (D := g.1) (ci := 5) (v := .ref h3) (C := RX5) (T := TX5) (N := 27) hx hb hts zl_X5 hown hK hP 1 rfl rfl 5 (by decide) (hts _ m_f_RX5_16) (fun _ h => h) rfl dX5_lawFault_198 ?_
                        refine lv_iload_n hx hb dX5_lawFault_201 rfl (lv_at hl 2 rfl) ?_
                        refine lv_iload hx hb dX5_lawFault_202 (lv_at hl 4 rfl) ?_
                        refine va_iast (D := g.1) hx hb hK hP hD hS 0 0 rfl rfl (vp_in_iff.mpr ⟨by omega, by omega⟩) dX5_lawFault_204 (fun H locs hP hD hS => ?_)
                        have hP : va_P g.1 vwCl [(h3, .inl (zI g, 5, .inl (upd G1_0 y15.toNatClampNeg v4_9))), (h0, .inr (5, [.ref h1, .int f0, .ref h2, .int f1, .int g0_9, .ref h3, .ref h4, .ref h5, .ref h6, .int f3, .ref h7, .ref h8, .ref h9, .int f4, .ref h10, .ref h11, .ref h12, .ref h13, .ref h14, .ref h15, .ref h16, .ref h17, .ref h18, .ref h19, .ref h20, .ref h21, .ref h22])), (h2, .inl (zI g, 60, .inl Z1))] H := hP
                        have hD : va_D A [(h3, .inl (zI g, 5, .inl (upd G1_0 y15.toNatClampNeg v4_9))), (h0, .inr (5, [.ref h1, .int f0, .ref h2, .int f1, .int g0_9, .ref h3, .ref h4, .ref h5, .ref h6, .int f3, .ref h7, .ref h8, .ref h9, .int f4, .ref h10, .ref h11, .ref h12, .ref h13, .ref h14, .ref h15, .ref h16, .ref h17, .ref h18, .ref h19, .ref h20, .ref h21, .ref h22])), (h2, .inl (zI g, 60, .inl Z1))] := hD
                        have hI35 : iMeant (upd G1_0 y15.toNatClampNeg v4_9) := iMeant_put (i := y15) (a := y15.toInt) (v := v4_9) (b := v4_9.toInt) hG1_0 (rfl) (rfl) (by omega) (by omega) (by omega) (by omega)
                        obtain ⟨R36, eR36⟩ : ∃ z : Nat → Int32, z = (upd G1_0 y15.toNatClampNeg v4_9) := ⟨_, rfl⟩
                        rw [← eR36] at hP hD hI35
                        have qR36 : (R36 y15.toNatClampNeg).toInt = v4_9.toInt := z_put eR36 (rfl)
                        obtain ⟨y37, ey37⟩ : ∃ z : Int32, z = v1_0 + 1 := ⟨_, rfl⟩
                        have qy37 : y37.toInt = v1_0.toInt + 1 := zi_add ey37 (rfl) rfl (by omega) (by omega)
                        refine lv_iinc (v := y37) (lv' := [(1, .int y37), (0, .ref h0), (2, .int y15), (3, .int w19), (4, .int v4_9)]) hx hb dX5_lawFault_205 hl (k := 1) rfl ey37.symm (by decide) rfl (fun ls hl => ?_)
                        refine lv_goto (tgt := 27) hx hb dX5_lawFault_208 (by decide) ?_
                        have hP := hP.sub (ws' := [(h0, .inr (5, [.ref h1, .int f0, .ref h2, .int f1, .int g0_9, .ref h3, .ref h4, .ref h5, .ref h6, .int f3, .ref h7, .ref h8, .ref h9, .int f4, .ref h10, .ref h11, .ref h12, .ref h13, .ref h14, .ref h15, .ref h16, .ref h17, .ref h18, .ref h19, .ref h20, .ref h21, .ref h22])), (h2, .inl (zI g, 60, .inl Z1)), (h3, .inl (zI g, 5, .inl R36))]) [1, 2, 0] rfl
                        have hD := hD.sub (ws' := [(h0, .inr (5, [.ref h1, .int f0, .ref h2, .int f1, .int g0_9, .ref h3, .ref h4, .ref h5, .ref h6, .int f3, .ref h7, .ref h8, .ref h9, .int f4, .ref h10, .ref h11, .ref h12, .ref h13, .ref h14, .ref h15, .ref h16, .ref h17, .ref h18, .ref h19, .ref h20, .ref h21, .ref h22])), (h2, .inl (zI g, 60, .inl Z1)), (h3, .inl (zI g, 5, .inl R36))]) [1, 2, 0] (by decide) rfl
                        exact ih1 y37 g0_9 R36 (by omega) (by omega) (hI35) (by omega) _ _ hP hD hS ls (lv_sub hl [1, 0] rfl)
                    · skip
                      have i_17 : 48 ≤ y30.toInt := by (try simp only [Int32.toInt_toInt64] at i_17); exact i_17
                      have i_18 : 57 < y30.toInt := by (try simp only [Int32.toInt_toInt64] at i_18); exact i_18
                      have hP : va_P g.1 vwCl [(h3, .inl (zI g, 5, .inl G1_0)), (h0, .inr (5, [.ref h1, .int f0, .ref h2, .int f1, .int g0_9, .ref h3, .ref h4, .ref h5, .ref h6, .int f3, .ref h7, .ref h8, .ref h9, .int f4, .ref h10, .ref h11, .ref h12, .ref h13, .ref h14, .ref h15, .ref h16, .ref h17, .ref h18, .ref h19, .ref h20, .ref h21, .ref h22])), (h2, .inl (zI g, 60, .inl Z1))] H := hP
                      have hD : va_D A [(h3, .inl (zI g, 5, .inl G1_0)), (h0, .inr (5, [.ref h1, .int f0, .ref h2, .int f1, .int g0_9, .ref h3, .ref h4, .ref h5, .ref h6, .int f3, .ref h7, .ref h8, .ref h9, .int f4, .ref h10, .ref h11, .ref h12, .ref h13, .ref h14, .ref h15, .ref h16, .ref h17, .ref h18, .ref h19, .ref h20, .ref h21, .ref h22])), (h2, .inl (zI g, 60, .inl Z1))] := hD
                      refine lv_if_eq (tgt := 176) hx hb dX5_lawFault_134 (by decide) (fun _ => ?_) (fun h => absurd h (by decide +kernel))
                      refine lv_iload hx hb dX5_lawFault_176 (lv_at hl 4 rfl) ?_
                      refine lv_i2l (v := v4_9.toInt64) hx hb dX5_lawFault_178 rfl ?_
                      refine lv_iload_n hx hb dX5_lawFault_179 rfl (lv_at hl 2 rfl) ?_
                      refine z_calli (wr := [(h3, .inl (zI g, 5, .inl G1_0)), (h0, .inr (5, [.ref h1, .int f0, .ref h2, .int f1, .int g0_9, .ref h3, .ref h4, .ref h5, .ref h6, .int f3, .ref h7, .ref h8, .ref h9, .int f4, .ref h10, .ref h11, .ref h12, .ref h13, .ref h14, .ref h15, .ref h16, .ref h17, .ref h18, .ref h19, .ref h20, .ref h21, .ref h22])), (h2, .inl (zI g, 60, .inl Z1))]) hP hD hS hA [] [0, 1, 2] (by decide) rfl rfl (by decide) (va_runS (As := [.int y15]) (rest := [.long v4_9.toInt64]) ⟨hx, hb, hml, hown, hts⟩ (gX5_leastOf l g  H.size y15) ⟨callB_of 1 hts (zGood m_o_yX5_leastOf) rfl rfl rfl (hts _ m_z_RX5) (hts _ m_m_RX5_83) ⟨by decide +kernel, by decide +kernel, by decide +kernel⟩ ⟨Nat.le_of_ble_eq_true rfl, Nat.le_of_ble_eq_true rfl⟩, hts _ m_s_yX5_leastOf⟩ (zPreS hK hN hZ hP hD hS hA [] (by decide) rfl rfl) rfl rfl hl.1 rfl (lv_room (Nat.le_of_ble_eq_true rfl)) dX5_lawFault_180 ⟨Nat.le_of_ble_eq_true rfl, Nat.le_of_ble_eq_true rfl⟩) (fun r u H locs hw hP hD hS => ?_)
                      obtain ⟨y38, rfl⟩ : ∃ z, z = r := ⟨_, rfl⟩
                      obtain ⟨q39_0, q39_1, q39_2⟩ := hw
                      have q39_0 : 0 ≤ y38.toInt := q39_0
                      have q39_1 : y38.toInt ≤ 1 := q39_1
                      have q39_2 : (y15.toInt < 2 → y38.toInt = 1) := q39_2
                      have hP : va_P g.1 vwCl [(h3, .inl (zI g, 5, .inl G1_0)), (h0, .inr (5, [.ref h1, .int f0, .ref h2, .int f1, .int g0_9, .ref h3, .ref h4, .ref h5, .ref h6, .int f3, .ref h7, .ref h8, .ref h9, .int f4, .ref h10, .ref h11, .ref h12, .ref h13, .ref h14, .ref h15, .ref h16, .ref h17, .ref h18, .ref h19, .ref h20, .ref h21, .ref h22])), (h2, .inl (zI g, 60, .inl Z1))] H := hP
                      have hD : va_D A [(h3, .inl (zI g, 5, .inl G1_0)), (h0, .inr (5, [.ref h1, .int f0, .ref h2, .int f1, .int g0_9, .ref h3, .ref h4, .ref h5, .ref h6, .int f3, .ref h7, .ref h8, .ref h9, .int f4, .ref h10, .ref h11, .ref h12, .ref h13, .ref h14, .ref h15, .ref h16, .ref h17, .ref h18, .ref h19, .ref h20, .ref h21, .ref h22])), (h2, .inl (zI g, 60, .inl Z1))] := hD
                      refine lv_i2l (v := y38.toInt64) hx hb dX5_lawFault_183 rfl ?_
                      refine lv_iload_n hx hb dX5_lawFault_184 rfl (lv_at hl 2 rfl) ?_
                      refine z_calli (wr := [(h3, .inl (zI g, 5, .inl G1_0)), (h0, .inr (5, [.ref h1, .int f0, .ref h2, .int f1, .int g0_9, .ref h3, .ref h4, .ref h5, .ref h6, .int f3, .ref h7, .ref h8, .ref h9, .int f4, .ref h10, .ref h11, .ref h12, .ref h13, .ref h14, .ref h15, .ref h16, .ref h17, .ref h18, .ref h19, .ref h20, .ref h21, .ref h22])), (h2, .inl (zI g, 60, .inl Z1))]) hP hD hS hA [] [0, 1, 2] (by decide) rfl rfl (by decide) (va_runS (As := [.int y15]) (rest := [.long y38.toInt64, .long v4_9.toInt64]) ⟨hx, hb, hml, hown, hts⟩ (gX5_mostOf l g  H.size y15) ⟨callB_of 1 hts (zGood m_o_yX5_mostOf) rfl rfl rfl (hts _ m_z_RX5) (hts _ m_m_RX5_87) ⟨by decide +kernel, by decide +kernel, by decide +kernel⟩ ⟨Nat.le_of_ble_eq_true rfl, Nat.le_of_ble_eq_true rfl⟩, hts _ m_s_yX5_mostOf⟩ (zPreS hK hN hZ hP hD hS hA [] (by decide) rfl rfl) rfl rfl hl.1 rfl (lv_room (Nat.le_of_ble_eq_true rfl)) dX5_lawFault_185 ⟨Nat.le_of_ble_eq_true rfl, Nat.le_of_ble_eq_true rfl⟩) (fun r u H locs hw hP hD hS => ?_)
                      obtain ⟨y40, rfl⟩ : ∃ z, z = r := ⟨_, rfl⟩
                      obtain ⟨q41_0, q41_1, q41_2⟩ := hw
                      have q41_0 : y40.toInt ≤ 99 := q41_0
                      have q41_1 : 1 ≤ y40.toInt := q41_1
                      have q41_2 : (y15.toInt = 1 → y40.toInt = 9) := q41_2
                      have hP : va_P g.1 vwCl [(h3, .inl (zI g, 5, .inl G1_0)), (h0, .inr (5, [.ref h1, .int f0, .ref h2, .int f1, .int g0_9, .ref h3, .ref h4, .ref h5, .ref h6, .int f3, .ref h7, .ref h8, .ref h9, .int f4, .ref h10, .ref h11, .ref h12, .ref h13, .ref h14, .ref h15, .ref h16, .ref h17, .ref h18, .ref h19, .ref h20, .ref h21, .ref h22])), (h2, .inl (zI g, 60, .inl Z1))] H := hP
                      have hD : va_D A [(h3, .inl (zI g, 5, .inl G1_0)), (h0, .inr (5, [.ref h1, .int f0, .ref h2, .int f1, .int g0_9, .ref h3, .ref h4, .ref h5, .ref h6, .int f3, .ref h7, .ref h8, .ref h9, .int f4, .ref h10, .ref h11, .ref h12, .ref h13, .ref h14, .ref h15, .ref h16, .ref h17, .ref h18, .ref h19, .ref h20, .ref h21, .ref h22])), (h2, .inl (zI g, 60, .inl Z1))] := hD
                      refine lv_i2l (v := y40.toInt64) hx hb dX5_lawFault_188 rfl ?_
                      refine z_calli (wr := [(h3, .inl (zI g, 5, .inl G1_0)), (h0, .inr (5, [.ref h1, .int f0, .ref h2, .int f1, .int g0_9, .ref h3, .ref h4, .ref h5, .ref h6, .int f3, .ref h7, .ref h8, .ref h9, .int f4, .ref h10, .ref h11, .ref h12, .ref h13, .ref h14, .ref h15, .ref h16, .ref h17, .ref h18, .ref h19, .ref h20, .ref h21, .ref h22])), (h2, .inl (zI g, 60, .inl Z1))]) hP hD hS hA [] [0, 1, 2] (by decide) rfl rfl (by decide) (va_runS (As := [.long v4_9.toInt64, .long y38.toInt64, .long y40.toInt64]) (rest := []) ⟨hx, hb, hml, hown, hts⟩ (gX5_in l g  H.size v4_9.toInt64 y38.toInt64 y40.toInt64) ⟨callB_of 3 hts (zGood m_o_yX5_in) rfl rfl rfl (hts _ m_z_RX5) (hts _ m_m_RX5_77) ⟨by decide +kernel, by decide +kernel, by decide +kernel⟩ ⟨Nat.le_of_ble_eq_true rfl, Nat.le_of_ble_eq_true rfl⟩, hts _ m_s_yX5_in⟩ (zPreS hK hN hZ hP hD hS hA [] (by decide) rfl rfl) rfl rfl hl.1 rfl (lv_room (Nat.le_of_ble_eq_true rfl)) dX5_lawFault_189 ⟨Nat.le_of_ble_eq_true rfl, Nat.le_of_ble_eq_true rfl⟩) (fun r u H locs hw hP hD hS => ?_)
                      rcases hw with ⟨i_26, rfl⟩ | ⟨i_27, i_28, rfl⟩ | ⟨i_29, i_30, rfl⟩
                      · skip
                        have i_26 : v4_9.toInt < y38.toInt := by simpa only [Int32.toInt_toInt64] using i_26
                        have hP : va_P g.1 vwCl [(h3, .inl (zI g, 5, .inl G1_0)), (h0, .inr (5, [.ref h1, .int f0, .ref h2, .int f1, .int g0_9, .ref h3, .ref h4, .ref h5, .ref h6, .int f3, .ref h7, .ref h8, .ref h9, .int f4, .ref h10, .ref h11, .ref h12, .ref h13, .ref h14, .ref h15, .ref h16, .ref h17, .ref h18, .ref h19, .ref h20, .ref h21, .ref h22])), (h2, .inl (zI g, 60, .inl Z1))] H := hP
                        have hD : va_D A [(h3, .inl (zI g, 5, .inl G1_0)), (h0, .inr (5, [.ref h1, .int f0, .ref h2, .int f1, .int g0_9, .ref h3, .ref h4, .ref h5, .ref h6, .int f3, .ref h7, .ref h8, .ref h9, .int f4, .ref h10, .ref h11, .ref h12, .ref h13, .ref h14, .ref h15, .ref h16, .ref h17, .ref h18, .ref h19, .ref h20, .ref h21, .ref h22])), (h2, .inl (zI g, 60, .inl Z1))] := hD
                        refine lv_if_ne (tgt := 197) hx hb dX5_lawFault_192 (by decide) (fun h => absurd h (by decide +kernel)) (fun _ => ?_)
                        refine lv_iload_n hx hb dX5_lawFault_195 rfl (lv_at hl 3 rfl) ?_
                        have hP9 := hP.sub (ws' := [(h0, .inr (5, [.ref h1, .int f0, .ref h2, .int f1, .int g0_9, .ref h3, .ref h4, .ref h5, .ref h6, .int f3, .ref h7, .ref h8, .ref h9, .int f4, .ref h10, .ref h11, .ref h12, .ref h13, .ref h14, .ref h15, .ref h16, .ref h17, .ref h18, .ref h19, .ref h20, .ref h21, .ref h22])), (h2, .inl (zI g, 60, .inl Z1)), (h3, .inl (zI g, 5, .inl G1_0))]) [1, 2, 0] rfl
                        have hD9 := hD.sub (ws' := [(h0, .inr (5, [.ref h1, .int f0, .ref h2, .int f1, .int g0_9, .ref h3, .ref h4, .ref h5, .ref h6, .int f3, .ref h7, .ref h8, .ref h9, .int f4, .ref h10, .ref h11, .ref h12, .ref h13, .ref h14, .ref h15, .ref h16, .ref h17, .ref h18, .ref h19, .ref h20, .ref h21, .ref h22])), (h2, .inl (zI g, 60, .inl Z1)), (h3, .inl (zI g, 5, .inl G1_0))]) [1, 2, 0] (by decide) rfl
                        exact W.iret (v := w19) hx hb hr (fun t ht hW => ⟨⟨w19, ⟨g0_9, G1_0⟩, rfl, ⟨⟨(by first | omega | decide), (by first | omega | decide)⟩, ⟨show 0 ≤ g0_9.toInt from by omega, show g0_9.toInt ≤ 60 from by omega⟩, hG1_0⟩, by rw [ht]; exact hP9, hD9⟩, hS.F ht⟩) hS.2.2 dX5_lawFault_196
                      · skip
                        have i_27 : y38.toInt ≤ v4_9.toInt := by simpa only [Int32.toInt_toInt64] using i_27
                        have i_28 : y40.toInt < v4_9.toInt := by simpa only [Int32.toInt_toInt64] using i_28
                        have hP : va_P g.1 vwCl [(h3, .inl (zI g, 5, .inl G1_0)), (h0, .inr (5, [.ref h1, .int f0, .ref h2, .int f1, .int g0_9, .ref h3, .ref h4, .ref h5, .ref h6, .int f3, .ref h7, .ref h8, .ref h9, .int f4, .ref h10, .ref h11, .ref h12, .ref h13, .ref h14, .ref h15, .ref h16, .ref h17, .ref h18, .ref h19, .ref h20, .ref h21, .ref h22])), (h2, .inl (zI g, 60, .inl Z1))] H := hP
                        have hD : va_D A [(h3, .inl (zI g, 5, .inl G1_0)), (h0, .inr (5, [.ref h1, .int f0, .ref h2, .int f1, .int g0_9, .ref h3, .ref h4, .ref h5, .ref h6, .int f3, .ref h7, .ref h8, .ref h9, .int f4, .ref h10, .ref h11, .ref h12, .ref h13, .ref h14, .ref h15, .ref h16, .ref h17, .ref h18, .ref h19, .ref h20, .ref h21, .ref h22])), (h2, .inl (zI g, 60, .inl Z1))] := hD
                        refine lv_if_ne (tgt := 197) hx hb dX5_lawFault_192 (by decide) (fun h => absurd h (by decide +kernel)) (fun _ => ?_)
                        refine lv_iload_n hx hb dX5_lawFault_195 rfl (lv_at hl 3 rfl) ?_
                        have hP9 := hP.sub (ws' := [(h0, .inr (5, [.ref h1, .int f0, .ref h2, .int f1, .int g0_9, .ref h3, .ref h4, .ref h5, .ref h6, .int f3, .ref h7, .ref h8, .ref h9, .int f4, .ref h10, .ref h11, .ref h12, .ref h13, .ref h14, .ref h15, .ref h16, .ref h17, .ref h18, .ref h19, .ref h20, .ref h21, .ref h22])), (h2, .inl (zI g, 60, .inl Z1)), (h3, .inl (zI g, 5, .inl G1_0))]) [1, 2, 0] rfl
                        have hD9 := hD.sub (ws' := [(h0, .inr (5, [.ref h1, .int f0, .ref h2, .int f1, .int g0_9, .ref h3, .ref h4, .ref h5, .ref h6, .int f3, .ref h7, .ref h8, .ref h9, .int f4, .ref h10, .ref h11, .ref h12, .ref h13, .ref h14, .ref h15, .ref h16, .ref h17, .ref h18, .ref h19, .ref h20, .ref h21, .ref h22])), (h2, .inl (zI g, 60, .inl Z1)), (h3, .inl (zI g, 5, .inl G1_0))]) [1, 2, 0] (by decide) rfl
                        exact W.iret (v := w19) hx hb hr (fun t ht hW => ⟨⟨w19, ⟨g0_9, G1_0⟩, rfl, ⟨⟨(by first | omega | decide), (by first | omega | decide)⟩, ⟨show 0 ≤ g0_9.toInt from by omega, show g0_9.toInt ≤ 60 from by omega⟩, hG1_0⟩, by rw [ht]; exact hP9, hD9⟩, hS.F ht⟩) hS.2.2 dX5_lawFault_196
                      · skip
                        have i_29 : y38.toInt ≤ v4_9.toInt := by simpa only [Int32.toInt_toInt64] using i_29
                        have i_30 : v4_9.toInt ≤ y40.toInt := by simpa only [Int32.toInt_toInt64] using i_30
                        have hP : va_P g.1 vwCl [(h3, .inl (zI g, 5, .inl G1_0)), (h0, .inr (5, [.ref h1, .int f0, .ref h2, .int f1, .int g0_9, .ref h3, .ref h4, .ref h5, .ref h6, .int f3, .ref h7, .ref h8, .ref h9, .int f4, .ref h10, .ref h11, .ref h12, .ref h13, .ref h14, .ref h15, .ref h16, .ref h17, .ref h18, .ref h19, .ref h20, .ref h21, .ref h22])), (h2, .inl (zI g, 60, .inl Z1))] H := hP
                        have hD : va_D A [(h3, .inl (zI g, 5, .inl G1_0)), (h0, .inr (5, [.ref h1, .int f0, .ref h2, .int f1, .int g0_9, .ref h3, .ref h4, .ref h5, .ref h6, .int f3, .ref h7, .ref h8, .ref h9, .int f4, .ref h10, .ref h11, .ref h12, .ref h13, .ref h14, .ref h15, .ref h16, .ref h17, .ref h18, .ref h19, .ref h20, .ref h21, .ref h22])), (h2, .inl (zI g, 60, .inl Z1))] := hD
                        refine lv_if_ne (tgt := 197) hx hb dX5_lawFault_192 (by decide) (fun _ => ?_) (fun h => absurd h (by decide +kernel))
                        refine lv_aload_n hx hb dX5_lawFault_197 rfl (lv_at hl 0 rfl) ?_
                        refine va_get (D := g.1) (ci := 5) (v := .ref h3) (C := RX5) (T := TX5) (N := 27) hx hb hts zl_X5 hown hK hP 1 rfl rfl 5 (by decide) (hts _ m_f_RX5_16) (fun _ h => h) rfl dX5_lawFault_198 ?_
                        refine lv_iload_n hx hb dX5_lawFault_201 rfl (lv_at hl 2 rfl) ?_
                        refine lv_iload hx hb dX5_lawFault_202 (lv_at hl 4 rfl) ?_
                        refine va_iast (D := g.1) hx hb hK hP hD hS 0 0 rfl rfl (vp_in_iff.mpr ⟨by omega, by omega⟩) dX5_lawFault_204 (fun H locs hP hD hS => ?_)
                        have hP : va_P g.1 vwCl [(h3, .inl (zI g, 5, .inl (upd G1_0 y15.toNatClampNeg v4_9))), (h0, .inr (5, [.ref h1, .int f0, .ref h2, .int f1, .int g0_9, .ref h3, .ref h4, .ref h5, .ref h6, .int f3, .ref h7, .ref h8, .ref h9, .int f4, .ref h10, .ref h11, .ref h12, .ref h13, .ref h14, .ref h15, .ref h16, .ref h17, .ref h18, .ref h19, .ref h20, .ref h21, .ref h22])), (h2, .inl (zI g, 60, .inl Z1))] H := hP
                        have hD : va_D A [(h3, .inl (zI g, 5, .inl (upd G1_0 y15.toNatClampNeg v4_9))), (h0, .inr (5, [.ref h1, .int f0, .ref h2, .int f1, .int g0_9, .ref h3, .ref h4, .ref h5, .ref h6, .int f3, .ref h7, .ref h8, .ref h9, .int f4, .ref h10, .ref h11, .ref h12, .ref h13, .ref h14, .ref h15, .ref h16, .ref h17, .ref h18, .ref h19, .ref h20, .ref h21, .ref h22])), (h2, .inl (zI g, 60, .inl Z1))] := hD
                        have hI42 : iMeant (upd G1_0 y15.toNatClampNeg v4_9) := iMeant_put (i := y15) (a := y15.toInt) (v := v4_9) (b := v4_9.toInt) hG1_0 (rfl) (rfl) (by omega) (by omega) (by omega) (by omega)
                        obtain ⟨R43, eR43⟩ : ∃ z : Nat → Int32, z = (upd G1_0 y15.toNatClampNeg v4_9) := ⟨_, rfl⟩
                        rw [← eR43] at hP hD hI42
                        have qR43 : (R43 y15.toNatClampNeg).toInt = v4_9.toInt := z_put eR43 (rfl)
                        obtain ⟨y44, ey44⟩ : ∃ z : Int32, z = v1_0 + 1 := ⟨_, rfl⟩
                        have qy44 : y44.toInt = v1_0.toInt + 1 := zi_add ey44 (rfl) rfl (by omega) (by omega)
                        refine lv_iinc (v := y44) (lv' := [(1, .int y44), (0, .ref h0), (2, .int y15), (3, .int w19), (4, .int v4_9)]) hx hb dX5_lawFault_205 hl (k := 1) rfl ey44.symm (by decide) rfl (fun ls hl => ?_)
                        refine lv_goto (tgt := 27) hx hb dX5_lawFault_208 (by decide) ?_
                        have hP := hP.sub (ws' := [(h0, .inr (5, [.ref h1, .int f0, .ref h2, .int f1, .int g0_9, .ref h3, .ref h4, .ref h5, .ref h6, .int f3, .ref h7, .ref h8, .ref h9, .int f4, .ref h10, .ref h11, .ref h12, .ref h13, .ref h14, .ref h15, .ref h16, .ref h17, .ref h18, .ref h19, .ref h20, .ref h21, .ref h22])), (h2, .inl (zI g, 60, .inl Z1)), (h3, .inl (zI g, 5, .inl R43))]) [1, 2, 0] rfl
                        have hD := hD.sub (ws' := [(h0, .inr (5, [.ref h1, .int f0, .ref h2, .int f1, .int g0_9, .ref h3, .ref h4, .ref h5, .ref h6, .int f3, .ref h7, .ref h8, .ref h9, .int f4, .ref h10, .ref h11, .ref h12, .ref h13, .ref h14, .ref h15, .ref h16, .ref h17, .ref h18, .ref h19, .ref h20, .ref h21, .ref h22])), (h2, .inl (zI g, 60, .inl Z1)), (h3, .inl (zI g, 5, .inl R43))]) [1, 2, 0] (by decide) rfl
                        exact ih1 y44 g0_9 R43 (by omega) (by omega) (hI42) (by omega) _ _ hP hD hS ls (lv_sub hl [1, 0] rfl)
                    · skip
                      have i_19 : 48 ≤ y30.toInt := by (try simp only [Int32.toInt_toInt64] at i_19); exact i_19
                      have i_20 : y30.toInt ≤ 57 := by (try simp only [Int32.toInt_toInt64] at i_20); exact i_20
                      have hP : va_P g.1 vwCl [(h3, .inl (zI g, 5, .inl G1_0)), (h0, .inr (5, [.ref h1, .int f0, .ref h2, .int f1, .int g0_9, .ref h3, .ref h4, .ref h5, .ref h6, .int f3, .ref h7, .ref h8, .ref h9, .int f4, .ref h10, .ref h11, .ref h12, .ref h13, .ref h14, .ref h15, .ref h16, .ref h17, .ref h18, .ref h19, .ref h20, .ref h21, .ref h22])), (h2, .inl (zI g, 60, .inl Z1))] H := hP
                      have hD : va_D A [(h3, .inl (zI g, 5, .inl G1_0)), (h0, .inr (5, [.ref h1, .int f0, .ref h2, .int f1, .int g0_9, .ref h3, .ref h4, .ref h5, .ref h6, .int f3, .ref h7, .ref h8, .ref h9, .int f4, .ref h10, .ref h11, .ref h12, .ref h13, .ref h14, .ref h15, .ref h16, .ref h17, .ref h18, .ref h19, .ref h20, .ref h21, .ref h22])), (h2, .inl (zI g, 60, .inl Z1))] := hD
                      refine lv_if_eq (tgt := 176) hx hb dX5_lawFault_134 (by decide) (fun h => absurd h (by decide +kernel)) (fun _ => ?_)
                      refine lv_bipush (v := 10) hx hb dX5_lawFault_137 (by decide) ?_
                      refine lv_iload hx hb dX5_lawFault_139 (lv_at hl 4 rfl) ?_
                      refine lv_imul hx hb dX5_lawFault_141 ?_
                      refine lv_topi (fun y45 ey45 => ?_)
                      have qy45_0 : y45.toInt = 10 * v4_9.toInt := zi_mul ey45 (rfl) (rfl) (by omega) (by omega)
                      refine lv_aload_n hx hb dX5_lawFault_142 rfl (lv_at hl 0 rfl) ?_
                      refine va_get (D := g.1) (ci := 5) (v := .ref h2) (C := RX5) (T := TX5) (N := 27) hx hb hts zl_X5 hown hK hP 1 rfl rfl 2 (by decide) (hts _ m_f_RX5_13) (fun _ h => h) rfl dX5_lawFault_143 ?_
                      refine lv_aload_n hx hb dX5_lawFault_146 rfl (lv_at hl 0 rfl) ?_
                      refine va_get (D := g.1) (ci := 5) (v := .int g0_9) (C := RX5) (T := TX5) (N := 27) hx hb hts zl_X5 hown hK hP 1 rfl rfl 4 (by decide) (hts _ m_f_RX5_118) (fun _ h => h) rfl dX5_lawFault_147 ?_
                      refine va_iald (D := g.1) hx hb hK hP 2 0 rfl rfl (vp_in_iff.mpr ⟨by omega, by omega⟩) dX5_lawFault_150 ?_
                      refine lv_topi (fun y46 ey46 => ?_)
                      have qy46_0 : y46.toInt = (Z1 g0_9.toNatClampNeg).toInt := congrArg Int32.toInt ey46
                      refine lv_iadd hx hb dX5_lawFault_151 ?_
                      refine lv_topi (fun y47 ey47 => ?_)
                      have qy47_0 : y47.toInt = y45.toInt + y46.toInt := zi_add ey47 (rfl) (rfl) (by omega) (by omega)
                      refine lv_bipush (v := 48) hx hb dX5_lawFault_152 (by decide) ?_
                      refine lv_isub hx hb dX5_lawFault_154 ?_
                      refine lv_topi (fun y48 ey48 => ?_)
                      have qy48_0 : y48.toInt = y47.toInt - 48 := zi_sub ey48 (rfl) (rfl) (by omega) (by omega)
                      refine lv_sipush (v := 1000) hx hb dX5_lawFault_155 (by decide) ?_
                      refine z_calli (wr := [(h3, .inl (zI g, 5, .inl G1_0)), (h0, .inr (5, [.ref h1, .int f0, .ref h2, .int f1, .int g0_9, .ref h3, .ref h4, .ref h5, .ref h6, .int f3, .ref h7, .ref h8, .ref h9, .int f4, .ref h10, .ref h11, .ref h12, .ref h13, .ref h14, .ref h15, .ref h16, .ref h17, .ref h18, .ref h19, .ref h20, .ref h21, .ref h22])), (h2, .inl (zI g, 60, .inl Z1))]) hP hD hS hA [] [0, 1, 2] (by decide) rfl rfl (by decide) (va_runS (As := [.int y48, .int 1000]) (rest := []) ⟨hx, hb, hml, hown, hts⟩ (gX5_lesser l g  H.size y48 (1000 : Int32)) ⟨callB_of 2 hts (zGood m_o_yX5_lesser) rfl rfl rfl (hts _ m_z_RX5) (hts _ m_m_RX5_132) ⟨by decide +kernel, by decide +kernel, by decide +kernel⟩ ⟨Nat.le_of_ble_eq_true rfl, Nat.le_of_ble_eq_true rfl⟩, hts _ m_s_yX5_lesser⟩ (zPreS hK hN hZ hP hD hS hA [] (by decide) rfl rfl) rfl rfl hl.1 rfl (lv_room (Nat.le_of_ble_eq_true rfl)) dX5_lawFault_158 ⟨Nat.le_of_ble_eq_true rfl, Nat.le_of_ble_eq_true rfl⟩) (fun r u H locs hw hP hD hS => ?_)
                      obtain ⟨y49, rfl⟩ : ∃ z, z = r := ⟨_, rfl⟩
                      obtain ⟨q50_0, q50_1, q50_2⟩ := hw
                      have q50_0 : y49.toInt ≤ y48.toInt := q50_0
                      have q50_1 : y49.toInt ≤ 1000 := q50_1
                      have q50_2 : (y49.toInt = y48.toInt ∨ y49.toInt = (1000 : Int)) := q50_2
                      have q51_0 : 0 ≤ y49.toInt := by omega
                      have q51_1 : y49.toInt ≤ 1000 := by omega
                      have hP : va_P g.1 vwCl [(h3, .inl (zI g, 5, .inl G1_0)), (h0, .inr (5, [.ref h1, .int f0, .ref h2, .int f1, .int g0_9, .ref h3, .ref h4, .ref h5, .ref h6, .int f3, .ref h7, .ref h8, .ref h9, .int f4, .ref h10, .ref h11, .ref h12, .ref h13, .ref h14, .ref h15, .ref h16, .ref h17, .ref h18, .ref h19, .ref h20, .ref h21, .ref h22])), (h2, .inl (zI g, 60, .inl Z1))] H := hP
                      have hD : va_D A [(h3, .inl (zI g, 5, .inl G1_0)), (h0, .inr (5, [.ref h1, .int f0, .ref h2, .int f1, .int g0_9, .ref h3, .ref h4, .ref h5, .ref h6, .int f3, .ref h7, .ref h8, .ref h9, .int f4, .ref h10, .ref h11, .ref h12, .ref h13, .ref h14, .ref h15, .ref h16, .ref h17, .ref h18, .ref h19, .ref h20, .ref h21, .ref h22])), (h2, .inl (zI g, 60, .inl Z1))] := hD
                      refine lv_istore (lv' := [(4, .int y49), (0, .ref h0), (1, .int v1_0), (2, .int y15), (3, .int w19)]) hx hb dX5_lawFault_161 hl (by decide) rfl (fun ls hl => ?_)
                      refine lv_aload_n hx hb dX5_lawFault_163 rfl (lv_at hl 1 rfl) ?_
                      refine lv_dup hx hb dX5_lawFault_164 rfl ?_
                      refine va_get (D := g.1) (ci := 5) (v := .int g0_9) (C := RX5) (T := TX5) (N := 27) hx hb hts zl_X5 hown hK hP 1 rfl rfl 4 (by decide) (hts _ m_f_RX5_118) (fun _ h => h) rfl dX5_lawFault_165 ?_
                      refine lv_iconst (v := 1) hx hb dX5_lawFault_168 (by decide) ?_
                      refine lv_iadd hx hb dX5_lawFault_169 ?_
                      refine lv_topi (fun y52 ey52 => ?_)
                      have qy52_0 : y52.toInt = g0_9.toInt + 1 := zi_add ey52 (rfl) (rfl) (by omega) (by omega)
                      refine va_put (D := g.1) (ci := 5) (v := .int y52) (ty := .int) (C := RX5) (T := TX5) (N := 27) hx hb hts zl_X5 tyX5 tyX5_ok nmX5 hown hK hP hD hS 1 rfl rfl 4 (by decide) (hts _ m_f_RX5_118) (fun _ h => h) rfl (by decide +kernel) rfl rfl (Nat.le_of_ble_eq_true rfl) dX5_lawFault_170 (fun H locs hP hD hS => ?_)
                      have hP : va_P g.1 vwCl [(h3, .inl (zI g, 5, .inl G1_0)), (h0, .inr (5, [.ref h1, .int f0, .ref h2, .int f1, .int y52, .ref h3, .ref h4, .ref h5, .ref h6, .int f3, .ref h7, .ref h8, .ref h9, .int f4, .ref h10, .ref h11, .ref h12, .ref h13, .ref h14, .ref h15, .ref h16, .ref h17, .ref h18, .ref h19, .ref h20, .ref h21, .ref h22])), (h2, .inl (zI g, 60, .inl Z1))] H := hP
                      have hD : va_D A [(h3, .inl (zI g, 5, .inl G1_0)), (h0, .inr (5, [.ref h1, .int f0, .ref h2, .int f1, .int y52, .ref h3, .ref h4, .ref h5, .ref h6, .int f3, .ref h7, .ref h8, .ref h9, .int f4, .ref h10, .ref h11, .ref h12, .ref h13, .ref h14, .ref h15, .ref h16, .ref h17, .ref h18, .ref h19, .ref h20, .ref h21, .ref h22])), (h2, .inl (zI g, 60, .inl Z1))] := hD
                      refine lv_goto (tgt := 104) hx hb dX5_lawFault_173 (by decide) ?_
                      exact ih10 y49 y52 (by omega) (by omega) (by omega) (by omega) (by omega) (by omega) _ _ hP hD hS ls (lv_sub hl [1, 2, 3, 4, 0] rfl)
              have : (0 : Int32).toInt = 0 := rfl
              exact loop104_9 ((60 - w19.toInt : Int).toNat + 1) (0 : Int32) w19 (by omega) (by omega) (by omega) (by omega) (by omega) (by omega) _ _ hP hD hS ls (lv_sub hl [3, 4, 2, 1, 0] rfl)
          · have i_3 : 0 ≤ y17.toInt := z_nlt (rfl) (rfl) c_3
            refine lv_aload_n hx hb dX5_lawFault_59 rfl (lv_at hl 1 rfl) ?_
            refine va_get (D := g.1) (ci := 5) (v := .int w11) (C := RX5) (T := TX5) (N := 27) hx hb hts zl_X5 hown hK hP 1 rfl rfl 4 (by decide) (hts _ m_f_RX5_118) (fun _ h => h) rfl dX5_lawFault_60 ?_
            have hP9 := hP.sub (ws' := [(h0, .inr (5, [.ref h1, .int f0, .ref h2, .int f1, .int w11, .ref h3, .ref h4, .ref h5, .ref h6, .int f3, .ref h7, .ref h8, .ref h9, .int f4, .ref h10, .ref h11, .ref h12, .ref h13, .ref h14, .ref h15, .ref h16, .ref h17, .ref h18, .ref h19, .ref h20, .ref h21, .ref h22])), (h2, .inl (zI g, 60, .inl Z1)), (h3, .inl (zI g, 5, .inl G1_0))]) [1, 2, 0] rfl
            have hD9 := hD.sub (ws' := [(h0, .inr (5, [.ref h1, .int f0, .ref h2, .int f1, .int w11, .ref h3, .ref h4, .ref h5, .ref h6, .int f3, .ref h7, .ref h8, .ref h9, .int f4, .ref h10, .ref h11, .ref h12, .ref h13, .ref h14, .ref h15, .ref h16, .ref h17, .ref h18, .ref h19, .ref h20, .ref h21, .ref h22])), (h2, .inl (zI g, 60, .inl Z1)), (h3, .inl (zI g, 5, .inl G1_0))]) [1, 2, 0] (by decide) rfl
            exact W.iret (v := w11) hx hb hr (fun t ht hW => ⟨⟨w11, ⟨w11, G1_0⟩, rfl, ⟨⟨(by first | omega | decide), (by first | omega | decide)⟩, ⟨show 0 ≤ w11.toInt from by omega, show w11.toInt ≤ 60 from by omega⟩, hG1_0⟩, by rw [ht]; exact hP9, hD9⟩, hS.F ht⟩) hS.2.2 dX5_lawFault_63
      · have i_1 : v1_0.toInt ≠ 0 := z_ne (rfl) (rfl) c_1
        refine lv_aload_n hx hb dX5_lawFault_31 rfl (lv_at hl 0 rfl) ?_
        refine z_calli (wr := [(h3, .inl (zI g, 5, .inl G1_0))]) hP hD hS hA [0, 1] [2] (by decide) rfl rfl (by decide) (va_runV (As := []) (rest := []) ⟨hx, hb, hml, hown, hts⟩ (gX5_ahead l g h0 h1 h2 h3 h4 h5 h6 h7 h8 h9 h10 h11 h12 h13 h14 h15 h16 h17 h18 h19 h20 h21 h22 H.size f0 f1 g0_0 f3 f4 Z1 (by constructor <;> omega) (by constructor <;> omega)) ⟨callB_of 0 hts (zGood m_o_yX5_ahead) rfl rfl rfl (hts _ m_z_RX5) (hts _ m_m_RX5_121) ⟨by decide +kernel, by decide +kernel, by decide +kernel⟩ ⟨Nat.le_of_ble_eq_true rfl, Nat.le_of_ble_eq_true rfl⟩, hts _ m_i_yX5_ahead, hts _ m_e_yX5_ahead⟩ (zPreV hK hN hZ hP hD hS hA [0, 1] (by decide) rfl rfl 5 0 rfl rfl) rfl rfl hl.1 rfl (lv_room (Nat.le_of_ble_eq_true rfl)) dX5_lawFault_32 ⟨Nat.le_of_ble_eq_true rfl, Nat.le_of_ble_eq_true rfl⟩) (fun r u H locs hw hP hD hS => ?_)
        obtain ⟨w53, rfl⟩ : ∃ z, z = u := ⟨_, rfl⟩
        obtain ⟨hw, hI54⟩ := hw
        obtain ⟨hI54a, hI54b⟩ := hI54
        obtain ⟨y55, rfl⟩ : ∃ z, z = r := ⟨_, rfl⟩
        obtain ⟨q56_0, q56_1, q56_2, q56_3, q56_4⟩ := hw
        have q56_0 : (y55.toInt = -1 ∨ w53.toInt < f1.toInt) := q56_0
        have q56_1 : g0_0.toInt ≤ w53.toInt := q56_1
        have q56_2 : w53.toInt = zsk Z1 f1.toInt g0_0.toInt := q56_2
        have q56_3 : (w53.toInt < f1.toInt → y55.toInt = zc Z1 w53.toInt) := q56_3
        have q56_4 : (f1.toInt ≤ w53.toInt → y55.toInt = -1) := q56_4
        have hP : va_P g.1 vwCl [(h3, .inl (zI g, 5, .inl G1_0)), (h0, .inr (5, [.ref h1, .int f0, .ref h2, .int f1, .int w53, .ref h3, .ref h4, .ref h5, .ref h6, .int f3, .ref h7, .ref h8, .ref h9, .int f4, .ref h10, .ref h11, .ref h12, .ref h13, .ref h14, .ref h15, .ref h16, .ref h17, .ref h18, .ref h19, .ref h20, .ref h21, .ref h22])), (h2, .inl (zI g, 60, .inl Z1))] H := hP
        have hD : va_D A [(h3, .inl (zI g, 5, .inl G1_0)), (h0, .inr (5, [.ref h1, .int f0, .ref h2, .int f1, .int w53, .ref h3, .ref h4, .ref h5, .ref h6, .int f3, .ref h7, .ref h8, .ref h9, .int f4, .ref h10, .ref h11, .ref h12, .ref h13, .ref h14, .ref h15, .ref h16, .ref h17, .ref h18, .ref h19, .ref h20, .ref h21, .ref h22])), (h2, .inl (zI g, 60, .inl Z1))] := hD
        refine lv_if_lt (tgt := 211) hx hb dX5_lawFault_35 (by decide) (fun c_31 => ?_) (fun c_31 => ?_)
        · have i_31 : y55.toInt < 0 := z_lt (rfl) (rfl) c_31
          refine lv_iconst (v := (-1)) hx hb dX5_lawFault_211 (by decide) ?_
          have hP9 := hP.sub (ws' := [(h0, .inr (5, [.ref h1, .int f0, .ref h2, .int f1, .int w53, .ref h3, .ref h4, .ref h5, .ref h6, .int f3, .ref h7, .ref h8, .ref h9, .int f4, .ref h10, .ref h11, .ref h12, .ref h13, .ref h14, .ref h15, .ref h16, .ref h17, .ref h18, .ref h19, .ref h20, .ref h21, .ref h22])), (h2, .inl (zI g, 60, .inl Z1)), (h3, .inl (zI g, 5, .inl G1_0))]) [1, 2, 0] rfl
          have hD9 := hD.sub (ws' := [(h0, .inr (5, [.ref h1, .int f0, .ref h2, .int f1, .int w53, .ref h3, .ref h4, .ref h5, .ref h6, .int f3, .ref h7, .ref h8, .ref h9, .int f4, .ref h10, .ref h11, .ref h12, .ref h13, .ref h14, .ref h15, .ref h16, .ref h17, .ref h18, .ref h19, .ref h20, .ref h21, .ref h22])), (h2, .inl (zI g, 60, .inl Z1)), (h3, .inl (zI g, 5, .inl G1_0))]) [1, 2, 0] (by decide) rfl
          exact W.iret (v := (-1)) hx hb hr (fun t ht hW => ⟨⟨(-1), ⟨w53, G1_0⟩, rfl, ⟨⟨(by first | omega | decide), (by first | omega | decide)⟩, ⟨show 0 ≤ w53.toInt from by omega, show w53.toInt ≤ 60 from by omega⟩, hG1_0⟩, by rw [ht]; exact hP9, hD9⟩, hS.F ht⟩) hS.2.2 dX5_lawFault_212
        · have i_31 : 0 ≤ y55.toInt := z_nlt (rfl) (rfl) c_31
          refine lv_aload_n hx hb dX5_lawFault_38 rfl (lv_at hl 0 rfl) ?_
          refine z_calli (wr := [(h3, .inl (zI g, 5, .inl G1_0))]) hP hD hS hA [1, 2] [0] (by decide) rfl rfl (by decide) (va_runV (As := []) (rest := []) ⟨hx, hb, hml, hown, hts⟩ (gX5_ahead l g h0 h1 h2 h3 h4 h5 h6 h7 h8 h9 h10 h11 h12 h13 h14 h15 h16 h17 h18 h19 h20 h21 h22 H.size f0 f1 w53 f3 f4 Z1 (by constructor <;> omega) (by constructor <;> omega)) ⟨callB_of 0 hts (zGood m_o_yX5_ahead) rfl rfl rfl (hts _ m_z_RX5) (hts _ m_m_RX5_121) ⟨by decide +kernel, by decide +kernel, by decide +kernel⟩ ⟨Nat.le_of_ble_eq_true rfl, Nat.le_of_ble_eq_true rfl⟩, hts _ m_i_yX5_ahead, hts _ m_e_yX5_ahead⟩ (zPreV hK hN hZ hP hD hS hA [1, 2] (by decide) rfl rfl 5 1 rfl rfl) rfl rfl hl.1 rfl (lv_room (Nat.le_of_ble_eq_true rfl)) dX5_lawFault_39 ⟨Nat.le_of_ble_eq_true rfl, Nat.le_of_ble_eq_true rfl⟩) (fun r u H locs hw hP hD hS => ?_)
          obtain ⟨w57, rfl⟩ : ∃ z, z = u := ⟨_, rfl⟩
          obtain ⟨hw, hI58⟩ := hw
          obtain ⟨hI58a, hI58b⟩ := hI58
          obtain ⟨y59, rfl⟩ : ∃ z, z = r := ⟨_, rfl⟩
          obtain ⟨q60_0, q60_1, q60_2, q60_3, q60_4⟩ := hw
          have q60_0 : (y59.toInt = -1 ∨ w57.toInt < f1.toInt) := q60_0
          have q60_1 : w53.toInt ≤ w57.toInt := q60_1
          have q60_2 : w57.toInt = zsk Z1 f1.toInt w53.toInt := q60_2
          have q60_3 : (w57.toInt < f1.toInt → y59.toInt = zc Z1 w57.toInt) := q60_3
          have q60_4 : (f1.toInt ≤ w57.toInt → y59.toInt = -1) := q60_4
          have hP : va_P g.1 vwCl [(h3, .inl (zI g, 5, .inl G1_0)), (h0, .inr (5, [.ref h1, .int f0, .ref h2, .int f1, .int w57, .ref h3, .ref h4, .ref h5, .ref h6, .int f3, .ref h7, .ref h8, .ref h9, .int f4, .ref h10, .ref h11, .ref h12, .ref h13, .ref h14, .ref h15, .ref h16, .ref h17, .ref h18, .ref h19, .ref h20, .ref h21, .ref h22])), (h2, .inl (zI g, 60, .inl Z1))] H := hP
          have hD : va_D A [(h3, .inl (zI g, 5, .inl G1_0)), (h0, .inr (5, [.ref h1, .int f0, .ref h2, .int f1, .int w57, .ref h3, .ref h4, .ref h5, .ref h6, .int f3, .ref h7, .ref h8, .ref h9, .int f4, .ref h10, .ref h11, .ref h12, .ref h13, .ref h14, .ref h15, .ref h16, .ref h17, .ref h18, .ref h19, .ref h20, .ref h21, .ref h22])), (h2, .inl (zI g, 60, .inl Z1))] := hD
          refine z_calli (wr := [(h3, .inl (zI g, 5, .inl G1_0)), (h0, .inr (5, [.ref h1, .int f0, .ref h2, .int f1, .int w57, .ref h3, .ref h4, .ref h5, .ref h6, .int f3, .ref h7, .ref h8, .ref h9, .int f4, .ref h10, .ref h11, .ref h12, .ref h13, .ref h14, .ref h15, .ref h16, .ref h17, .ref h18, .ref h19, .ref h20, .ref h21, .ref h22])), (h2, .inl (zI g, 60, .inl Z1))]) hP hD hS hA [] [0, 1, 2] (by decide) rfl rfl (by decide) (va_runS (As := [.int y59]) (rest := []) ⟨hx, hb, hml, hown, hts⟩ (gX5_ruleOf l g  H.size y59) ⟨callB_of 1 hts (zGood m_o_yX5_ruleOf) rfl rfl rfl (hts _ m_z_RX5) (hts _ m_m_RX5_125) ⟨by decide +kernel, by decide +kernel, by decide +kernel⟩ ⟨Nat.le_of_ble_eq_true rfl, Nat.le_of_ble_eq_true rfl⟩, hts _ m_s_yX5_ruleOf⟩ (zPreS hK hN hZ hP hD hS hA [] (by decide) rfl rfl) rfl rfl hl.1 rfl (lv_room (Nat.le_of_ble_eq_true rfl)) dX5_lawFault_42 ⟨Nat.le_of_ble_eq_true rfl, Nat.le_of_ble_eq_true rfl⟩) (fun r u H locs hw hP hD hS => ?_)
          obtain ⟨y61, rfl⟩ : ∃ z, z = r := ⟨_, rfl⟩
          obtain ⟨q62_0, q62_1, q62_2⟩ := hw
          have q62_0 : -1 ≤ y61.toInt := q62_0
          have q62_1 : y61.toInt ≤ 4 := q62_1
          have q62_2 : (y59.toInt = -1 → y61.toInt = -1) := q62_2
          have hP : va_P g.1 vwCl [(h3, .inl (zI g, 5, .inl G1_0)), (h0, .inr (5, [.ref h1, .int f0, .ref h2, .int f1, .int w57, .ref h3, .ref h4, .ref h5, .ref h6, .int f3, .ref h7, .ref h8, .ref h9, .int f4, .ref h10, .ref h11, .ref h12, .ref h13, .ref h14, .ref h15, .ref h16, .ref h17, .ref h18, .ref h19, .ref h20, .ref h21, .ref h22])), (h2, .inl (zI g, 60, .inl Z1))] H := hP
          have hD : va_D A [(h3, .inl (zI g, 5, .inl G1_0)), (h0, .inr (5, [.ref h1, .int f0, .ref h2, .int f1, .int w57, .ref h3, .ref h4, .ref h5, .ref h6, .int f3, .ref h7, .ref h8, .ref h9, .int f4, .ref h10, .ref h11, .ref h12, .ref h13, .ref h14, .ref h15, .ref h16, .ref h17, .ref h18, .ref h19, .ref h20, .ref h21, .ref h22])), (h2, .inl (zI g, 60, .inl Z1))] := hD
          refine lv_istore_n (lv' := [(2, .int y61), (0, .ref h0), (1, .int v1_0)]) hx hb dX5_lawFault_45 rfl hl (by decide) rfl (fun ls hl => ?_)
          refine lv_iload_n hx hb dX5_lawFault_46 rfl (lv_at hl 0 rfl) ?_
          refine lv_if_lt (tgt := 59) hx hb dX5_lawFault_47 (by decide) (fun c_32 => ?_) (fun c_32 => ?_)
          · have i_32 : y61.toInt < 0 := z_lt (rfl) (rfl) c_32
            refine lv_aload_n hx hb dX5_lawFault_59 rfl (lv_at hl 1 rfl) ?_
            refine va_get (D := g.1) (ci := 5) (v := .int w57) (C := RX5) (T := TX5) (N := 27) hx hb hts zl_X5 hown hK hP 1 rfl rfl 4 (by decide) (hts _ m_f_RX5_118) (fun _ h => h) rfl dX5_lawFault_60 ?_
            have hP9 := hP.sub (ws' := [(h0, .inr (5, [.ref h1, .int f0, .ref h2, .int f1, .int w57, .ref h3, .ref h4, .ref h5, .ref h6, .int f3, .ref h7, .ref h8, .ref h9, .int f4, .ref h10, .ref h11, .ref h12, .ref h13, .ref h14, .ref h15, .ref h16, .ref h17, .ref h18, .ref h19, .ref h20, .ref h21, .ref h22])), (h2, .inl (zI g, 60, .inl Z1)), (h3, .inl (zI g, 5, .inl G1_0))]) [1, 2, 0] rfl
            have hD9 := hD.sub (ws' := [(h0, .inr (5, [.ref h1, .int f0, .ref h2, .int f1, .int w57, .ref h3, .ref h4, .ref h5, .ref h6, .int f3, .ref h7, .ref h8, .ref h9, .int f4, .ref h10, .ref h11, .ref h12, .ref h13, .ref h14, .ref h15, .ref h16, .ref h17, .ref h18, .ref h19, .ref h20, .ref h21, .ref h22])), (h2, .inl (zI g, 60, .inl Z1)), (h3, .inl (zI g, 5, .inl G1_0))]) [1, 2, 0] (by decide) rfl
            exact W.iret (v := w57) hx hb hr (fun t ht hW => ⟨⟨w57, ⟨w57, G1_0⟩, rfl, ⟨⟨(by first | omega | decide), (by first | omega | decide)⟩, ⟨show 0 ≤ w57.toInt from by omega, show w57.toInt ≤ 60 from by omega⟩, hG1_0⟩, by rw [ht]; exact hP9, hD9⟩, hS.F ht⟩) hS.2.2 dX5_lawFault_63
          · have i_32 : 0 ≤ y61.toInt := z_nlt (rfl) (rfl) c_32
            refine lv_aload_n hx hb dX5_lawFault_50 rfl (lv_at hl 1 rfl) ?_
            refine va_get (D := g.1) (ci := 5) (v := .ref h3) (C := RX5) (T := TX5) (N := 27) hx hb hts zl_X5 hown hK hP 1 rfl rfl 5 (by decide) (hts _ m_f_RX5_16) (fun _ h => h) rfl dX5_lawFault_51 ?_
            refine lv_iload_n hx hb dX5_lawFault_54 rfl (lv_at hl 0 rfl) ?_
            refine va_iald (D := g.1) hx hb hK hP 0 0 rfl rfl (vp_in_iff.mpr ⟨by omega, by omega⟩) dX5_lawFault_55 ?_
            refine lv_topi (fun y63 ey63 => ?_)
            have qy63_0 : (y61.toInt ≤ 2 → -1 ≤ y63.toInt ∧ y63.toInt ≤ 99) := (iMeant_at (i := y61) (a := y61.toInt) hG1_0 (rfl) (by omega) (by omega) ey63).1
            have qy63_1 : (y61.toInt = 1 → y63.toInt ≤ 9 ∧ y63.toInt ≠ 0) := (iMeant_at (i := y61) (a := y61.toInt) hG1_0 (rfl) (by omega) (by omega) ey63).2
            have qy63_2 : y63.toInt = (G1_0 y61.toNatClampNeg).toInt := congrArg Int32.toInt ey63
            refine lv_if_lt (tgt := 64) hx hb dX5_lawFault_56 (by decide) (fun c_33 => ?_) (fun c_33 => ?_)
            · have i_33 : y63.toInt < 0 := z_lt (rfl) (rfl) c_33
              refine lv_aload_n hx hb dX5_lawFault_64 rfl (lv_at hl 1 rfl) ?_
              refine lv_dup hx hb dX5_lawFault_65 rfl ?_
              refine va_get (D := g.1) (ci := 5) (v := .int w57) (C := RX5) (T := TX5) (N := 27) hx hb hts zl_X5 hown hK hP 1 rfl rfl 4 (by decide) (hts _ m_f_RX5_118) (fun _ h => h) rfl dX5_lawFault_66 ?_
              refine lv_iconst (v := 1) hx hb dX5_lawFault_69 (by decide) ?_
              refine lv_iadd hx hb dX5_lawFault_70 ?_
              refine lv_topi (fun y64 ey64 => ?_)
              have qy64_0 : y64.toInt = w57.toInt + 1 := zi_add ey64 (rfl) (rfl) (by omega) (by omega)
              refine va_put (D := g.1) (ci := 5) (v := .int y64) (ty := .int) (C := RX5) (T := TX5) (N := 27) hx hb hts zl_X5 tyX5 tyX5_ok nmX5 hown hK hP hD hS 1 rfl rfl 4 (by decide) (hts _ m_f_RX5_118) (fun _ h => h) rfl (by decide +kernel) rfl rfl (Nat.le_of_ble_eq_true rfl) dX5_lawFault_71 (fun H locs hP hD hS => ?_)
              have hP : va_P g.1 vwCl [(h3, .inl (zI g, 5, .inl G1_0)), (h0, .inr (5, [.ref h1, .int f0, .ref h2, .int f1, .int y64, .ref h3, .ref h4, .ref h5, .ref h6, .int f3, .ref h7, .ref h8, .ref h9, .int f4, .ref h10, .ref h11, .ref h12, .ref h13, .ref h14, .ref h15, .ref h16, .ref h17, .ref h18, .ref h19, .ref h20, .ref h21, .ref h22])), (h2, .inl (zI g, 60, .inl Z1))] H := hP
              have hD : va_D A [(h3, .inl (zI g, 5, .inl G1_0)), (h0, .inr (5, [.ref h1, .int f0, .ref h2, .int f1, .int y64, .ref h3, .ref h4, .ref h5, .ref h6, .int f3, .ref h7, .ref h8, .ref h9, .int f4, .ref h10, .ref h11, .ref h12, .ref h13, .ref h14, .ref h15, .ref h16, .ref h17, .ref h18, .ref h19, .ref h20, .ref h21, .ref h22])), (h2, .inl (zI g, 60, .inl Z1))] := hD
              refine lv_aload_n hx hb dX5_lawFault_74 rfl (lv_at hl 1 rfl) ?_
              refine z_calli (wr := [(h3, .inl (zI g, 5, .inl G1_0))]) hP hD hS hA [1, 2] [0] (by decide) rfl rfl (by decide) (va_runV (As := []) (rest := []) ⟨hx, hb, hml, hown, hts⟩ (gX5_ahead l g h0 h1 h2 h3 h4 h5 h6 h7 h8 h9 h10 h11 h12 h13 h14 h15 h16 h17 h18 h19 h20 h21 h22 H.size f0 f1 y64 f3 f4 Z1 (by constructor <;> omega) (by constructor <;> omega)) ⟨callB_of 0 hts (zGood m_o_yX5_ahead) rfl rfl rfl (hts _ m_z_RX5) (hts _ m_m_RX5_121) ⟨by decide +kernel, by decide +kernel, by decide +kernel⟩ ⟨Nat.le_of_ble_eq_true rfl, Nat.le_of_ble_eq_true rfl⟩, hts _ m_i_yX5_ahead, hts _ m_e_yX5_ahead⟩ (zPreV hK hN hZ hP hD hS hA [1, 2] (by decide) rfl rfl 5 1 rfl rfl) rfl rfl hl.1 rfl (lv_room (Nat.le_of_ble_eq_true rfl)) dX5_lawFault_75 ⟨Nat.le_of_ble_eq_true rfl, Nat.le_of_ble_eq_true rfl⟩) (fun r u H locs hw hP hD hS => ?_)
              obtain ⟨w65, rfl⟩ : ∃ z, z = u := ⟨_, rfl⟩
              obtain ⟨hw, hI66⟩ := hw
              obtain ⟨hI66a, hI66b⟩ := hI66
              obtain ⟨y67, rfl⟩ : ∃ z, z = r := ⟨_, rfl⟩
              obtain ⟨q68_0, q68_1, q68_2, q68_3, q68_4⟩ := hw
              have q68_0 : (y67.toInt = -1 ∨ w65.toInt < f1.toInt) := q68_0
              have q68_1 : y64.toInt ≤ w65.toInt := q68_1
              have q68_2 : w65.toInt = zsk Z1 f1.toInt y64.toInt := q68_2
              have q68_3 : (w65.toInt < f1.toInt → y67.toInt = zc Z1 w65.toInt) := q68_3
              have q68_4 : (f1.toInt ≤ w65.toInt → y67.toInt = -1) := q68_4
              have hP : va_P g.1 vwCl [(h3, .inl (zI g, 5, .inl G1_0)), (h0, .inr (5, [.ref h1, .int f0, .ref h2, .int f1, .int w65, .ref h3, .ref h4, .ref h5, .ref h6, .int f3, .ref h7, .ref h8, .ref h9, .int f4, .ref h10, .ref h11, .ref h12, .ref h13, .ref h14, .ref h15, .ref h16, .ref h17, .ref h18, .ref h19, .ref h20, .ref h21, .ref h22])), (h2, .inl (zI g, 60, .inl Z1))] H := hP
              have hD : va_D A [(h3, .inl (zI g, 5, .inl G1_0)), (h0, .inr (5, [.ref h1, .int f0, .ref h2, .int f1, .int w65, .ref h3, .ref h4, .ref h5, .ref h6, .int f3, .ref h7, .ref h8, .ref h9, .int f4, .ref h10, .ref h11, .ref h12, .ref h13, .ref h14, .ref h15, .ref h16, .ref h17, .ref h18, .ref h19, .ref h20, .ref h21, .ref h22])), (h2, .inl (zI g, 60, .inl Z1))] := hD
              refine lv_i2l (v := y67.toInt64) hx hb dX5_lawFault_78 rfl ?_
              refine lv_ldc2 (v := 48) hx hb hown (hts _ m_k_RX5_128) dX5_lawFault_79 ?_
              refine lv_ldc2 (v := 57) hx hb hown (hts _ m_k_RX5_130) dX5_lawFault_82 ?_
              refine z_calli (wr := [(h3, .inl (zI g, 5, .inl G1_0)), (h0, .inr (5, [.ref h1, .int f0, .ref h2, .int f1, .int w65, .ref h3, .ref h4, .ref h5, .ref h6, .int f3, .ref h7, .ref h8, .ref h9, .int f4, .ref h10, .ref h11, .ref h12, .ref h13, .ref h14, .ref h15, .ref h16, .ref h17, .ref h18, .ref h19, .ref h20, .ref h21, .ref h22])), (h2, .inl (zI g, 60, .inl Z1))]) hP hD hS hA [] [0, 1, 2] (by decide) rfl rfl (by decide) (va_runS (As := [.long y67.toInt64, .long 48, .long 57]) (rest := []) ⟨hx, hb, hml, hown, hts⟩ (gX5_in l g  H.size y67.toInt64 (48 : Int64) (57 : Int64)) ⟨callB_of 3 hts (zGood m_o_yX5_in) rfl rfl rfl (hts _ m_z_RX5) (hts _ m_m_RX5_77) ⟨by decide +kernel, by decide +kernel, by decide +kernel⟩ ⟨Nat.le_of_ble_eq_true rfl, Nat.le_of_ble_eq_true rfl⟩, hts _ m_s_yX5_in⟩ (zPreS hK hN hZ hP hD hS hA [] (by decide) rfl rfl) rfl rfl hl.1 rfl (lv_room (Nat.le_of_ble_eq_true rfl)) dX5_lawFault_85 ⟨Nat.le_of_ble_eq_true rfl, Nat.le_of_ble_eq_true rfl⟩) (fun r u H locs hw hP hD hS => ?_)
              rcases hw with ⟨i_34, rfl⟩ | ⟨i_35, i_36, rfl⟩ | ⟨i_37, i_38, rfl⟩
              · skip
                have i_34 : y67.toInt < 48 := by (try simp only [Int32.toInt_toInt64] at i_34); exact i_34
                have hP : va_P g.1 vwCl [(h3, .inl (zI g, 5, .inl G1_0)), (h0, .inr (5, [.ref h1, .int f0, .ref h2, .int f1, .int w65, .ref h3, .ref h4, .ref h5, .ref h6, .int f3, .ref h7, .ref h8, .ref h9, .int f4, .ref h10, .ref h11, .ref h12, .ref h13, .ref h14, .ref h15, .ref h16, .ref h17, .ref h18, .ref h19, .ref h20, .ref h21, .ref h22])), (h2, .inl (zI g, 60, .inl Z1))] H := hP
                have hD : va_D A [(h3, .inl (zI g, 5, .inl G1_0)), (h0, .inr (5, [.ref h1, .int f0, .ref h2, .int f1, .int w65, .ref h3, .ref h4, .ref h5, .ref h6, .int f3, .ref h7, .ref h8, .ref h9, .int f4, .ref h10, .ref h11, .ref h12, .ref h13, .ref h14, .ref h15, .ref h16, .ref h17, .ref h18, .ref h19, .ref h20, .ref h21, .ref h22])), (h2, .inl (zI g, 60, .inl Z1))] := hD
                refine lv_if_ne (tgt := 96) hx hb dX5_lawFault_88 (by decide) (fun h => absurd h (by decide +kernel)) (fun _ => ?_)
                refine lv_aload_n hx hb dX5_lawFault_91 rfl (lv_at hl 1 rfl) ?_
                refine va_get (D := g.1) (ci := 5) (v := .int w65) (C := RX5) (T := TX5) (N := 27) hx hb hts zl_X5 hown hK hP 1 rfl rfl 4 (by decide) (hts _ m_f_RX5_118) (fun _ h => h) rfl dX5_lawFault_92 ?_
                have hP9 := hP.sub (ws' := [(h0, .inr (5, [.ref h1, .int f0, .ref h2, .int f1, .int w65, .ref h3, .ref h4, .ref h5, .ref h6, .int f3, .ref h7, .ref h8, .ref h9, .int f4, .ref h10, .ref h11, .ref h12, .ref h13, .ref h14, .ref h15, .ref h16, .ref h17, .ref h18, .ref h19, .ref h20, .ref h21, .ref h22])), (h2, .inl (zI g, 60, .inl Z1)), (h3, .inl (zI g, 5, .inl G1_0))]) [1, 2, 0] rfl
                have hD9 := hD.sub (ws' := [(h0, .inr (5, [.ref h1, .int f0, .ref h2, .int f1, .int w65, .ref h3, .ref h4, .ref h5, .ref h6, .int f3, .ref h7, .ref h8, .ref h9, .int f4, .ref h10, .ref h11, .ref h12, .ref h13, .ref h14, .ref h15, .ref h16, .ref h17, .ref h18, .ref h19, .ref h20, .ref h21, .ref h22])), (h2, .inl (zI g, 60, .inl Z1)), (h3, .inl (zI g, 5, .inl G1_0))]) [1, 2, 0] (by decide) rfl
                exact W.iret (v := w65) hx hb hr (fun t ht hW => ⟨⟨w65, ⟨w65, G1_0⟩, rfl, ⟨⟨(by first | omega | decide), (by first | omega | decide)⟩, ⟨show 0 ≤ w65.toInt from by omega, show w65.toInt ≤ 60 from by omega⟩, hG1_0⟩, by rw [ht]; exact hP9, hD9⟩, hS.F ht⟩) hS.2.2 dX5_lawFault_95
              · skip
                have i_35 : 48 ≤ y67.toInt := by (try simp only [Int32.toInt_toInt64] at i_35); exact i_35
                have i_36 : 57 < y67.toInt := by (try simp only [Int32.toInt_toInt64] at i_36); exact i_36
                have hP : va_P g.1 vwCl [(h3, .inl (zI g, 5, .inl G1_0)), (h0, .inr (5, [.ref h1, .int f0, .ref h2, .int f1, .int w65, .ref h3, .ref h4, .ref h5, .ref h6, .int f3, .ref h7, .ref h8, .ref h9, .int f4, .ref h10, .ref h11, .ref h12, .ref h13, .ref h14, .ref h15, .ref h16, .ref h17, .ref h18, .ref h19, .ref h20, .ref h21, .ref h22])), (h2, .inl (zI g, 60, .inl Z1))] H := hP
                have hD : va_D A [(h3, .inl (zI g, 5, .inl G1_0)), (h0, .inr (5, [.ref h1, .int f0, .ref h2, .int f1, .int w65, .ref h3, .ref h4, .ref h5, .ref h6, .int f3, .ref h7, .ref h8, .ref h9, .int f4, .ref h10, .ref h11, .ref h12, .ref h13, .ref h14, .ref h15, .ref h16, .ref h17, .ref h18, .ref h19, .ref h20, .ref h21, .ref h22])), (h2, .inl (zI g, 60, .inl Z1))] := hD
                refine lv_if_ne (tgt := 96) hx hb dX5_lawFault_88 (by decide) (fun h => absurd h (by decide +kernel)) (fun _ => ?_)
                refine lv_aload_n hx hb dX5_lawFault_91 rfl (lv_at hl 1 rfl) ?_
                refine va_get (D := g.1) (ci := 5) (v := .int w65) (C := RX5) (T := TX5) (N := 27) hx hb hts zl_X5 hown hK hP 1 rfl rfl 4 (by decide) (hts _ m_f_RX5_118) (fun _ h => h) rfl dX5_lawFault_92 ?_
                have hP9 := hP.sub (ws' := [(h0, .inr (5, [.ref h1, .int f0, .ref h2, .int f1, .int w65, .ref h3, .ref h4, .ref h5, .ref h6, .int f3, .ref h7, .ref h8, .ref h9, .int f4, .ref h10, .ref h11, .ref h12, .ref h13, .ref h14, .ref h15, .ref h16, .ref h17, .ref h18, .ref h19, .ref h20, .ref h21, .ref h22])), (h2, .inl (zI g, 60, .inl Z1)), (h3, .inl (zI g, 5, .inl G1_0))]) [1, 2, 0] rfl
                have hD9 := hD.sub (ws' := [(h0, .inr (5, [.ref h1, .int f0, .ref h2, .int f1, .int w65, .ref h3, .ref h4, .ref h5, .ref h6, .int f3, .ref h7, .ref h8, .ref h9, .int f4, .ref h10, .ref h11, .ref h12, .ref h13, .ref h14, .ref h15, .ref h16, .ref h17, .ref h18, .ref h19, .ref h20, .ref h21, .ref h22])), (h2, .inl (zI g, 60, .inl Z1)), (h3, .inl (zI g, 5, .inl G1_0))]) [1, 2, 0] (by decide) rfl
                exact W.iret (v := w65) hx hb hr (fun t ht hW => ⟨⟨w65, ⟨w65, G1_0⟩, rfl, ⟨⟨(by first | omega | decide), (by first | omega | decide)⟩, ⟨show 0 ≤ w65.toInt from by omega, show w65.toInt ≤ 60 from by omega⟩, hG1_0⟩, by rw [ht]; exact hP9, hD9⟩, hS.F ht⟩) hS.2.2 dX5_lawFault_95
              · skip
                have i_37 : 48 ≤ y67.toInt := by (try simp only [Int32.toInt_toInt64] at i_37); exact i_37
                have i_38 : y67.toInt ≤ 57 := by (try simp only [Int32.toInt_toInt64] at i_38); exact i_38
                have hP : va_P g.1 vwCl [(h3, .inl (zI g, 5, .inl G1_0)), (h0, .inr (5, [.ref h1, .int f0, .ref h2, .int f1, .int w65, .ref h3, .ref h4, .ref h5, .ref h6, .int f3, .ref h7, .ref h8, .ref h9, .int f4, .ref h10, .ref h11, .ref h12, .ref h13, .ref h14, .ref h15, .ref h16, .ref h17, .ref h18, .ref h19, .ref h20, .ref h21, .ref h22])), (h2, .inl (zI g, 60, .inl Z1))] H := hP
                have hD : va_D A [(h3, .inl (zI g, 5, .inl G1_0)), (h0, .inr (5, [.ref h1, .int f0, .ref h2, .int f1, .int w65, .ref h3, .ref h4, .ref h5, .ref h6, .int f3, .ref h7, .ref h8, .ref h9, .int f4, .ref h10, .ref h11, .ref h12, .ref h13, .ref h14, .ref h15, .ref h16, .ref h17, .ref h18, .ref h19, .ref h20, .ref h21, .ref h22])), (h2, .inl (zI g, 60, .inl Z1))] := hD
                refine lv_if_ne (tgt := 96) hx hb dX5_lawFault_88 (by decide) (fun _ => ?_) (fun h => absurd h (by decide +kernel))
                refine lv_aload_n hx hb dX5_lawFault_96 rfl (lv_at hl 1 rfl) ?_
                refine va_get (D := g.1) (ci := 5) (v := .int w65) (C := RX5) (T := TX5) (N := 27) hx hb hts zl_X5 hown hK hP 1 rfl rfl 4 (by decide) (hts _ m_f_RX5_118) (fun _ h => h) rfl dX5_lawFault_97 ?_
                refine lv_istore_n (lv' := [(3, .int w65), (2, .int y61), (0, .ref h0), (1, .int v1_0)]) hx hb dX5_lawFault_100 rfl hl (by decide) rfl (fun ls hl => ?_)
                refine lv_iconst (v := 0) hx hb dX5_lawFault_101 (by decide) ?_
                refine lv_istore (lv' := [(4, .int 0), (3, .int w65), (2, .int y61), (0, .ref h0), (1, .int v1_0)]) hx hb dX5_lawFault_102 hl (by decide) rfl (fun ls hl => ?_)
                have loop104_39 : ∀ (n40 : Nat) (v4_39 : Int32) (g0_39 : Int32) (hg0_39a : 0 ≤ g0_39.toInt) (hg0_39b : g0_39.toInt ≤ 60) (n40_0 : 0 ≤ v4_39.toInt) (n40_1 : v4_39.toInt ≤ 1000) (n40_2 : w65.toInt ≤ g0_39.toInt) (hm40 : 60 - g0_39.toInt < (n40 : Int)) (H : Heap) (locs : List Loc), va_P g.1 vwCl [(h3, .inl (zI g, 5, .inl G1_0)), (h0, .inr (5, [.ref h1, .int f0, .ref h2, .int f1, .int g0_39, .ref h3, .ref h4, .ref h5, .ref h6, .int f3, .ref h7, .ref h8, .ref h9, .int f4, .ref h10, .ref h11, .ref h12, .ref h13, .ref h14, .ref h15, .ref h16, .ref h17, .ref h18, .ref h19, .ref h20, .ref h21, .ref h22])), (h2, .inl (zI g, 60, .inl Z1))] H → va_D A [(h3, .inl (zI g, 5, .inl G1_0)), (h0, .inr (5, [.ref h1, .int f0, .ref h2, .int f1, .int g0_39, .ref h3, .ref h4, .ref h5, .ref h6, .int f3, .ref h7, .ref h8, .ref h9, .int f4, .ref h10, .ref h11, .ref h12, .ref h13, .ref h14, .ref h15, .ref h16, .ref h17, .ref h18, .ref h19, .ref h20, .ref h21, .ref h22])), (h2, .inl (zI g, 60, .inl Z1))] → va_S A s.heap H locs → ∀ (ls : Array Slot), lv_has ls 5 [(0, .ref h0), (1, .int v1_0), (2, .int y61), (3, .int w65), (4, .int v4_39)] → W p l e ({ frames := 1, cells := 0, slots := 0, locals := 25 }) s m args below meth c H locs 0 0 (MQ below (va_Qi (fun (r : Int32) (u : Int32 × (Nat → Int32)) => (-1 ≤ r.toInt ∧ r.toInt ≤ 60) ∧ (0 ≤ u.1.toInt ∧ u.1.toInt ≤ 60) ∧ iMeant u.2) (zPost g (fun u : Int32 × (Nat → Int32) => [(h0, .inr (5, [.ref h1, .int f0, .ref h2, .int f1, .int u.1, .ref h3, .ref h4, .ref h5, .ref h6, .int f3, .ref h7, .ref h8, .ref h9, .int f4, .ref h10, .ref h11, .ref h12, .ref h13, .ref h14, .ref h15, .ref h16, .ref h17, .ref h18, .ref h19, .ref h20, .ref h21, .ref h22])), (h2, .inl (zI g, 60, .inl Z1)), (h3, .inl (zI g, 5, .inl u.2))]) A) A) args s 0 0 A) (F0 m 104 ls []) := by
                  intro n40
                  induction n40 with
                  | zero => intro v4_39 g0_39 hg0_39a hg0_39b n40_0 n40_1 n40_2 hm40; exfalso; omega
                  | succ n40 ih40 =>
                    intro v4_39 g0_39 hg0_39a hg0_39b n40_0 n40_1 n40_2 hm40 H locs hP hD hS ls hl
                    refine lv_aload_n hx hb dX5_lawFault_104 rfl (lv_at hl 0 rfl) ?_
                    refine va_get (D := g.1) (ci := 5) (v := .int g0_39) (C := RX5) (T := TX5) (N := 27) hx hb hts zl_X5 hown hK hP 1 rfl rfl 4 (by decide) (hts _ m_f_RX5_118) (fun _ h => h) rfl dX5_lawFault_105 ?_
                    refine lv_aload_n hx hb dX5_lawFault_108 rfl (lv_at hl 0 rfl) ?_
                    refine va_get (D := g.1) (ci := 5) (v := .int f1) (C := RX5) (T := TX5) (N := 27) hx hb hts zl_X5 hown hK hP 1 rfl rfl 3 (by decide) (hts _ m_f_RX5_114) (fun _ h => h) rfl dX5_lawFault_109 ?_
                    refine lv_icmp_ge (tgt := 176) hx hb dX5_lawFault_112 (by decide) (fun c_40 => ?_) (fun c_40 => ?_)
                    · have i_40 : f1.toInt ≤ g0_39.toInt := z_le (rfl) (rfl) c_40
                      refine lv_iload hx hb dX5_lawFault_176 (lv_at hl 4 rfl) ?_
                      refine lv_i2l (v := v4_39.toInt64) hx hb dX5_lawFault_178 rfl ?_
                      refine lv_iload_n hx hb dX5_lawFault_179 rfl (lv_at hl 2 rfl) ?_
                      refine z_calli (wr := [(h3, .inl (zI g, 5, .inl G1_0)), (h0, .inr (5, [.ref h1, .int f0, .ref h2, .int f1, .int g0_39, .ref h3, .ref h4, .ref h5, .ref h6, .int f3, .ref h7, .ref h8, .ref h9, .int f4, .ref h10, .ref h11, .ref h12, .ref h13, .ref h14, .ref h15, .ref h16, .ref h17, .ref h18, .ref h19, .ref h20, .ref h21, .ref h22])), (h2, .inl (zI g, 60, .inl Z1))]) hP hD hS hA [] [0, 1, 2] (by decide) rfl rfl (by decide) (va_runS (As := [.int y61]) (rest := [.long v4_39.toInt64]) ⟨hx, hb, hml, hown, hts⟩ (gX5_leastOf l g  H.size y61) ⟨callB_of 1 hts (zGood m_o_yX5_leastOf) rfl rfl rfl (hts _ m_z_RX5) (hts _ m_m_RX5_83) ⟨by decide +kernel, by decide +kernel, by decide +kernel⟩ ⟨Nat.le_of_ble_eq_true rfl, Nat.le_of_ble_eq_true rfl⟩, hts _ m_s_yX5_leastOf⟩ (zPreS hK hN hZ hP hD hS hA [] (by decide) rfl rfl) rfl rfl hl.1 rfl (lv_room (Nat.le_of_ble_eq_true rfl)) dX5_lawFault_180 ⟨Nat.le_of_ble_eq_true rfl, Nat.le_of_ble_eq_true rfl⟩) (fun r u H locs hw hP hD hS => ?_)
                      obtain ⟨y69, rfl⟩ : ∃ z, z = r := ⟨_, rfl⟩
                      obtain ⟨q70_0, q70_1, q70_2⟩ := hw
                      have q70_0 : 0 ≤ y69.toInt := q70_0
                      have q70_1 : y69.toInt ≤ 1 := q70_1
                      have q70_2 : (y61.toInt < 2 → y69.toInt = 1) := q70_2
                      have hP : va_P g.1 vwCl [(h3, .inl (zI g, 5, .inl G1_0)), (h0, .inr (5, [.ref h1, .int f0, .ref h2, .int f1, .int g0_39, .ref h3, .ref h4, .ref h5, .ref h6, .int f3, .ref h7, .ref h8, .ref h9, .int f4, .ref h10, .ref h11, .ref h12, .ref h13, .ref h14, .ref h15, .ref h16, .ref h17, .ref h18, .ref h19, .ref h20, .ref h21, .ref h22])), (h2, .inl (zI g, 60, .inl Z1))] H := hP
                      have hD : va_D A [(h3, .inl (zI g, 5, .inl G1_0)), (h0, .inr (5, [.ref h1, .int f0, .ref h2, .int f1, .int g0_39, .ref h3, .ref h4, .ref h5, .ref h6, .int f3, .ref h7, .ref h8, .ref h9, .int f4, .ref h10, .ref h11, .ref h12, .ref h13, .ref h14, .ref h15, .ref h16, .ref h17, .ref h18, .ref h19, .ref h20, .ref h21, .ref h22])), (h2, .inl (zI g, 60, .inl Z1))] := hD
                      refine lv_i2l (v := y69.toInt64) hx hb dX5_lawFault_183 rfl ?_
                      refine lv_iload_n hx hb dX5_lawFault_184 rfl (lv_at hl 2 rfl) ?_
                      refine z_calli (wr := [(h3, .inl (zI g, 5, .inl G1_0)), (h0, .inr (5, [.ref h1, .int f0, .ref h2, .int f1, .int g0_39, .ref h3, .ref h4, .ref h5, .ref h6, .int f3, .ref h7, .ref h8, .ref h9, .int f4, .ref h10, .ref h11, .ref h12, .ref h13, .ref h14, .ref h15, .ref h16, .ref h17, .ref h18, .ref h19, .ref h20, .ref h21, .ref h22])), (h2, .inl (zI g, 60, .inl Z1))]) hP hD hS hA [] [0, 1, 2] (by decide) rfl rfl (by decide) (va_runS (As := [.int y61]) (rest := [.long y69.toInt64, .long v4_39.toInt64]) ⟨hx, hb, hml, hown, hts⟩ (gX5_mostOf l g  H.size y61) ⟨callB_of 1 hts (zGood m_o_yX5_mostOf) rfl rfl rfl (hts _ m_z_RX5) (hts _ m_m_RX5_87) ⟨by decide +kernel, by decide +kernel, by decide +kernel⟩ ⟨Nat.le_of_ble_eq_true rfl, Nat.le_of_ble_eq_true rfl⟩, hts _ m_s_yX5_mostOf⟩ (zPreS hK hN hZ hP hD hS hA [] (by decide) rfl rfl) rfl rfl hl.1 rfl (lv_room (Nat.le_of_ble_eq_true rfl)) dX5_lawFault_185 ⟨Nat.le_of_ble_eq_true rfl, Nat.le_of_ble_eq_true rfl⟩) (fun r u H locs hw hP hD hS => ?_)
                      obtain ⟨y71, rfl⟩ : ∃ z, z = r := ⟨_, rfl⟩
                      obtain ⟨q72_0, q72_1, q72_2⟩ := hw
                      have q72_0 : y71.toInt ≤ 99 := q72_0
                      have q72_1 : 1 ≤ y71.toInt := q72_1
                      have q72_2 : (y61.toInt = 1 → y71.toInt = 9) := q72_2
                      have hP : va_P g.1 vwCl [(h3, .inl (zI g, 5, .inl G1_0)), (h0, .inr (5, [.ref h1, .int f0, .ref h2, .int f1, .int g0_39, .ref h3, .ref h4, .ref h5, .ref h6, .int f3, .ref h7, .ref h8, .ref h9, .int f4, .ref h10, .ref h11, .ref h12, .ref h13, .ref h14, .ref h15, .ref h16, .ref h17, .ref h18, .ref h19, .ref h20, .ref h21, .ref h22])), (h2, .inl (zI g, 60, .inl Z1))] H := hP
                      have hD : va_D A [(h3, .inl (zI g, 5, .inl G1_0)), (h0, .inr (5, [.ref h1, .int f0, .ref h2, .int f1, .int g0_39, .ref h3, .ref h4, .ref h5, .ref h6, .int f3, .ref h7, .ref h8, .ref h9, .int f4, .ref h10, .ref h11, .ref h12, .ref h13, .ref h14, .ref h15, .ref h16, .ref h17, .ref h18, .ref h19, .ref h20, .ref h21, .ref h22])), (h2, .inl (zI g, 60, .inl Z1))] := hD
                      refine lv_i2l (v := y71.toInt64) hx hb dX5_lawFault_188 rfl ?_
                      refine z_calli (wr := [(h3, .inl (zI g, 5, .inl G1_0)), (h0, .inr (5, [.ref h1, .int f0, .ref h2, .int f1, .int g0_39, .ref h3, .ref h4, .ref h5, .ref h6, .int f3, .ref h7, .ref h8, .ref h9, .int f4, .ref h10, .ref h11, .ref h12, .ref h13, .ref h14, .ref h15, .ref h16, .ref h17, .ref h18, .ref h19, .ref h20, .ref h21, .ref h22])), (h2, .inl (zI g, 60, .inl Z1))]) hP hD hS hA [] [0, 1, 2] (by decide) rfl rfl (by decide) (va_runS (As := [.long v4_39.toInt64, .long y69.toInt64, .long y71.toInt64]) (rest := []) ⟨hx, hb, hml, hown, hts⟩ (gX5_in l g  H.size v4_39.toInt64 y69.toInt64 y71.toInt64) ⟨callB_of 3 hts (zGood m_o_yX5_in) rfl rfl rfl (hts _ m_z_RX5) (hts _ m_m_RX5_77) ⟨by decide +kernel, by decide +kernel, by decide +kernel⟩ ⟨Nat.le_of_ble_eq_true rfl, Nat.le_of_ble_eq_true rfl⟩, hts _ m_s_yX5_in⟩ (zPreS hK hN hZ hP hD hS hA [] (by decide) rfl rfl) rfl rfl hl.1 rfl (lv_room (Nat.le_of_ble_eq_true rfl)) dX5_lawFault_189 ⟨Nat.le_of_ble_eq_true rfl, Nat.le_of_ble_eq_true rfl⟩) (fun r u H locs hw hP hD hS => ?_)
                      rcases hw with ⟨i_41, rfl⟩ | ⟨i_42, i_43, rfl⟩ | ⟨i_44, i_45, rfl⟩
                      · skip
                        have i_41 : v4_39.toInt < y69.toInt := by simpa only [Int32.toInt_toInt64] using i_41
                        have hP : va_P g.1 vwCl [(h3, .inl (zI g, 5, .inl G1_0)), (h0, .inr (5, [.ref h1, .int f0, .ref h2, .int f1, .int g0_39, .ref h3, .ref h4, .ref h5, .ref h6, .int f3, .ref h7, .ref h8, .ref h9, .int f4, .ref h10, .ref h11, .ref h12, .ref h13, .ref h14, .ref h15, .ref h16, .ref h17, .ref h18, .ref h19, .ref h20, .ref h21, .ref h22])), (h2, .inl (zI g, 60, .inl Z1))] H := hP
                        have hD : va_D A [(h3, .inl (zI g, 5, .inl G1_0)), (h0, .inr (5, [.ref h1, .int f0, .ref h2, .int f1, .int g0_39, .ref h3, .ref h4, .ref h5, .ref h6, .int f3, .ref h7, .ref h8, .ref h9, .int f4, .ref h10, .ref h11, .ref h12, .ref h13, .ref h14, .ref h15, .ref h16, .ref h17, .ref h18, .ref h19, .ref h20, .ref h21, .ref h22])), (h2, .inl (zI g, 60, .inl Z1))] := hD
                        refine lv_if_ne (tgt := 197) hx hb dX5_lawFault_192 (by decide) (fun h => absurd h (by decide +kernel)) (fun _ => ?_)
                        refine lv_iload_n hx hb dX5_lawFault_195 rfl (lv_at hl 3 rfl) ?_
                        have hP9 := hP.sub (ws' := [(h0, .inr (5, [.ref h1, .int f0, .ref h2, .int f1, .int g0_39, .ref h3, .ref h4, .ref h5, .ref h6, .int f3, .ref h7, .ref h8, .ref h9, .int f4, .ref h10, .ref h11, .ref h12, .ref h13, .ref h14, .ref h15, .ref h16, .ref h17, .ref h18, .ref h19, .ref h20, .ref h21, .ref h22])), (h2, .inl (zI g, 60, .inl Z1)), (h3, .inl (zI g, 5, .inl G1_0))]) [1, 2, 0] rfl
                        have hD9 := hD.sub (ws' := [(h0, .inr (5, [.ref h1, .int f0, .ref h2, .int f1, .int g0_39, .ref h3, .ref h4, .ref h5, .ref h6, .int f3, .ref h7, .ref h8, .ref h9, .int f4, .ref h10, .ref h11, .ref h12, .ref h13, .ref h14, .ref h15, .ref h16, .ref h17, .ref h18, .ref h19, .ref h20, .ref h21, .ref h22])), (h2, .inl (zI g, 60, .inl Z1)), (h3, .inl (zI g, 5, .inl G1_0))]) [1, 2, 0] (by decide) rfl
                        exact W.iret (v := w65) hx hb hr (fun t ht hW => ⟨⟨w65, ⟨g0_39, G1_0⟩, rfl, ⟨⟨(by first | omega | decide), (by first | omega | decide)⟩, ⟨show 0 ≤ g0_39.toInt from by omega, show g0_39.toInt ≤ 60 from by omega⟩, hG1_0⟩, by rw [ht]; exact hP9, hD9⟩, hS.F ht⟩) hS.2.2 dX5_lawFault_196
                      · skip
                        have i_42 : y69.toInt ≤ v4_39.toInt := by simpa only [Int32.toInt_toInt64] using i_42
                        have i_43 : y71.toInt < v4_39.toInt := by simpa only [Int32.toInt_toInt64] using i_43
                        have hP : va_P g.1 vwCl [(h3, .inl (zI g, 5, .inl G1_0)), (h0, .inr (5, [.ref h1, .int f0, .ref h2, .int f1, .int g0_39, .ref h3, .ref h4, .ref h5, .ref h6, .int f3, .ref h7, .ref h8, .ref h9, .int f4, .ref h10, .ref h11, .ref h12, .ref h13, .ref h14, .ref h15, .ref h16, .ref h17, .ref h18, .ref h19, .ref h20, .ref h21, .ref h22])), (h2, .inl (zI g, 60, .inl Z1))] H := hP
                        have hD : va_D A [(h3, .inl (zI g, 5, .inl G1_0)), (h0, .inr (5, [.ref h1, .int f0, .ref h2, .int f1, .int g0_39, .ref h3, .ref h4, .ref h5, .ref h6, .int f3, .ref h7, .ref h8, .ref h9, .int f4, .ref h10, .ref h11, .ref h12, .ref h13, .ref h14, .ref h15, .ref h16, .ref h17, .ref h18, .ref h19, .ref h20, .ref h21, .ref h22])), (h2, .inl (zI g, 60, .inl Z1))] := hD
                        refine lv_if_ne (tgt := 197) hx hb dX5_lawFault_192 (by decide) (fun h => absurd h (by decide +kernel)) (fun _ => ?_)
                        refine lv_iload_n hx hb dX5_lawFault_195 rfl (lv_at hl 3 rfl) ?_
                        have hP9 := hP.sub (ws' := [(h0, .inr (5, [.ref h1, .int f0, .ref h2, .int f1, .int g0_39, .ref h3, .ref h4, .ref h5, .ref h6, .int f3, .ref h7, .ref h8, .ref h9, .int f4, .ref h10, .ref h11, .ref h12, .ref h13, .ref h14, .ref h15, .ref h16, .ref h17, .ref h18, .ref h19, .ref h20, .ref h21, .ref h22])), (h2, .inl (zI g, 60, .inl Z1)), (h3, .inl (zI g, 5, .inl G1_0))]) [1, 2, 0] rfl
                        have hD9 := hD.sub (ws' := [(h0, .inr (5, [.ref h1, .int f0, .ref h2, .int f1, .int g0_39, .ref h3, .ref h4, .ref h5, .ref h6, .int f3, .ref h7, .ref h8, .ref h9, .int f4, .ref h10, .ref h11, .ref h12, .ref h13, .ref h14, .ref h15, .ref h16, .ref h17, .ref h18, .ref h19, .ref h20, .ref h21, .ref h22])), (h2, .inl (zI g, 60, .inl Z1)), (h3, .inl (zI g, 5, .inl G1_0))]) [1, 2, 0] (by decide) rfl
                        exact W.iret (v := w65) hx hb hr (fun t ht hW => ⟨⟨w65, ⟨g0_39, G1_0⟩, rfl, ⟨⟨(by first | omega | decide), (by first | omega | decide)⟩, ⟨show 0 ≤ g0_39.toInt from by omega, show g0_39.toInt ≤ 60 from by omega⟩, hG1_0⟩, by rw [ht]; exact hP9, hD9⟩, hS.F ht⟩) hS.2.2 dX5_lawFault_196
                      · skip
                        have i_44 : y69.toInt ≤ v4_39.toInt := by simpa only [Int32.toInt_toInt64] using i_44
                        have i_45 : v4_39.toInt ≤ y71.toInt := by simpa only [Int32.toInt_toInt64] using i_45
                        have hP : va_P g.1 vwCl [(h3, .inl (zI g, 5, .inl G1_0)), (h0, .inr (5, [.ref h1, .int f0, .ref h2, .int f1, .int g0_39, .ref h3, .ref h4, .ref h5, .ref h6, .int f3, .ref h7, .ref h8, .ref h9, .int f4, .ref h10, .ref h11, .ref h12, .ref h13, .ref h14, .ref h15, .ref h16, .ref h17, .ref h18, .ref h19, .ref h20, .ref h21, .ref h22])), (h2, .inl (zI g, 60, .inl Z1))] H := hP
                        have hD : va_D A [(h3, .inl (zI g, 5, .inl G1_0)), (h0, .inr (5, [.ref h1, .int f0, .ref h2, .int f1, .int g0_39, .ref h3, .ref h4, .ref h5, .ref h6, .int f3, .ref h7, .ref h8, .ref h9, .int f4, .ref h10, .ref h11, .ref h12, .ref h13, .ref h14, .ref h15, .ref h16, .ref h17, .ref h18, .ref h19, .ref h20, .ref h21, .ref h22])), (h2, .inl (zI g, 60, .inl Z1))] := hD
                        refine lv_if_ne (tgt := 197) hx hb dX5_lawFault_192 (by decide) (fun _ => ?_) (fun h => absurd h (by decide +kernel))
                        refine lv_aload_n hx hb dX5_lawFault_197 rfl (lv_at hl 0 rfl) ?_
                        refine va_get (D := g.1) (ci := 5) (v := .ref h3) (C := RX5) (T := TX5) (N := 27) hx hb hts zl_X5 hown hK hP 1 rfl rfl 5 (by decide) (hts _ m_f_RX5_16) (fun _ h => h) rfl dX5_lawFault_198 ?_
                        refine lv_iload_n hx hb dX5_lawFault_201 rfl (lv_at hl 2 rfl) ?_
                        refine lv_iload hx hb dX5_lawFault_202 (lv_at hl 4 rfl) ?_
                        refine va_iast (D := g.1) hx hb hK hP hD hS 0 0 rfl rfl (vp_in_iff.mpr ⟨by omega, by omega⟩) dX5_lawFault_204 (fun H locs hP hD hS => ?_)
                        have hP : va_P g.1 vwCl [(h3, .inl (zI g, 5, .inl (upd G1_0 y61.toNatClampNeg v4_39))), (h0, .inr (5, [.ref h1, .int f0, .ref h2, .int f1, .int g0_39, .ref h3, .ref h4, .ref h5, .ref h6, .int f3, .ref h7, .ref h8, .ref h9, .int f4, .ref h10, .ref h11, .ref h12, .ref h13, .ref h14, .ref h15, .ref h16, .ref h17, .ref h18, .ref h19, .ref h20, .ref h21, .ref h22])), (h2, .inl (zI g, 60, .inl Z1))] H := hP
                        have hD : va_D A [(h3, .inl (zI g, 5, .inl (upd G1_0 y61.toNatClampNeg v4_39))), (h0, .inr (5, [.ref h1, .int f0, .ref h2, .int f1, .int g0_39, .ref h3, .ref h4, .ref h5, .ref h6, .int f3, .ref h7, .ref h8, .ref h9, .int f4, .ref h10, .ref h11, .ref h12, .ref h13, .ref h14, .ref h15, .ref h16, .ref h17, .ref h18, .ref h19, .ref h20, .ref h21, .ref h22])), (h2, .inl (zI g, 60, .inl Z1))] := hD
                        have hI73 : iMeant (upd G1_0 y61.toNatClampNeg v4_39) := iMeant_put (i := y61) (a := y61.toInt) (v := v4_39) (b := v4_39.toInt) hG1_0 (rfl) (rfl) (by omega) (by omega) (by omega) (by omega)
                        obtain ⟨R74, eR74⟩ : ∃ z : Nat → Int32, z = (upd G1_0 y61.toNatClampNeg v4_39) := ⟨_, rfl⟩
                        rw [← eR74] at hP hD hI73
                        have qR74 : (R74 y61.toNatClampNeg).toInt = v4_39.toInt := z_put eR74 (rfl)
                        obtain ⟨y75, ey75⟩ : ∃ z : Int32, z = v1_0 + 1 := ⟨_, rfl⟩
                        refine lv_iinc (v := y75) (lv' := [(1, .int y75), (0, .ref h0), (2, .int y61), (3, .int w65), (4, .int v4_39)]) hx hb dX5_lawFault_205 hl (k := 1) rfl ey75.symm (by decide) rfl (fun ls hl => ?_)
                        refine lv_goto (tgt := 27) hx hb dX5_lawFault_208 (by decide) ?_
                        have hP := hP.sub (ws' := [(h0, .inr (5, [.ref h1, .int f0, .ref h2, .int f1, .int g0_39, .ref h3, .ref h4, .ref h5, .ref h6, .int f3, .ref h7, .ref h8, .ref h9, .int f4, .ref h10, .ref h11, .ref h12, .ref h13, .ref h14, .ref h15, .ref h16, .ref h17, .ref h18, .ref h19, .ref h20, .ref h21, .ref h22])), (h2, .inl (zI g, 60, .inl Z1)), (h3, .inl (zI g, 5, .inl R74))]) [1, 2, 0] rfl
                        have hD := hD.sub (ws' := [(h0, .inr (5, [.ref h1, .int f0, .ref h2, .int f1, .int g0_39, .ref h3, .ref h4, .ref h5, .ref h6, .int f3, .ref h7, .ref h8, .ref h9, .int f4, .ref h10, .ref h11, .ref h12, .ref h13, .ref h14, .ref h15, .ref h16, .ref h17, .ref h18, .ref h19, .ref h20, .ref h21, .ref h22])), (h2, .inl (zI g, 60, .inl Z1)), (h3, .inl (zI g, 5, .inl R74))]) [1, 2, 0] (by decide) rfl
                        exact ih1 y75 g0_39 R74 (by omega) (by omega) (hI73) (by omega) _ _ hP hD hS ls (lv_sub hl [1, 0] rfl)
                    · have i_40 : g0_39.toInt < f1.toInt := z_nle (rfl) (rfl) c_40
                      refine lv_aload_n hx hb dX5_lawFault_115 rfl (lv_at hl 0 rfl) ?_
                      refine va_get (D := g.1) (ci := 5) (v := .ref h2) (C := RX5) (T := TX5) (N := 27) hx hb hts zl_X5 hown hK hP 1 rfl rfl 2 (by decide) (hts _ m_f_RX5_13) (fun _ h => h) rfl dX5_lawFault_116 ?_
                      refine lv_aload_n hx hb dX5_lawFault_119 rfl (lv_at hl 0 rfl) ?_
                      refine va_get (D := g.1) (ci := 5) (v := .int g0_39) (C := RX5) (T := TX5) (N := 27) hx hb hts zl_X5 hown hK hP 1 rfl rfl 4 (by decide) (hts _ m_f_RX5_118) (fun _ h => h) rfl dX5_lawFault_120 ?_
                      refine va_iald (D := g.1) hx hb hK hP 2 0 rfl rfl (vp_in_iff.mpr ⟨by omega, by omega⟩) dX5_lawFault_123 ?_
                      refine lv_topi (fun y76 ey76 => ?_)
                      have qy76_0 : y76.toInt = (Z1 g0_39.toNatClampNeg).toInt := congrArg Int32.toInt ey76
                      refine lv_i2l (v := y76.toInt64) hx hb dX5_lawFault_124 rfl ?_
                      refine lv_ldc2 (v := 48) hx hb hown (hts _ m_k_RX5_128) dX5_lawFault_125 ?_
                      refine lv_ldc2 (v := 57) hx hb hown (hts _ m_k_RX5_130) dX5_lawFault_128 ?_
                      refine z_calli (wr := [(h3, .inl (zI g, 5, .inl G1_0)), (h0, .inr (5, [.ref h1, .int f0, .ref h2, .int f1, .int g0_39, .ref h3, .ref h4, .ref h5, .ref h6, .int f3, .ref h7, .ref h8, .ref h9, .int f4, .ref h10, .ref h11, .ref h12, .ref h13, .ref h14, .ref h15, .ref h16, .ref h17, .ref h18, .ref h19, .ref h20, .ref h21, .ref h22])), (h2, .inl (zI g, 60, .inl Z1))]) hP hD hS hA [] [0, 1, 2] (by decide) rfl rfl (by decide) (va_runS (As := [.long y76.toInt64, .long 48, .long 57]) (rest := []) ⟨hx, hb, hml, hown, hts⟩ (gX5_in l g  H.size y76.toInt64 (48 : Int64) (57 : Int64)) ⟨callB_of 3 hts (zGood m_o_yX5_in) rfl rfl rfl (hts _ m_z_RX5) (hts _ m_m_RX5_77) ⟨by decide +kernel, by decide +kernel, by decide +kernel⟩ ⟨Nat.le_of_ble_eq_true rfl, Nat.le_of_ble_eq_true rfl⟩, hts _ m_s_yX5_in⟩ (zPreS hK hN hZ hP hD hS hA [] (by decide) rfl rfl) rfl rfl hl.1 rfl (lv_room (Nat.le_of_ble_eq_true rfl)) dX5_lawFault_131 ⟨Nat.le_of_ble_eq_true rfl, Nat.le_of_ble_eq_true rfl⟩) (fun r u H locs hw hP hD hS => ?_)
                      rcases hw with ⟨i_46, rfl⟩ | ⟨i_47, i_48, rfl⟩ | ⟨i_49, i_50, rfl⟩
                      · skip
                        have i_46 : y76.toInt < 48 := by (try simp only [Int32.toInt_toInt64] at i_46); exact i_46
                        have hP : va_P g.1 vwCl [(h3, .inl (zI g, 5, .inl G1_0)), (h0, .inr (5, [.ref h1, .int f0, .ref h2, .int f1, .int g0_39, .ref h3, .ref h4, .ref h5, .ref h6, .int f3, .ref h7, .ref h8, .ref h9, .int f4, .ref h10, .ref h11, .ref h12, .ref h13, .ref h14, .ref h15, .ref h16, .ref h17, .ref h18, .ref h19, .ref h20, .ref h21, .ref h22])), (h2, .inl (zI g, 60, .inl Z1))] H := hP
                        have hD : va_D A [(h3, .inl (zI g, 5, .inl G1_0)), (h0, .inr (5, [.ref h1, .int f0, .ref h2, .int f1, .int g0_39, .ref h3, .ref h4, .ref h5, .ref h6, .int f3, .ref h7, .ref h8, .ref h9, .int f4, .ref h10, .ref h11, .ref h12, .ref h13, .ref h14, .ref h15, .ref h16, .ref h17, .ref h18, .ref h19, .ref h20, .ref h21, .ref h22])), (h2, .inl (zI g, 60, .inl Z1))] := hD
                        refine lv_if_eq (tgt := 176) hx hb dX5_lawFault_134 (by decide) (fun _ => ?_) (fun h => absurd h (by decide +kernel))
                        refine lv_iload hx hb dX5_lawFault_176 (lv_at hl 4 rfl) ?_
                        refine lv_i2l (v := v4_39.toInt64) hx hb dX5_lawFault_178 rfl ?_
                        refine lv_iload_n hx hb dX5_lawFault_179 rfl (lv_at hl 2 rfl) ?_
                        refine z_calli (wr := [(h3, .inl (zI g, 5, .inl G1_0)), (h0, .inr (5, [.ref h1, .int f0, .ref h2, .int f1, .int g0_39, .ref h3, .ref h4, .ref h5, .ref h6, .int f3, .ref h7, .ref h8, .ref h9, .int f4, .ref h10, .ref h11, .ref h12, .ref h13, .ref h14, .ref h15, .ref h16, .ref h17, .ref h18, .ref h19, .ref h20, .ref h21, .ref h22])), (h2, .inl (zI g, 60, .inl Z1))]) hP hD hS hA [] [0, 1, 2] (by decide) rfl rfl (by decide) (va_runS (As := [.int y61]) (rest := [.long v4_39.toInt64]) ⟨hx, hb, hml, hown, hts⟩ (gX5_leastOf l g  H.size y61) ⟨callB_of 1 hts (zGood m_o_yX5_leastOf) rfl rfl rfl (hts _ m_z_RX5) (hts _ m_m_RX5_83) ⟨by decide +kernel, by decide +kernel, by decide +kernel⟩ ⟨Nat.le_of_ble_eq_true rfl, Nat.le_of_ble_eq_true rfl⟩, hts _ m_s_yX5_leastOf⟩ (zPreS hK hN hZ hP hD hS hA [] (by decide) rfl rfl) rfl rfl hl.1 rfl (lv_room (Nat.le_of_ble_eq_true rfl)) dX5_lawFault_180 ⟨Nat.le_of_ble_eq_true rfl, Nat.le_of_ble_eq_true rfl⟩) (fun r u H locs hw hP hD hS => ?_)
                        obtain ⟨y77, rfl⟩ : ∃ z, z = r := ⟨_, rfl⟩
                        obtain ⟨q78_0, q78_1, q78_2⟩ := hw
                        have q78_0 : 0 ≤ y77.toInt := q78_0
                        have q78_1 : y77.toInt ≤ 1 := q78_1
                        have q78_2 : (y61.toInt < 2 → y77.toInt = 1) := q78_2
                        have hP : va_P g.1 vwCl [(h3, .inl (zI g, 5, .inl G1_0)), (h0, .inr (5, [.ref h1, .int f0, .ref h2, .int f1, .int g0_39, .ref h3, .ref h4, .ref h5, .ref h6, .int f3, .ref h7, .ref h8, .ref h9, .int f4, .ref h10, .ref h11, .ref h12, .ref h13, .ref h14, .ref h15, .ref h16, .ref h17, .ref h18, .ref h19, .ref h20, .ref h21, .ref h22])), (h2, .inl (zI g, 60, .inl Z1))] H := hP
                        have hD : va_D A [(h3, .inl (zI g, 5, .inl G1_0)), (h0, .inr (5, [.ref h1, .int f0, .ref h2, .int f1, .int g0_39, .ref h3, .ref h4, .ref h5, .ref h6, .int f3, .ref h7, .ref h8, .ref h9, .int f4, .ref h10, .ref h11, .ref h12, .ref h13, .ref h14, .ref h15, .ref h16, .ref h17, .ref h18, .ref h19, .ref h20, .ref h21, .ref h22])), (h2, .inl (zI g, 60, .inl Z1))] := hD
                        refine lv_i2l (v := y77.toInt64) hx hb dX5_lawFault_183 rfl ?_
                        refine lv_iload_n hx hb dX5_lawFault_184 rfl (lv_at hl 2 rfl) ?_
                        refine z_calli (wr := [(h3, .inl (zI g, 5, .inl G1_0)), (h0, .inr (5, [.ref h1, .int f0, .ref h2, .int f1, .int g0_39, .ref h3, .ref h4, .ref h5, .ref h6, .int f3, .ref h7, .ref h8, .ref h9, .int f4, .ref h10, .ref h11, .ref h12, .ref h13, .ref h14, .ref h15, .ref h16, .ref h17, .ref h18, .ref h19, .ref h20, .ref h21, .ref h22])), (h2, .inl (zI g, 60, .inl Z1))]) hP hD hS hA [] [0, 1, 2] (by decide) rfl rfl (by decide) (va_runS (As := [.int y61]) (rest := [.long y77.toInt64, .long v4_39.toInt64]) ⟨hx, hb, hml, hown, hts⟩ (gX5_mostOf l g  H.size y61) ⟨callB_of 1 hts (zGood m_o_yX5_mostOf) rfl rfl rfl (hts _ m_z_RX5) (hts _ m_m_RX5_87) ⟨by decide +kernel, by decide +kernel, by decide +kernel⟩ ⟨Nat.le_of_ble_eq_true rfl, Nat.le_of_ble_eq_true rfl⟩, hts _ m_s_yX5_mostOf⟩ (zPreS hK hN hZ hP hD hS hA [] (by decide) rfl rfl) rfl rfl hl.1 rfl (lv_room (Nat.le_of_ble_eq_true rfl)) dX5_lawFault_185 ⟨Nat.le_of_ble_eq_true rfl, Nat.le_of_ble_eq_true rfl⟩) (fun r u H locs hw hP hD hS => ?_)
                        obtain ⟨y79, rfl⟩ : ∃ z, z = r := ⟨_, rfl⟩
                        obtain ⟨q80_0, q80_1, q80_2⟩ := hw
                        have q80_0 : y79.toInt ≤ 99 := q80_0
                        have q80_1 : 1 ≤ y79.toInt := q80_1
                        have q80_2 : (y61.toInt = 1 → y79.toInt = 9) := q80_2
                        have hP : va_P g.1 vwCl [(h3, .inl (zI g, 5, .inl G1_0)), (h0, .inr (5, [.ref h1, .int f0, .ref h2, .int f1, .int g0_39, .ref h3, .ref h4, .ref h5, .ref h6, .int f3, .ref h7, .ref h8, .ref h9, .int f4, .ref h10, .ref h11, .ref h12, .ref h13, .ref h14, .ref h15, .ref h16, .ref h17, .ref h18, .ref h19, .ref h20, .ref h21, .ref h22])), (h2, .inl (zI g, 60, .inl Z1))] H := hP
                        have hD : va_D A [(h3, .inl (zI g, 5, .inl G1_0)), (h0, .inr (5, [.ref h1, .int f0, .ref h2, .int f1, .int g0_39, .ref h3, .ref h4, .ref h5, .ref h6, .int f3, .ref h7, .ref h8, .ref h9, .int f4, .ref h10, .ref h11, .ref h12, .ref h13, .ref h14, .ref h15, .ref h16, .ref h17, .ref h18, .ref h19, .ref h20, .ref h21, .ref h22])), (h2, .inl (zI g, 60, .inl Z1))] := hD
                        refine lv_i2l (v := y79.toInt64) hx hb dX5_lawFault_188 rfl ?_
                        refine z_calli (wr := [(h3, .inl (zI g, 5, .inl G1_0)), (h0, .inr (5, [.ref h1, .int f0, .ref h2, .int f1, .int g0_39, .ref h3, .ref h4, .ref h5, .ref h6, .int f3, .ref h7, .ref h8, .ref h9, .int f4, .ref h10, .ref h11, .ref h12, .ref h13, .ref h14, .ref h15, .ref h16, .ref h17, .ref h18, .ref h19, .ref h20, .ref h21, .ref h22])), (h2, .inl (zI g, 60, .inl Z1))]) hP hD hS hA [] [0, 1, 2] (by decide) rfl rfl (by decide) (va_runS (As := [.long v4_39.toInt64, .long y77.toInt64, .long y79.toInt64]) (rest := []) ⟨hx, hb, hml, hown, hts⟩ (gX5_in l g  H.size v4_39.toInt64 y77.toInt64 y79.toInt64) ⟨callB_of 3 hts (zGood m_o_yX5_in) rfl rfl rfl (hts _ m_z_RX5) (hts _ m_m_RX5_77) ⟨by decide +kernel, by decide +kernel, by decide +kernel⟩ ⟨Nat.le_of_ble_eq_true rfl, Nat.le_of_ble_eq_true rfl⟩, hts _ m_s_yX5_in⟩ (zPreS hK hN hZ hP hD hS hA [] (by decide) rfl rfl) rfl rfl hl.1 rfl (lv_room (Nat.le_of_ble_eq_true rfl)) dX5_lawFault_189 ⟨Nat.le_of_ble_eq_true rfl, Nat.le_of_ble_eq_true rfl⟩) (fun r u H locs hw hP hD hS => ?_)
                        rcases hw with ⟨i_51, rfl⟩ | ⟨i_52, i_53, rfl⟩ | ⟨i_54, i_55, rfl⟩
                        · skip
                          have i_51 : v4_39.toInt < y77.toInt := by simpa only [Int32.toInt_toInt64] using i_51
                          have hP : va_P g.1 vwCl [(h3, .inl (zI g, 5, .inl G1_0)), (h0, .inr (5, [.ref h1, .int f0, .ref h2, .int f1, .int g0_39, .ref h3, .ref h4, .ref h5, .ref h6, .int f3, .ref h7, .ref h8, .ref h9, .int f4, .ref h10, .ref h11, .ref h12, .ref h13, .ref h14, .ref h15, .ref h16, .ref h17, .ref h18, .ref h19, .ref h20, .ref h21, .ref h22])), (h2, .inl (zI g, 60, .inl Z1))] H := hP
                          have hD : va_D A [(h3, .inl (zI g, 5, .inl G1_0)), (h0, .inr (5, [.ref h1, .int f0, .ref h2, .int f1, .int g0_39, .ref h3, .ref h4, .ref h5, .ref h6, .int f3, .ref h7, .ref h8, .ref h9, .int f4, .ref h10, .ref h11, .ref h12, .ref h13, .ref h14, .ref h15, .ref h16, .ref h17, .ref h18, .ref h19, .ref h20, .ref h21, .ref h22])), (h2, .inl (zI g, 60, .inl Z1))] := hD
                          refine lv_if_ne (tgt := 197) hx hb dX5_lawFault_192 (by decide) (fun h => absurd h (by decide +kernel)) (fun _ => ?_)
                          refine lv_iload_n hx hb dX5_lawFault_195 rfl (lv_at hl 3 rfl) ?_
                          have hP9 := hP.sub (ws' := [(h0, .inr (5, [.ref h1, .int f0, .ref h2, .int f1, .int g0_39, .ref h3, .ref h4, .ref h5, .ref h6, .int f3, .ref h7, .ref h8, .ref h9, .int f4, .ref h10, .ref h11, .ref h12, .ref h13, .ref h14, .ref h15, .ref h16, .ref h17, .ref h18, .ref h19, .ref h20, .ref h21, .ref h22])), (h2, .inl (zI g, 60, .inl Z1)), (h3, .inl (zI g, 5, .inl G1_0))]) [1, 2, 0] rfl
                          have hD9 := hD.sub (ws' := [(h0, .inr (5, [.ref h1, .int f0, .ref h2, .int f1, .int g0_39, .ref h3, .ref h4, .ref h5, .ref h6, .int f3, .ref h7, .ref h8, .ref h9, .int f4, .ref h10, .ref h11, .ref h12, .ref h13, .ref h14, .ref h15, .ref h16, .ref h17, .ref h18, .ref h19, .ref h20, .ref h21, .ref h22])), (h2, .inl (zI g, 60, .inl Z1)), (h3, .inl (zI g, 5, .inl G1_0))]) [1, 2, 0] (by decide) rfl
                          exact W.iret (v := w65) hx hb hr (fun t ht hW => ⟨⟨w65, ⟨g0_39, G1_0⟩, rfl, ⟨⟨(by first | omega | decide), (by first | omega | decide)⟩, ⟨show 0 ≤ g0_39.toInt from by omega, show g0_39.toInt ≤ 60 from by omega⟩, hG1_0⟩, by rw [ht]; exact hP9, hD9⟩, hS.F ht⟩) hS.2.2 dX5_lawFault_196
                        · skip
                          have i_52 : y77.toInt ≤ v4_39.toInt := by simpa only [Int32.toInt_toInt64] using i_52
                          have i_53 : y79.toInt < v4_39.toInt := by simpa only [Int32.toInt_toInt64] using i_53
                          have hP : va_P g.1 vwCl [(h3, .inl (zI g, 5, .inl G1_0)), (h0, .inr (5, [.ref h1, .int f0, .ref h2, .int f1, .int g0_39, .ref h3, .ref h4, .ref h5, .ref h6, .int f3, .ref h7, .ref h8, .ref h9, .int f4, .ref h10, .ref h11, .ref h12, .ref h13, .ref h14, .ref h15, .ref h16, .ref h17, .ref h18, .ref h19, .ref h20, .ref h21, .ref h22])), (h2, .inl (zI g, 60, .inl Z1))] H := hP
                          have hD : va_D A [(h3, .inl (zI g, 5, .inl G1_0)), (h0, .inr (5, [.ref h1, .int f0, .ref h2, .int f1, .int g0_39, .ref h3, .ref h4, .ref h5, .ref h6, .int f3, .ref h7, .ref h8, .ref h9, .int f4, .ref h10, .ref h11, .ref h12, .ref h13, .ref h14, .ref h15, .ref h16, .ref h17, .ref h18, .ref h19, .ref h20, .ref h21, .ref h22])), (h2, .inl (zI g, 60, .inl Z1))] := hD
                          refine lv_if_ne (tgt := 197) hx hb dX5_lawFault_192 (by decide) (fun h => absurd h (by decide +kernel)) (fun _ => ?_)
                          refine lv_iload_n hx hb dX5_lawFault_195 rfl (lv_at hl 3 rfl) ?_
                          have hP9 := hP.sub (ws' := [(h0, .inr (5, [.ref h1, .int f0, .ref h2, .int f1, .int g0_39, .ref h3, .ref h4, .ref h5, .ref h6, .int f3, .ref h7, .ref h8, .ref h9, .int f4, .ref h10, .ref h11, .ref h12, .ref h13, .ref h14, .ref h15, .ref h16, .ref h17, .ref h18, .ref h19, .ref h20, .ref h21, .ref h22])), (h2, .inl (zI g, 60, .inl Z1)), (h3, .inl (zI g, 5, .inl G1_0))]) [1, 2, 0] rfl
                          have hD9 := hD.sub (ws' := [(h0, .inr (5, [.ref h1, .int f0, .ref h2, .int f1, .int g0_39, .ref h3, .ref h4, .ref h5, .ref h6, .int f3, .ref h7, .ref h8, .ref h9, .int f4, .ref h10, .ref h11, .ref h12, .ref h13, .ref h14, .ref h15, .ref h16, .ref h17, .ref h18, .ref h19, .ref h20, .ref h21, .ref h22])), (h2, .inl (zI g, 60, .inl Z1)), (h3, .inl (zI g, 5, .inl G1_0))]) [1, 2, 0] (by decide) rfl
                          exact W.iret (v := w65) hx hb hr (fun t ht hW => ⟨⟨w65, ⟨g0_39, G1_0⟩, rfl, ⟨⟨(by first | omega | decide), (by first | omega | decide)⟩, ⟨show 0 ≤ g0_39.toInt from by omega, show g0_39.toInt ≤ 60 from by omega⟩, hG1_0⟩, by rw [ht]; exact hP9, hD9⟩, hS.F ht⟩) hS.2.2 dX5_lawFault_196
                        · skip
                          have i_54 : y77.toInt ≤ v4_39.toInt := by simpa only [Int32.toInt_toInt64] using i_54
                          have i_55 : v4_39.toInt ≤ y79.toInt := by simpa only [Int32.toInt_toInt64] using i_55
                          have hP : va_P g.1 vwCl [(h3, .inl (zI g, 5, .inl G1_0)), (h0, .inr (5, [.ref h1, .int f0, .ref h2, .int f1, .int g0_39, .ref h3, .ref h4, .ref h5, .ref h6, .int f3, .ref h7, .ref h8, .ref h9, .int f4, .ref h10, .ref h11, .ref h12, .ref h13, .ref h14, .ref h15, .ref h16, .ref h17, .ref h18, .ref h19, .ref h20, .ref h21, .ref h22])), (h2, .inl (zI g, 60, .inl Z1))] H := hP
                          have hD : va_D A [(h3, .inl (zI g, 5, .inl G1_0)), (h0, .inr (5, [.ref h1, .int f0, .ref h2, .int f1, .int g0_39, .ref h3, .ref h4, .ref h5, .ref h6, .int f3, .ref h7, .ref h8, .ref h9, .int f4, .ref h10, .ref h11, .ref h12, .ref h13, .ref h14, .ref h15, .ref h16, .ref h17, .ref h18, .ref h19, .ref h20, .ref h21, .ref h22])), (h2, .inl (zI g, 60, .inl Z1))] := hD
                          refine lv_if_ne (tgt := 197) hx hb dX5_lawFault_192 (by decide) (fun _ => ?_) (fun h => absurd h (by decide +kernel))
                          refine lv_aload_n hx hb dX5_lawFault_197 rfl (lv_at hl 0 rfl) ?_
                          refine va_get (D := g.1) (ci := 5) (v := .ref h3) (C := RX5) (T := TX5) (N := 27) hx hb hts zl_X5 hown hK hP 1 rfl rfl 5 (by decide) (hts _ m_f_RX5_16) (fun _ h => h) rfl dX5_lawFault_198 ?_
                          refine lv_iload_n hx hb dX5_lawFault_201 rfl (lv_at hl 2 rfl) ?_
                          refine lv_iload hx hb dX5_lawFault_202 (lv_at hl 4 rfl) ?_
                          refine va_iast (D := g.1) hx hb hK hP hD hS 0 0 rfl rfl (vp_in_iff.mpr ⟨by omega, by omega⟩) dX5_lawFault_204 (fun H locs hP hD hS => ?_)
                          have hP : va_P g.1 vwCl [(h3, .inl (zI g, 5, .inl (upd G1_0 y61.toNatClampNeg v4_39))), (h0, .inr (5, [.ref h1, .int f0, .ref h2, .int f1, .int g0_39, .ref h3, .ref h4, .ref h5, .ref h6, .int f3, .ref h7, .ref h8, .ref h9, .int f4, .ref h10, .ref h11, .ref h12, .ref h13, .ref h14, .ref h15, .ref h16, .ref h17, .ref h18, .ref h19, .ref h20, .ref h21, .ref h22])), (h2, .inl (zI g, 60, .inl Z1))] H := hP
                          have hD : va_D A [(h3, .inl (zI g, 5, .inl (upd G1_0 y61.toNatClampNeg v4_39))), (h0, .inr (5, [.ref h1, .int f0, .ref h2, .int f1, .int g0_39, .ref h3, .ref h4, .ref h5, .ref h6, .int f3, .ref h7, .ref h8, .ref h9, .int f4, .ref h10, .ref h11, .ref h12, .ref h13, .ref h14, .ref h15, .ref h16, .ref h17, .ref h18, .ref h19, .ref h20, .ref h21, .ref h22])), (h2, .inl (zI g, 60, .inl Z1))] := hD
                          have hI81 : iMeant (upd G1_0 y61.toNatClampNeg v4_39) := iMeant_put (i := y61) (a := y61.toInt) (v := v4_39) (b := v4_39.toInt) hG1_0 (rfl) (rfl) (by omega) (by omega) (by omega) (by omega)
                          obtain ⟨R82, eR82⟩ : ∃ z : Nat → Int32, z = (upd G1_0 y61.toNatClampNeg v4_39) := ⟨_, rfl⟩
                          rw [← eR82] at hP hD hI81
                          have qR82 : (R82 y61.toNatClampNeg).toInt = v4_39.toInt := z_put eR82 (rfl)
                          obtain ⟨y83, ey83⟩ : ∃ z : Int32, z = v1_0 + 1 := ⟨_, rfl⟩
                          refine lv_iinc (v := y83) (lv' := [(1, .int y83), (0, .ref h0), (2, .int y61), (3, .int w65), (4, .int v4_39)]) hx hb dX5_lawFault_205 hl (k := 1) rfl ey83.symm (by decide) rfl (fun ls hl => ?_)
                          refine lv_goto (tgt := 27) hx hb dX5_lawFault_208 (by decide) ?_
                          have hP := hP.sub (ws' := [(h0, .inr (5, [.ref h1, .int f0, .ref h2, .int f1, .int g0_39, .ref h3, .ref h4, .ref h5, .ref h6, .int f3, .ref h7, .ref h8, .ref h9, .int f4, .ref h10, .ref h11, .ref h12, .ref h13, .ref h14, .ref h15, .ref h16, .ref h17, .ref h18, .ref h19, .ref h20, .ref h21, .ref h22])), (h2, .inl (zI g, 60, .inl Z1)), (h3, .inl (zI g, 5, .inl R82))]) [1, 2, 0] rfl
                          have hD := hD.sub (ws' := [(h0, .inr (5, [.ref h1, .int f0, .ref h2, .int f1, .int g0_39, .ref h3, .ref h4, .ref h5, .ref h6, .int f3, .ref h7, .ref h8, .ref h9, .int f4, .ref h10, .ref h11, .ref h12, .ref h13, .ref h14, .ref h15, .ref h16, .ref h17, .ref h18, .ref h19, .ref h20, .ref h21, .ref h22])), (h2, .inl (zI g, 60, .inl Z1)), (h3, .inl (zI g, 5, .inl R82))]) [1, 2, 0] (by decide) rfl
                          exact ih1 y83 g0_39 R82 (by omega) (by omega) (hI81) (by omega) _ _ hP hD hS ls (lv_sub hl [1, 0] rfl)
                      · skip
                        have i_47 : 48 ≤ y76.toInt := by (try simp only [Int32.toInt_toInt64] at i_47); exact i_47
                        have i_48 : 57 < y76.toInt := by (try simp only [Int32.toInt_toInt64] at i_48); exact i_48
                        have hP : va_P g.1 vwCl [(h3, .inl (zI g, 5, .inl G1_0)), (h0, .inr (5, [.ref h1, .int f0, .ref h2, .int f1, .int g0_39, .ref h3, .ref h4, .ref h5, .ref h6, .int f3, .ref h7, .ref h8, .ref h9, .int f4, .ref h10, .ref h11, .ref h12, .ref h13, .ref h14, .ref h15, .ref h16, .ref h17, .ref h18, .ref h19, .ref h20, .ref h21, .ref h22])), (h2, .inl (zI g, 60, .inl Z1))] H := hP
                        have hD : va_D A [(h3, .inl (zI g, 5, .inl G1_0)), (h0, .inr (5, [.ref h1, .int f0, .ref h2, .int f1, .int g0_39, .ref h3, .ref h4, .ref h5, .ref h6, .int f3, .ref h7, .ref h8, .ref h9, .int f4, .ref h10, .ref h11, .ref h12, .ref h13, .ref h14, .ref h15, .ref h16, .ref h17, .ref h18, .ref h19, .ref h20, .ref h21, .ref h22])), (h2, .inl (zI g, 60, .inl Z1))] := hD
                        refine lv_if_eq (tgt := 176) hx hb dX5_lawFault_134 (by decide) (fun _ => ?_) (fun h => absurd h (by decide +kernel))
                        refine lv_iload hx hb dX5_lawFault_176 (lv_at hl 4 rfl) ?_
                        refine lv_i2l (v := v4_39.toInt64) hx hb dX5_lawFault_178 rfl ?_
                        refine lv_iload_n hx hb dX5_lawFault_179 rfl (lv_at hl 2 rfl) ?_
                        refine z_calli (wr := [(h3, .inl (zI g, 5, .inl G1_0)), (h0, .inr (5, [.ref h1, .int f0, .ref h2, .int f1, .int g0_39, .ref h3, .ref h4, .ref h5, .ref h6, .int f3, .ref h7, .ref h8, .ref h9, .int f4, .ref h10, .ref h11, .ref h12, .ref h13, .ref h14, .ref h15, .ref h16, .ref h17, .ref h18, .ref h19, .ref h20, .ref h21, .ref h22])), (h2, .inl (zI g, 60, .inl Z1))]) hP hD hS hA [] [0, 1, 2] (by decide) rfl rfl (by decide) (va_runS (As := [.int y61]) (rest := [.long v4_39.toInt64]) ⟨hx, hb, hml, hown, hts⟩ (gX5_leastOf l g  H.size y61) ⟨callB_of 1 hts (zGood m_o_yX5_leastOf) rfl rfl rfl (hts _ m_z_RX5) (hts _ m_m_RX5_83) ⟨by decide +kernel, by decide +kernel, by decide +kernel⟩ ⟨Nat.le_of_ble_eq_true rfl, Nat.le_of_ble_eq_true rfl⟩, hts _ m_s_yX5_leastOf⟩ (zPreS hK hN hZ hP hD hS hA [] (by decide) rfl rfl) rfl rfl hl.1 rfl (lv_room (Nat.le_of_ble_eq_true rfl)) dX5_lawFault_180 ⟨Nat.le_of_ble_eq_true rfl, Nat.le_of_ble_eq_true rfl⟩) (fun r u H locs hw hP hD hS => ?_)
                        obtain ⟨y84, rfl⟩ : ∃ z, z = r := ⟨_, rfl⟩
                        obtain ⟨q85_0, q85_1, q85_2⟩ := hw
                        have q85_0 : 0 ≤ y84.toInt := q85_0
                        have q85_1 : y84.toInt ≤ 1 := q85_1
                        have q85_2 : (y61.toInt < 2 → y84.toInt = 1) := q85_2
                        have hP : va_P g.1 vwCl [(h3, .inl (zI g, 5, .inl G1_0)), (h0, .inr (5, [.ref h1, .int f0, .ref h2, .int f1, .int g0_39, .ref h3, .ref h4, .ref h5, .ref h6, .int f3, .ref h7, .ref h8, .ref h9, .int f4, .ref h10, .ref h11, .ref h12, .ref h13, .ref h14, .ref h15, .ref h16, .ref h17, .ref h18, .ref h19, .ref h20, .ref h21, .ref h22])), (h2, .inl (zI g, 60, .inl Z1))] H := hP
                        have hD : va_D A [(h3, .inl (zI g, 5, .inl G1_0)), (h0, .inr (5, [.ref h1, .int f0, .ref h2, .int f1, .int g0_39, .ref h3, .ref h4, .ref h5, .ref h6, .int f3, .ref h7, .ref h8, .ref h9, .int f4, .ref h10, .ref h11, .ref h12, .ref h13, .ref h14, .ref h15, .ref h16, .ref h17, .ref h18, .ref h19, .ref h20, .ref h21, .ref h22])), (h2, .inl (zI g, 60, .inl Z1))] := hD
                        refine lv_i2l (v := y84.toInt64) hx hb dX5_lawFault_183 rfl ?_
                        refine lv_iload_n hx hb dX5_lawFault_184 rfl (lv_at hl 2 rfl) ?_
                        refine z_calli (wr := [(h3, .inl (zI g, 5, .inl G1_0)), (h0, .inr (5, [.ref h1, .int f0, .ref h2, .int f1, .int g0_39, .ref h3, .ref h4, .ref h5, .ref h6, .int f3, .ref h7, .ref h8, .ref h9, .int f4, .ref h10, .ref h11, .ref h12, .ref h13, .ref h14, .ref h15, .ref h16, .ref h17, .ref h18, .ref h19, .ref h20, .ref h21, .ref h22])), (h2, .inl (zI g, 60, .inl Z1))]) hP hD hS hA [] [0, 1, 2] (by decide) rfl rfl (by decide) (va_runS (As := [.int y61]) (rest := [.long y84.toInt64, .long v4_39.toInt64]) ⟨hx, hb, hml, hown, hts⟩ (gX5_mostOf l g  H.size y61) ⟨callB_of 1 hts (zGood m_o_yX5_mostOf) rfl rfl rfl (hts _ m_z_RX5) (hts _ m_m_RX5_87) ⟨by decide +kernel, by decide +kernel, by decide +kernel⟩ ⟨Nat.le_of_ble_eq_true rfl, Nat.le_of_ble_eq_true rfl⟩, hts _ m_s_yX5_mostOf⟩ (zPreS hK hN hZ hP hD hS hA [] (by decide) rfl rfl) rfl rfl hl.1 rfl (lv_room (Nat.le_of_ble_eq_true rfl)) dX5_lawFault_185 ⟨Nat.le_of_ble_eq_true rfl, Nat.le_of_ble_eq_true rfl⟩) (fun r u H locs hw hP hD hS => ?_)
                        obtain ⟨y86, rfl⟩ : ∃ z, z = r := ⟨_, rfl⟩
                        obtain ⟨q87_0, q87_1, q87_2⟩ := hw
                        have q87_0 : y86.toInt ≤ 99 := q87_0
                        have q87_1 : 1 ≤ y86.toInt := q87_1
                        have q87_2 : (y61.toInt = 1 → y86.toInt = 9) := q87_2
                        have hP : va_P g.1 vwCl [(h3, .inl (zI g, 5, .inl G1_0)), (h0, .inr (5, [.ref h1, .int f0, .ref h2, .int f1, .int g0_39, .ref h3, .ref h4, .ref h5, .ref h6, .int f3, .ref h7, .ref h8, .ref h9, .int f4, .ref h10, .ref h11, .ref h12, .ref h13, .ref h14, .ref h15, .ref h16, .ref h17, .ref h18, .ref h19, .ref h20, .ref h21, .ref h22])), (h2, .inl (zI g, 60, .inl Z1))] H := hP
                        have hD : va_D A [(h3, .inl (zI g, 5, .inl G1_0)), (h0, .inr (5, [.ref h1, .int f0, .ref h2, .int f1, .int g0_39, .ref h3, .ref h4, .ref h5, .ref h6, .int f3, .ref h7, .ref h8, .ref h9, .int f4, .ref h10, .ref h11, .ref h12, .ref h13, .ref h14, .ref h15, .ref h16, .ref h17, .ref h18, .ref h19, .ref h20, .ref h21, .ref h22])), (h2, .inl (zI g, 60, .inl Z1))] := hD
                        refine lv_i2l (v := y86.toInt64) hx hb dX5_lawFault_188 rfl ?_
                        refine z_calli (wr := [(h3, .inl (zI g, 5, .inl G1_0)), (h0, .inr (5, [.ref h1, .int f0, .ref h2, .int f1, .int g0_39, .ref h3, .ref h4, .ref h5, .ref h6, .int f3, .ref h7, .ref h8, .ref h9, .int f4, .ref h10, .ref h11, .ref h12, .ref h13, .ref h14, .ref h15, .ref h16, .ref h17, .ref h18, .ref h19, .ref h20, .ref h21, .ref h22])), (h2, .inl (zI g, 60, .inl Z1))]) hP hD hS hA [] [0, 1, 2] (by decide) rfl rfl (by decide) (va_runS (As := [.long v4_39.toInt64, .long y84.toInt64, .long y86.toInt64]) (rest := []) ⟨hx, hb, hml, hown, hts⟩ (gX5_in l g  H.size v4_39.toInt64 y84.toInt64 y86.toInt64) ⟨callB_of 3 hts (zGood m_o_yX5_in) rfl rfl rfl (hts _ m_z_RX5) (hts _ m_m_RX5_77) ⟨by decide +kernel, by decide +kernel, by decide +kernel⟩ ⟨Nat.le_of_ble_eq_true rfl, Nat.le_of_ble_eq_true rfl⟩, hts _ m_s_yX5_in⟩ (zPreS hK hN hZ hP hD hS hA [] (by decide) rfl rfl) rfl rfl hl.1 rfl (lv_room (Nat.le_of_ble_eq_true rfl)) dX5_lawFault_189 ⟨Nat.le_of_ble_eq_true rfl, Nat.le_of_ble_eq_true rfl⟩) (fun r u H locs hw hP hD hS => ?_)
                        rcases hw with ⟨i_56, rfl⟩ | ⟨i_57, i_58, rfl⟩ | ⟨i_59, i_60, rfl⟩
                        · skip
                          have i_56 : v4_39.toInt < y84.toInt := by simpa only [Int32.toInt_toInt64] using i_56
                          have hP : va_P g.1 vwCl [(h3, .inl (zI g, 5, .inl G1_0)), (h0, .inr (5, [.ref h1, .int f0, .ref h2, .int f1, .int g0_39, .ref h3, .ref h4, .ref h5, .ref h6, .int f3, .ref h7, .ref h8, .ref h9, .int f4, .ref h10, .ref h11, .ref h12, .ref h13, .ref h14, .ref h15, .ref h16, .ref h17, .ref h18, .ref h19, .ref h20, .ref h21, .ref h22])), (h2, .inl (zI g, 60, .inl Z1))] H := hP
                          have hD : va_D A [(h3, .inl (zI g, 5, .inl G1_0)), (h0, .inr (5, [.ref h1, .int f0, .ref h2, .int f1, .int g0_39, .ref h3, .ref h4, .ref h5, .ref h6, .int f3, .ref h7, .ref h8, .ref h9, .int f4, .ref h10, .ref h11, .ref h12, .ref h13, .ref h14, .ref h15, .ref h16, .ref h17, .ref h18, .ref h19, .ref h20, .ref h21, .ref h22])), (h2, .inl (zI g, 60, .inl Z1))] := hD
                          refine lv_if_ne (tgt := 197) hx hb dX5_lawFault_192 (by decide) (fun h => absurd h (by decide +kernel)) (fun _ => ?_)
                          refine lv_iload_n hx hb dX5_lawFault_195 rfl (lv_at hl 3 rfl) ?_
                          have hP9 := hP.sub (ws' := [(h0, .inr (5, [.ref h1, .int f0, .ref h2, .int f1, .int g0_39, .ref h3, .ref h4, .ref h5, .ref h6, .int f3, .ref h7, .ref h8, .ref h9, .int f4, .ref h10, .ref h11, .ref h12, .ref h13, .ref h14, .ref h15, .ref h16, .ref h17, .ref h18, .ref h19, .ref h20, .ref h21, .ref h22])), (h2, .inl (zI g, 60, .inl Z1)), (h3, .inl (zI g, 5, .inl G1_0))]) [1, 2, 0] rfl
                          have hD9 := hD.sub (ws' := [(h0, .inr (5, [.ref h1, .int f0, .ref h2, .int f1, .int g0_39, .ref h3, .ref h4, .ref h5, .ref h6, .int f3, .ref h7, .ref h8, .ref h9, .int f4, .ref h10, .ref h11, .ref h12, .ref h13, .ref h14, .ref h15, .ref h16, .ref h17, .ref h18, .ref h19, .ref h20, .ref h21, .ref h22])), (h2, .inl (zI g, 60, .inl Z1)), (h3, .inl (zI g, 5, .inl G1_0))]) [1, 2, 0] (by decide) rfl
                          exact W.iret (v := w65) hx hb hr (fun t ht hW => ⟨⟨w65, ⟨g0_39, G1_0⟩, rfl, ⟨⟨(by first | omega | decide), (by first | omega | decide)⟩, ⟨show 0 ≤ g0_39.toInt from by omega, show g0_39.toInt ≤ 60 from by omega⟩, hG1_0⟩, by rw [ht]; exact hP9, hD9⟩, hS.F ht⟩) hS.2.2 dX5_lawFault_196
                        · skip
                          have i_57 : y84.toInt ≤ v4_39.toInt := by simpa only [Int32.toInt_toInt64] using i_57
                          have i_58 : y86.toInt < v4_39.toInt := by simpa only [Int32.toInt_toInt64] using i_58
                          have hP : va_P g.1 vwCl [(h3, .inl (zI g, 5, .inl G1_0)), (h0, .inr (5, [.ref h1, .int f0, .ref h2, .int f1, .int g0_39, .ref h3, .ref h4, .ref h5, .ref h6, .int f3, .ref h7, .ref h8, .ref h9, .int f4, .ref h10, .ref h11, .ref h12, .ref h13, .ref h14, .ref h15, .ref h16, .ref h17, .ref h18, .ref h19, .ref h20, .ref h21, .ref h22])), (h2, .inl (zI g, 60, .inl Z1))] H := hP
                          have hD : va_D A [(h3, .inl (zI g, 5, .inl G1_0)), (h0, .inr (5, [.ref h1, .int f0, .ref h2, .int f1, .int g0_39, .ref h3, .ref h4, .ref h5, .ref h6, .int f3, .ref h7, .ref h8, .ref h9, .int f4, .ref h10, .ref h11, .ref h12, .ref h13, .ref h14, .ref h15, .ref h16, .ref h17, .ref h18, .ref h19, .ref h20, .ref h21, .ref h22])), (h2, .inl (zI g, 60, .inl Z1))] := hD
                          refine lv_if_ne (tgt := 197) hx hb dX5_lawFault_192 (by decide) (fun h => absurd h (by decide +kernel)) (fun _ => ?_)
                          refine lv_iload_n hx hb dX5_lawFault_195 rfl (lv_at hl 3 rfl) ?_
                          have hP9 := hP.sub (ws' := [(h0, .inr (5, [.ref h1, .int f0, .ref h2, .int f1, .int g0_39, .ref h3, .ref h4, .ref h5, .ref h6, .int f3, .ref h7, .ref h8, .ref h9, .int f4, .ref h10, .ref h11, .ref h12, .ref h13, .ref h14, .ref h15, .ref h16, .ref h17, .ref h18, .ref h19, .ref h20, .ref h21, .ref h22])), (h2, .inl (zI g, 60, .inl Z1)), (h3, .inl (zI g, 5, .inl G1_0))]) [1, 2, 0] rfl
                          have hD9 := hD.sub (ws' := [(h0, .inr (5, [.ref h1, .int f0, .ref h2, .int f1, .int g0_39, .ref h3, .ref h4, .ref h5, .ref h6, .int f3, .ref h7, .ref h8, .ref h9, .int f4, .ref h10, .ref h11, .ref h12, .ref h13, .ref h14, .ref h15, .ref h16, .ref h17, .ref h18, .ref h19, .ref h20, .ref h21, .ref h22])), (h2, .inl (zI g, 60, .inl Z1)), (h3, .inl (zI g, 5, .inl G1_0))]) [1, 2, 0] (by decide) rfl
                          exact W.iret (v := w65) hx hb hr (fun t ht hW => ⟨⟨w65, ⟨g0_39, G1_0⟩, rfl, ⟨⟨(by first | omega | decide), (by first | omega | decide)⟩, ⟨show 0 ≤ g0_39.toInt from by omega, show g0_39.toInt ≤ 60 from by omega⟩, hG1_0⟩, by rw [ht]; exact hP9, hD9⟩, hS.F ht⟩) hS.2.2 dX5_lawFault_196
                        · skip
                          have i_59 : y84.toInt ≤ v4_39.toInt := by simpa only [Int32.toInt_toInt64] using i_59
                          have i_60 : v4_39.toInt ≤ y86.toInt := by simpa only [Int32.toInt_toInt64] using i_60
                          have hP : va_P g.1 vwCl [(h3, .inl (zI g, 5, .inl G1_0)), (h0, .inr (5, [.ref h1, .int f0, .ref h2, .int f1, .int g0_39, .ref h3, .ref h4, .ref h5, .ref h6, .int f3, .ref h7, .ref h8, .ref h9, .int f4, .ref h10, .ref h11, .ref h12, .ref h13, .ref h14, .ref h15, .ref h16, .ref h17, .ref h18, .ref h19, .ref h20, .ref h21, .ref h22])), (h2, .inl (zI g, 60, .inl Z1))] H := hP
                          have hD : va_D A [(h3, .inl (zI g, 5, .inl G1_0)), (h0, .inr (5, [.ref h1, .int f0, .ref h2, .int f1, .int g0_39, .ref h3, .ref h4, .ref h5, .ref h6, .int f3, .ref h7, .ref h8, .ref h9, .int f4, .ref h10, .ref h11, .ref h12, .ref h13, .ref h14, .ref h15, .ref h16, .ref h17, .ref h18, .ref h19, .ref h20, .ref h21, .ref h22])), (h2, .inl (zI g, 60, .inl Z1))] := hD
                          refine lv_if_ne (tgt := 197) hx hb dX5_lawFault_192 (by decide) (fun _ => ?_) (fun h => absurd h (by decide +kernel))
                          refine lv_aload_n hx hb dX5_lawFault_197 rfl (lv_at hl 0 rfl) ?_
                          refine va_get (D := g.1) (ci := 5) (v := .ref h3) (C := RX5) (T := TX5) (N := 27) hx hb hts zl_X5 hown hK hP 1 rfl rfl 5 (by decide) (hts _ m_f_RX5_16) (fun _ h => h) rfl dX5_lawFault_198 ?_
                          refine lv_iload_n hx hb dX5_lawFault_201 rfl (lv_at hl 2 rfl) ?_
                          refine lv_iload hx hb dX5_lawFault_202 (lv_at hl 4 rfl) ?_
                          refine va_iast (D := g.1) hx hb hK hP hD hS 0 0 rfl rfl (vp_in_iff.mpr ⟨by omega, by omega⟩) dX5_lawFault_204 (fun H locs hP hD hS => ?_)
                          have hP : va_P g.1 vwCl [(h3, .inl (zI g, 5, .inl (upd G1_0 y61.toNatClampNeg v4_39))), (h0, .inr (5, [.ref h1, .int f0, .ref h2, .int f1, .int g0_39, .ref h3, .ref h4, .ref h5, .ref h6, .int f3, .ref h7, .ref h8, .ref h9, .int f4, .ref h10, .ref h11, .ref h12, .ref h13, .ref h14, .ref h15, .ref h16, .ref h17, .ref h18, .ref h19, .ref h20, .ref h21, .ref h22])), (h2, .inl (zI g, 60, .inl Z1))] H := hP
                          have hD : va_D A [(h3, .inl (zI g, 5, .inl (upd G1_0 y61.toNatClampNeg v4_39))), (h0, .inr (5, [.ref h1, .int f0, .ref h2, .int f1, .int g0_39, .ref h3, .ref h4, .ref h5, .ref h6, .int f3, .ref h7, .ref h8, .ref h9, .int f4, .ref h10, .ref h11, .ref h12, .ref h13, .ref h14, .ref h15, .ref h16, .ref h17, .ref h18, .ref h19, .ref h20, .ref h21, .ref h22])), (h2, .inl (zI g, 60, .inl Z1))] := hD
                          have hI88 : iMeant (upd G1_0 y61.toNatClampNeg v4_39) := iMeant_put (i := y61) (a := y61.toInt) (v := v4_39) (b := v4_39.toInt) hG1_0 (rfl) (rfl) (by omega) (by omega) (by omega) (by omega)
                          obtain ⟨R89, eR89⟩ : ∃ z : Nat → Int32, z = (upd G1_0 y61.toNatClampNeg v4_39) := ⟨_, rfl⟩
                          rw [← eR89] at hP hD hI88
                          have qR89 : (R89 y61.toNatClampNeg).toInt = v4_39.toInt := z_put eR89 (rfl)
                          obtain ⟨y90, ey90⟩ : ∃ z : Int32, z = v1_0 + 1 := ⟨_, rfl⟩
                          refine lv_iinc (v := y90) (lv' := [(1, .int y90), (0, .ref h0), (2, .int y61), (3, .int w65), (4, .int v4_39)]) hx hb dX5_lawFault_205 hl (k := 1) rfl ey90.symm (by decide) rfl (fun ls hl => ?_)
                          refine lv_goto (tgt := 27) hx hb dX5_lawFault_208 (by decide) ?_
                          have hP := hP.sub (ws' := [(h0, .inr (5, [.ref h1, .int f0, .ref h2, .int f1, .int g0_39, .ref h3, .ref h4, .ref h5, .ref h6, .int f3, .ref h7, .ref h8, .ref h9, .int f4, .ref h10, .ref h11, .ref h12, .ref h13, .ref h14, .ref h15, .ref h16, .ref h17, .ref h18, .ref h19, .ref h20, .ref h21, .ref h22])), (h2, .inl (zI g, 60, .inl Z1)), (h3, .inl (zI g, 5, .inl R89))]) [1, 2, 0] rfl
                          have hD := hD.sub (ws' := [(h0, .inr (5, [.ref h1, .int f0, .ref h2, .int f1, .int g0_39, .ref h3, .ref h4, .ref h5, .ref h6, .int f3, .ref h7, .ref h8, .ref h9, .int f4, .ref h10, .ref h11, .ref h12, .ref h13, .ref h14, .ref h15, .ref h16, .ref h17, .ref h18, .ref h19, .ref h20, .ref h21, .ref h22])), (h2, .inl (zI g, 60, .inl Z1)), (h3, .inl (zI g, 5, .inl R89))]) [1, 2, 0] (by decide) rfl
                          exact ih1 y90 g0_39 R89 (by omega) (by omega) (hI88) (by omega) _ _ hP hD hS ls (lv_sub hl [1, 0] rfl)
                      · skip
                        have i_49 : 48 ≤ y76.toInt := by (try simp only [Int32.toInt_toInt64] at i_49); exact i_49
                        have i_50 : y76.toInt ≤ 57 := by (try simp only [Int32.toInt_toInt64] at i_50); exact i_50
                        have hP : va_P g.1 vwCl [(h3, .inl (zI g, 5, .inl G1_0)), (h0, .inr (5, [.ref h1, .int f0, .ref h2, .int f1, .int g0_39, .ref h3, .ref h4, .ref h5, .ref h6, .int f3, .ref h7, .ref h8, .ref h9, .int f4, .ref h10, .ref h11, .ref h12, .ref h13, .ref h14, .ref h15, .ref h16, .ref h17, .ref h18, .ref h19, .ref h20, .ref h21, .ref h22])), (h2, .inl (zI g, 60, .inl Z1))] H := hP
                        have hD : va_D A [(h3, .inl (zI g, 5, .inl G1_0)), (h0, .inr (5, [.ref h1, .int f0, .ref h2, .int f1, .int g0_39, .ref h3, .ref h4, .ref h5, .ref h6, .int f3, .ref h7, .ref h8, .ref h9, .int f4, .ref h10, .ref h11, .ref h12, .ref h13, .ref h14, .ref h15, .ref h16, .ref h17, .ref h18, .ref h19, .ref h20, .ref h21, .ref h22])), (h2, .inl (zI g, 60, .inl Z1))] := hD
                        refine lv_if_eq (tgt := 176) hx hb dX5_lawFault_134 (by decide) (fun h => absurd h (by decide +kernel)) (fun _ => ?_)
                        refine lv_bipush (v := 10) hx hb dX5_lawFault_137 (by decide) ?_
                        refine lv_iload hx hb dX5_lawFault_139 (lv_at hl 4 rfl) ?_
                        refine lv_imul hx hb dX5_lawFault_141 ?_
                        refine lv_topi (fun y91 ey91 => ?_)
                        have qy91_0 : y91.toInt = 10 * v4_39.toInt := zi_mul ey91 (rfl) (rfl) (by omega) (by omega)
                        refine lv_aload_n hx hb dX5_lawFault_142 rfl (lv_at hl 0 rfl) ?_
                        refine va_get (D := g.1) (ci := 5) (v := .ref h2) (C := RX5) (T := TX5) (N := 27) hx hb hts zl_X5 hown hK hP 1 rfl rfl 2 (by decide) (hts _ m_f_RX5_13) (fun _ h => h) rfl dX5_lawFault_143 ?_
                        refine lv_aload_n hx hb dX5_lawFault_146 rfl (lv_at hl 0 rfl) ?_
                        refine va_get (D := g.1) (ci := 5) (v := .int g0_39) (C := RX5) (T := TX5) (N := 27) hx hb hts zl_X5 hown hK hP 1 rfl rfl 4 (by decide) (hts _ m_f_RX5_118) (fun _ h => h) rfl dX5_lawFault_147 ?_
                        refine va_iald (D := g.1) hx hb hK hP 2 0 rfl rfl (vp_in_iff.mpr ⟨by omega, by omega⟩) dX5_lawFault_150 ?_
                        refine lv_topi (fun y92 ey92 => ?_)
                        have qy92_0 : y92.toInt = (Z1 g0_39.toNatClampNeg).toInt := congrArg Int32.toInt ey92
                        refine lv_iadd hx hb dX5_lawFault_151 ?_
                        refine lv_topi (fun y93 ey93 => ?_)
                        have qy93_0 : y93.toInt = y91.toInt + y92.toInt := zi_add ey93 (rfl) (rfl) (by omega) (by omega)
                        refine lv_bipush (v := 48) hx hb dX5_lawFault_152 (by decide) ?_
                        refine lv_isub hx hb dX5_lawFault_154 ?_
                        refine lv_topi (fun y94 ey94 => ?_)
                        have qy94_0 : y94.toInt = y93.toInt - 48 := zi_sub ey94 (rfl) (rfl) (by omega) (by omega)
                        refine lv_sipush (v := 1000) hx hb dX5_lawFault_155 (by decide) ?_
                        refine z_calli (wr := [(h3, .inl (zI g, 5, .inl G1_0)), (h0, .inr (5, [.ref h1, .int f0, .ref h2, .int f1, .int g0_39, .ref h3, .ref h4, .ref h5, .ref h6, .int f3, .ref h7, .ref h8, .ref h9, .int f4, .ref h10, .ref h11, .ref h12, .ref h13, .ref h14, .ref h15, .ref h16, .ref h17, .ref h18, .ref h19, .ref h20, .ref h21, .ref h22])), (h2, .inl (zI g, 60, .inl Z1))]) hP hD hS hA [] [0, 1, 2] (by decide) rfl rfl (by decide) (va_runS (As := [.int y94, .int 1000]) (rest := []) ⟨hx, hb, hml, hown, hts⟩ (gX5_lesser l g  H.size y94 (1000 : Int32)) ⟨callB_of 2 hts (zGood m_o_yX5_lesser) rfl rfl rfl (hts _ m_z_RX5) (hts _ m_m_RX5_132) ⟨by decide +kernel, by decide +kernel, by decide +kernel⟩ ⟨Nat.le_of_ble_eq_true rfl, Nat.le_of_ble_eq_true rfl⟩, hts _ m_s_yX5_lesser⟩ (zPreS hK hN hZ hP hD hS hA [] (by decide) rfl rfl) rfl rfl hl.1 rfl (lv_room (Nat.le_of_ble_eq_true rfl)) dX5_lawFault_158 ⟨Nat.le_of_ble_eq_true rfl, Nat.le_of_ble_eq_true rfl⟩) (fun r u H locs hw hP hD hS => ?_)
                        obtain ⟨y95, rfl⟩ : ∃ z, z = r := ⟨_, rfl⟩
                        obtain ⟨q96_0, q96_1, q96_2⟩ := hw
                        have q96_0 : y95.toInt ≤ y94.toInt := q96_0
                        have q96_1 : y95.toInt ≤ 1000 := q96_1
                        have q96_2 : (y95.toInt = y94.toInt ∨ y95.toInt = (1000 : Int)) := q96_2
                        have q97_0 : 0 ≤ y95.toInt := by omega
                        have q97_1 : y95.toInt ≤ 1000 := by omega
                        have hP : va_P g.1 vwCl [(h3, .inl (zI g, 5, .inl G1_0)), (h0, .inr (5, [.ref h1, .int f0, .ref h2, .int f1, .int g0_39, .ref h3, .ref h4, .ref h5, .ref h6, .int f3, .ref h7, .ref h8, .ref h9, .int f4, .ref h10, .ref h11, .ref h12, .ref h13, .ref h14, .ref h15, .ref h16, .ref h17, .ref h18, .ref h19, .ref h20, .ref h21, .ref h22])), (h2, .inl (zI g, 60, .inl Z1))] H := hP
                        have hD : va_D A [(h3, .inl (zI g, 5, .inl G1_0)), (h0, .inr (5, [.ref h1, .int f0, .ref h2, .int f1, .int g0_39, .ref h3, .ref h4, .ref h5, .ref h6, .int f3, .ref h7, .ref h8, .ref h9, .int f4, .ref h10, .ref h11, .ref h12, .ref h13, .ref h14, .ref h15, .ref h16, .ref h17, .ref h18, .ref h19, .ref h20, .ref h21, .ref h22])), (h2, .inl (zI g, 60, .inl Z1))] := hD
                        refine lv_istore (lv' := [(4, .int y95), (0, .ref h0), (1, .int v1_0), (2, .int y61), (3, .int w65)]) hx hb dX5_lawFault_161 hl (by decide) rfl (fun ls hl => ?_)
                        refine lv_aload_n hx hb dX5_lawFault_163 rfl (lv_at hl 1 rfl) ?_
                        refine lv_dup hx hb dX5_lawFault_164 rfl ?_
                        refine va_get (D := g.1) (ci := 5) (v := .int g0_39) (C := RX5) (T := TX5) (N := 27) hx hb hts zl_X5 hown hK hP 1 rfl rfl 4 (by decide) (hts _ m_f_RX5_118) (fun _ h => h) rfl dX5_lawFault_165 ?_
                        refine lv_iconst (v := 1) hx hb dX5_lawFault_168 (by decide) ?_
                        refine lv_iadd hx hb dX5_lawFault_169 ?_
                        refine lv_topi (fun y98 ey98 => ?_)
                        have qy98_0 : y98.toInt = g0_39.toInt + 1 := zi_add ey98 (rfl) (rfl) (by omega) (by omega)
                        refine va_put (D := g.1) (ci := 5) (v := .int y98) (ty := .int) (C := RX5) (T := TX5) (N := 27) hx hb hts zl_X5 tyX5 tyX5_ok nmX5 hown hK hP hD hS 1 rfl rfl 4 (by decide) (hts _ m_f_RX5_118) (fun _ h => h) rfl (by decide +kernel) rfl rfl (Nat.le_of_ble_eq_true rfl) dX5_lawFault_170 (fun H locs hP hD hS => ?_)
                        have hP : va_P g.1 vwCl [(h3, .inl (zI g, 5, .inl G1_0)), (h0, .inr (5, [.ref h1, .int f0, .ref h2, .int f1, .int y98, .ref h3, .ref h4, .ref h5, .ref h6, .int f3, .ref h7, .ref h8, .ref h9, .int f4, .ref h10, .ref h11, .ref h12, .ref h13, .ref h14, .ref h15, .ref h16, .ref h17, .ref h18, .ref h19, .ref h20, .ref h21, .ref h22])), (h2, .inl (zI g, 60, .inl Z1))] H := hP
                        have hD : va_D A [(h3, .inl (zI g, 5, .inl G1_0)), (h0, .inr (5, [.ref h1, .int f0, .ref h2, .int f1, .int y98, .ref h3, .ref h4, .ref h5, .ref h6, .int f3, .ref h7, .ref h8, .ref h9, .int f4, .ref h10, .ref h11, .ref h12, .ref h13, .ref h14, .ref h15, .ref h16, .ref h17, .ref h18, .ref h19, .ref h20, .ref h21, .ref h22])), (h2, .inl (zI g, 60, .inl Z1))] := hD
                        refine lv_goto (tgt := 104) hx hb dX5_lawFault_173 (by decide) ?_
                        exact ih40 y95 y98 (by omega) (by omega) (by omega) (by omega) (by omega) (by omega) _ _ hP hD hS ls (lv_sub hl [1, 2, 3, 4, 0] rfl)
                have : (0 : Int32).toInt = 0 := rfl
                exact loop104_39 ((60 - w65.toInt : Int).toNat + 1) (0 : Int32) w65 (by omega) (by omega) (by omega) (by omega) (by omega) (by omega) _ _ hP hD hS ls (lv_sub hl [3, 4, 2, 1, 0] rfl)
            · have i_33 : 0 ≤ y63.toInt := z_nlt (rfl) (rfl) c_33
              refine lv_aload_n hx hb dX5_lawFault_59 rfl (lv_at hl 1 rfl) ?_
              refine va_get (D := g.1) (ci := 5) (v := .int w57) (C := RX5) (T := TX5) (N := 27) hx hb hts zl_X5 hown hK hP 1 rfl rfl 4 (by decide) (hts _ m_f_RX5_118) (fun _ h => h) rfl dX5_lawFault_60 ?_
              have hP9 := hP.sub (ws' := [(h0, .inr (5, [.ref h1, .int f0, .ref h2, .int f1, .int w57, .ref h3, .ref h4, .ref h5, .ref h6, .int f3, .ref h7, .ref h8, .ref h9, .int f4, .ref h10, .ref h11, .ref h12, .ref h13, .ref h14, .ref h15, .ref h16, .ref h17, .ref h18, .ref h19, .ref h20, .ref h21, .ref h22])), (h2, .inl (zI g, 60, .inl Z1)), (h3, .inl (zI g, 5, .inl G1_0))]) [1, 2, 0] rfl
              have hD9 := hD.sub (ws' := [(h0, .inr (5, [.ref h1, .int f0, .ref h2, .int f1, .int w57, .ref h3, .ref h4, .ref h5, .ref h6, .int f3, .ref h7, .ref h8, .ref h9, .int f4, .ref h10, .ref h11, .ref h12, .ref h13, .ref h14, .ref h15, .ref h16, .ref h17, .ref h18, .ref h19, .ref h20, .ref h21, .ref h22])), (h2, .inl (zI g, 60, .inl Z1)), (h3, .inl (zI g, 5, .inl G1_0))]) [1, 2, 0] (by decide) rfl
              exact W.iret (v := w57) hx hb hr (fun t ht hW => ⟨⟨w57, ⟨w57, G1_0⟩, rfl, ⟨⟨(by first | omega | decide), (by first | omega | decide)⟩, ⟨show 0 ≤ w57.toInt from by omega, show w57.toInt ≤ 60 from by omega⟩, hG1_0⟩, by rw [ht]; exact hP9, hD9⟩, hS.F ht⟩) hS.2.2 dX5_lawFault_63
  have : (0 : Int32).toInt = 0 := rfl
  exact loop27_0 ((60 - 0 : Int).toNat + 1) (0 : Int32) (0 : Int32) R9 (by omega) (by omega) (hI10) (by omega) _ _ hP hD hS ls (lv_sub hl [1, 0] rfl)

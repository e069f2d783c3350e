set_option maxHeartbeats 8000000 in
set_option maxRecDepth 100000 in
theorem gX5_lawFault (l : Launch) (g : zG) (h0 h1 h2 h3 h4 h5 h6 h7 h8 h9 h10 h11 h12 h13 h14 h15 h16 h17 h18 h19 h20 h21 h22 : Nat) (sz : Nat) (f0 : Int32) (f1 : Int32) (f2 : Int32) (f3 : Int32) (f4 : Int32) (Z1 : Nat → Int32) (Z2 : Nat → Int32) (hp0 : zPos Z1 f1.toInt = 1) (hf_f1 : 0 ≤ f1.toInt ∧ f1.toInt ≤ 60) (hf_f2 : 0 ≤ f2.toInt ∧ f2.toInt ≤ 60) (hf_f3 : 0 ≤ f3.toInt ∧ f3.toInt ≤ 31) (hf_f4 : 0 ≤ f4.toInt ∧ f4.toInt ≤ 1000) : Met l yX5_lawFault (.code yX5_lawFault cX5_lawFault 5 (some .int) :: zBig) ({ frames := 1, cells := 0, slots := 0, locals := 25 }) (va_Pc [.ref h0] (zPre g [(h0, .inr (5, [.ref h1, .int f0, .ref h2, .int f1, .int f2, .ref h3, .ref h4, .ref h5, .ref h6, .int f3, .ref h7, .ref h8, .ref h9, .int f4, .ref h10, .ref h11, .ref h12, .ref h13, .ref h14, .ref h15, .ref h16, .ref h17, .ref h18, .ref h19, .ref h20, .ref h21, .ref h22])), (h2, .inl (zI g, 60, .inl Z1)), (h3, .inl (zI g, 5, .inl Z2))] sz)) (va_Qi (fun (r : Int32) (u : Int32 × (Nat → Int32)) => (-1 ≤ r.toInt ∧ r.toInt ≤ 60 ∧ (r.toInt = -1 → 0 < zLaw Z1 f1.toInt) ∧ (0 ≤ r.toInt → zLaw Z1 f1.toInt = -20 - r.toInt)) ∧ (0 ≤ u.1.toInt ∧ u.1.toInt ≤ 60) ∧ zTold Z1 f1.toInt u.2) (zPost g (fun u : Int32 × (Nat → Int32) => [(h0, .inr (5, [.ref h1, .int f0, .ref h2, .int f1, .int u.1, .ref h3, .ref h4, .ref h5, .ref h6, .int f3, .ref h7, .ref h8, .ref h9, .int f4, .ref h10, .ref h11, .ref h12, .ref h13, .ref h14, .ref h15, .ref h16, .ref h17, .ref h18, .ref h19, .ref h20, .ref h21, .ref h22])), (h2, .inl (zI g, 60, .inl Z1)), (h3, .inl (zI g, 5, .inl u.2))]) (va_A [(h0, .inr (5, [.ref h1, .int f0, .ref h2, .int f1, .int f2, .ref h3, .ref h4, .ref h5, .ref h6, .int f3, .ref h7, .ref h8, .ref h9, .int f4, .ref h10, .ref h11, .ref h12, .ref h13, .ref h14, .ref h15, .ref h16, .ref h17, .ref h18, .ref h19, .ref h20, .ref h21, .ref h22])), (h2, .inl (zI g, 60, .inl Z1)), (h3, .inl (zI g, 5, .inl Z2))] sz)) (va_A [(h0, .inr (5, [.ref h1, .int f0, .ref h2, .int f1, .int f2, .ref h3, .ref h4, .ref h5, .ref h6, .int f3, .ref h7, .ref h8, .ref h9, .int f4, .ref h10, .ref h11, .ref h12, .ref h13, .ref h14, .ref h15, .ref h16, .ref h17, .ref h18, .ref h19, .ref h20, .ref h21, .ref h22])), (h2, .inl (zI g, 60, .inl Z1)), (h3, .inl (zI g, 5, .inl Z2))] sz)) 0 0 (va_A [(h0, .inr (5, [.ref h1, .int f0, .ref h2, .int f1, .int f2, .ref h3, .ref h4, .ref h5, .ref h6, .int f3, .ref h7, .ref h8, .ref h9, .int f4, .ref h10, .ref h11, .ref h12, .ref h13, .ref h14, .ref h15, .ref h16, .ref h17, .ref h18, .ref h19, .ref h20, .ref h21, .ref h22])), (h2, .inl (zI g, 60, .inl Z1)), (h3, .inl (zI g, 5, .inl Z2))] sz) := by
  refine zMetI rfl (Nat.le_of_ble_eq_true rfl) ?_
  intro p e s m args below meth c A ls hx hb hml hr hlocks hin hown hts hK hN hZ hP hD hA hS hAe hl
  have hown : s.vm.findClass RX5 = some m.cls := hown
  have hl : lv_has ls 5 [(0, .ref h0)] := hl
  refine lv_iconst (v := 0) hx hb dX5_lawFault_0 (by decide) ?_
  refine lv_istore_n (lv' := [(1, .int 0), (0, .ref h0)]) hx hb dX5_lawFault_1 rfl hl (by decide) rfl (fun ls hl => ?_)
  refine lv_iload_n hx hb dX5_lawFault_2 rfl (lv_at hl 0 rfl) ?_
  refine lv_iconst (v := 5) hx hb dX5_lawFault_3 (by decide) ?_
  refine lv_icmp_ge (tgt := 20) hx hb dX5_lawFault_4 (by decide) (fun h => absurd h (by decide +kernel)) (fun _ => ?_)
  refine lv_aload_n hx hb dX5_lawFault_7 rfl (lv_at hl 1 rfl) ?_
  refine va_get (D := g.1) (ci := 5) (v := .ref h3) (C := RX5) (T := TX5) (N := 27) hx hb hts zl_X5 hown hK hP 0 rfl rfl 5 (by decide) (hts _ m_f_RX5_16) (fun _ h => h) rfl dX5_lawFault_8 ?_
  refine lv_iload_n hx hb dX5_lawFault_11 rfl (lv_at hl 0 rfl) ?_
  refine lv_iconst (v := (-1)) hx hb dX5_lawFault_12 (by decide) ?_
  refine va_iast (D := g.1) hx hb hK hP hD hS 2 0 rfl rfl (vp_in_iff.mpr (by decide +kernel)) dX5_lawFault_13 (fun H locs hP hD hS => ?_)
  have hP : va_P g.1 vwCl [(h0, .inr (5, [.ref h1, .int f0, .ref h2, .int f1, .int f2, .ref h3, .ref h4, .ref h5, .ref h6, .int f3, .ref h7, .ref h8, .ref h9, .int f4, .ref h10, .ref h11, .ref h12, .ref h13, .ref h14, .ref h15, .ref h16, .ref h17, .ref h18, .ref h19, .ref h20, .ref h21, .ref h22])), (h2, .inl (zI g, 60, .inl Z1)), (h3, .inl (zI g, 5, .inl (upd Z2 0 (-1))))] H := hP
  have hD : va_D A [(h0, .inr (5, [.ref h1, .int f0, .ref h2, .int f1, .int f2, .ref h3, .ref h4, .ref h5, .ref h6, .int f3, .ref h7, .ref h8, .ref h9, .int f4, .ref h10, .ref h11, .ref h12, .ref h13, .ref h14, .ref h15, .ref h16, .ref h17, .ref h18, .ref h19, .ref h20, .ref h21, .ref h22])), (h2, .inl (zI g, 60, .inl Z1)), (h3, .inl (zI g, 5, .inl (upd Z2 0 (-1))))] := hD
  obtain ⟨R0, eR0⟩ : ∃ z : Nat → Int32, z = (upd Z2 0 (-1)) := ⟨_, rfl⟩
  rw [← eR0] at hP hD
  have : ((-1) : Int32).toInt = (-1) := rfl
  have qR0 : (R0 0).toInt = (-1) := z_put eR0 (rfl)
  have qR0_1 : (R0 1).toInt = (Z2 1).toInt := z_keep eR0 (by decide)
  have qR0_2 : (R0 2).toInt = (Z2 2).toInt := z_keep eR0 (by decide)
  have qR0_3 : (R0 3).toInt = (Z2 3).toInt := z_keep eR0 (by decide)
  have qR0_4 : (R0 4).toInt = (Z2 4).toInt := z_keep eR0 (by decide)
  refine lv_iinc (v := 1) (lv' := [(1, .int 1), (0, .ref h0)]) hx hb dX5_lawFault_14 hl (k := 0) rfl (by decide) (by decide) rfl (fun ls hl => ?_)
  refine lv_goto (tgt := 2) hx hb dX5_lawFault_17 (by decide) ?_
  refine lv_iload_n hx hb dX5_lawFault_2 rfl (lv_at hl 0 rfl) ?_
  refine lv_iconst (v := 5) hx hb dX5_lawFault_3 (by decide) ?_
  refine lv_icmp_ge (tgt := 20) hx hb dX5_lawFault_4 (by decide) (fun h => absurd h (by decide +kernel)) (fun _ => ?_)
  refine lv_aload_n hx hb dX5_lawFault_7 rfl (lv_at hl 1 rfl) ?_
  refine va_get (D := g.1) (ci := 5) (v := .ref h3) (C := RX5) (T := TX5) (N := 27) hx hb hts zl_X5 hown hK hP 0 rfl rfl 5 (by decide) (hts _ m_f_RX5_16) (fun _ h => h) rfl dX5_lawFault_8 ?_
  refine lv_iload_n hx hb dX5_lawFault_11 rfl (lv_at hl 0 rfl) ?_
  refine lv_iconst (v := (-1)) hx hb dX5_lawFault_12 (by decide) ?_
  refine va_iast (D := g.1) hx hb hK hP hD hS 2 0 rfl rfl (vp_in_iff.mpr (by decide +kernel)) dX5_lawFault_13 (fun H locs hP hD hS => ?_)
  have hP : va_P g.1 vwCl [(h0, .inr (5, [.ref h1, .int f0, .ref h2, .int f1, .int f2, .ref h3, .ref h4, .ref h5, .ref h6, .int f3, .ref h7, .ref h8, .ref h9, .int f4, .ref h10, .ref h11, .ref h12, .ref h13, .ref h14, .ref h15, .ref h16, .ref h17, .ref h18, .ref h19, .ref h20, .ref h21, .ref h22])), (h2, .inl (zI g, 60, .inl Z1)), (h3, .inl (zI g, 5, .inl (upd R0 1 (-1))))] H := hP
  have hD : va_D A [(h0, .inr (5, [.ref h1, .int f0, .ref h2, .int f1, .int f2, .ref h3, .ref h4, .ref h5, .ref h6, .int f3, .ref h7, .ref h8, .ref h9, .int f4, .ref h10, .ref h11, .ref h12, .ref h13, .ref h14, .ref h15, .ref h16, .ref h17, .ref h18, .ref h19, .ref h20, .ref h21, .ref h22])), (h2, .inl (zI g, 60, .inl Z1)), (h3, .inl (zI g, 5, .inl (upd R0 1 (-1))))] := hD
  obtain ⟨R1, eR1⟩ : ∃ z : Nat → Int32, z = (upd R0 1 (-1)) := ⟨_, rfl⟩
  rw [← eR1] at hP hD
  have : ((-1) : Int32).toInt = (-1) := rfl
  have qR1 : (R1 1).toInt = (-1) := z_put eR1 (rfl)
  have qR1_0 : (R1 0).toInt = (R0 0).toInt := z_keep eR1 (by decide)
  have qR1_2 : (R1 2).toInt = (R0 2).toInt := z_keep eR1 (by decide)
  have qR1_3 : (R1 3).toInt = (R0 3).toInt := z_keep eR1 (by decide)
  have qR1_4 : (R1 4).toInt = (R0 4).toInt := z_keep eR1 (by decide)
  refine lv_iinc (v := 2) (lv' := [(1, .int 2), (0, .ref h0)]) hx hb dX5_lawFault_14 hl (k := 0) rfl (by decide) (by decide) rfl (fun ls hl => ?_)
  refine lv_goto (tgt := 2) hx hb dX5_lawFault_17 (by decide) ?_
  refine lv_iload_n hx hb dX5_lawFault_2 rfl (lv_at hl 0 rfl) ?_
  refine lv_iconst (v := 5) hx hb dX5_lawFault_3 (by decide) ?_
  refine lv_icmp_ge (tgt := 20) hx hb dX5_lawFault_4 (by decide) (fun h => absurd h (by decide +kernel)) (fun _ => ?_)
  refine lv_aload_n hx hb dX5_lawFault_7 rfl (lv_at hl 1 rfl) ?_
  refine va_get (D := g.1) (ci := 5) (v := .ref h3) (C := RX5) (T := TX5) (N := 27) hx hb hts zl_X5 hown hK hP 0 rfl rfl 5 (by decide) (hts _ m_f_RX5_16) (fun _ h => h) rfl dX5_lawFault_8 ?_
  refine lv_iload_n hx hb dX5_lawFault_11 rfl (lv_at hl 0 rfl) ?_
  refine lv_iconst (v := (-1)) hx hb dX5_lawFault_12 (by decide) ?_
  refine va_iast (D := g.1) hx hb hK hP hD hS 2 0 rfl rfl (vp_in_iff.mpr (by decide +kernel)) dX5_lawFault_13 (fun H locs hP hD hS => ?_)
  have hP : va_P g.1 vwCl [(h0, .inr (5, [.ref h1, .int f0, .ref h2, .int f1, .int f2, .ref h3, .ref h4, .ref h5, .ref h6, .int f3, .ref h7, .ref h8, .ref h9, .int f4, .ref h10, .ref h11, .ref h12, .ref h13, .ref h14, .ref h15, .ref h16, .ref h17, .ref h18, .ref h19, .ref h20, .ref h21, .ref h22])), (h2, .inl (zI g, 60, .inl Z1)), (h3, .inl (zI g, 5, .inl (upd R1 2 (-1))))] H := hP
  have hD : va_D A [(h0, .inr (5, [.ref h1, .int f0, .ref h2, .int f1, .int f2, .ref h3, .ref h4, .ref h5, .ref h6, .int f3, .ref h7, .ref h8, .ref h9, .int f4, .ref h10, .ref h11, .ref h12, .ref h13, .ref h14, .ref h15, .ref h16, .ref h17, .ref h18, .ref h19, .ref h20, .ref h21, .ref h22])), (h2, .inl (zI g, 60, .inl Z1)), (h3, .inl (zI g, 5, .inl (upd R1 2 (-1))))] := hD
  obtain ⟨R2, eR2⟩ : ∃ z : Nat → Int32, z = (upd R1 2 (-1)) := ⟨_, rfl⟩
  rw [← eR2] at hP hD
  have : ((-1) : Int32).toInt = (-1) := rfl
  have qR2 : (R2 2).toInt = (-1) := z_put eR2 (rfl)
  have qR2_0 : (R2 0).toInt = (R1 0).toInt := z_keep eR2 (by decide)
  have qR2_1 : (R2 1).toInt = (R1 1).toInt := z_keep eR2 (by decide)
  have qR2_3 : (R2 3).toInt = (R1 3).toInt := z_keep eR2 (by decide)
  have qR2_4 : (R2 4).toInt = (R1 4).toInt := z_keep eR2 (by decide)
  refine lv_iinc (v := 3) (lv' := [(1, .int 3), (0, .ref h0)]) hx hb dX5_lawFault_14 hl (k := 0) rfl (by decide) (by decide) rfl (fun ls hl => ?_)
  refine lv_goto (tgt := 2) hx hb dX5_lawFault_17 (by decide) ?_
  refine lv_iload_n hx hb dX5_lawFault_2 rfl (lv_at hl 0 rfl) ?_
  refine lv_iconst (v := 5) hx hb dX5_lawFault_3 (by decide) ?_
  refine lv_icmp_ge (tgt := 20) hx hb dX5_lawFault_4 (by decide) (fun h => absurd h (by decide +kernel)) (fun _ => ?_)
  refine lv_aload_n hx hb dX5_lawFault_7 rfl (lv_at hl 1 rfl) ?_
  refine va_get (D := g.1) (ci := 5) (v := .ref h3) (C := RX5) (T := TX5) (N := 27) hx hb hts zl_X5 hown hK hP 0 rfl rfl 5 (by decide) (hts _ m_f_RX5_16) (fun _ h => h) rfl dX5_lawFault_8 ?_
  refine lv_iload_n hx hb dX5_lawFault_11 rfl (lv_at hl 0 rfl) ?_
  refine lv_iconst (v := (-1)) hx hb dX5_lawFault_12 (by decide) ?_
  refine va_iast (D := g.1) hx hb hK hP hD hS 2 0 rfl rfl (vp_in_iff.mpr (by decide +kernel)) dX5_lawFault_13 (fun H locs hP hD hS => ?_)
  have hP : va_P g.1 vwCl [(h0, .inr (5, [.ref h1, .int f0, .ref h2, .int f1, .int f2, .ref h3, .ref h4, .ref h5, .ref h6, .int f3, .ref h7, .ref h8, .ref h9, .int f4, .ref h10, .ref h11, .ref h12, .ref h13, .ref h14, .ref h15, .ref h16, .ref h17, .ref h18, .ref h19, .ref h20, .ref h21, .ref h22])), (h2, .inl (zI g, 60, .inl Z1)), (h3, .inl (zI g, 5, .inl (upd R2 3 (-1))))] H := hP
  have hD : va_D A [(h0, .inr (5, [.ref h1, .int f0, .ref h2, .int f1, .int f2, .ref h3, .ref h4, .ref h5, .ref h6, .int f3, .ref h7, .ref h8, .ref h9, .int f4, .ref h10, .ref h11, .ref h12, .ref h13, .ref h14, .ref h15, .ref h16, .ref h17, .ref h18, .ref h19, .ref h20, .ref h21, .ref h22])), (h2, .inl (zI g, 60, .inl Z1)), (h3, .inl (zI g, 5, .inl (upd R2 3 (-1))))] := hD
  obtain ⟨R3, eR3⟩ : ∃ z : Nat → Int32, z = (upd R2 3 (-1)) := ⟨_, rfl⟩
  rw [← eR3] at hP hD
  have : ((-1) : Int32).toInt = (-1) := rfl
  have qR3 : (R3 3).toInt = (-1) := z_put eR3 (rfl)
  have qR3_0 : (R3 0).toInt = (R2 0).toInt := z_keep eR3 (by decide)
  have qR3_1 : (R3 1).toInt = (R2 1).toInt := z_keep eR3 (by decide)
  have qR3_2 : (R3 2).toInt = (R2 2).toInt := z_keep eR3 (by decide)
  have qR3_4 : (R3 4).toInt = (R2 4).toInt := z_keep eR3 (by decide)
  refine lv_iinc (v := 4) (lv' := [(1, .int 4), (0, .ref h0)]) hx hb dX5_lawFault_14 hl (k := 0) rfl (by decide) (by decide) rfl (fun ls hl => ?_)
  refine lv_goto (tgt := 2) hx hb dX5_lawFault_17 (by decide) ?_
  refine lv_iload_n hx hb dX5_lawFault_2 rfl (lv_at hl 0 rfl) ?_
  refine lv_iconst (v := 5) hx hb dX5_lawFault_3 (by decide) ?_
  refine lv_icmp_ge (tgt := 20) hx hb dX5_lawFault_4 (by decide) (fun h => absurd h (by decide +kernel)) (fun _ => ?_)
  refine lv_aload_n hx hb dX5_lawFault_7 rfl (lv_at hl 1 rfl) ?_
  refine va_get (D := g.1) (ci := 5) (v := .ref h3) (C := RX5) (T := TX5) (N := 27) hx hb hts zl_X5 hown hK hP 0 rfl rfl 5 (by decide) (hts _ m_f_RX5_16) (fun _ h => h) rfl dX5_lawFault_8 ?_
  refine lv_iload_n hx hb dX5_lawFault_11 rfl (lv_at hl 0 rfl) ?_
  refine lv_iconst (v := (-1)) hx hb dX5_lawFault_12 (by decide) ?_
  refine va_iast (D := g.1) hx hb hK hP hD hS 2 0 rfl rfl (vp_in_iff.mpr (by decide +kernel)) dX5_lawFault_13 (fun H locs hP hD hS => ?_)
  have hP : va_P g.1 vwCl [(h0, .inr (5, [.ref h1, .int f0, .ref h2, .int f1, .int f2, .ref h3, .ref h4, .ref h5, .ref h6, .int f3, .ref h7, .ref h8, .ref h9, .int f4, .ref h10, .ref h11, .ref h12, .ref h13, .ref h14, .ref h15, .ref h16, .ref h17, .ref h18, .ref h19, .ref h20, .ref h21, .ref h22])), (h2, .inl (zI g, 60, .inl Z1)), (h3, .inl (zI g, 5, .inl (upd R3 4 (-1))))] H := hP
  have hD : va_D A [(h0, .inr (5, [.ref h1, .int f0, .ref h2, .int f1, .int f2, .ref h3, .ref h4, .ref h5, .ref h6, .int f3, .ref h7, .ref h8, .ref h9, .int f4, .ref h10, .ref h11, .ref h12, .ref h13, .ref h14, .ref h15, .ref h16, .ref h17, .ref h18, .ref h19, .ref h20, .ref h21, .ref h22])), (h2, .inl (zI g, 60, .inl Z1)), (h3, .inl (zI g, 5, .inl (upd R3 4 (-1))))] := hD
  obtain ⟨R4, eR4⟩ : ∃ z : Nat → Int32, z = (upd R3 4 (-1)) := ⟨_, rfl⟩
  rw [← eR4] at hP hD
  have : ((-1) : Int32).toInt = (-1) := rfl
  have qR4 : (R4 4).toInt = (-1) := z_put eR4 (rfl)
  have qR4_0 : (R4 0).toInt = (R3 0).toInt := z_keep eR4 (by decide)
  have qR4_1 : (R4 1).toInt = (R3 1).toInt := z_keep eR4 (by decide)
  have qR4_2 : (R4 2).toInt = (R3 2).toInt := z_keep eR4 (by decide)
  have qR4_3 : (R4 3).toInt = (R3 3).toInt := z_keep eR4 (by decide)
  refine lv_iinc (v := 5) (lv' := [(1, .int 5), (0, .ref h0)]) hx hb dX5_lawFault_14 hl (k := 0) rfl (by decide) (by decide) rfl (fun ls hl => ?_)
  refine lv_goto (tgt := 2) hx hb dX5_lawFault_17 (by decide) ?_
  refine lv_iload_n hx hb dX5_lawFault_2 rfl (lv_at hl 0 rfl) ?_
  refine lv_iconst (v := 5) hx hb dX5_lawFault_3 (by decide) ?_
  refine lv_icmp_ge (tgt := 20) hx hb dX5_lawFault_4 (by decide) (fun _ => ?_) (fun h => absurd h (by decide +kernel))
  have hzr0 := zsk_r (F := Z1) (len := f1.toInt) (a := 0) (by omega)
  have hI5 : zFilK (-1) 5 R4 := zfil5_of (by omega) (by omega) (by omega) (by omega) (by omega)
  refine lv_aload_n hx hb dX5_lawFault_20 rfl (lv_at hl 1 rfl) ?_
  refine lv_iconst (v := 0) hx hb dX5_lawFault_21 (by decide) ?_
  refine va_put (D := g.1) (ci := 5) (v := .int 0) (ty := .int) (C := RX5) (T := TX5) (N := 27) hx hb hts zl_X5 tyX5 tyX5_ok nmX5 hown hK hP hD hS 0 rfl rfl 4 (by decide) (hts _ m_f_RX5_118) (fun _ h => h) rfl (by decide +kernel) rfl rfl (Nat.le_of_ble_eq_true rfl) dX5_lawFault_22 (fun H locs hP hD hS => ?_)
  have hP : va_P g.1 vwCl [(h0, .inr (5, [.ref h1, .int f0, .ref h2, .int f1, .int 0, .ref h3, .ref h4, .ref h5, .ref h6, .int f3, .ref h7, .ref h8, .ref h9, .int f4, .ref h10, .ref h11, .ref h12, .ref h13, .ref h14, .ref h15, .ref h16, .ref h17, .ref h18, .ref h19, .ref h20, .ref h21, .ref h22])), (h2, .inl (zI g, 60, .inl Z1)), (h3, .inl (zI g, 5, .inl R4))] H := hP
  have hD : va_D A [(h0, .inr (5, [.ref h1, .int f0, .ref h2, .int f1, .int 0, .ref h3, .ref h4, .ref h5, .ref h6, .int f3, .ref h7, .ref h8, .ref h9, .int f4, .ref h10, .ref h11, .ref h12, .ref h13, .ref h14, .ref h15, .ref h16, .ref h17, .ref h18, .ref h19, .ref h20, .ref h21, .ref h22])), (h2, .inl (zI g, 60, .inl Z1)), (h3, .inl (zI g, 5, .inl R4))] := hD
  have hI6 : zRH Z1 f1.toInt 0 0 R4 := zRH_0 hI5 (by omega)
  refine lv_iconst (v := 0) hx hb dX5_lawFault_25 (by decide) ?_
  refine lv_istore_n (lv' := [(1, .int 0), (0, .ref h0)]) hx hb dX5_lawFault_26 rfl hl (by decide) rfl (fun ls hl => ?_)
  have loop27_0 : ∀ (n1 : Nat) (v1_0 : Int32) (g0_0 : Int32) (G1_0 : Nat → Int32) (hg0_0a : 0 ≤ g0_0.toInt) (hg0_0b : g0_0.toInt ≤ 60) (hG1_0 : zRH Z1 f1.toInt g0_0.toInt (v1_0.toInt) G1_0) (n1_0 : 0 ≤ v1_0.toInt) (n1_1 : v1_0.toInt ≤ 5) (hm1 : 60 - g0_0.toInt < (n1 : Int)) (H : Heap) (locs : List Loc), va_P g.1 vwCl [(h0, .inr (5, [.ref h1, .int f0, .ref h2, .int f1, .int g0_0, .ref h3, .ref h4, .ref h5, .ref h6, .int f3, .ref h7, .ref h8, .ref h9, .int f4, .ref h10, .ref h11, .ref h12, .ref h13, .ref h14, .ref h15, .ref h16, .ref h17, .ref h18, .ref h19, .ref h20, .ref h21, .ref h22])), (h2, .inl (zI g, 60, .inl Z1)), (h3, .inl (zI g, 5, .inl G1_0))] H → va_D A [(h0, .inr (5, [.ref h1, .int f0, .ref h2, .int f1, .int g0_0, .ref h3, .ref h4, .ref h5, .ref h6, .int f3, .ref h7, .ref h8, .ref h9, .int f4, .ref h10, .ref h11, .ref h12, .ref h13, .ref h14, .ref h15, .ref h16, .ref h17, .ref h18, .ref h19, .ref h20, .ref h21, .ref h22])), (h2, .inl (zI g, 60, .inl Z1)), (h3, .inl (zI g, 5, .inl G1_0))] → va_S A s.heap H locs → ∀ (ls : Array Slot), lv_has ls 5 [(0, .ref h0), (1, .int v1_0)] → W p l e ({ frames := 1, cells := 0, slots := 0, locals := 25 }) s m args below meth c H locs 0 0 (MQ below (va_Qi (fun (r : Int32) (u : Int32 × (Nat → Int32)) => (-1 ≤ r.toInt ∧ r.toInt ≤ 60 ∧ (r.toInt = -1 → 0 < zLaw Z1 f1.toInt) ∧ (0 ≤ r.toInt → zLaw Z1 f1.toInt = -20 - r.toInt)) ∧ (0 ≤ u.1.toInt ∧ u.1.toInt ≤ 60) ∧ zTold Z1 f1.toInt u.2) (zPost g (fun u : Int32 × (Nat → Int32) => [(h0, .inr (5, [.ref h1, .int f0, .ref h2, .int f1, .int u.1, .ref h3, .ref h4, .ref h5, .ref h6, .int f3, .ref h7, .ref h8, .ref h9, .int f4, .ref h10, .ref h11, .ref h12, .ref h13, .ref h14, .ref h15, .ref h16, .ref h17, .ref h18, .ref h19, .ref h20, .ref h21, .ref h22])), (h2, .inl (zI g, 60, .inl Z1)), (h3, .inl (zI g, 5, .inl u.2))]) A) A) args s 0 0 A) (F0 m 27 ls []) := by
    intro n1
    induction n1 with
    | zero => intro v1_0 g0_0 G1_0 hg0_0a hg0_0b hG1_0 n1_0 n1_1 hm1; exfalso; omega
    | succ n1 ih1 =>
      intro v1_0 g0_0 G1_0 hg0_0a hg0_0b hG1_0 n1_0 n1_1 hm1 H locs hP hD hS ls hl
      refine lv_iload_n hx hb dX5_lawFault_27 rfl (lv_at hl 1 rfl) ?_
      refine lv_if_eq (tgt := 38) hx hb dX5_lawFault_28 (by decide) (fun c_1 => ?_) (fun c_1 => ?_)
      · have i_1 : v1_0.toInt = 0 := z_eq (rfl) (rfl) c_1
        refine lv_aload_n hx hb dX5_lawFault_38 rfl (lv_at hl 0 rfl) ?_
        refine z_calli (wr := [(h3, .inl (zI g, 5, .inl G1_0))]) hP hD hS hA [0, 1] [2] (by decide) rfl rfl (by decide) (va_runV (As := []) (rest := []) ⟨hx, hb, hml, hown, hts⟩ (gX5_ahead l g h0 h1 h2 h3 h4 h5 h6 h7 h8 h9 h10 h11 h12 h13 h14 h15 h16 h17 h18 h19 h20 h21 h22 H.size f0 f1 g0_0 f3 f4 Z1 (by constructor <;> omega) (by constructor <;> omega) (by constructor <;> omega) (by constructor <;> omega)) ⟨callB_of 0 hts (zGood m_o_yX5_ahead) rfl rfl rfl (hts _ m_z_RX5) (hts _ m_m_RX5_121) ⟨by decide +kernel, by decide +kernel, by decide +kernel⟩ ⟨Nat.le_of_ble_eq_true rfl, Nat.le_of_ble_eq_true rfl⟩, hts _ m_i_yX5_ahead, hts _ m_e_yX5_ahead⟩ (zPreV hK hN hZ hP hD hS hA [0, 1] (by decide) rfl rfl 5 0 rfl rfl) rfl rfl hl.1 rfl (lv_room (Nat.le_of_ble_eq_true rfl)) dX5_lawFault_39 ⟨Nat.le_of_ble_eq_true rfl, Nat.le_of_ble_eq_true rfl⟩) (fun r u H locs hw hP hD hS => ?_)
        obtain ⟨w7, rfl⟩ : ∃ z, z = u := ⟨_, rfl⟩
        obtain ⟨hw, hI8⟩ := hw
        obtain ⟨hI8a, hI8b⟩ := hI8
        obtain ⟨y9, rfl⟩ : ∃ z, z = r := ⟨_, rfl⟩
        obtain ⟨q10_0, q10_1, q10_2, q10_3, q10_4⟩ := hw
        have q10_0 : (y9.toInt = -1 ∨ w7.toInt < f1.toInt) := q10_0
        have q10_1 : g0_0.toInt ≤ w7.toInt := q10_1
        have q10_2 : w7.toInt = zsk Z1 f1.toInt g0_0.toInt := q10_2
        have q10_3 : (w7.toInt < f1.toInt → y9.toInt = zc Z1 w7.toInt) := q10_3
        have q10_4 : (f1.toInt ≤ w7.toInt → y9.toInt = -1) := q10_4
        have hP : va_P g.1 vwCl [(h3, .inl (zI g, 5, .inl G1_0)), (h0, .inr (5, [.ref h1, .int f0, .ref h2, .int f1, .int w7, .ref h3, .ref h4, .ref h5, .ref h6, .int f3, .ref h7, .ref h8, .ref h9, .int f4, .ref h10, .ref h11, .ref h12, .ref h13, .ref h14, .ref h15, .ref h16, .ref h17, .ref h18, .ref h19, .ref h20, .ref h21, .ref h22])), (h2, .inl (zI g, 60, .inl Z1))] H := hP
        have hD : va_D A [(h3, .inl (zI g, 5, .inl G1_0)), (h0, .inr (5, [.ref h1, .int f0, .ref h2, .int f1, .int w7, .ref h3, .ref h4, .ref h5, .ref h6, .int f3, .ref h7, .ref h8, .ref h9, .int f4, .ref h10, .ref h11, .ref h12, .ref h13, .ref h14, .ref h15, .ref h16, .ref h17, .ref h18, .ref h19, .ref h20, .ref h21, .ref h22])), (h2, .inl (zI g, 60, .inl Z1))] := hD
        have hI11 : zRL Z1 f1.toInt w7.toInt v1_0.toInt G1_0 := zRL_eq (hG1_0.1 (by omega)) (by omega) (by omega)
        refine z_calli (wr := [(h3, .inl (zI g, 5, .inl G1_0)), (h0, .inr (5, [.ref h1, .int f0, .ref h2, .int f1, .int w7, .ref h3, .ref h4, .ref h5, .ref h6, .int f3, .ref h7, .ref h8, .ref h9, .int f4, .ref h10, .ref h11, .ref h12, .ref h13, .ref h14, .ref h15, .ref h16, .ref h17, .ref h18, .ref h19, .ref h20, .ref h21, .ref h22])), (h2, .inl (zI g, 60, .inl Z1))]) hP hD hS hA [] [0, 1, 2] (by decide) rfl rfl (by decide) (va_runS (As := [.int y9]) (rest := []) ⟨hx, hb, hml, hown, hts⟩ (gX5_ruleOf l g  H.size y9) ⟨callB_of 1 hts (zGood m_o_yX5_ruleOf) rfl rfl rfl (hts _ m_z_RX5) (hts _ m_m_RX5_125) ⟨by decide +kernel, by decide +kernel, by decide +kernel⟩ ⟨Nat.le_of_ble_eq_true rfl, Nat.le_of_ble_eq_true rfl⟩, hts _ m_s_yX5_ruleOf⟩ (zPreS hK hN hZ hP hD hS hA [] (by decide) rfl rfl) rfl rfl hl.1 rfl (lv_room (Nat.le_of_ble_eq_true rfl)) dX5_lawFault_42 ⟨Nat.le_of_ble_eq_true rfl, Nat.le_of_ble_eq_true rfl⟩) (fun r u H locs hw hP hD hS => ?_)
        obtain ⟨y12, rfl⟩ : ∃ z, z = r := ⟨_, rfl⟩
        obtain ⟨q13_0, q13_1, q13_2⟩ := hw
        have q13_0 : y12.toInt = zrl y9.toInt := q13_0
        have q13_1 : -1 ≤ y12.toInt := q13_1
        have q13_2 : y12.toInt ≤ 4 := q13_2
        have hP : va_P g.1 vwCl [(h3, .inl (zI g, 5, .inl G1_0)), (h0, .inr (5, [.ref h1, .int f0, .ref h2, .int f1, .int w7, .ref h3, .ref h4, .ref h5, .ref h6, .int f3, .ref h7, .ref h8, .ref h9, .int f4, .ref h10, .ref h11, .ref h12, .ref h13, .ref h14, .ref h15, .ref h16, .ref h17, .ref h18, .ref h19, .ref h20, .ref h21, .ref h22])), (h2, .inl (zI g, 60, .inl Z1))] H := hP
        have hD : va_D A [(h3, .inl (zI g, 5, .inl G1_0)), (h0, .inr (5, [.ref h1, .int f0, .ref h2, .int f1, .int w7, .ref h3, .ref h4, .ref h5, .ref h6, .int f3, .ref h7, .ref h8, .ref h9, .int f4, .ref h10, .ref h11, .ref h12, .ref h13, .ref h14, .ref h15, .ref h16, .ref h17, .ref h18, .ref h19, .ref h20, .ref h21, .ref h22])), (h2, .inl (zI g, 60, .inl Z1))] := hD
        have hzr : y12.toInt = zr Z1 f1.toInt w7.toInt := by
          refine (by omega : y12.toInt = zrl y9.toInt).trans ?_
          unfold zr
          by_cases h : w7.toInt < f1.toInt
          · rw [if_pos h, (by omega : y9.toInt = zc Z1 w7.toInt)]
          · rw [if_neg h, (by omega : y9.toInt = -1)]
            decide
        refine lv_istore_n (lv' := [(2, .int y12), (0, .ref h0), (1, .int v1_0)]) hx hb dX5_lawFault_45 rfl hl (by decide) rfl (fun ls hl => ?_)
        refine lv_iload_n hx hb dX5_lawFault_46 rfl (lv_at hl 0 rfl) ?_
        refine lv_if_lt (tgt := 59) hx hb dX5_lawFault_47 (by decide) (fun c_2 => ?_) (fun c_2 => ?_)
        · have i_2 : y12.toInt < 0 := z_lt (rfl) (rfl) c_2
          have c1 : (zr Z1 f1.toInt w7.toInt < 0 ∨ 0 ≤ (G1_0 (zr Z1 f1.toInt w7.toInt).toNat).toInt) := Or.inl (by omega)
          have hzb := zRL_bad1 hI11 c1
          have hI14 : zTold Z1 f1.toInt G1_0 := zTold_neg (by omega)
          refine lv_aload_n hx hb dX5_lawFault_59 rfl (lv_at hl 1 rfl) ?_
          refine va_get (D := g.1) (ci := 5) (v := .int w7) (C := RX5) (T := TX5) (N := 27) hx hb hts zl_X5 hown hK hP 1 rfl rfl 4 (by decide) (hts _ m_f_RX5_118) (fun _ h => h) rfl dX5_lawFault_60 ?_
          have hP9 := hP.sub (ws' := [(h0, .inr (5, [.ref h1, .int f0, .ref h2, .int f1, .int w7, .ref h3, .ref h4, .ref h5, .ref h6, .int f3, .ref h7, .ref h8, .ref h9, .int f4, .ref h10, .ref h11, .ref h12, .ref h13, .ref h14, .ref h15, .ref h16, .ref h17, .ref h18, .ref h19, .ref h20, .ref h21, .ref h22])), (h2, .inl (zI g, 60, .inl Z1)), (h3, .inl (zI g, 5, .inl G1_0))]) [1, 2, 0] rfl
          have hD9 := hD.sub (ws' := [(h0, .inr (5, [.ref h1, .int f0, .ref h2, .int f1, .int w7, .ref h3, .ref h4, .ref h5, .ref h6, .int f3, .ref h7, .ref h8, .ref h9, .int f4, .ref h10, .ref h11, .ref h12, .ref h13, .ref h14, .ref h15, .ref h16, .ref h17, .ref h18, .ref h19, .ref h20, .ref h21, .ref h22])), (h2, .inl (zI g, 60, .inl Z1)), (h3, .inl (zI g, 5, .inl G1_0))]) [1, 2, 0] (by decide) rfl
          exact W.iret (v := w7) hx hb hr (fun t ht hW => ⟨⟨w7, ⟨w7, G1_0⟩, rfl, ⟨⟨(by first | omega | decide), (by first | omega | decide), (by first | omega | decide), (by first | omega | decide)⟩, ⟨show 0 ≤ w7.toInt from by omega, show w7.toInt ≤ 60 from by omega⟩, hI14⟩, by rw [ht]; exact hP9, hD9⟩, hS.F ht⟩) hS.2.2 dX5_lawFault_63
        · have i_2 : 0 ≤ y12.toInt := z_nlt (rfl) (rfl) c_2
          refine lv_aload_n hx hb dX5_lawFault_50 rfl (lv_at hl 1 rfl) ?_
          refine va_get (D := g.1) (ci := 5) (v := .ref h3) (C := RX5) (T := TX5) (N := 27) hx hb hts zl_X5 hown hK hP 1 rfl rfl 5 (by decide) (hts _ m_f_RX5_16) (fun _ h => h) rfl dX5_lawFault_51 ?_
          refine lv_iload_n hx hb dX5_lawFault_54 rfl (lv_at hl 0 rfl) ?_
          refine va_iald (D := g.1) hx hb hK hP 0 0 rfl rfl (vp_in_iff.mpr ⟨by omega, by omega⟩) dX5_lawFault_55 ?_
          refine lv_topi (fun y15 ey15 => ?_)
          have qy15_0 : y15.toInt = (G1_0 y12.toNatClampNeg).toInt := congrArg Int32.toInt ey15
          refine lv_if_lt (tgt := 64) hx hb dX5_lawFault_56 (by decide) (fun c_3 => ?_) (fun c_3 => ?_)
          · have i_3 : y15.toInt < 0 := z_lt (rfl) (rfl) c_3
            have c1n : ¬ (zr Z1 f1.toInt w7.toInt < 0 ∨ 0 ≤ (G1_0 (zr Z1 f1.toInt w7.toInt).toNat).toInt) := by rw [← z_tn (i := y12) hzr (by omega)]; omega
            have hpl : w7.toInt < f1.toInt := zr_lt (fun q => c1n (Or.inl q))
            have hp59 : w7.toInt ≤ 59 := by omega
            have hs := zstep (F := Z1) (len := f1.toInt) (p := w7.toInt) hpl
            refine lv_aload_n hx hb dX5_lawFault_64 rfl (lv_at hl 1 rfl) ?_
            refine lv_dup hx hb dX5_lawFault_65 rfl ?_
            refine va_get (D := g.1) (ci := 5) (v := .int w7) (C := RX5) (T := TX5) (N := 27) hx hb hts zl_X5 hown hK hP 1 rfl rfl 4 (by decide) (hts _ m_f_RX5_118) (fun _ h => h) rfl dX5_lawFault_66 ?_
            refine lv_iconst (v := 1) hx hb dX5_lawFault_69 (by decide) ?_
            refine lv_iadd hx hb dX5_lawFault_70 ?_
            refine lv_topi (fun y16 ey16 => ?_)
            have qy16_0 : y16.toInt = w7.toInt + 1 := zi_add ey16 (rfl) (rfl) (by omega) (by omega)
            refine va_put (D := g.1) (ci := 5) (v := .int y16) (ty := .int) (C := RX5) (T := TX5) (N := 27) hx hb hts zl_X5 tyX5 tyX5_ok nmX5 hown hK hP hD hS 1 rfl rfl 4 (by decide) (hts _ m_f_RX5_118) (fun _ h => h) rfl (by decide +kernel) rfl rfl (Nat.le_of_ble_eq_true rfl) dX5_lawFault_71 (fun H locs hP hD hS => ?_)
            have hP : va_P g.1 vwCl [(h3, .inl (zI g, 5, .inl G1_0)), (h0, .inr (5, [.ref h1, .int f0, .ref h2, .int f1, .int y16, .ref h3, .ref h4, .ref h5, .ref h6, .int f3, .ref h7, .ref h8, .ref h9, .int f4, .ref h10, .ref h11, .ref h12, .ref h13, .ref h14, .ref h15, .ref h16, .ref h17, .ref h18, .ref h19, .ref h20, .ref h21, .ref h22])), (h2, .inl (zI g, 60, .inl Z1))] H := hP
            have hD : va_D A [(h3, .inl (zI g, 5, .inl G1_0)), (h0, .inr (5, [.ref h1, .int f0, .ref h2, .int f1, .int y16, .ref h3, .ref h4, .ref h5, .ref h6, .int f3, .ref h7, .ref h8, .ref h9, .int f4, .ref h10, .ref h11, .ref h12, .ref h13, .ref h14, .ref h15, .ref h16, .ref h17, .ref h18, .ref h19, .ref h20, .ref h21, .ref h22])), (h2, .inl (zI g, 60, .inl Z1))] := hD
            refine lv_aload_n hx hb dX5_lawFault_74 rfl (lv_at hl 1 rfl) ?_
            refine z_calli (wr := [(h3, .inl (zI g, 5, .inl G1_0))]) hP hD hS hA [1, 2] [0] (by decide) rfl rfl (by decide) (va_runV (As := []) (rest := []) ⟨hx, hb, hml, hown, hts⟩ (gX5_ahead l g h0 h1 h2 h3 h4 h5 h6 h7 h8 h9 h10 h11 h12 h13 h14 h15 h16 h17 h18 h19 h20 h21 h22 H.size f0 f1 y16 f3 f4 Z1 (by constructor <;> omega) (by constructor <;> omega) (by constructor <;> omega) (by constructor <;> omega)) ⟨callB_of 0 hts (zGood m_o_yX5_ahead) rfl rfl rfl (hts _ m_z_RX5) (hts _ m_m_RX5_121) ⟨by decide +kernel, by decide +kernel, by decide +kernel⟩ ⟨Nat.le_of_ble_eq_true rfl, Nat.le_of_ble_eq_true rfl⟩, hts _ m_i_yX5_ahead, hts _ m_e_yX5_ahead⟩ (zPreV hK hN hZ hP hD hS hA [1, 2] (by decide) rfl rfl 5 1 rfl rfl) rfl rfl hl.1 rfl (lv_room (Nat.le_of_ble_eq_true rfl)) dX5_lawFault_75 ⟨Nat.le_of_ble_eq_true rfl, Nat.le_of_ble_eq_true rfl⟩) (fun r u H locs hw hP hD hS => ?_)
            obtain ⟨w17, rfl⟩ : ∃ z, z = u := ⟨_, rfl⟩
            obtain ⟨hw, hI18⟩ := hw
            obtain ⟨hI18a, hI18b⟩ := hI18
            obtain ⟨y19, rfl⟩ : ∃ z, z = r := ⟨_, rfl⟩
            obtain ⟨q20_0, q20_1, q20_2, q20_3, q20_4⟩ := hw
            have q20_0 : (y19.toInt = -1 ∨ w17.toInt < f1.toInt) := q20_0
            have q20_1 : y16.toInt ≤ w17.toInt := q20_1
            have q20_2 : w17.toInt = zsk Z1 f1.toInt y16.toInt := q20_2
            have q20_3 : (w17.toInt < f1.toInt → y19.toInt = zc Z1 w17.toInt) := q20_3
            have q20_4 : (f1.toInt ≤ w17.toInt → y19.toInt = -1) := q20_4
            have hP : va_P g.1 vwCl [(h3, .inl (zI g, 5, .inl G1_0)), (h0, .inr (5, [.ref h1, .int f0, .ref h2, .int f1, .int w17, .ref h3, .ref h4, .ref h5, .ref h6, .int f3, .ref h7, .ref h8, .ref h9, .int f4, .ref h10, .ref h11, .ref h12, .ref h13, .ref h14, .ref h15, .ref h16, .ref h17, .ref h18, .ref h19, .ref h20, .ref h21, .ref h22])), (h2, .inl (zI g, 60, .inl Z1))] H := hP
            have hD : va_D A [(h3, .inl (zI g, 5, .inl G1_0)), (h0, .inr (5, [.ref h1, .int f0, .ref h2, .int f1, .int w17, .ref h3, .ref h4, .ref h5, .ref h6, .int f3, .ref h7, .ref h8, .ref h9, .int f4, .ref h10, .ref h11, .ref h12, .ref h13, .ref h14, .ref h15, .ref h16, .ref h17, .ref h18, .ref h19, .ref h20, .ref h21, .ref h22])), (h2, .inl (zI g, 60, .inl Z1))] := hD
            have hq : w17.toInt = zq Z1 f1.toInt w7.toInt := by
              show w17.toInt = zsk Z1 f1.toInt (w7.toInt + 1)
              rw [← (by omega : y16.toInt = w7.toInt + 1)]
              omega
            refine lv_i2l (v := y19.toInt64) hx hb dX5_lawFault_78 rfl ?_
            refine lv_ldc2 (v := 48) hx hb hown (hts _ m_k_RX5_128) dX5_lawFault_79 ?_
            refine lv_ldc2 (v := 57) hx hb hown (hts _ m_k_RX5_130) dX5_lawFault_82 ?_
            refine z_calli (wr := [(h3, .inl (zI g, 5, .inl G1_0)), (h0, .inr (5, [.ref h1, .int f0, .ref h2, .int f1, .int w17, .ref h3, .ref h4, .ref h5, .ref h6, .int f3, .ref h7, .ref h8, .ref h9, .int f4, .ref h10, .ref h11, .ref h12, .ref h13, .ref h14, .ref h15, .ref h16, .ref h17, .ref h18, .ref h19, .ref h20, .ref h21, .ref h22])), (h2, .inl (zI g, 60, .inl Z1))]) hP hD hS hA [] [0, 1, 2] (by decide) rfl rfl (by decide) (va_runS (As := [.long y19.toInt64, .long 48, .long 57]) (rest := []) ⟨hx, hb, hml, hown, hts⟩ (gX5_in l g  H.size y19.toInt64 (48 : Int64) (57 : Int64)) ⟨callB_of 3 hts (zGood m_o_yX5_in) rfl rfl rfl (hts _ m_z_RX5) (hts _ m_m_RX5_77) ⟨by decide +kernel, by decide +kernel, by decide +kernel⟩ ⟨Nat.le_of_ble_eq_true rfl, Nat.le_of_ble_eq_true rfl⟩, hts _ m_s_yX5_in⟩ (zPreS hK hN hZ hP hD hS hA [] (by decide) rfl rfl) rfl rfl hl.1 rfl (lv_room (Nat.le_of_ble_eq_true rfl)) dX5_lawFault_85 ⟨Nat.le_of_ble_eq_true rfl, Nat.le_of_ble_eq_true rfl⟩) (fun r u H locs hw hP hD hS => ?_)
            rcases hw with ⟨i_4, rfl⟩ | ⟨i_5, i_6, rfl⟩ | ⟨i_7, i_8, rfl⟩
            · skip
              have i_4 : y19.toInt < 48 := by (try simp only [Int32.toInt_toInt64] at i_4); exact i_4
              have hP : va_P g.1 vwCl [(h3, .inl (zI g, 5, .inl G1_0)), (h0, .inr (5, [.ref h1, .int f0, .ref h2, .int f1, .int w17, .ref h3, .ref h4, .ref h5, .ref h6, .int f3, .ref h7, .ref h8, .ref h9, .int f4, .ref h10, .ref h11, .ref h12, .ref h13, .ref h14, .ref h15, .ref h16, .ref h17, .ref h18, .ref h19, .ref h20, .ref h21, .ref h22])), (h2, .inl (zI g, 60, .inl Z1))] H := hP
              have hD : va_D A [(h3, .inl (zI g, 5, .inl G1_0)), (h0, .inr (5, [.ref h1, .int f0, .ref h2, .int f1, .int w17, .ref h3, .ref h4, .ref h5, .ref h6, .int f3, .ref h7, .ref h8, .ref h9, .int f4, .ref h10, .ref h11, .ref h12, .ref h13, .ref h14, .ref h15, .ref h16, .ref h17, .ref h18, .ref h19, .ref h20, .ref h21, .ref h22])), (h2, .inl (zI g, 60, .inl Z1))] := hD
              refine lv_if_ne (tgt := 96) hx hb dX5_lawFault_88 (by decide) (fun h => absurd h (by decide +kernel)) (fun _ => ?_)
              have c2 : (ze Z1 f1.toInt w7.toInt = zq Z1 f1.toInt w7.toInt ∨ ¬ zft (zr Z1 f1.toInt w7.toInt) (zv Z1 f1.toInt w7.toInt)) := Or.inl (by
                show zdg Z1 f1.toInt (zq Z1 f1.toInt w7.toInt) = zq Z1 f1.toInt w7.toInt
                rw [← hq]
                by_cases h : w17.toInt < f1.toInt
                · exact zdg_stop h (by omega)
                · exact zdg_end (by omega))
              have hzb := zRL_bad2 hI11 c1n c2
              have hI21 : zTold Z1 f1.toInt G1_0 := zTold_neg (by omega)
              refine lv_aload_n hx hb dX5_lawFault_91 rfl (lv_at hl 1 rfl) ?_
              refine va_get (D := g.1) (ci := 5) (v := .int w17) (C := RX5) (T := TX5) (N := 27) hx hb hts zl_X5 hown hK hP 1 rfl rfl 4 (by decide) (hts _ m_f_RX5_118) (fun _ h => h) rfl dX5_lawFault_92 ?_
              have hP9 := hP.sub (ws' := [(h0, .inr (5, [.ref h1, .int f0, .ref h2, .int f1, .int w17, .ref h3, .ref h4, .ref h5, .ref h6, .int f3, .ref h7, .ref h8, .ref h9, .int f4, .ref h10, .ref h11, .ref h12, .ref h13, .ref h14, .ref h15, .ref h16, .ref h17, .ref h18, .ref h19, .ref h20, .ref h21, .ref h22])), (h2, .inl (zI g, 60, .inl Z1)), (h3, .inl (zI g, 5, .inl G1_0))]) [1, 2, 0] rfl
              have hD9 := hD.sub (ws' := [(h0, .inr (5, [.ref h1, .int f0, .ref h2, .int f1, .int w17, .ref h3, .ref h4, .ref h5, .ref h6, .int f3, .ref h7, .ref h8, .ref h9, .int f4, .ref h10, .ref h11, .ref h12, .ref h13, .ref h14, .ref h15, .ref h16, .ref h17, .ref h18, .ref h19, .ref h20, .ref h21, .ref h22])), (h2, .inl (zI g, 60, .inl Z1)), (h3, .inl (zI g, 5, .inl G1_0))]) [1, 2, 0] (by decide) rfl
              exact W.iret (v := w17) hx hb hr (fun t ht hW => ⟨⟨w17, ⟨w17, G1_0⟩, rfl, ⟨⟨(by first | omega | decide), (by first | omega | decide), (by first | omega | decide), (by first | omega | decide)⟩, ⟨show 0 ≤ w17.toInt from by omega, show w17.toInt ≤ 60 from by omega⟩, hI21⟩, by rw [ht]; exact hP9, hD9⟩, hS.F ht⟩) hS.2.2 dX5_lawFault_95
            · skip
              have i_5 : 48 ≤ y19.toInt := by (try simp only [Int32.toInt_toInt64] at i_5); exact i_5
              have i_6 : 57 < y19.toInt := by (try simp only [Int32.toInt_toInt64] at i_6); exact i_6
              have hP : va_P g.1 vwCl [(h3, .inl (zI g, 5, .inl G1_0)), (h0, .inr (5, [.ref h1, .int f0, .ref h2, .int f1, .int w17, .ref h3, .ref h4, .ref h5, .ref h6, .int f3, .ref h7, .ref h8, .ref h9, .int f4, .ref h10, .ref h11, .ref h12, .ref h13, .ref h14, .ref h15, .ref h16, .ref h17, .ref h18, .ref h19, .ref h20, .ref h21, .ref h22])), (h2, .inl (zI g, 60, .inl Z1))] H := hP
              have hD : va_D A [(h3, .inl (zI g, 5, .inl G1_0)), (h0, .inr (5, [.ref h1, .int f0, .ref h2, .int f1, .int w17, .ref h3, .ref h4, .ref h5, .ref h6, .int f3, .ref h7, .ref h8, .ref h9, .int f4, .ref h10, .ref h11, .ref h12, .ref h13, .ref h14, .ref h15, .ref h16, .ref h17, .ref h18, .ref h19, .ref h20, .ref h21, .ref h22])), (h2, .inl (zI g, 60, .inl Z1))] := hD
              refine lv_if_ne (tgt := 96) hx hb dX5_lawFault_88 (by decide) (fun h => absurd h (by decide +kernel)) (fun _ => ?_)
              have c2 : (ze Z1 f1.toInt w7.toInt = zq Z1 f1.toInt w7.toInt ∨ ¬ zft (zr Z1 f1.toInt w7.toInt) (zv Z1 f1.toInt w7.toInt)) := Or.inl (by
                show zdg Z1 f1.toInt (zq Z1 f1.toInt w7.toInt) = zq Z1 f1.toInt w7.toInt
                rw [← hq]
                by_cases h : w17.toInt < f1.toInt
                · exact zdg_stop h (by omega)
                · exact zdg_end (by omega))
              have hzb := zRL_bad2 hI11 c1n c2
              have hI22 : zTold Z1 f1.toInt G1_0 := zTold_neg (by omega)
              refine lv_aload_n hx hb dX5_lawFault_91 rfl (lv_at hl 1 rfl) ?_
              refine va_get (D := g.1) (ci := 5) (v := .int w17) (C := RX5) (T := TX5) (N := 27) hx hb hts zl_X5 hown hK hP 1 rfl rfl 4 (by decide) (hts _ m_f_RX5_118) (fun _ h => h) rfl dX5_lawFault_92 ?_
              have hP9 := hP.sub (ws' := [(h0, .inr (5, [.ref h1, .int f0, .ref h2, .int f1, .int w17, .ref h3, .ref h4, .ref h5, .ref h6, .int f3, .ref h7, .ref h8, .ref h9, .int f4, .ref h10, .ref h11, .ref h12, .ref h13, .ref h14, .ref h15, .ref h16, .ref h17, .ref h18, .ref h19, .ref h20, .ref h21, .ref h22])), (h2, .inl (zI g, 60, .inl Z1)), (h3, .inl (zI g, 5, .inl G1_0))]) [1, 2, 0] rfl
              have hD9 := hD.sub (ws' := [(h0, .inr (5, [.ref h1, .int f0, .ref h2, .int f1, .int w17, .ref h3, .ref h4, .ref h5, .ref h6, .int f3, .ref h7, .ref h8, .ref h9, .int f4, .ref h10, .ref h11, .ref h12, .ref h13, .ref h14, .ref h15, .ref h16, .ref h17, .ref h18, .ref h19, .ref h20, .ref h21, .ref h22])), (h2, .inl (zI g, 60, .inl Z1)), (h3, .inl (zI g, 5, .inl G1_0))]) [1, 2, 0] (by decide) rfl
              exact W.iret (v := w17) hx hb hr (fun t ht hW => ⟨⟨w17, ⟨w17, G1_0⟩, rfl, ⟨⟨(by first | omega | decide), (by first | omega | decide), (by first | omega | decide), (by first | omega | decide)⟩, ⟨show 0 ≤ w17.toInt from by omega, show w17.toInt ≤ 60 from by omega⟩, hI22⟩, by rw [ht]; exact hP9, hD9⟩, hS.F ht⟩) hS.2.2 dX5_lawFault_95
            · skip
              have i_7 : 48 ≤ y19.toInt := by (try simp only [Int32.toInt_toInt64] at i_7); exact i_7
              have i_8 : y19.toInt ≤ 57 := by (try simp only [Int32.toInt_toInt64] at i_8); exact i_8
              have hP : va_P g.1 vwCl [(h3, .inl (zI g, 5, .inl G1_0)), (h0, .inr (5, [.ref h1, .int f0, .ref h2, .int f1, .int w17, .ref h3, .ref h4, .ref h5, .ref h6, .int f3, .ref h7, .ref h8, .ref h9, .int f4, .ref h10, .ref h11, .ref h12, .ref h13, .ref h14, .ref h15, .ref h16, .ref h17, .ref h18, .ref h19, .ref h20, .ref h21, .ref h22])), (h2, .inl (zI g, 60, .inl Z1))] H := hP
              have hD : va_D A [(h3, .inl (zI g, 5, .inl G1_0)), (h0, .inr (5, [.ref h1, .int f0, .ref h2, .int f1, .int w17, .ref h3, .ref h4, .ref h5, .ref h6, .int f3, .ref h7, .ref h8, .ref h9, .int f4, .ref h10, .ref h11, .ref h12, .ref h13, .ref h14, .ref h15, .ref h16, .ref h17, .ref h18, .ref h19, .ref h20, .ref h21, .ref h22])), (h2, .inl (zI g, 60, .inl Z1))] := hD
              refine lv_if_ne (tgt := 96) hx hb dX5_lawFault_88 (by decide) (fun _ => ?_) (fun h => absurd h (by decide +kernel))
              have ha3 : w17.toInt < f1.toInt := by omega
              have ha59 : w17.toInt ≤ 59 := by omega
              have hd3 := zdg_dig (F := Z1) (len := f1.toInt) (a := w17.toInt) ha3 ⟨by omega, by omega⟩
              have hd4 := zdg_r (F := Z1) (len := f1.toInt) (a := w17.toInt + 1) (by omega)
              refine lv_aload_n hx hb dX5_lawFault_96 rfl (lv_at hl 1 rfl) ?_
              refine va_get (D := g.1) (ci := 5) (v := .int w17) (C := RX5) (T := TX5) (N := 27) hx hb hts zl_X5 hown hK hP 1 rfl rfl 4 (by decide) (hts _ m_f_RX5_118) (fun _ h => h) rfl dX5_lawFault_97 ?_
              refine lv_istore_n (lv' := [(3, .int w17), (2, .int y12), (0, .ref h0), (1, .int v1_0)]) hx hb dX5_lawFault_100 rfl hl (by decide) rfl (fun ls hl => ?_)
              refine lv_iconst (v := 0) hx hb dX5_lawFault_101 (by decide) ?_
              have hz0 : zNu Z1 (zdg Z1 f1.toInt w17.toInt) w17.toInt (0 : Int32).toInt = zNu Z1 (zdg Z1 f1.toInt w17.toInt) w17.toInt 0 := rfl
              refine lv_istore (lv' := [(4, .int 0), (3, .int w17), (2, .int y12), (0, .ref h0), (1, .int v1_0)]) hx hb dX5_lawFault_102 hl (by decide) rfl (fun ls hl => ?_)
              have loop104_9 : ∀ (n10 : Nat) (v4_9 : Int32) (g0_9 : Int32) (hg0_9a : 0 ≤ g0_9.toInt) (hg0_9b : g0_9.toInt ≤ 60) (n10_0 : 0 ≤ v4_9.toInt) (n10_1 : v4_9.toInt ≤ 1000) (n10_2 : w17.toInt ≤ g0_9.toInt) (n10_3 : zdg Z1 f1.toInt g0_9.toInt = zdg Z1 f1.toInt w17.toInt) (n10_4 : zNu Z1 (zdg Z1 f1.toInt w17.toInt) g0_9.toInt v4_9.toInt = zNu Z1 (zdg Z1 f1.toInt w17.toInt) w17.toInt 0) (hm10 : 60 - g0_9.toInt < (n10 : Int)) (H : Heap) (locs : List Loc), va_P g.1 vwCl [(h3, .inl (zI g, 5, .inl G1_0)), (h0, .inr (5, [.ref h1, .int f0, .ref h2, .int f1, .int g0_9, .ref h3, .ref h4, .ref h5, .ref h6, .int f3, .ref h7, .ref h8, .ref h9, .int f4, .ref h10, .ref h11, .ref h12, .ref h13, .ref h14, .ref h15, .ref h16, .ref h17, .ref h18, .ref h19, .ref h20, .ref h21, .ref h22])), (h2, .inl (zI g, 60, .inl Z1))] H → va_D A [(h3, .inl (zI g, 5, .inl G1_0)), (h0, .inr (5, [.ref h1, .int f0, .ref h2, .int f1, .int g0_9, .ref h3, .ref h4, .ref h5, .ref h6, .int f3, .ref h7, .ref h8, .ref h9, .int f4, .ref h10, .ref h11, .ref h12, .ref h13, .ref h14, .ref h15, .ref h16, .ref h17, .ref h18, .ref h19, .ref h20, .ref h21, .ref h22])), (h2, .inl (zI g, 60, .inl Z1))] → va_S A s.heap H locs → ∀ (ls : Array Slot), lv_has ls 5 [(0, .ref h0), (1, .int v1_0), (2, .int y12), (3, .int w17), (4, .int v4_9)] → W p l e ({ frames := 1, cells := 0, slots := 0, locals := 25 }) s m args below meth c H locs 0 0 (MQ below (va_Qi (fun (r : Int32) (u : Int32 × (Nat → Int32)) => (-1 ≤ r.toInt ∧ r.toInt ≤ 60 ∧ (r.toInt = -1 → 0 < zLaw Z1 f1.toInt) ∧ (0 ≤ r.toInt → zLaw Z1 f1.toInt = -20 - r.toInt)) ∧ (0 ≤ u.1.toInt ∧ u.1.toInt ≤ 60) ∧ zTold Z1 f1.toInt u.2) (zPost g (fun u : Int32 × (Nat → Int32) => [(h0, .inr (5, [.ref h1, .int f0, .ref h2, .int f1, .int u.1, .ref h3, .ref h4, .ref h5, .ref h6, .int f3, .ref h7, .ref h8, .ref h9, .int f4, .ref h10, .ref h11, .ref h12, .ref h13, .ref h14, .ref h15, .ref h16, .ref h17, .ref h18, .ref h19, .ref h20, .ref h21, .ref h22])), (h2, .inl (zI g, 60, .inl Z1)), (h3, .inl (zI g, 5, .inl u.2))]) A) A) args s 0 0 A) (F0 m 104 ls []) := by
                intro n10
                induction n10 with
                | zero => intro v4_9 g0_9 hg0_9a hg0_9b n10_0 n10_1 n10_2 n10_3 n10_4 hm10; exfalso; omega
                | succ n10 ih10 =>
                  intro v4_9 g0_9 hg0_9a hg0_9b n10_0 n10_1 n10_2 n10_3 n10_4 hm10 H locs hP hD hS ls hl
                  refine lv_aload_n hx hb dX5_lawFault_104 rfl (lv_at hl 0 rfl) ?_
                  refine va_get (D := g.1) (ci := 5) (v := .int g0_9) (C := RX5) (T := TX5) (N := 27) hx hb hts zl_X5 hown hK hP 1 rfl rfl 4 (by decide) (hts _ m_f_RX5_118) (fun _ h => h) rfl dX5_lawFault_105 ?_
                  refine lv_aload_n hx hb dX5_lawFault_108 rfl (lv_at hl 0 rfl) ?_
                  refine va_get (D := g.1) (ci := 5) (v := .int f1) (C := RX5) (T := TX5) (N := 27) hx hb hts zl_X5 hown hK hP 1 rfl rfl 3 (by decide) (hts _ m_f_RX5_114) (fun _ h => h) rfl dX5_lawFault_109 ?_
                  refine lv_icmp_ge (tgt := 176) hx hb dX5_lawFault_112 (by decide) (fun c_10 => ?_) (fun c_10 => ?_)
                  · have i_10 : f1.toInt ≤ g0_9.toInt := z_le (rfl) (rfl) c_10
                    have hend : zdg Z1 f1.toInt g0_9.toInt = g0_9.toInt := by first | exact zdg_end (by omega) | exact zdg_stop (by omega) (by omega)
                    have hfe : zdg Z1 f1.toInt w17.toInt = g0_9.toInt := by omega
                    have he : g0_9.toInt = ze Z1 f1.toInt w7.toInt := by
                      show g0_9.toInt = zdg Z1 f1.toInt (zq Z1 f1.toInt w7.toInt)
                      rw [← hq]
                      exact hfe.symm
                    have hv : v4_9.toInt = zv Z1 f1.toInt w7.toInt := by
                      show v4_9.toInt = zNu Z1 (ze Z1 f1.toInt w7.toInt) (zq Z1 f1.toInt w7.toInt) 0
                      rw [← he, ← hq]
                      have h2 := zNu_end (F := Z1) (b := g0_9.toInt) (a := g0_9.toInt) (v := v4_9.toInt) (by omega)
                      have h3 : zNu Z1 (zdg Z1 f1.toInt w17.toInt) g0_9.toInt v4_9.toInt = zNu Z1 (zdg Z1 f1.toInt w17.toInt) w17.toInt 0 := by omega
                      rw [hfe, h2] at h3
                      exact h3
                    refine lv_iload hx hb dX5_lawFault_176 (lv_at hl 4 rfl) ?_
                    refine lv_i2l (v := v4_9.toInt64) hx hb dX5_lawFault_178 rfl ?_
                    refine lv_iload_n hx hb dX5_lawFault_179 rfl (lv_at hl 2 rfl) ?_
                    refine z_calli (wr := [(h3, .inl (zI g, 5, .inl G1_0)), (h0, .inr (5, [.ref h1, .int f0, .ref h2, .int f1, .int g0_9, .ref h3, .ref h4, .ref h5, .ref h6, .int f3, .ref h7, .ref h8, .ref h9, .int f4, .ref h10, .ref h11, .ref h12, .ref h13, .ref h14, .ref h15, .ref h16, .ref h17, .ref h18, .ref h19, .ref h20, .ref h21, .ref h22])), (h2, .inl (zI g, 60, .inl Z1))]) hP hD hS hA [] [0, 1, 2] (by decide) rfl rfl (by decide) (va_runS (As := [.int y12]) (rest := [.long v4_9.toInt64]) ⟨hx, hb, hml, hown, hts⟩ (gX5_leastOf l g  H.size y12) ⟨callB_of 1 hts (zGood m_o_yX5_leastOf) rfl rfl rfl (hts _ m_z_RX5) (hts _ m_m_RX5_83) ⟨by decide +kernel, by decide +kernel, by decide +kernel⟩ ⟨Nat.le_of_ble_eq_true rfl, Nat.le_of_ble_eq_true rfl⟩, hts _ m_s_yX5_leastOf⟩ (zPreS hK hN hZ hP hD hS hA [] (by decide) rfl rfl) rfl rfl hl.1 rfl (lv_room (Nat.le_of_ble_eq_true rfl)) dX5_lawFault_180 ⟨Nat.le_of_ble_eq_true rfl, Nat.le_of_ble_eq_true rfl⟩) (fun r u H locs hw hP hD hS => ?_)
                    obtain ⟨y23, rfl⟩ : ∃ z, z = r := ⟨_, rfl⟩
                    obtain ⟨q24_0, q24_1, q24_2⟩ := hw
                    have q24_0 : y23.toInt = zlo y12.toInt := q24_0
                    have q24_1 : 0 ≤ y23.toInt := q24_1
                    have q24_2 : y23.toInt ≤ 1 := q24_2
                    have hP : va_P g.1 vwCl [(h3, .inl (zI g, 5, .inl G1_0)), (h0, .inr (5, [.ref h1, .int f0, .ref h2, .int f1, .int g0_9, .ref h3, .ref h4, .ref h5, .ref h6, .int f3, .ref h7, .ref h8, .ref h9, .int f4, .ref h10, .ref h11, .ref h12, .ref h13, .ref h14, .ref h15, .ref h16, .ref h17, .ref h18, .ref h19, .ref h20, .ref h21, .ref h22])), (h2, .inl (zI g, 60, .inl Z1))] H := hP
                    have hD : va_D A [(h3, .inl (zI g, 5, .inl G1_0)), (h0, .inr (5, [.ref h1, .int f0, .ref h2, .int f1, .int g0_9, .ref h3, .ref h4, .ref h5, .ref h6, .int f3, .ref h7, .ref h8, .ref h9, .int f4, .ref h10, .ref h11, .ref h12, .ref h13, .ref h14, .ref h15, .ref h16, .ref h17, .ref h18, .ref h19, .ref h20, .ref h21, .ref h22])), (h2, .inl (zI g, 60, .inl Z1))] := hD
                    refine lv_i2l (v := y23.toInt64) hx hb dX5_lawFault_183 rfl ?_
                    refine lv_iload_n hx hb dX5_lawFault_184 rfl (lv_at hl 2 rfl) ?_
                    refine z_calli (wr := [(h3, .inl (zI g, 5, .inl G1_0)), (h0, .inr (5, [.ref h1, .int f0, .ref h2, .int f1, .int g0_9, .ref h3, .ref h4, .ref h5, .ref h6, .int f3, .ref h7, .ref h8, .ref h9, .int f4, .ref h10, .ref h11, .ref h12, .ref h13, .ref h14, .ref h15, .ref h16, .ref h17, .ref h18, .ref h19, .ref h20, .ref h21, .ref h22])), (h2, .inl (zI g, 60, .inl Z1))]) hP hD hS hA [] [0, 1, 2] (by decide) rfl rfl (by decide) (va_runS (As := [.int y12]) (rest := [.long y23.toInt64, .long v4_9.toInt64]) ⟨hx, hb, hml, hown, hts⟩ (gX5_mostOf l g  H.size y12) ⟨callB_of 1 hts (zGood m_o_yX5_mostOf) rfl rfl rfl (hts _ m_z_RX5) (hts _ m_m_RX5_87) ⟨by decide +kernel, by decide +kernel, by decide +kernel⟩ ⟨Nat.le_of_ble_eq_true rfl, Nat.le_of_ble_eq_true rfl⟩, hts _ m_s_yX5_mostOf⟩ (zPreS hK hN hZ hP hD hS hA [] (by decide) rfl rfl) rfl rfl hl.1 rfl (lv_room (Nat.le_of_ble_eq_true rfl)) dX5_lawFault_185 ⟨Nat.le_of_ble_eq_true rfl, Nat.le_of_ble_eq_true rfl⟩) (fun r u H locs hw hP hD hS => ?_)
                    obtain ⟨y25, rfl⟩ : ∃ z, z = r := ⟨_, rfl⟩
                    obtain ⟨q26_0, q26_1, q26_2⟩ := hw
                    have q26_0 : y25.toInt = zhi y12.toInt := q26_0
                    have q26_1 : y25.toInt ≤ 99 := q26_1
                    have q26_2 : 1 ≤ y25.toInt := q26_2
                    have hP : va_P g.1 vwCl [(h3, .inl (zI g, 5, .inl G1_0)), (h0, .inr (5, [.ref h1, .int f0, .ref h2, .int f1, .int g0_9, .ref h3, .ref h4, .ref h5, .ref h6, .int f3, .ref h7, .ref h8, .ref h9, .int f4, .ref h10, .ref h11, .ref h12, .ref h13, .ref h14, .ref h15, .ref h16, .ref h17, .ref h18, .ref h19, .ref h20, .ref h21, .ref h22])), (h2, .inl (zI g, 60, .inl Z1))] H := hP
                    have hD : va_D A [(h3, .inl (zI g, 5, .inl G1_0)), (h0, .inr (5, [.ref h1, .int f0, .ref h2, .int f1, .int g0_9, .ref h3, .ref h4, .ref h5, .ref h6, .int f3, .ref h7, .ref h8, .ref h9, .int f4, .ref h10, .ref h11, .ref h12, .ref h13, .ref h14, .ref h15, .ref h16, .ref h17, .ref h18, .ref h19, .ref h20, .ref h21, .ref h22])), (h2, .inl (zI g, 60, .inl Z1))] := hD
                    refine lv_i2l (v := y25.toInt64) hx hb dX5_lawFault_188 rfl ?_
                    refine z_calli (wr := [(h3, .inl (zI g, 5, .inl G1_0)), (h0, .inr (5, [.ref h1, .int f0, .ref h2, .int f1, .int g0_9, .ref h3, .ref h4, .ref h5, .ref h6, .int f3, .ref h7, .ref h8, .ref h9, .int f4, .ref h10, .ref h11, .ref h12, .ref h13, .ref h14, .ref h15, .ref h16, .ref h17, .ref h18, .ref h19, .ref h20, .ref h21, .ref h22])), (h2, .inl (zI g, 60, .inl Z1))]) hP hD hS hA [] [0, 1, 2] (by decide) rfl rfl (by decide) (va_runS (As := [.long v4_9.toInt64, .long y23.toInt64, .long y25.toInt64]) (rest := []) ⟨hx, hb, hml, hown, hts⟩ (gX5_in l g  H.size v4_9.toInt64 y23.toInt64 y25.toInt64) ⟨callB_of 3 hts (zGood m_o_yX5_in) rfl rfl rfl (hts _ m_z_RX5) (hts _ m_m_RX5_77) ⟨by decide +kernel, by decide +kernel, by decide +kernel⟩ ⟨Nat.le_of_ble_eq_true rfl, Nat.le_of_ble_eq_true rfl⟩, hts _ m_s_yX5_in⟩ (zPreS hK hN hZ hP hD hS hA [] (by decide) rfl rfl) rfl rfl hl.1 rfl (lv_room (Nat.le_of_ble_eq_true rfl)) dX5_lawFault_189 ⟨Nat.le_of_ble_eq_true rfl, Nat.le_of_ble_eq_true rfl⟩) (fun r u H locs hw hP hD hS => ?_)
                    rcases hw with ⟨i_11, rfl⟩ | ⟨i_12, i_13, rfl⟩ | ⟨i_14, i_15, rfl⟩
                    · skip
                      have i_11 : v4_9.toInt < y23.toInt := by simpa only [Int32.toInt_toInt64] using i_11
                      have hP : va_P g.1 vwCl [(h3, .inl (zI g, 5, .inl G1_0)), (h0, .inr (5, [.ref h1, .int f0, .ref h2, .int f1, .int g0_9, .ref h3, .ref h4, .ref h5, .ref h6, .int f3, .ref h7, .ref h8, .ref h9, .int f4, .ref h10, .ref h11, .ref h12, .ref h13, .ref h14, .ref h15, .ref h16, .ref h17, .ref h18, .ref h19, .ref h20, .ref h21, .ref h22])), (h2, .inl (zI g, 60, .inl Z1))] H := hP
                      have hD : va_D A [(h3, .inl (zI g, 5, .inl G1_0)), (h0, .inr (5, [.ref h1, .int f0, .ref h2, .int f1, .int g0_9, .ref h3, .ref h4, .ref h5, .ref h6, .int f3, .ref h7, .ref h8, .ref h9, .int f4, .ref h10, .ref h11, .ref h12, .ref h13, .ref h14, .ref h15, .ref h16, .ref h17, .ref h18, .ref h19, .ref h20, .ref h21, .ref h22])), (h2, .inl (zI g, 60, .inl Z1))] := hD
                      refine lv_if_ne (tgt := 197) hx hb dX5_lawFault_192 (by decide) (fun h => absurd h (by decide +kernel)) (fun _ => ?_)
                      have c2 : (ze Z1 f1.toInt w7.toInt = zq Z1 f1.toInt w7.toInt ∨ ¬ zft (zr Z1 f1.toInt w7.toInt) (zv Z1 f1.toInt w7.toInt)) := Or.inr (fun h => by
                        rw [← hzr, ← hv] at h
                        have h1 := h.1
                        have h2 := h.2
                        omega)
                      have hzb := zRL_bad2 hI11 c1n c2
                      have hI27 : zTold Z1 f1.toInt G1_0 := zTold_neg (by omega)
                      refine lv_iload_n hx hb dX5_lawFault_195 rfl (lv_at hl 3 rfl) ?_
                      have hP9 := hP.sub (ws' := [(h0, .inr (5, [.ref h1, .int f0, .ref h2, .int f1, .int g0_9, .ref h3, .ref h4, .ref h5, .ref h6, .int f3, .ref h7, .ref h8, .ref h9, .int f4, .ref h10, .ref h11, .ref h12, .ref h13, .ref h14, .ref h15, .ref h16, .ref h17, .ref h18, .ref h19, .ref h20, .ref h21, .ref h22])), (h2, .inl (zI g, 60, .inl Z1)), (h3, .inl (zI g, 5, .inl G1_0))]) [1, 2, 0] rfl
                      have hD9 := hD.sub (ws' := [(h0, .inr (5, [.ref h1, .int f0, .ref h2, .int f1, .int g0_9, .ref h3, .ref h4, .ref h5, .ref h6, .int f3, .ref h7, .ref h8, .ref h9, .int f4, .ref h10, .ref h11, .ref h12, .ref h13, .ref h14, .ref h15, .ref h16, .ref h17, .ref h18, .ref h19, .ref h20, .ref h21, .ref h22])), (h2, .inl (zI g, 60, .inl Z1)), (h3, .inl (zI g, 5, .inl G1_0))]) [1, 2, 0] (by decide) rfl
                      exact W.iret (v := w17) hx hb hr (fun t ht hW => ⟨⟨w17, ⟨g0_9, G1_0⟩, rfl, ⟨⟨(by first | omega | decide), (by first | omega | decide), (by first | omega | decide), (by first | omega | decide)⟩, ⟨show 0 ≤ g0_9.toInt from by omega, show g0_9.toInt ≤ 60 from by omega⟩, hI27⟩, by rw [ht]; exact hP9, hD9⟩, hS.F ht⟩) hS.2.2 dX5_lawFault_196
                    · skip
                      have i_12 : y23.toInt ≤ v4_9.toInt := by simpa only [Int32.toInt_toInt64] using i_12
                      have i_13 : y25.toInt < v4_9.toInt := by simpa only [Int32.toInt_toInt64] using i_13
                      have hP : va_P g.1 vwCl [(h3, .inl (zI g, 5, .inl G1_0)), (h0, .inr (5, [.ref h1, .int f0, .ref h2, .int f1, .int g0_9, .ref h3, .ref h4, .ref h5, .ref h6, .int f3, .ref h7, .ref h8, .ref h9, .int f4, .ref h10, .ref h11, .ref h12, .ref h13, .ref h14, .ref h15, .ref h16, .ref h17, .ref h18, .ref h19, .ref h20, .ref h21, .ref h22])), (h2, .inl (zI g, 60, .inl Z1))] H := hP
                      have hD : va_D A [(h3, .inl (zI g, 5, .inl G1_0)), (h0, .inr (5, [.ref h1, .int f0, .ref h2, .int f1, .int g0_9, .ref h3, .ref h4, .ref h5, .ref h6, .int f3, .ref h7, .ref h8, .ref h9, .int f4, .ref h10, .ref h11, .ref h12, .ref h13, .ref h14, .ref h15, .ref h16, .ref h17, .ref h18, .ref h19, .ref h20, .ref h21, .ref h22])), (h2, .inl (zI g, 60, .inl Z1))] := hD
                      refine lv_if_ne (tgt := 197) hx hb dX5_lawFault_192 (by decide) (fun h => absurd h (by decide +kernel)) (fun _ => ?_)
                      have c2 : (ze Z1 f1.toInt w7.toInt = zq Z1 f1.toInt w7.toInt ∨ ¬ zft (zr Z1 f1.toInt w7.toInt) (zv Z1 f1.toInt w7.toInt)) := Or.inr (fun h => by
                        rw [← hzr, ← hv] at h
                        have h1 := h.1
                        have h2 := h.2
                        omega)
                      have hzb := zRL_bad2 hI11 c1n c2
                      have hI28 : zTold Z1 f1.toInt G1_0 := zTold_neg (by omega)
                      refine lv_iload_n hx hb dX5_lawFault_195 rfl (lv_at hl 3 rfl) ?_
                      have hP9 := hP.sub (ws' := [(h0, .inr (5, [.ref h1, .int f0, .ref h2, .int f1, .int g0_9, .ref h3, .ref h4, .ref h5, .ref h6, .int f3, .ref h7, .ref h8, .ref h9, .int f4, .ref h10, .ref h11, .ref h12, .ref h13, .ref h14, .ref h15, .ref h16, .ref h17, .ref h18, .ref h19, .ref h20, .ref h21, .ref h22])), (h2, .inl (zI g, 60, .inl Z1)), (h3, .inl (zI g, 5, .inl G1_0))]) [1, 2, 0] rfl
                      have hD9 := hD.sub (ws' := [(h0, .inr (5, [.ref h1, .int f0, .ref h2, .int f1, .int g0_9, .ref h3, .ref h4, .ref h5, .ref h6, .int f3, .ref h7, .ref h8, .ref h9, .int f4, .ref h10, .ref h11, .ref h12, .ref h13, .ref h14, .ref h15, .ref h16, .ref h17, .ref h18, .ref h19, .ref h20, .ref h21, .ref h22])), (h2, .inl (zI g, 60, .inl Z1)), (h3, .inl (zI g, 5, .inl G1_0))]) [1, 2, 0] (by decide) rfl
                      exact W.iret (v := w17) hx hb hr (fun t ht hW => ⟨⟨w17, ⟨g0_9, G1_0⟩, rfl, ⟨⟨(by first | omega | decide), (by first | omega | decide), (by first | omega | decide), (by first | omega | decide)⟩, ⟨show 0 ≤ g0_9.toInt from by omega, show g0_9.toInt ≤ 60 from by omega⟩, hI28⟩, by rw [ht]; exact hP9, hD9⟩, hS.F ht⟩) hS.2.2 dX5_lawFault_196
                    · skip
                      have i_14 : y23.toInt ≤ v4_9.toInt := by simpa only [Int32.toInt_toInt64] using i_14
                      have i_15 : v4_9.toInt ≤ y25.toInt := by simpa only [Int32.toInt_toInt64] using i_15
                      have hP : va_P g.1 vwCl [(h3, .inl (zI g, 5, .inl G1_0)), (h0, .inr (5, [.ref h1, .int f0, .ref h2, .int f1, .int g0_9, .ref h3, .ref h4, .ref h5, .ref h6, .int f3, .ref h7, .ref h8, .ref h9, .int f4, .ref h10, .ref h11, .ref h12, .ref h13, .ref h14, .ref h15, .ref h16, .ref h17, .ref h18, .ref h19, .ref h20, .ref h21, .ref h22])), (h2, .inl (zI g, 60, .inl Z1))] H := hP
                      have hD : va_D A [(h3, .inl (zI g, 5, .inl G1_0)), (h0, .inr (5, [.ref h1, .int f0, .ref h2, .int f1, .int g0_9, .ref h3, .ref h4, .ref h5, .ref h6, .int f3, .ref h7, .ref h8, .ref h9, .int f4, .ref h10, .ref h11, .ref h12, .ref h13, .ref h14, .ref h15, .ref h16, .ref h17, .ref h18, .ref h19, .ref h20, .ref h21, .ref h22])), (h2, .inl (zI g, 60, .inl Z1))] := hD
                      refine lv_if_ne (tgt := 197) hx hb dX5_lawFault_192 (by decide) (fun _ => ?_) (fun h => absurd h (by decide +kernel))
                      have c2n : ¬ (ze Z1 f1.toInt w7.toInt = zq Z1 f1.toInt w7.toInt ∨ ¬ zft (zr Z1 f1.toInt w7.toInt) (zv Z1 f1.toInt w7.toInt)) := fun h => h.elim (fun h => by omega) (fun h => h (by rw [← hzr, ← hv]; exact ⟨by omega, by omega⟩))
                      refine lv_aload_n hx hb dX5_lawFault_197 rfl (lv_at hl 0 rfl) ?_
                      refine va_get (D := g.1) (ci := 5) (v := .ref h3) (C := RX5) (T := TX5) (N := 27) hx hb hts zl_X5 hown hK hP 1 rfl rfl 5 (by decide) (hts _ m_f_RX5_16) (fun _ h => h) rfl dX5_lawFault_198 ?_
                      refine lv_iload_n hx hb dX5_lawFault_201 rfl (lv_at hl 2 rfl) ?_
                      refine lv_iload hx hb dX5_lawFault_202 (lv_at hl 4 rfl) ?_
                      refine va_iast (D := g.1) hx hb hK hP hD hS 0 0 rfl rfl (vp_in_iff.mpr ⟨by omega, by omega⟩) dX5_lawFault_204 (fun H locs hP hD hS => ?_)
                      have hP : va_P g.1 vwCl [(h3, .inl (zI g, 5, .inl (upd G1_0 y12.toNatClampNeg v4_9))), (h0, .inr (5, [.ref h1, .int f0, .ref h2, .int f1, .int g0_9, .ref h3, .ref h4, .ref h5, .ref h6, .int f3, .ref h7, .ref h8, .ref h9, .int f4, .ref h10, .ref h11, .ref h12, .ref h13, .ref h14, .ref h15, .ref h16, .ref h17, .ref h18, .ref h19, .ref h20, .ref h21, .ref h22])), (h2, .inl (zI g, 60, .inl Z1))] H := hP
                      have hD : va_D A [(h3, .inl (zI g, 5, .inl (upd G1_0 y12.toNatClampNeg v4_9))), (h0, .inr (5, [.ref h1, .int f0, .ref h2, .int f1, .int g0_9, .ref h3, .ref h4, .ref h5, .ref h6, .int f3, .ref h7, .ref h8, .ref h9, .int f4, .ref h10, .ref h11, .ref h12, .ref h13, .ref h14, .ref h15, .ref h16, .ref h17, .ref h18, .ref h19, .ref h20, .ref h21, .ref h22])), (h2, .inl (zI g, 60, .inl Z1))] := hD
                      have hI29 : zRQ Z1 f1.toInt w7.toInt v1_0.toInt (upd G1_0 y12.toNatClampNeg v4_9) := zRL_put (r := y12) (v := v4_9) hI11 c1n c2n hzr hv (by omega)
                      obtain ⟨R30, eR30⟩ : ∃ z : Nat → Int32, z = (upd G1_0 y12.toNatClampNeg v4_9) := ⟨_, rfl⟩
                      rw [← eR30] at hP hD hI29
                      have qR30 : (R30 y12.toNatClampNeg).toInt = v4_9.toInt := z_put eR30 (rfl)
                      obtain ⟨y31, ey31⟩ : ∃ z : Int32, z = v1_0 + 1 := ⟨_, rfl⟩
                      have qy31 : y31.toInt = v1_0.toInt + 1 := zi_add ey31 (rfl) rfl (by omega) (by omega)
                      refine lv_iinc (v := y31) (lv' := [(1, .int y31), (0, .ref h0), (2, .int y12), (3, .int w17), (4, .int v4_9)]) hx hb dX5_lawFault_205 hl (k := 1) rfl ey31.symm (by decide) rfl (fun ls hl => ?_)
                      have hc5 := zCt_le R30
                      have hcn := hI29.1
                      have hI32 : zRH Z1 f1.toInt g0_9.toInt (v1_0.toInt + 1) R30 := zRH_of hI29 he (by omega)
                      refine lv_goto (tgt := 27) hx hb dX5_lawFault_208 (by decide) ?_
                      have hP := hP.sub (ws' := [(h0, .inr (5, [.ref h1, .int f0, .ref h2, .int f1, .int g0_9, .ref h3, .ref h4, .ref h5, .ref h6, .int f3, .ref h7, .ref h8, .ref h9, .int f4, .ref h10, .ref h11, .ref h12, .ref h13, .ref h14, .ref h15, .ref h16, .ref h17, .ref h18, .ref h19, .ref h20, .ref h21, .ref h22])), (h2, .inl (zI g, 60, .inl Z1)), (h3, .inl (zI g, 5, .inl R30))]) [1, 2, 0] rfl
                      have hD := hD.sub (ws' := [(h0, .inr (5, [.ref h1, .int f0, .ref h2, .int f1, .int g0_9, .ref h3, .ref h4, .ref h5, .ref h6, .int f3, .ref h7, .ref h8, .ref h9, .int f4, .ref h10, .ref h11, .ref h12, .ref h13, .ref h14, .ref h15, .ref h16, .ref h17, .ref h18, .ref h19, .ref h20, .ref h21, .ref h22])), (h2, .inl (zI g, 60, .inl Z1)), (h3, .inl (zI g, 5, .inl R30))]) [1, 2, 0] (by decide) rfl
                      exact ih1 y31 g0_9 R30 (by omega) (by omega) (zRH_eq hI32 (by omega) (by omega)) (by omega) (by omega) (by omega) _ _ hP hD hS ls (lv_sub hl [1, 0] rfl)
                  · have i_10 : g0_9.toInt < f1.toInt := z_nle (rfl) (rfl) c_10
                    refine lv_aload_n hx hb dX5_lawFault_115 rfl (lv_at hl 0 rfl) ?_
                    refine va_get (D := g.1) (ci := 5) (v := .ref h2) (C := RX5) (T := TX5) (N := 27) hx hb hts zl_X5 hown hK hP 1 rfl rfl 2 (by decide) (hts _ m_f_RX5_13) (fun _ h => h) rfl dX5_lawFault_116 ?_
                    refine lv_aload_n hx hb dX5_lawFault_119 rfl (lv_at hl 0 rfl) ?_
                    refine va_get (D := g.1) (ci := 5) (v := .int g0_9) (C := RX5) (T := TX5) (N := 27) hx hb hts zl_X5 hown hK hP 1 rfl rfl 4 (by decide) (hts _ m_f_RX5_118) (fun _ h => h) rfl dX5_lawFault_120 ?_
                    refine va_iald (D := g.1) hx hb hK hP 2 0 rfl rfl (vp_in_iff.mpr ⟨by omega, by omega⟩) dX5_lawFault_123 ?_
                    refine lv_topi (fun y33 ey33 => ?_)
                    have qy33_0 : y33.toInt = (Z1 g0_9.toNatClampNeg).toInt := congrArg Int32.toInt ey33
                    have py33_0 : y33.toInt = zc Z1 g0_9.toInt := congrArg Int32.toInt ey33
                    refine lv_i2l (v := y33.toInt64) hx hb dX5_lawFault_124 rfl ?_
                    refine lv_ldc2 (v := 48) hx hb hown (hts _ m_k_RX5_128) dX5_lawFault_125 ?_
                    refine lv_ldc2 (v := 57) hx hb hown (hts _ m_k_RX5_130) dX5_lawFault_128 ?_
                    refine z_calli (wr := [(h3, .inl (zI g, 5, .inl G1_0)), (h0, .inr (5, [.ref h1, .int f0, .ref h2, .int f1, .int g0_9, .ref h3, .ref h4, .ref h5, .ref h6, .int f3, .ref h7, .ref h8, .ref h9, .int f4, .ref h10, .ref h11, .ref h12, .ref h13, .ref h14, .ref h15, .ref h16, .ref h17, .ref h18, .ref h19, .ref h20, .ref h21, .ref h22])), (h2, .inl (zI g, 60, .inl Z1))]) hP hD hS hA [] [0, 1, 2] (by decide) rfl rfl (by decide) (va_runS (As := [.long y33.toInt64, .long 48, .long 57]) (rest := []) ⟨hx, hb, hml, hown, hts⟩ (gX5_in l g  H.size y33.toInt64 (48 : Int64) (57 : Int64)) ⟨callB_of 3 hts (zGood m_o_yX5_in) rfl rfl rfl (hts _ m_z_RX5) (hts _ m_m_RX5_77) ⟨by decide +kernel, by decide +kernel, by decide +kernel⟩ ⟨Nat.le_of_ble_eq_true rfl, Nat.le_of_ble_eq_true rfl⟩, hts _ m_s_yX5_in⟩ (zPreS hK hN hZ hP hD hS hA [] (by decide) rfl rfl) rfl rfl hl.1 rfl (lv_room (Nat.le_of_ble_eq_true rfl)) dX5_lawFault_131 ⟨Nat.le_of_ble_eq_true rfl, Nat.le_of_ble_eq_true rfl⟩) (fun r u H locs hw hP hD hS => ?_)
                    rcases hw with ⟨i_16, rfl⟩ | ⟨i_17, i_18, rfl⟩ | ⟨i_19, i_20, rfl⟩
                    · skip
                      have i_16 : y33.toInt < 48 := by (try simp only [Int32.toInt_toInt64] at i_16); exact i_16
                      have hP : va_P g.1 vwCl [(h3, .inl (zI g, 5, .inl G1_0)), (h0, .inr (5, [.ref h1, .int f0, .ref h2, .int f1, .int g0_9, .ref h3, .ref h4, .ref h5, .ref h6, .int f3, .ref h7, .ref h8, .ref h9, .int f4, .ref h10, .ref h11, .ref h12, .ref h13, .ref h14, .ref h15, .ref h16, .ref h17, .ref h18, .ref h19, .ref h20, .ref h21, .ref h22])), (h2, .inl (zI g, 60, .inl Z1))] H := hP
                      have hD : va_D A [(h3, .inl (zI g, 5, .inl G1_0)), (h0, .inr (5, [.ref h1, .int f0, .ref h2, .int f1, .int g0_9, .ref h3, .ref h4, .ref h5, .ref h6, .int f3, .ref h7, .ref h8, .ref h9, .int f4, .ref h10, .ref h11, .ref h12, .ref h13, .ref h14, .ref h15, .ref h16, .ref h17, .ref h18, .ref h19, .ref h20, .ref h21, .ref h22])), (h2, .inl (zI g, 60, .inl Z1))] := hD
                      refine lv_if_eq (tgt := 176) hx hb dX5_lawFault_134 (by decide) (fun _ => ?_) (fun h => absurd h (by decide +kernel))
                      have hend : zdg Z1 f1.toInt g0_9.toInt = g0_9.toInt := by first | exact zdg_end (by omega) | exact zdg_stop (by omega) (by omega)
                      have hfe : zdg Z1 f1.toInt w17.toInt = g0_9.toInt := by omega
                      have he : g0_9.toInt = ze Z1 f1.toInt w7.toInt := by
                        show g0_9.toInt = zdg Z1 f1.toInt (zq Z1 f1.toInt w7.toInt)
                        rw [← hq]
                        exact hfe.symm
                      have hv : v4_9.toInt = zv Z1 f1.toInt w7.toInt := by
                        show v4_9.toInt = zNu Z1 (ze Z1 f1.toInt w7.toInt) (zq Z1 f1.toInt w7.toInt) 0
                        rw [← he, ← hq]
                        have h2 := zNu_end (F := Z1) (b := g0_9.toInt) (a := g0_9.toInt) (v := v4_9.toInt) (by omega)
                        have h3 : zNu Z1 (zdg Z1 f1.toInt w17.toInt) g0_9.toInt v4_9.toInt = zNu Z1 (zdg Z1 f1.toInt w17.toInt) w17.toInt 0 := by omega
                        rw [hfe, h2] at h3
                        exact h3
                      refine lv_iload hx hb dX5_lawFault_176 (lv_at hl 4 rfl) ?_
                      refine lv_i2l (v := v4_9.toInt64) hx hb dX5_lawFault_178 rfl ?_
                      refine lv_iload_n hx hb dX5_lawFault_179 rfl (lv_at hl 2 rfl) ?_
                      refine z_calli (wr := [(h3, .inl (zI g, 5, .inl G1_0)), (h0, .inr (5, [.ref h1, .int f0, .ref h2, .int f1, .int g0_9, .ref h3, .ref h4, .ref h5, .ref h6, .int f3, .ref h7, .ref h8, .ref h9, .int f4, .ref h10, .ref h11, .ref h12, .ref h13, .ref h14, .ref h15, .ref h16, .ref h17, .ref h18, .ref h19, .ref h20, .ref h21, .ref h22])), (h2, .inl (zI g, 60, .inl Z1))]) hP hD hS hA [] [0, 1, 2] (by decide) rfl rfl (by decide) (va_runS (As := [.int y12]) (rest := [.long v4_9.toInt64]) ⟨hx, hb, hml, hown, hts⟩ (gX5_leastOf l g  H.size y12) ⟨callB_of 1 hts (zGood m_o_yX5_leastOf) rfl rfl rfl (hts _ m_z_RX5) (hts _ m_m_RX5_83) ⟨by decide +kernel, by decide +kernel, by decide +kernel⟩ ⟨Nat.le_of_ble_eq_true rfl, Nat.le_of_ble_eq_true rfl⟩, hts _ m_s_yX5_leastOf⟩ (zPreS hK hN hZ hP hD hS hA [] (by decide) rfl rfl) rfl rfl hl.1 rfl (lv_room (Nat.le_of_ble_eq_true rfl)) dX5_lawFault_180 ⟨Nat.le_of_ble_eq_true rfl, Nat.le_of_ble_eq_true rfl⟩) (fun r u H locs hw hP hD hS => ?_)
                      obtain ⟨y34, rfl⟩ : ∃ z, z = r := ⟨_, rfl⟩
                      obtain ⟨q35_0, q35_1, q35_2⟩ := hw
                      have q35_0 : y34.toInt = zlo y12.toInt := q35_0
                      have q35_1 : 0 ≤ y34.toInt := q35_1
                      have q35_2 : y34.toInt ≤ 1 := q35_2
                      have hP : va_P g.1 vwCl [(h3, .inl (zI g, 5, .inl G1_0)), (h0, .inr (5, [.ref h1, .int f0, .ref h2, .int f1, .int g0_9, .ref h3, .ref h4, .ref h5, .ref h6, .int f3, .ref h7, .ref h8, .ref h9, .int f4, .ref h10, .ref h11, .ref h12, .ref h13, .ref h14, .ref h15, .ref h16, .ref h17, .ref h18, .ref h19, .ref h20, .ref h21, .ref h22])), (h2, .inl (zI g, 60, .inl Z1))] H := hP
                      have hD : va_D A [(h3, .inl (zI g, 5, .inl G1_0)), (h0, .inr (5, [.ref h1, .int f0, .ref h2, .int f1, .int g0_9, .ref h3, .ref h4, .ref h5, .ref h6, .int f3, .ref h7, .ref h8, .ref h9, .int f4, .ref h10, .ref h11, .ref h12, .ref h13, .ref h14, .ref h15, .ref h16, .ref h17, .ref h18, .ref h19, .ref h20, .ref h21, .ref h22])), (h2, .inl (zI g, 60, .inl Z1))] := hD
                      refine lv_i2l (v := y34.toInt64) hx hb dX5_lawFault_183 rfl ?_
                      refine lv_iload_n hx hb dX5_lawFault_184 rfl (lv_at hl 2 rfl) ?_
                      refine z_calli (wr := [(h3, .inl (zI g, 5, .inl G1_0)), (h0, .inr (5, [.ref h1, .int f0, .ref h2, .int f1, .int g0_9, .ref h3, .ref h4, .ref h5, .ref h6, .int f3, .ref h7, .ref h8, .ref h9, .int f4, .ref h10, .ref h11, .ref h12, .ref h13, .ref h14, .ref h15, .ref h16, .ref h17, .ref h18, .ref h19, .ref h20, .ref h21, .ref h22])), (h2, .inl (zI g, 60, .inl Z1))]) hP hD hS hA [] [0, 1, 2] (by decide) rfl rfl (by decide) (va_runS (As := [.int y12]) (rest := [.long y34.toInt64, .long v4_9.toInt64]) ⟨hx, hb, hml, hown, hts⟩ (gX5_mostOf l g  H.size y12) ⟨callB_of 1 hts (zGood m_o_yX5_mostOf) rfl rfl rfl (hts _ m_z_RX5) (hts _ m_m_RX5_87) ⟨by decide +kernel, by decide +kernel, by decide +kernel⟩ ⟨Nat.le_of_ble_eq_true rfl, Nat.le_of_ble_eq_true rfl⟩, hts _ m_s_yX5_mostOf⟩ (zPreS hK hN hZ hP hD hS hA [] (by decide) rfl rfl) rfl rfl hl.1 rfl (lv_room (Nat.le_of_ble_eq_true rfl)) dX5_lawFault_185 ⟨Nat.le_of_ble_eq_true rfl, Nat.le_of_ble_eq_true rfl⟩) (fun r u H locs hw hP hD hS => ?_)
                      obtain ⟨y36, rfl⟩ : ∃ z, z = r := ⟨_, rfl⟩
                      obtain ⟨q37_0, q37_1, q37_2⟩ := hw
                      have q37_0 : y36.toInt = zhi y12.toInt := q37_0
                      have q37_1 : y36.toInt ≤ 99 := q37_1
                      have q37_2 : 1 ≤ y36.toInt := q37_2
                      have hP : va_P g.1 vwCl [(h3, .inl (zI g, 5, .inl G1_0)), (h0, .inr (5, [.ref h1, .int f0, .ref h2, .int f1, .int g0_9, .ref h3, .ref h4, .ref h5, .ref h6, .int f3, .ref h7, .ref h8, .ref h9, .int f4, .ref h10, .ref h11, .ref h12, .ref h13, .ref h14, .ref h15, .ref h16, .ref h17, .ref h18, .ref h19, .ref h20, .ref h21, .ref h22])), (h2, .inl (zI g, 60, .inl Z1))] H := hP
                      have hD : va_D A [(h3, .inl (zI g, 5, .inl G1_0)), (h0, .inr (5, [.ref h1, .int f0, .ref h2, .int f1, .int g0_9, .ref h3, .ref h4, .ref h5, .ref h6, .int f3, .ref h7, .ref h8, .ref h9, .int f4, .ref h10, .ref h11, .ref h12, .ref h13, .ref h14, .ref h15, .ref h16, .ref h17, .ref h18, .ref h19, .ref h20, .ref h21, .ref h22])), (h2, .inl (zI g, 60, .inl Z1))] := hD
                      refine lv_i2l (v := y36.toInt64) hx hb dX5_lawFault_188 rfl ?_
                      refine z_calli (wr := [(h3, .inl (zI g, 5, .inl G1_0)), (h0, .inr (5, [.ref h1, .int f0, .ref h2, .int f1, .int g0_9, .ref h3, .ref h4, .ref h5, .ref h6, .int f3, .ref h7, .ref h8, .ref h9, .int f4, .ref h10, .ref h11, .ref h12, .ref h13, .ref h14, .ref h15, .ref h16, .ref h17, .ref h18, .ref h19, .ref h20, .ref h21, .ref h22])), (h2, .inl (zI g, 60, .inl Z1))]) hP hD hS hA [] [0, 1, 2] (by decide) rfl rfl (by decide) (va_runS (As := [.long v4_9.toInt64, .long y34.toInt64, .long y36.toInt64]) (rest := []) ⟨hx, hb, hml, hown, hts⟩ (gX5_in l g  H.size v4_9.toInt64 y34.toInt64 y36.toInt64) ⟨callB_of 3 hts (zGood m_o_yX5_in) rfl rfl rfl (hts _ m_z_RX5) (hts _ m_m_RX5_77) ⟨by decide +kernel, by decide +kernel, by decide +kernel⟩ ⟨Nat.le_of_ble_eq_true rfl, Nat.le_of_ble_eq_true rfl⟩, hts _ m_s_yX5_in⟩ (zPreS hK hN hZ hP hD hS hA [] (by decide) rfl rfl) rfl rfl hl.1 rfl (lv_room (Nat.le_of_ble_eq_true rfl)) dX5_lawFault_189 ⟨Nat.le_of_ble_eq_true rfl, Nat.le_of_ble_eq_true rfl⟩) (fun r u H locs hw hP hD hS => ?_)
                      rcases hw with ⟨i_21, rfl⟩ | ⟨i_22, i_23, rfl⟩ | ⟨i_24, i_25, rfl⟩
                      · skip
                        have i_21 : v4_9.toInt < y34.toInt := by simpa only [Int32.toInt_toInt64] using i_21
                        have hP : va_P g.1 vwCl [(h3, .inl (zI g, 5, .inl G1_0)), (h0, .inr (5, [.ref h1, .int f0, .ref h2, .int f1, .int g0_9, .ref h3, .ref h4, .ref h5, .ref h6, .int f3, .ref h7, .ref h8, .ref h9, .int f4, .ref h10, .ref h11, .ref h12, .ref h13, .ref h14, .ref h15, .ref h16, .ref h17, .ref h18, .ref h19, .ref h20, .ref h21, .ref h22])), (h2, .inl (zI g, 60, .inl Z1))] H := hP
                        have hD : va_D A [(h3, .inl (zI g, 5, .inl G1_0)), (h0, .inr (5, [.ref h1, .int f0, .ref h2, .int f1, .int g0_9, .ref h3, .ref h4, .ref h5, .ref h6, .int f3, .ref h7, .ref h8, .ref h9, .int f4, .ref h10, .ref h11, .ref h12, .ref h13, .ref h14, .ref h15, .ref h16, .ref h17, .ref h18, .ref h19, .ref h20, .ref h21, .ref h22])), (h2, .inl (zI g, 60, .inl Z1))] := hD
                        refine lv_if_ne (tgt := 197) hx hb dX5_lawFault_192 (by decide) (fun h => absurd h (by decide +kernel)) (fun _ => ?_)
                        have c2 : (ze Z1 f1.toInt w7.toInt = zq Z1 f1.toInt w7.toInt ∨ ¬ zft (zr Z1 f1.toInt w7.toInt) (zv Z1 f1.toInt w7.toInt)) := Or.inr (fun h => by
                          rw [← hzr, ← hv] at h
                          have h1 := h.1
                          have h2 := h.2
                          omega)
                        have hzb := zRL_bad2 hI11 c1n c2
                        have hI38 : zTold Z1 f1.toInt G1_0 := zTold_neg (by omega)
                        refine lv_iload_n hx hb dX5_lawFault_195 rfl (lv_at hl 3 rfl) ?_
                        have hP9 := hP.sub (ws' := [(h0, .inr (5, [.ref h1, .int f0, .ref h2, .int f1, .int g0_9, .ref h3, .ref h4, .ref h5, .ref h6, .int f3, .ref h7, .ref h8, .ref h9, .int f4, .ref h10, .ref h11, .ref h12, .ref h13, .ref h14, .ref h15, .ref h16, .ref h17, .ref h18, .ref h19, .ref h20, .ref h21, .ref h22])), (h2, .inl (zI g, 60, .inl Z1)), (h3, .inl (zI g, 5, .inl G1_0))]) [1, 2, 0] rfl
                        have hD9 := hD.sub (ws' := [(h0, .inr (5, [.ref h1, .int f0, .ref h2, .int f1, .int g0_9, .ref h3, .ref h4, .ref h5, .ref h6, .int f3, .ref h7, .ref h8, .ref h9, .int f4, .ref h10, .ref h11, .ref h12, .ref h13, .ref h14, .ref h15, .ref h16, .ref h17, .ref h18, .ref h19, .ref h20, .ref h21, .ref h22])), (h2, .inl (zI g, 60, .inl Z1)), (h3, .inl (zI g, 5, .inl G1_0))]) [1, 2, 0] (by decide) rfl
                        exact W.iret (v := w17) hx hb hr (fun t ht hW => ⟨⟨w17, ⟨g0_9, G1_0⟩, rfl, ⟨⟨(by first | omega | decide), (by first | omega | decide), (by first | omega | decide), (by first | omega | decide)⟩, ⟨show 0 ≤ g0_9.toInt from by omega, show g0_9.toInt ≤ 60 from by omega⟩, hI38⟩, by rw [ht]; exact hP9, hD9⟩, hS.F ht⟩) hS.2.2 dX5_lawFault_196
                      · skip
                        have i_22 : y34.toInt ≤ v4_9.toInt := by simpa only [Int32.toInt_toInt64] using i_22
                        have i_23 : y36.toInt < v4_9.toInt := by simpa only [Int32.toInt_toInt64] using i_23
                        have hP : va_P g.1 vwCl [(h3, .inl (zI g, 5, .inl G1_0)), (h0, .inr (5, [.ref h1, .int f0, .ref h2, .int f1, .int g0_9, .ref h3, .ref h4, .ref h5, .ref h6, .int f3, .ref h7, .ref h8, .ref h9, .int f4, .ref h10, .ref h11, .ref h12, .ref h13, .ref h14, .ref h15, .ref h16, .ref h17, .ref h18, .ref h19, .ref h20, .ref h21, .ref h22])), (h2, .inl (zI g, 60, .inl Z1))] H := hP
                        have hD : va_D A [(h3, .inl (zI g, 5, .inl G1_0)), (h0, .inr (5, [.ref h1, .int f0, .ref h2, .int f1, .int g0_9, .ref h3, .ref h4, .ref h5, .ref h6, .int f3, .ref h7, .ref h8, .ref h9, .int f4, .ref h10, .ref h11, .ref h12, .ref h13, .ref h14, .ref h15, .ref h16, .ref h17, .ref h18, .ref h19, .ref h20, .ref h21, .ref h22])), (h2, .inl (zI g, 60, .inl Z1))] := hD
                        refine lv_if_ne (tgt := 197) hx hb dX5_lawFault_192 (by decide) (fun h => absurd h (by decide +kernel)) (fun _ => ?_)
                        have c2 : (ze Z1 f1.toInt w7.toInt = zq Z1 f1.toInt w7.toInt ∨ ¬ zft (zr Z1 f1.toInt w7.toInt) (zv Z1 f1.toInt w7.toInt)) := Or.inr (fun h => by
                          rw [← hzr, ← hv] at h
                          have h1 := h.1
                          have h2 := h.2
                          omega)
                        have hzb := zRL_bad2 hI11 c1n c2
                        have hI39 : zTold Z1 f1.toInt G1_0 := zTold_neg (by omega)
                        refine lv_iload_n hx hb dX5_lawFault_195 rfl (lv_at hl 3 rfl) ?_
                        have hP9 := hP.sub (ws' := [(h0, .inr (5, [.ref h1, .int f0, .ref h2, .int f1, .int g0_9, .ref h3, .ref h4, .ref h5, .ref h6, .int f3, .ref h7, .ref h8, .ref h9, .int f4, .ref h10, .ref h11, .ref h12, .ref h13, .ref h14, .ref h15, .ref h16, .ref h17, .ref h18, .ref h19, .ref h20, .ref h21, .ref h22])), (h2, .inl (zI g, 60, .inl Z1)), (h3, .inl (zI g, 5, .inl G1_0))]) [1, 2, 0] rfl
                        have hD9 := hD.sub (ws' := [(h0, .inr (5, [.ref h1, .int f0, .ref h2, .int f1, .int g0_9, .ref h3, .ref h4, .ref h5, .ref h6, .int f3, .ref h7, .ref h8, .ref h9, .int f4, .ref h10, .ref h11, .ref h12, .ref h13, .ref h14, .ref h15, .ref h16, .ref h17, .ref h18, .ref h19, .ref h20, .ref h21, .ref h22])), (h2, .inl (zI g, 60, .inl Z1)), (h3, .inl (zI g, 5, .inl G1_0))]) [1, 2, 0] (by decide) rfl
                        exact W.iret (v := w17) hx hb hr (fun t ht hW => ⟨⟨w17, ⟨g0_9, G1_0⟩, rfl, ⟨⟨(by first | omega | decide), (by first | omega | decide), (by first | omega | decide), (by first | omega | decide)⟩, ⟨show 0 ≤ g0_9.toInt from by omega, show g0_9.toInt ≤ 60 from by omega⟩, hI39⟩, by rw [ht]; exact hP9, hD9⟩, hS.F ht⟩) hS.2.2 dX5_lawFault_196
                      · skip
                        have i_24 : y34.toInt ≤ v4_9.toInt := by simpa only [Int32.toInt_toInt64] using i_24
                        have i_25 : v4_9.toInt ≤ y36.toInt := by simpa only [Int32.toInt_toInt64] using i_25
                        have hP : va_P g.1 vwCl [(h3, .inl (zI g, 5, .inl G1_0)), (h0, .inr (5, [.ref h1, .int f0, .ref h2, .int f1, .int g0_9, .ref h3, .ref h4, .ref h5, .ref h6, .int f3, .ref h7, .ref h8, .ref h9, .int f4, .ref h10, .ref h11, .ref h12, .ref h13, .ref h14, .ref h15, .ref h16, .ref h17, .ref h18, .ref h19, .ref h20, .ref h21, .ref h22])), (h2, .inl (zI g, 60, .inl Z1))] H := hP
                        have hD : va_D A [(h3, .inl (zI g, 5, .inl G1_0)), (h0, .inr (5, [.ref h1, .int f0, .ref h2, .int f1, .int g0_9, .ref h3, .ref h4, .ref h5, .ref h6, .int f3, .ref h7, .ref h8, .ref h9, .int f4, .ref h10, .ref h11, .ref h12, .ref h13, .ref h14, .ref h15, .ref h16, .ref h17, .ref h18, .ref h19, .ref h20, .ref h21, .ref h22])), (h2, .inl (zI g, 60, .inl Z1))] := hD
                        refine lv_if_ne (tgt := 197) hx hb dX5_lawFault_192 (by decide) (fun _ => ?_) (fun h => absurd h (by decide +kernel))
                        have c2n : ¬ (ze Z1 f1.toInt w7.toInt = zq Z1 f1.toInt w7.toInt ∨ ¬ zft (zr Z1 f1.toInt w7.toInt) (zv Z1 f1.toInt w7.toInt)) := fun h => h.elim (fun h => by omega) (fun h => h (by rw [← hzr, ← hv]; exact ⟨by omega, by omega⟩))
                        refine lv_aload_n hx hb dX5_lawFault_197 rfl (lv_at hl 0 rfl) ?_
                        refine va_get (D := g.1) (ci := 5) (v := .ref h3) (C := RX5) (T := TX5) (N := 27) hx hb hts zl_X5 hown hK hP 1 rfl rfl 5 (by decide) (hts _ m_f_RX5_16) (fun _ h => h) rfl dX5_lawFault_198 ?_
                        refine lv_iload_n hx hb dX5_lawFault_201 rfl (lv_at hl 2 rfl) ?_
                        refine lv_iload hx hb dX5_lawFault_202 (lv_at hl 4 rfl) ?_
                        refine va_iast (D := g.1) hx hb hK hP hD hS 0 0 rfl rfl (vp_in_iff.mpr ⟨by omega, by omega⟩) dX5_lawFault_204 (fun H locs hP hD hS => ?_)
                        have hP : va_P g.1 vwCl [(h3, .inl (zI g, 5, .inl (upd G1_0 y12.toNatClampNeg v4_9))), (h0, .inr (5, [.ref h1, .int f0, .ref h2, .int f1, .int g0_9, .ref h3, .ref h4, .ref h5, .ref h6, .int f3, .ref h7, .ref h8, .ref h9, .int f4, .ref h10, .ref h11, .ref h12, .ref h13, .ref h14, .ref h15, .ref h16, .ref h17, .ref h18, .ref h19, .ref h20, .ref h21, .ref h22])), (h2, .inl (zI g, 60, .inl Z1))] H := hP
                        have hD : va_D A [(h3, .inl (zI g, 5, .inl (upd G1_0 y12.toNatClampNeg v4_9))), (h0, .inr (5, [.ref h1, .int f0, .ref h2, .int f1, .int g0_9, .ref h3, .ref h4, .ref h5, .ref h6, .int f3, .ref h7, .ref h8, .ref h9, .int f4, .ref h10, .ref h11, .ref h12, .ref h13, .ref h14, .ref h15, .ref h16, .ref h17, .ref h18, .ref h19, .ref h20, .ref h21, .ref h22])), (h2, .inl (zI g, 60, .inl Z1))] := hD
                        have hI40 : zRQ Z1 f1.toInt w7.toInt v1_0.toInt (upd G1_0 y12.toNatClampNeg v4_9) := zRL_put (r := y12) (v := v4_9) hI11 c1n c2n hzr hv (by omega)
                        obtain ⟨R41, eR41⟩ : ∃ z : Nat → Int32, z = (upd G1_0 y12.toNatClampNeg v4_9) := ⟨_, rfl⟩
                        rw [← eR41] at hP hD hI40
                        have qR41 : (R41 y12.toNatClampNeg).toInt = v4_9.toInt := z_put eR41 (rfl)
                        obtain ⟨y42, ey42⟩ : ∃ z : Int32, z = v1_0 + 1 := ⟨_, rfl⟩
                        have qy42 : y42.toInt = v1_0.toInt + 1 := zi_add ey42 (rfl) rfl (by omega) (by omega)
                        refine lv_iinc (v := y42) (lv' := [(1, .int y42), (0, .ref h0), (2, .int y12), (3, .int w17), (4, .int v4_9)]) hx hb dX5_lawFault_205 hl (k := 1) rfl ey42.symm (by decide) rfl (fun ls hl => ?_)
                        have hc5 := zCt_le R41
                        have hcn := hI40.1
                        have hI43 : zRH Z1 f1.toInt g0_9.toInt (v1_0.toInt + 1) R41 := zRH_of hI40 he (by omega)
                        refine lv_goto (tgt := 27) hx hb dX5_lawFault_208 (by decide) ?_
                        have hP := hP.sub (ws' := [(h0, .inr (5, [.ref h1, .int f0, .ref h2, .int f1, .int g0_9, .ref h3, .ref h4, .ref h5, .ref h6, .int f3, .ref h7, .ref h8, .ref h9, .int f4, .ref h10, .ref h11, .ref h12, .ref h13, .ref h14, .ref h15, .ref h16, .ref h17, .ref h18, .ref h19, .ref h20, .ref h21, .ref h22])), (h2, .inl (zI g, 60, .inl Z1)), (h3, .inl (zI g, 5, .inl R41))]) [1, 2, 0] rfl
                        have hD := hD.sub (ws' := [(h0, .inr (5, [.ref h1, .int f0, .ref h2, .int f1, .int g0_9, .ref h3, .ref h4, .ref h5, .ref h6, .int f3, .ref h7, .ref h8, .ref h9, .int f4, .ref h10, .ref h11, .ref h12, .ref h13, .ref h14, .ref h15, .ref h16, .ref h17, .ref h18, .ref h19, .ref h20, .ref h21, .ref h22])), (h2, .inl (zI g, 60, .inl Z1)), (h3, .inl (zI g, 5, .inl R41))]) [1, 2, 0] (by decide) rfl
                        exact ih1 y42 g0_9 R41 (by omega) (by omega) (zRH_eq hI43 (by omega) (by omega)) (by omega) (by omega) (by omega) _ _ hP hD hS ls (lv_sub hl [1, 0] rfl)
                    · skip
                      have i_17 : 48 ≤ y33.toInt := by (try simp only [Int32.toInt_toInt64] at i_17); exact i_17
                      have i_18 : 57 < y33.toInt := by (try simp only [Int32.toInt_toInt64] at i_18); exact i_18
                      have hP : va_P g.1 vwCl [(h3, .inl (zI g, 5, .inl G1_0)), (h0, .inr (5, [.ref h1, .int f0, .ref h2, .int f1, .int g0_9, .ref h3, .ref h4, .ref h5, .ref h6, .int f3, .ref h7, .ref h8, .ref h9, .int f4, .ref h10, .ref h11, .ref h12, .ref h13, .ref h14, .ref h15, .ref h16, .ref h17, .ref h18, .ref h19, .ref h20, .ref h21, .ref h22])), (h2, .inl (zI g, 60, .inl Z1))] H := hP
                      have hD : va_D A [(h3, .inl (zI g, 5, .inl G1_0)), (h0, .inr (5, [.ref h1, .int f0, .ref h2, .int f1, .int g0_9, .ref h3, .ref h4, .ref h5, .ref h6, .int f3, .ref h7, .ref h8, .ref h9, .int f4, .ref h10, .ref h11, .ref h12, .ref h13, .ref h14, .ref h15, .ref h16, .ref h17, .ref h18, .ref h19, .ref h20, .ref h21, .ref h22])), (h2, .inl (zI g, 60, .inl Z1))] := hD
                      refine lv_if_eq (tgt := 176) hx hb dX5_lawFault_134 (by decide) (fun _ => ?_) (fun h => absurd h (by decide +kernel))
                      have hend : zdg Z1 f1.toInt g0_9.toInt = g0_9.toInt := by first | exact zdg_end (by omega) | exact zdg_stop (by omega) (by omega)
                      have hfe : zdg Z1 f1.toInt w17.toInt = g0_9.toInt := by omega
                      have he : g0_9.toInt = ze Z1 f1.toInt w7.toInt := by
                        show g0_9.toInt = zdg Z1 f1.toInt (zq Z1 f1.toInt w7.toInt)
                        rw [← hq]
                        exact hfe.symm
                      have hv : v4_9.toInt = zv Z1 f1.toInt w7.toInt := by
                        show v4_9.toInt = zNu Z1 (ze Z1 f1.toInt w7.toInt) (zq Z1 f1.toInt w7.toInt) 0
                        rw [← he, ← hq]
                        have h2 := zNu_end (F := Z1) (b := g0_9.toInt) (a := g0_9.toInt) (v := v4_9.toInt) (by omega)
                        have h3 : zNu Z1 (zdg Z1 f1.toInt w17.toInt) g0_9.toInt v4_9.toInt = zNu Z1 (zdg Z1 f1.toInt w17.toInt) w17.toInt 0 := by omega
                        rw [hfe, h2] at h3
                        exact h3
                      refine lv_iload hx hb dX5_lawFault_176 (lv_at hl 4 rfl) ?_
                      refine lv_i2l (v := v4_9.toInt64) hx hb dX5_lawFault_178 rfl ?_
                      refine lv_iload_n hx hb dX5_lawFault_179 rfl (lv_at hl 2 rfl) ?_
                      refine z_calli (wr := [(h3, .inl (zI g, 5, .inl G1_0)), (h0, .inr (5, [.ref h1, .int f0, .ref h2, .int f1, .int g0_9, .ref h3, .ref h4, .ref h5, .ref h6, .int f3, .ref h7, .ref h8, .ref h9, .int f4, .ref h10, .ref h11, .ref h12, .ref h13, .ref h14, .ref h15, .ref h16, .ref h17, .ref h18, .ref h19, .ref h20, .ref h21, .ref h22])), (h2, .inl (zI g, 60, .inl Z1))]) hP hD hS hA [] [0, 1, 2] (by decide) rfl rfl (by decide) (va_runS (As := [.int y12]) (rest := [.long v4_9.toInt64]) ⟨hx, hb, hml, hown, hts⟩ (gX5_leastOf l g  H.size y12) ⟨callB_of 1 hts (zGood m_o_yX5_leastOf) rfl rfl rfl (hts _ m_z_RX5) (hts _ m_m_RX5_83) ⟨by decide +kernel, by decide +kernel, by decide +kernel⟩ ⟨Nat.le_of_ble_eq_true rfl, Nat.le_of_ble_eq_true rfl⟩, hts _ m_s_yX5_leastOf⟩ (zPreS hK hN hZ hP hD hS hA [] (by decide) rfl rfl) rfl rfl hl.1 rfl (lv_room (Nat.le_of_ble_eq_true rfl)) dX5_lawFault_180 ⟨Nat.le_of_ble_eq_true rfl, Nat.le_of_ble_eq_true rfl⟩) (fun r u H locs hw hP hD hS => ?_)
                      obtain ⟨y44, rfl⟩ : ∃ z, z = r := ⟨_, rfl⟩
                      obtain ⟨q45_0, q45_1, q45_2⟩ := hw
                      have q45_0 : y44.toInt = zlo y12.toInt := q45_0
                      have q45_1 : 0 ≤ y44.toInt := q45_1
                      have q45_2 : y44.toInt ≤ 1 := q45_2
                      have hP : va_P g.1 vwCl [(h3, .inl (zI g, 5, .inl G1_0)), (h0, .inr (5, [.ref h1, .int f0, .ref h2, .int f1, .int g0_9, .ref h3, .ref h4, .ref h5, .ref h6, .int f3, .ref h7, .ref h8, .ref h9, .int f4, .ref h10, .ref h11, .ref h12, .ref h13, .ref h14, .ref h15, .ref h16, .ref h17, .ref h18, .ref h19, .ref h20, .ref h21, .ref h22])), (h2, .inl (zI g, 60, .inl Z1))] H := hP
                      have hD : va_D A [(h3, .inl (zI g, 5, .inl G1_0)), (h0, .inr (5, [.ref h1, .int f0, .ref h2, .int f1, .int g0_9, .ref h3, .ref h4, .ref h5, .ref h6, .int f3, .ref h7, .ref h8, .ref h9, .int f4, .ref h10, .ref h11, .ref h12, .ref h13, .ref h14, .ref h15, .ref h16, .ref h17, .ref h18, .ref h19, .ref h20, .ref h21, .ref h22])), (h2, .inl (zI g, 60, .inl Z1))] := hD
                      refine lv_i2l (v := y44.toInt64) hx hb dX5_lawFault_183 rfl ?_
                      refine lv_iload_n hx hb dX5_lawFault_184 rfl (lv_at hl 2 rfl) ?_
                      refine z_calli (wr := [(h3, .inl (zI g, 5, .inl G1_0)), (h0, .inr (5, [.ref h1, .int f0, .ref h2, .int f1, .int g0_9, .ref h3, .ref h4, .ref h5, .ref h6, .int f3, .ref h7, .ref h8, .ref h9, .int f4, .ref h10, .ref h11, .ref h12, .ref h13, .ref h14, .ref h15, .ref h16, .ref h17, .ref h18, .ref h19, .ref h20, .ref h21, .ref h22])), (h2, .inl (zI g, 60, .inl Z1))]) hP hD hS hA [] [0, 1, 2] (by decide) rfl rfl (by decide) (va_runS (As := [.int y12]) (rest := [.long y44.toInt64, .long v4_9.toInt64]) ⟨hx, hb, hml, hown, hts⟩ (gX5_mostOf l g  H.size y12) ⟨callB_of 1 hts (zGood m_o_yX5_mostOf) rfl rfl rfl (hts _ m_z_RX5) (hts _ m_m_RX5_87) ⟨by decide +kernel, by decide +kernel, by decide +kernel⟩ ⟨Nat.le_of_ble_eq_true rfl, Nat.le_of_ble_eq_true rfl⟩, hts _ m_s_yX5_mostOf⟩ (zPreS hK hN hZ hP hD hS hA [] (by decide) rfl rfl) rfl rfl hl.1 rfl (lv_room (Nat.le_of_ble_eq_true rfl)) dX5_lawFault_185 ⟨Nat.le_of_ble_eq_true rfl, Nat.le_of_ble_eq_true rfl⟩) (fun r u H locs hw hP hD hS => ?_)
                      obtain ⟨y46, rfl⟩ : ∃ z, z = r := ⟨_, rfl⟩
                      obtain ⟨q47_0, q47_1, q47_2⟩ := hw
                      have q47_0 : y46.toInt = zhi y12.toInt := q47_0
                      have q47_1 : y46.toInt ≤ 99 := q47_1
                      have q47_2 : 1 ≤ y46.toInt := q47_2
                      have hP : va_P g.1 vwCl [(h3, .inl (zI g, 5, .inl G1_0)), (h0, .inr (5, [.ref h1, .int f0, .ref h2, .int f1, .int g0_9, .ref h3, .ref h4, .ref h5, .ref h6, .int f3, .ref h7, .ref h8, .ref h9, .int f4, .ref h10, .ref h11, .ref h12, .ref h13, .ref h14, .ref h15, .ref h16, .ref h17, .ref h18, .ref h19, .ref h20, .ref h21, .ref h22])), (h2, .inl (zI g, 60, .inl Z1))] H := hP
                      have hD : va_D A [(h3, .inl (zI g, 5, .inl G1_0)), (h0, .inr (5, [.ref h1, .int f0, .ref h2, .int f1, .int g0_9, .ref h3, .ref h4, .ref h5, .ref h6, .int f3, .ref h7, .ref h8, .ref h9, .int f4, .ref h10, .ref h11, .ref h12, .ref h13, .ref h14, .ref h15, .ref h16, .ref h17, .ref h18, .ref h19, .ref h20, .ref h21, .ref h22])), (h2, .inl (zI g, 60, .inl Z1))] := hD
                      refine lv_i2l (v := y46.toInt64) hx hb dX5_lawFault_188 rfl ?_
                      refine z_calli (wr := [(h3, .inl (zI g, 5, .inl G1_0)), (h0, .inr (5, [.ref h1, .int f0, .ref h2, .int f1, .int g0_9, .ref h3, .ref h4, .ref h5, .ref h6, .int f3, .ref h7, .ref h8, .ref h9, .int f4, .ref h10, .ref h11, .ref h12, .ref h13, .ref h14, .ref h15, .ref h16, .ref h17, .ref h18, .ref h19, .ref h20, .ref h21, .ref h22])), (h2, .inl (zI g, 60, .inl Z1))]) hP hD hS hA [] [0, 1, 2] (by decide) rfl rfl (by decide) (va_runS (As := [.long v4_9.toInt64, .long y44.toInt64, .long y46.toInt64]) (rest := []) ⟨hx, hb, hml, hown, hts⟩ (gX5_in l g  H.size v4_9.toInt64 y44.toInt64 y46.toInt64) ⟨callB_of 3 hts (zGood m_o_yX5_in) rfl rfl rfl (hts _ m_z_RX5) (hts _ m_m_RX5_77) ⟨by decide +kernel, by decide +kernel, by decide +kernel⟩ ⟨Nat.le_of_ble_eq_true rfl, Nat.le_of_ble_eq_true rfl⟩, hts _ m_s_yX5_in⟩ (zPreS hK hN hZ hP hD hS hA [] (by decide) rfl rfl) rfl rfl hl.1 rfl (lv_room (Nat.le_of_ble_eq_true rfl)) dX5_lawFault_189 ⟨Nat.le_of_ble_eq_true rfl, Nat.le_of_ble_eq_true rfl⟩) (fun r u H locs hw hP hD hS => ?_)
                      rcases hw with ⟨i_26, rfl⟩ | ⟨i_27, i_28, rfl⟩ | ⟨i_29, i_30, rfl⟩
                      · skip
                        have i_26 : v4_9.toInt < y44.toInt := by simpa only [Int32.toInt_toInt64] using i_26
                        have hP : va_P g.1 vwCl [(h3, .inl (zI g, 5, .inl G1_0)), (h0, .inr (5, [.ref h1, .int f0, .ref h2, .int f1, .int g0_9, .ref h3, .ref h4, .ref h5, .ref h6, .int f3, .ref h7, .ref h8, .ref h9, .int f4, .ref h10, .ref h11, .ref h12, .ref h13, .ref h14, .ref h15, .ref h16, .ref h17, .ref h18, .ref h19, .ref h20, .ref h21, .ref h22])), (h2, .inl (zI g, 60, .inl Z1))] H := hP
                        have hD : va_D A [(h3, .inl (zI g, 5, .inl G1_0)), (h0, .inr (5, [.ref h1, .int f0, .ref h2, .int f1, .int g0_9, .ref h3, .ref h4, .ref h5, .ref h6, .int f3, .ref h7, .ref h8, .ref h9, .int f4, .ref h10, .ref h11, .ref h12, .ref h13, .ref h14, .ref h15, .ref h16, .ref h17, .ref h18, .ref h19, .ref h20, .ref h21, .ref h22])), (h2, .inl (zI g, 60, .inl Z1))] := hD
                        refine lv_if_ne (tgt := 197) hx hb dX5_lawFault_192 (by decide) (fun h => absurd h (by decide +kernel)) (fun _ => ?_)
                        have c2 : (ze Z1 f1.toInt w7.toInt = zq Z1 f1.toInt w7.toInt ∨ ¬ zft (zr Z1 f1.toInt w7.toInt) (zv Z1 f1.toInt w7.toInt)) := Or.inr (fun h => by
                          rw [← hzr, ← hv] at h
                          have h1 := h.1
                          have h2 := h.2
                          omega)
                        have hzb := zRL_bad2 hI11 c1n c2
                        have hI48 : zTold Z1 f1.toInt G1_0 := zTold_neg (by omega)
                        refine lv_iload_n hx hb dX5_lawFault_195 rfl (lv_at hl 3 rfl) ?_
                        have hP9 := hP.sub (ws' := [(h0, .inr (5, [.ref h1, .int f0, .ref h2, .int f1, .int g0_9, .ref h3, .ref h4, .ref h5, .ref h6, .int f3, .ref h7, .ref h8, .ref h9, .int f4, .ref h10, .ref h11, .ref h12, .ref h13, .ref h14, .ref h15, .ref h16, .ref h17, .ref h18, .ref h19, .ref h20, .ref h21, .ref h22])), (h2, .inl (zI g, 60, .inl Z1)), (h3, .inl (zI g, 5, .inl G1_0))]) [1, 2, 0] rfl
                        have hD9 := hD.sub (ws' := [(h0, .inr (5, [.ref h1, .int f0, .ref h2, .int f1, .int g0_9, .ref h3, .ref h4, .ref h5, .ref h6, .int f3, .ref h7, .ref h8, .ref h9, .int f4, .ref h10, .ref h11, .ref h12, .ref h13, .ref h14, .ref h15, .ref h16, .ref h17, .ref h18, .ref h19, .ref h20, .ref h21, .ref h22])), (h2, .inl (zI g, 60, .inl Z1)), (h3, .inl (zI g, 5, .inl G1_0))]) [1, 2, 0] (by decide) rfl
                        exact W.iret (v := w17) hx hb hr (fun t ht hW => ⟨⟨w17, ⟨g0_9, G1_0⟩, rfl, ⟨⟨(by first | omega | decide), (by first | omega | decide), (by first | omega | decide), (by first | omega | decide)⟩, ⟨show 0 ≤ g0_9.toInt from by omega, show g0_9.toInt ≤ 60 from by omega⟩, hI48⟩, by rw [ht]; exact hP9, hD9⟩, hS.F ht⟩) hS.2.2 dX5_lawFault_196
                      · skip
                        have i_27 : y44.toInt ≤ v4_9.toInt := by simpa only [Int32.toInt_toInt64] using i_27
                        have i_28 : y46.toInt < v4_9.toInt := by simpa only [Int32.toInt_toInt64] using i_28
                        have hP : va_P g.1 vwCl [(h3, .inl (zI g, 5, .inl G1_0)), (h0, .inr (5, [.ref h1, .int f0, .ref h2, .int f1, .int g0_9, .ref h3, .ref h4, .ref h5, .ref h6, .int f3, .ref h7, .ref h8, .ref h9, .int f4, .ref h10, .ref h11, .ref h12, .ref h13, .ref h14, .ref h15, .ref h16, .ref h17, .ref h18, .ref h19, .ref h20, .ref h21, .ref h22])), (h2, .inl (zI g, 60, .inl Z1))] H := hP
                        have hD : va_D A [(h3, .inl (zI g, 5, .inl G1_0)), (h0, .inr (5, [.ref h1, .int f0, .ref h2, .int f1, .int g0_9, .ref h3, .ref h4, .ref h5, .ref h6, .int f3, .ref h7, .ref h8, .ref h9, .int f4, .ref h10, .ref h11, .ref h12, .ref h13, .ref h14, .ref h15, .ref h16, .ref h17, .ref h18, .ref h19, .ref h20, .ref h21, .ref h22])), (h2, .inl (zI g, 60, .inl Z1))] := hD
                        refine lv_if_ne (tgt := 197) hx hb dX5_lawFault_192 (by decide) (fun h => absurd h (by decide +kernel)) (fun _ => ?_)
                        have c2 : (ze Z1 f1.toInt w7.toInt = zq Z1 f1.toInt w7.toInt ∨ ¬ zft (zr Z1 f1.toInt w7.toInt) (zv Z1 f1.toInt w7.toInt)) := Or.inr (fun h => by
                          rw [← hzr, ← hv] at h
                          have h1 := h.1
                          have h2 := h.2
                          omega)
                        have hzb := zRL_bad2 hI11 c1n c2
                        have hI49 : zTold Z1 f1.toInt G1_0 := zTold_neg (by omega)
                        refine lv_iload_n hx hb dX5_lawFault_195 rfl (lv_at hl 3 rfl) ?_
                        have hP9 := hP.sub (ws' := [(h0, .inr (5, [.ref h1, .int f0, .ref h2, .int f1, .int g0_9, .ref h3, .ref h4, .ref h5, .ref h6, .int f3, .ref h7, .ref h8, .ref h9, .int f4, .ref h10, .ref h11, .ref h12, .ref h13, .ref h14, .ref h15, .ref h16, .ref h17, .ref h18, .ref h19, .ref h20, .ref h21, .ref h22])), (h2, .inl (zI g, 60, .inl Z1)), (h3, .inl (zI g, 5, .inl G1_0))]) [1, 2, 0] rfl
                        have hD9 := hD.sub (ws' := [(h0, .inr (5, [.ref h1, .int f0, .ref h2, .int f1, .int g0_9, .ref h3, .ref h4, .ref h5, .ref h6, .int f3, .ref h7, .ref h8, .ref h9, .int f4, .ref h10, .ref h11, .ref h12, .ref h13, .ref h14, .ref h15, .ref h16, .ref h17, .ref h18, .ref h19, .ref h20, .ref h21, .ref h22])), (h2, .inl (zI g, 60, .inl Z1)), (h3, .inl (zI g, 5, .inl G1_0))]) [1, 2, 0] (by decide) rfl
                        exact W.iret (v := w17) hx hb hr (fun t ht hW => ⟨⟨w17, ⟨g0_9, G1_0⟩, rfl, ⟨⟨(by first | omega | decide), (by first | omega | decide), (by first | omega | decide), (by first | omega | decide)⟩, ⟨show 0 ≤ g0_9.toInt from by omega, show g0_9.toInt ≤ 60 from by omega⟩, hI49⟩, by rw [ht]; exact hP9, hD9⟩, hS.F ht⟩) hS.2.2 dX5_lawFault_196
                      · skip
                        have i_29 : y44.toInt ≤ v4_9.toInt := by simpa only [Int32.toInt_toInt64] using i_29
                        have i_30 : v4_9.toInt ≤ y46.toInt := by simpa only [Int32.toInt_toInt64] using i_30
                        have hP : va_P g.1 vwCl [(h3, .inl (zI g, 5, .inl G1_0)), (h0, .inr (5, [.ref h1, .int f0, .ref h2, .int f1, .int g0_9, .ref h3, .ref h4, .ref h5, .ref h6, .int f3, .ref h7, .ref h8, .ref h9, .int f4, .ref h10, .ref h11, .ref h12, .ref h13, .ref h14, .ref h15, .ref h16, .ref h17, .ref h18, .ref h19, .ref h20, .ref h21, .ref h22])), (h2, .inl (zI g, 60, .inl Z1))] H := hP
                        have hD : va_D A [(h3, .inl (zI g, 5, .inl G1_0)), (h0, .inr (5, [.ref h1, .int f0, .ref h2, .int f1, .int g0_9, .ref h3, .ref h4, .ref h5, .ref h6, .int f3, .ref h7, .ref h8, .ref h9, .int f4, .ref h10, .ref h11, .ref h12, .ref h13, .ref h14, .ref h15, .ref h16, .ref h17, .ref h18, .ref h19, .ref h20, .ref h21, .ref h22])), (h2, .inl (zI g, 60, .inl Z1))] := hD
                        refine lv_if_ne (tgt := 197) hx hb dX5_lawFault_192 (by decide) (fun _ => ?_) (fun h => absurd h (by decide +kernel))
                        have c2n : ¬ (ze Z1 f1.toInt w7.toInt = zq Z1 f1.toInt w7.toInt ∨ ¬ zft (zr Z1 f1.toInt w7.toInt) (zv Z1 f1.toInt w7.toInt)) := fun h => h.elim (fun h => by omega) (fun h => h (by rw [← hzr, ← hv]; exact ⟨by omega, by omega⟩))
                        refine lv_aload_n hx hb dX5_lawFault_197 rfl (lv_at hl 0 rfl) ?_
                        refine va_get (D := g.1) (ci := 5) (v := .ref h3) (C := RX5) (T := TX5) (N := 27) hx hb hts zl_X5 hown hK hP 1 rfl rfl 5 (by decide) (hts _ m_f_RX5_16) (fun _ h => h) rfl dX5_lawFault_198 ?_
                        refine lv_iload_n hx hb dX5_lawFault_201 rfl (lv_at hl 2 rfl) ?_
                        refine lv_iload hx hb dX5_lawFault_202 (lv_at hl 4 rfl) ?_
                        refine va_iast (D := g.1) hx hb hK hP hD hS 0 0 rfl rfl (vp_in_iff.mpr ⟨by omega, by omega⟩) dX5_lawFault_204 (fun H locs hP hD hS => ?_)
                        have hP : va_P g.1 vwCl [(h3, .inl (zI g, 5, .inl (upd G1_0 y12.toNatClampNeg v4_9))), (h0, .inr (5, [.ref h1, .int f0, .ref h2, .int f1, .int g0_9, .ref h3, .ref h4, .ref h5, .ref h6, .int f3, .ref h7, .ref h8, .ref h9, .int f4, .ref h10, .ref h11, .ref h12, .ref h13, .ref h14, .ref h15, .ref h16, .ref h17, .ref h18, .ref h19, .ref h20, .ref h21, .ref h22])), (h2, .inl (zI g, 60, .inl Z1))] H := hP
                        have hD : va_D A [(h3, .inl (zI g, 5, .inl (upd G1_0 y12.toNatClampNeg v4_9))), (h0, .inr (5, [.ref h1, .int f0, .ref h2, .int f1, .int g0_9, .ref h3, .ref h4, .ref h5, .ref h6, .int f3, .ref h7, .ref h8, .ref h9, .int f4, .ref h10, .ref h11, .ref h12, .ref h13, .ref h14, .ref h15, .ref h16, .ref h17, .ref h18, .ref h19, .ref h20, .ref h21, .ref h22])), (h2, .inl (zI g, 60, .inl Z1))] := hD
                        have hI50 : zRQ Z1 f1.toInt w7.toInt v1_0.toInt (upd G1_0 y12.toNatClampNeg v4_9) := zRL_put (r := y12) (v := v4_9) hI11 c1n c2n hzr hv (by omega)
                        obtain ⟨R51, eR51⟩ : ∃ z : Nat → Int32, z = (upd G1_0 y12.toNatClampNeg v4_9) := ⟨_, rfl⟩
                        rw [← eR51] at hP hD hI50
                        have qR51 : (R51 y12.toNatClampNeg).toInt = v4_9.toInt := z_put eR51 (rfl)
                        obtain ⟨y52, ey52⟩ : ∃ z : Int32, z = v1_0 + 1 := ⟨_, rfl⟩
                        have qy52 : y52.toInt = v1_0.toInt + 1 := zi_add ey52 (rfl) rfl (by omega) (by omega)
                        refine lv_iinc (v := y52) (lv' := [(1, .int y52), (0, .ref h0), (2, .int y12), (3, .int w17), (4, .int v4_9)]) hx hb dX5_lawFault_205 hl (k := 1) rfl ey52.symm (by decide) rfl (fun ls hl => ?_)
                        have hc5 := zCt_le R51
                        have hcn := hI50.1
                        have hI53 : zRH Z1 f1.toInt g0_9.toInt (v1_0.toInt + 1) R51 := zRH_of hI50 he (by omega)
                        refine lv_goto (tgt := 27) hx hb dX5_lawFault_208 (by decide) ?_
                        have hP := hP.sub (ws' := [(h0, .inr (5, [.ref h1, .int f0, .ref h2, .int f1, .int g0_9, .ref h3, .ref h4, .ref h5, .ref h6, .int f3, .ref h7, .ref h8, .ref h9, .int f4, .ref h10, .ref h11, .ref h12, .ref h13, .ref h14, .ref h15, .ref h16, .ref h17, .ref h18, .ref h19, .ref h20, .ref h21, .ref h22])), (h2, .inl (zI g, 60, .inl Z1)), (h3, .inl (zI g, 5, .inl R51))]) [1, 2, 0] rfl
                        have hD := hD.sub (ws' := [(h0, .inr (5, [.ref h1, .int f0, .ref h2, .int f1, .int g0_9, .ref h3, .ref h4, .ref h5, .ref h6, .int f3, .ref h7, .ref h8, .ref h9, .int f4, .ref h10, .ref h11, .ref h12, .ref h13, .ref h14, .ref h15, .ref h16, .ref h17, .ref h18, .ref h19, .ref h20, .ref h21, .ref h22])), (h2, .inl (zI g, 60, .inl Z1)), (h3, .inl (zI g, 5, .inl R51))]) [1, 2, 0] (by decide) rfl
                        exact ih1 y52 g0_9 R51 (by omega) (by omega) (zRH_eq hI53 (by omega) (by omega)) (by omega) (by omega) (by omega) _ _ hP hD hS ls (lv_sub hl [1, 0] rfl)
                    · skip
                      have i_19 : 48 ≤ y33.toInt := by (try simp only [Int32.toInt_toInt64] at i_19); exact i_19
                      have i_20 : y33.toInt ≤ 57 := by (try simp only [Int32.toInt_toInt64] at i_20); exact i_20
                      have hP : va_P g.1 vwCl [(h3, .inl (zI g, 5, .inl G1_0)), (h0, .inr (5, [.ref h1, .int f0, .ref h2, .int f1, .int g0_9, .ref h3, .ref h4, .ref h5, .ref h6, .int f3, .ref h7, .ref h8, .ref h9, .int f4, .ref h10, .ref h11, .ref h12, .ref h13, .ref h14, .ref h15, .ref h16, .ref h17, .ref h18, .ref h19, .ref h20, .ref h21, .ref h22])), (h2, .inl (zI g, 60, .inl Z1))] H := hP
                      have hD : va_D A [(h3, .inl (zI g, 5, .inl G1_0)), (h0, .inr (5, [.ref h1, .int f0, .ref h2, .int f1, .int g0_9, .ref h3, .ref h4, .ref h5, .ref h6, .int f3, .ref h7, .ref h8, .ref h9, .int f4, .ref h10, .ref h11, .ref h12, .ref h13, .ref h14, .ref h15, .ref h16, .ref h17, .ref h18, .ref h19, .ref h20, .ref h21, .ref h22])), (h2, .inl (zI g, 60, .inl Z1))] := hD
                      refine lv_if_eq (tgt := 176) hx hb dX5_lawFault_134 (by decide) (fun h => absurd h (by decide +kernel)) (fun _ => ?_)
                      have hdg := zdg_dig (F := Z1) (len := f1.toInt) (a := g0_9.toInt) (by omega) ⟨by omega, by omega⟩
                      have hr9 := zdg_r (F := Z1) (len := f1.toInt) (a := g0_9.toInt + 1) (by omega)
                      refine lv_bipush (v := 10) hx hb dX5_lawFault_137 (by decide) ?_
                      refine lv_iload hx hb dX5_lawFault_139 (lv_at hl 4 rfl) ?_
                      refine lv_imul hx hb dX5_lawFault_141 ?_
                      refine lv_topi (fun y54 ey54 => ?_)
                      have qy54_0 : y54.toInt = 10 * v4_9.toInt := zi_mul ey54 (rfl) (rfl) (by omega) (by omega)
                      refine lv_aload_n hx hb dX5_lawFault_142 rfl (lv_at hl 0 rfl) ?_
                      refine va_get (D := g.1) (ci := 5) (v := .ref h2) (C := RX5) (T := TX5) (N := 27) hx hb hts zl_X5 hown hK hP 1 rfl rfl 2 (by decide) (hts _ m_f_RX5_13) (fun _ h => h) rfl dX5_lawFault_143 ?_
                      refine lv_aload_n hx hb dX5_lawFault_146 rfl (lv_at hl 0 rfl) ?_
                      refine va_get (D := g.1) (ci := 5) (v := .int g0_9) (C := RX5) (T := TX5) (N := 27) hx hb hts zl_X5 hown hK hP 1 rfl rfl 4 (by decide) (hts _ m_f_RX5_118) (fun _ h => h) rfl dX5_lawFault_147 ?_
                      refine va_iald (D := g.1) hx hb hK hP 2 0 rfl rfl (vp_in_iff.mpr ⟨by omega, by omega⟩) dX5_lawFault_150 ?_
                      refine lv_topi (fun y55 ey55 => ?_)
                      have qy55_0 : y55.toInt = (Z1 g0_9.toNatClampNeg).toInt := congrArg Int32.toInt ey55
                      have py55_0 : y55.toInt = zc Z1 g0_9.toInt := congrArg Int32.toInt ey55
                      have py55_1 : 48 ≤ y55.toInt := by omega
                      have py55_2 : y55.toInt ≤ 57 := by omega
                      refine lv_iadd hx hb dX5_lawFault_151 ?_
                      refine lv_topi (fun y56 ey56 => ?_)
                      have qy56_0 : y56.toInt = y54.toInt + y55.toInt := zi_add ey56 (rfl) (rfl) (by omega) (by omega)
                      refine lv_bipush (v := 48) hx hb dX5_lawFault_152 (by decide) ?_
                      refine lv_isub hx hb dX5_lawFault_154 ?_
                      refine lv_topi (fun y57 ey57 => ?_)
                      have qy57_0 : y57.toInt = y56.toInt - 48 := zi_sub ey57 (rfl) (rfl) (by omega) (by omega)
                      refine lv_sipush (v := 1000) hx hb dX5_lawFault_155 (by decide) ?_
                      refine z_calli (wr := [(h3, .inl (zI g, 5, .inl G1_0)), (h0, .inr (5, [.ref h1, .int f0, .ref h2, .int f1, .int g0_9, .ref h3, .ref h4, .ref h5, .ref h6, .int f3, .ref h7, .ref h8, .ref h9, .int f4, .ref h10, .ref h11, .ref h12, .ref h13, .ref h14, .ref h15, .ref h16, .ref h17, .ref h18, .ref h19, .ref h20, .ref h21, .ref h22])), (h2, .inl (zI g, 60, .inl Z1))]) hP hD hS hA [] [0, 1, 2] (by decide) rfl rfl (by decide) (va_runS (As := [.int y57, .int 1000]) (rest := []) ⟨hx, hb, hml, hown, hts⟩ (gX5_lesser l g  H.size y57 (1000 : Int32)) ⟨callB_of 2 hts (zGood m_o_yX5_lesser) rfl rfl rfl (hts _ m_z_RX5) (hts _ m_m_RX5_132) ⟨by decide +kernel, by decide +kernel, by decide +kernel⟩ ⟨Nat.le_of_ble_eq_true rfl, Nat.le_of_ble_eq_true rfl⟩, hts _ m_s_yX5_lesser⟩ (zPreS hK hN hZ hP hD hS hA [] (by decide) rfl rfl) rfl rfl hl.1 rfl (lv_room (Nat.le_of_ble_eq_true rfl)) dX5_lawFault_158 ⟨Nat.le_of_ble_eq_true rfl, Nat.le_of_ble_eq_true rfl⟩) (fun r u H locs hw hP hD hS => ?_)
                      obtain ⟨y58, rfl⟩ : ∃ z, z = r := ⟨_, rfl⟩
                      obtain ⟨q59_0, q59_1, q59_2⟩ := hw
                      have q59_0 : y58.toInt ≤ y57.toInt := q59_0
                      have q59_1 : y58.toInt ≤ 1000 := q59_1
                      have q59_2 : (y58.toInt = y57.toInt ∨ y58.toInt = (1000 : Int)) := q59_2
                      have q60_0 : 0 ≤ y58.toInt := by omega
                      have q60_1 : y58.toInt ≤ 1000 := by omega
                      have hP : va_P g.1 vwCl [(h3, .inl (zI g, 5, .inl G1_0)), (h0, .inr (5, [.ref h1, .int f0, .ref h2, .int f1, .int g0_9, .ref h3, .ref h4, .ref h5, .ref h6, .int f3, .ref h7, .ref h8, .ref h9, .int f4, .ref h10, .ref h11, .ref h12, .ref h13, .ref h14, .ref h15, .ref h16, .ref h17, .ref h18, .ref h19, .ref h20, .ref h21, .ref h22])), (h2, .inl (zI g, 60, .inl Z1))] H := hP
                      have hD : va_D A [(h3, .inl (zI g, 5, .inl G1_0)), (h0, .inr (5, [.ref h1, .int f0, .ref h2, .int f1, .int g0_9, .ref h3, .ref h4, .ref h5, .ref h6, .int f3, .ref h7, .ref h8, .ref h9, .int f4, .ref h10, .ref h11, .ref h12, .ref h13, .ref h14, .ref h15, .ref h16, .ref h17, .ref h18, .ref h19, .ref h20, .ref h21, .ref h22])), (h2, .inl (zI g, 60, .inl Z1))] := hD
                      have hv9 : y58.toInt = min 1000 (10 * v4_9.toInt + zc Z1 g0_9.toInt - 48) := by omega
                      refine lv_istore (lv' := [(4, .int y58), (0, .ref h0), (1, .int v1_0), (2, .int y12), (3, .int w17)]) hx hb dX5_lawFault_161 hl (by decide) rfl (fun ls hl => ?_)
                      refine lv_aload_n hx hb dX5_lawFault_163 rfl (lv_at hl 1 rfl) ?_
                      refine lv_dup hx hb dX5_lawFault_164 rfl ?_
                      refine va_get (D := g.1) (ci := 5) (v := .int g0_9) (C := RX5) (T := TX5) (N := 27) hx hb hts zl_X5 hown hK hP 1 rfl rfl 4 (by decide) (hts _ m_f_RX5_118) (fun _ h => h) rfl dX5_lawFault_165 ?_
                      refine lv_iconst (v := 1) hx hb dX5_lawFault_168 (by decide) ?_
                      refine lv_iadd hx hb dX5_lawFault_169 ?_
                      refine lv_topi (fun y61 ey61 => ?_)
                      have qy61_0 : y61.toInt = g0_9.toInt + 1 := zi_add ey61 (rfl) (rfl) (by omega) (by omega)
                      refine va_put (D := g.1) (ci := 5) (v := .int y61) (ty := .int) (C := RX5) (T := TX5) (N := 27) hx hb hts zl_X5 tyX5 tyX5_ok nmX5 hown hK hP hD hS 1 rfl rfl 4 (by decide) (hts _ m_f_RX5_118) (fun _ h => h) rfl (by decide +kernel) rfl rfl (Nat.le_of_ble_eq_true rfl) dX5_lawFault_170 (fun H locs hP hD hS => ?_)
                      have hP : va_P g.1 vwCl [(h3, .inl (zI g, 5, .inl G1_0)), (h0, .inr (5, [.ref h1, .int f0, .ref h2, .int f1, .int y61, .ref h3, .ref h4, .ref h5, .ref h6, .int f3, .ref h7, .ref h8, .ref h9, .int f4, .ref h10, .ref h11, .ref h12, .ref h13, .ref h14, .ref h15, .ref h16, .ref h17, .ref h18, .ref h19, .ref h20, .ref h21, .ref h22])), (h2, .inl (zI g, 60, .inl Z1))] H := hP
                      have hD : va_D A [(h3, .inl (zI g, 5, .inl G1_0)), (h0, .inr (5, [.ref h1, .int f0, .ref h2, .int f1, .int y61, .ref h3, .ref h4, .ref h5, .ref h6, .int f3, .ref h7, .ref h8, .ref h9, .int f4, .ref h10, .ref h11, .ref h12, .ref h13, .ref h14, .ref h15, .ref h16, .ref h17, .ref h18, .ref h19, .ref h20, .ref h21, .ref h22])), (h2, .inl (zI g, 60, .inl Z1))] := hD
                      have hz9 : zdg Z1 f1.toInt y61.toInt = zdg Z1 f1.toInt w17.toInt := by
                        rw [(by omega : y61.toInt = g0_9.toInt + 1), ← hdg]
                        omega
                      have hn9 : zNu Z1 (zdg Z1 f1.toInt w17.toInt) y61.toInt y58.toInt = zNu Z1 (zdg Z1 f1.toInt w17.toInt) w17.toInt 0 := by
                        have h1 := zNu_s (F := Z1) (b := zdg Z1 f1.toInt w17.toInt) (a := g0_9.toInt) (v := v4_9.toInt) (by omega)
                        rw [(by omega : y61.toInt = g0_9.toInt + 1), hv9, ← h1]
                        omega
                      refine lv_goto (tgt := 104) hx hb dX5_lawFault_173 (by decide) ?_
                      exact ih10 y58 y61 (by omega) (by omega) (by omega) (by omega) (by omega) (by omega) (by omega) (by omega) _ _ hP hD hS ls (lv_sub hl [1, 2, 3, 4, 0] rfl)
              have : (0 : Int32).toInt = 0 := rfl
              exact loop104_9 ((60 - w17.toInt : Int).toNat + 1) (0 : Int32) w17 (by omega) (by omega) (by omega) (by omega) (by omega) (by omega) (by omega) (by omega) _ _ hP hD hS ls (lv_sub hl [3, 4, 2, 1, 0] rfl)
          · have i_3 : 0 ≤ y15.toInt := z_nlt (rfl) (rfl) c_3
            have c1 : (zr Z1 f1.toInt w7.toInt < 0 ∨ 0 ≤ (G1_0 (zr Z1 f1.toInt w7.toInt).toNat).toInt) := Or.inr (by rw [← z_tn (i := y12) hzr (by omega)]; omega)
            have hzb := zRL_bad1 hI11 c1
            have hI62 : zTold Z1 f1.toInt G1_0 := zTold_neg (by omega)
            refine lv_aload_n hx hb dX5_lawFault_59 rfl (lv_at hl 1 rfl) ?_
            refine va_get (D := g.1) (ci := 5) (v := .int w7) (C := RX5) (T := TX5) (N := 27) hx hb hts zl_X5 hown hK hP 1 rfl rfl 4 (by decide) (hts _ m_f_RX5_118) (fun _ h => h) rfl dX5_lawFault_60 ?_
            have hP9 := hP.sub (ws' := [(h0, .inr (5, [.ref h1, .int f0, .ref h2, .int f1, .int w7, .ref h3, .ref h4, .ref h5, .ref h6, .int f3, .ref h7, .ref h8, .ref h9, .int f4, .ref h10, .ref h11, .ref h12, .ref h13, .ref h14, .ref h15, .ref h16, .ref h17, .ref h18, .ref h19, .ref h20, .ref h21, .ref h22])), (h2, .inl (zI g, 60, .inl Z1)), (h3, .inl (zI g, 5, .inl G1_0))]) [1, 2, 0] rfl
            have hD9 := hD.sub (ws' := [(h0, .inr (5, [.ref h1, .int f0, .ref h2, .int f1, .int w7, .ref h3, .ref h4, .ref h5, .ref h6, .int f3, .ref h7, .ref h8, .ref h9, .int f4, .ref h10, .ref h11, .ref h12, .ref h13, .ref h14, .ref h15, .ref h16, .ref h17, .ref h18, .ref h19, .ref h20, .ref h21, .ref h22])), (h2, .inl (zI g, 60, .inl Z1)), (h3, .inl (zI g, 5, .inl G1_0))]) [1, 2, 0] (by decide) rfl
            exact W.iret (v := w7) hx hb hr (fun t ht hW => ⟨⟨w7, ⟨w7, G1_0⟩, rfl, ⟨⟨(by first | omega | decide), (by first | omega | decide), (by first | omega | decide), (by first | omega | decide)⟩, ⟨show 0 ≤ w7.toInt from by omega, show w7.toInt ≤ 60 from by omega⟩, hI62⟩, by rw [ht]; exact hP9, hD9⟩, hS.F ht⟩) hS.2.2 dX5_lawFault_63
      · have i_1 : v1_0.toInt ≠ 0 := z_ne (rfl) (rfl) c_1
        refine lv_aload_n hx hb dX5_lawFault_31 rfl (lv_at hl 0 rfl) ?_
        refine z_calli (wr := [(h3, .inl (zI g, 5, .inl G1_0))]) hP hD hS hA [0, 1] [2] (by decide) rfl rfl (by decide) (va_runV (As := []) (rest := []) ⟨hx, hb, hml, hown, hts⟩ (gX5_ahead l g h0 h1 h2 h3 h4 h5 h6 h7 h8 h9 h10 h11 h12 h13 h14 h15 h16 h17 h18 h19 h20 h21 h22 H.size f0 f1 g0_0 f3 f4 Z1 (by constructor <;> omega) (by constructor <;> omega) (by constructor <;> omega) (by constructor <;> omega)) ⟨callB_of 0 hts (zGood m_o_yX5_ahead) rfl rfl rfl (hts _ m_z_RX5) (hts _ m_m_RX5_121) ⟨by decide +kernel, by decide +kernel, by decide +kernel⟩ ⟨Nat.le_of_ble_eq_true rfl, Nat.le_of_ble_eq_true rfl⟩, hts _ m_i_yX5_ahead, hts _ m_e_yX5_ahead⟩ (zPreV hK hN hZ hP hD hS hA [0, 1] (by decide) rfl rfl 5 0 rfl rfl) rfl rfl hl.1 rfl (lv_room (Nat.le_of_ble_eq_true rfl)) dX5_lawFault_32 ⟨Nat.le_of_ble_eq_true rfl, Nat.le_of_ble_eq_true rfl⟩) (fun r u H locs hw hP hD hS => ?_)
        obtain ⟨w63, rfl⟩ : ∃ z, z = u := ⟨_, rfl⟩
        obtain ⟨hw, hI64⟩ := hw
        obtain ⟨hI64a, hI64b⟩ := hI64
        obtain ⟨y65, rfl⟩ : ∃ z, z = r := ⟨_, rfl⟩
        obtain ⟨q66_0, q66_1, q66_2, q66_3, q66_4⟩ := hw
        have q66_0 : (y65.toInt = -1 ∨ w63.toInt < f1.toInt) := q66_0
        have q66_1 : g0_0.toInt ≤ w63.toInt := q66_1
        have q66_2 : w63.toInt = zsk Z1 f1.toInt g0_0.toInt := q66_2
        have q66_3 : (w63.toInt < f1.toInt → y65.toInt = zc Z1 w63.toInt) := q66_3
        have q66_4 : (f1.toInt ≤ w63.toInt → y65.toInt = -1) := q66_4
        have hP : va_P g.1 vwCl [(h3, .inl (zI g, 5, .inl G1_0)), (h0, .inr (5, [.ref h1, .int f0, .ref h2, .int f1, .int w63, .ref h3, .ref h4, .ref h5, .ref h6, .int f3, .ref h7, .ref h8, .ref h9, .int f4, .ref h10, .ref h11, .ref h12, .ref h13, .ref h14, .ref h15, .ref h16, .ref h17, .ref h18, .ref h19, .ref h20, .ref h21, .ref h22])), (h2, .inl (zI g, 60, .inl Z1))] H := hP
        have hD : va_D A [(h3, .inl (zI g, 5, .inl G1_0)), (h0, .inr (5, [.ref h1, .int f0, .ref h2, .int f1, .int w63, .ref h3, .ref h4, .ref h5, .ref h6, .int f3, .ref h7, .ref h8, .ref h9, .int f4, .ref h10, .ref h11, .ref h12, .ref h13, .ref h14, .ref h15, .ref h16, .ref h17, .ref h18, .ref h19, .ref h20, .ref h21, .ref h22])), (h2, .inl (zI g, 60, .inl Z1))] := hD
        have hps : w63.toInt < f1.toInt → 0 ≤ zc Z1 w63.toInt := fun h => (zPos_at (by omega) _ (by omega) h).1
        refine lv_if_lt (tgt := 211) hx hb dX5_lawFault_35 (by decide) (fun c_31 => ?_) (fun c_31 => ?_)
        · have i_31 : y65.toInt < 0 := z_lt (rfl) (rfl) c_31
          have hl9 := (hG1_0.2 (by omega)).2.2 (by omega)
          have hl1 := hl9.1
          have hI67 : zTold Z1 f1.toInt G1_0 := fun _ => hl9.2
          refine lv_iconst (v := (-1)) hx hb dX5_lawFault_211 (by decide) ?_
          have : ((-1) : Int32).toInt = (-1) := rfl
          have hP9 := hP.sub (ws' := [(h0, .inr (5, [.ref h1, .int f0, .ref h2, .int f1, .int w63, .ref h3, .ref h4, .ref h5, .ref h6, .int f3, .ref h7, .ref h8, .ref h9, .int f4, .ref h10, .ref h11, .ref h12, .ref h13, .ref h14, .ref h15, .ref h16, .ref h17, .ref h18, .ref h19, .ref h20, .ref h21, .ref h22])), (h2, .inl (zI g, 60, .inl Z1)), (h3, .inl (zI g, 5, .inl G1_0))]) [1, 2, 0] rfl
          have hD9 := hD.sub (ws' := [(h0, .inr (5, [.ref h1, .int f0, .ref h2, .int f1, .int w63, .ref h3, .ref h4, .ref h5, .ref h6, .int f3, .ref h7, .ref h8, .ref h9, .int f4, .ref h10, .ref h11, .ref h12, .ref h13, .ref h14, .ref h15, .ref h16, .ref h17, .ref h18, .ref h19, .ref h20, .ref h21, .ref h22])), (h2, .inl (zI g, 60, .inl Z1)), (h3, .inl (zI g, 5, .inl G1_0))]) [1, 2, 0] (by decide) rfl
          exact W.iret (v := (-1)) hx hb hr (fun t ht hW => ⟨⟨(-1), ⟨w63, G1_0⟩, rfl, ⟨⟨(by first | omega | decide), (by first | omega | decide), (by first | omega | decide), (by first | omega | decide)⟩, ⟨show 0 ≤ w63.toInt from by omega, show w63.toInt ≤ 60 from by omega⟩, hI67⟩, by rw [ht]; exact hP9, hD9⟩, hS.F ht⟩) hS.2.2 dX5_lawFault_212
        · have i_31 : 0 ≤ y65.toInt := z_nlt (rfl) (rfl) c_31
          refine lv_aload_n hx hb dX5_lawFault_38 rfl (lv_at hl 0 rfl) ?_
          refine z_calli (wr := [(h3, .inl (zI g, 5, .inl G1_0))]) hP hD hS hA [1, 2] [0] (by decide) rfl rfl (by decide) (va_runV (As := []) (rest := []) ⟨hx, hb, hml, hown, hts⟩ (gX5_ahead l g h0 h1 h2 h3 h4 h5 h6 h7 h8 h9 h10 h11 h12 h13 h14 h15 h16 h17 h18 h19 h20 h21 h22 H.size f0 f1 w63 f3 f4 Z1 (by constructor <;> omega) (by constructor <;> omega) (by constructor <;> omega) (by constructor <;> omega)) ⟨callB_of 0 hts (zGood m_o_yX5_ahead) rfl rfl rfl (hts _ m_z_RX5) (hts _ m_m_RX5_121) ⟨by decide +kernel, by decide +kernel, by decide +kernel⟩ ⟨Nat.le_of_ble_eq_true rfl, Nat.le_of_ble_eq_true rfl⟩, hts _ m_i_yX5_ahead, hts _ m_e_yX5_ahead⟩ (zPreV hK hN hZ hP hD hS hA [1, 2] (by decide) rfl rfl 5 1 rfl rfl) rfl rfl hl.1 rfl (lv_room (Nat.le_of_ble_eq_true rfl)) dX5_lawFault_39 ⟨Nat.le_of_ble_eq_true rfl, Nat.le_of_ble_eq_true rfl⟩) (fun r u H locs hw hP hD hS => ?_)
          obtain ⟨w68, rfl⟩ : ∃ z, z = u := ⟨_, rfl⟩
          obtain ⟨hw, hI69⟩ := hw
          obtain ⟨hI69a, hI69b⟩ := hI69
          obtain ⟨y70, rfl⟩ : ∃ z, z = r := ⟨_, rfl⟩
          obtain ⟨q71_0, q71_1, q71_2, q71_3, q71_4⟩ := hw
          have q71_0 : (y70.toInt = -1 ∨ w68.toInt < f1.toInt) := q71_0
          have q71_1 : w63.toInt ≤ w68.toInt := q71_1
          have q71_2 : w68.toInt = zsk Z1 f1.toInt w63.toInt := q71_2
          have q71_3 : (w68.toInt < f1.toInt → y70.toInt = zc Z1 w68.toInt) := q71_3
          have q71_4 : (f1.toInt ≤ w68.toInt → y70.toInt = -1) := q71_4
          have hP : va_P g.1 vwCl [(h3, .inl (zI g, 5, .inl G1_0)), (h0, .inr (5, [.ref h1, .int f0, .ref h2, .int f1, .int w68, .ref h3, .ref h4, .ref h5, .ref h6, .int f3, .ref h7, .ref h8, .ref h9, .int f4, .ref h10, .ref h11, .ref h12, .ref h13, .ref h14, .ref h15, .ref h16, .ref h17, .ref h18, .ref h19, .ref h20, .ref h21, .ref h22])), (h2, .inl (zI g, 60, .inl Z1))] H := hP
          have hD : va_D A [(h3, .inl (zI g, 5, .inl G1_0)), (h0, .inr (5, [.ref h1, .int f0, .ref h2, .int f1, .int w68, .ref h3, .ref h4, .ref h5, .ref h6, .int f3, .ref h7, .ref h8, .ref h9, .int f4, .ref h10, .ref h11, .ref h12, .ref h13, .ref h14, .ref h15, .ref h16, .ref h17, .ref h18, .ref h19, .ref h20, .ref h21, .ref h22])), (h2, .inl (zI g, 60, .inl Z1))] := hD
          have hA9 : zsk Z1 f1.toInt g0_0.toInt = w68.toInt := by
            rw [(by omega : w68.toInt = zsk Z1 f1.toInt w63.toInt), (by omega : w63.toInt = zsk Z1 f1.toInt g0_0.toInt), zsk_i]
          have hI72 : zRL Z1 f1.toInt w68.toInt v1_0.toInt G1_0 := zRL_eq ((hG1_0.2 (by omega)).2.1 (by omega)) hA9 rfl
          refine z_calli (wr := [(h3, .inl (zI g, 5, .inl G1_0)), (h0, .inr (5, [.ref h1, .int f0, .ref h2, .int f1, .int w68, .ref h3, .ref h4, .ref h5, .ref h6, .int f3, .ref h7, .ref h8, .ref h9, .int f4, .ref h10, .ref h11, .ref h12, .ref h13, .ref h14, .ref h15, .ref h16, .ref h17, .ref h18, .ref h19, .ref h20, .ref h21, .ref h22])), (h2, .inl (zI g, 60, .inl Z1))]) hP hD hS hA [] [0, 1, 2] (by decide) rfl rfl (by decide) (va_runS (As := [.int y70]) (rest := []) ⟨hx, hb, hml, hown, hts⟩ (gX5_ruleOf l g  H.size y70) ⟨callB_of 1 hts (zGood m_o_yX5_ruleOf) rfl rfl rfl (hts _ m_z_RX5) (hts _ m_m_RX5_125) ⟨by decide +kernel, by decide +kernel, by decide +kernel⟩ ⟨Nat.le_of_ble_eq_true rfl, Nat.le_of_ble_eq_true rfl⟩, hts _ m_s_yX5_ruleOf⟩ (zPreS hK hN hZ hP hD hS hA [] (by decide) rfl rfl) rfl rfl hl.1 rfl (lv_room (Nat.le_of_ble_eq_true rfl)) dX5_lawFault_42 ⟨Nat.le_of_ble_eq_true rfl, Nat.le_of_ble_eq_true rfl⟩) (fun r u H locs hw hP hD hS => ?_)
          obtain ⟨y73, rfl⟩ : ∃ z, z = r := ⟨_, rfl⟩
          obtain ⟨q74_0, q74_1, q74_2⟩ := hw
          have q74_0 : y73.toInt = zrl y70.toInt := q74_0
          have q74_1 : -1 ≤ y73.toInt := q74_1
          have q74_2 : y73.toInt ≤ 4 := q74_2
          have hP : va_P g.1 vwCl [(h3, .inl (zI g, 5, .inl G1_0)), (h0, .inr (5, [.ref h1, .int f0, .ref h2, .int f1, .int w68, .ref h3, .ref h4, .ref h5, .ref h6, .int f3, .ref h7, .ref h8, .ref h9, .int f4, .ref h10, .ref h11, .ref h12, .ref h13, .ref h14, .ref h15, .ref h16, .ref h17, .ref h18, .ref h19, .ref h20, .ref h21, .ref h22])), (h2, .inl (zI g, 60, .inl Z1))] H := hP
          have hD : va_D A [(h3, .inl (zI g, 5, .inl G1_0)), (h0, .inr (5, [.ref h1, .int f0, .ref h2, .int f1, .int w68, .ref h3, .ref h4, .ref h5, .ref h6, .int f3, .ref h7, .ref h8, .ref h9, .int f4, .ref h10, .ref h11, .ref h12, .ref h13, .ref h14, .ref h15, .ref h16, .ref h17, .ref h18, .ref h19, .ref h20, .ref h21, .ref h22])), (h2, .inl (zI g, 60, .inl Z1))] := hD
          have hzr : y73.toInt = zr Z1 f1.toInt w68.toInt := by
            refine (by omega : y73.toInt = zrl y70.toInt).trans ?_
            unfold zr
            by_cases h : w68.toInt < f1.toInt
            · rw [if_pos h, (by omega : y70.toInt = zc Z1 w68.toInt)]
            · rw [if_neg h, (by omega : y70.toInt = -1)]
              decide
          refine lv_istore_n (lv' := [(2, .int y73), (0, .ref h0), (1, .int v1_0)]) hx hb dX5_lawFault_45 rfl hl (by decide) rfl (fun ls hl => ?_)
          refine lv_iload_n hx hb dX5_lawFault_46 rfl (lv_at hl 0 rfl) ?_
          refine lv_if_lt (tgt := 59) hx hb dX5_lawFault_47 (by decide) (fun c_32 => ?_) (fun c_32 => ?_)
          · have i_32 : y73.toInt < 0 := z_lt (rfl) (rfl) c_32
            have c1 : (zr Z1 f1.toInt w68.toInt < 0 ∨ 0 ≤ (G1_0 (zr Z1 f1.toInt w68.toInt).toNat).toInt) := Or.inl (by omega)
            have hzb := zRL_bad1 hI72 c1
            have hI75 : zTold Z1 f1.toInt G1_0 := zTold_neg (by omega)
            refine lv_aload_n hx hb dX5_lawFault_59 rfl (lv_at hl 1 rfl) ?_
            refine va_get (D := g.1) (ci := 5) (v := .int w68) (C := RX5) (T := TX5) (N := 27) hx hb hts zl_X5 hown hK hP 1 rfl rfl 4 (by decide) (hts _ m_f_RX5_118) (fun _ h => h) rfl dX5_lawFault_60 ?_
            have hP9 := hP.sub (ws' := [(h0, .inr (5, [.ref h1, .int f0, .ref h2, .int f1, .int w68, .ref h3, .ref h4, .ref h5, .ref h6, .int f3, .ref h7, .ref h8, .ref h9, .int f4, .ref h10, .ref h11, .ref h12, .ref h13, .ref h14, .ref h15, .ref h16, .ref h17, .ref h18, .ref h19, .ref h20, .ref h21, .ref h22])), (h2, .inl (zI g, 60, .inl Z1)), (h3, .inl (zI g, 5, .inl G1_0))]) [1, 2, 0] rfl
            have hD9 := hD.sub (ws' := [(h0, .inr (5, [.ref h1, .int f0, .ref h2, .int f1, .int w68, .ref h3, .ref h4, .ref h5, .ref h6, .int f3, .ref h7, .ref h8, .ref h9, .int f4, .ref h10, .ref h11, .ref h12, .ref h13, .ref h14, .ref h15, .ref h16, .ref h17, .ref h18, .ref h19, .ref h20, .ref h21, .ref h22])), (h2, .inl (zI g, 60, .inl Z1)), (h3, .inl (zI g, 5, .inl G1_0))]) [1, 2, 0] (by decide) rfl
            exact W.iret (v := w68) hx hb hr (fun t ht hW => ⟨⟨w68, ⟨w68, G1_0⟩, rfl, ⟨⟨(by first | omega | decide), (by first | omega | decide), (by first | omega | decide), (by first | omega | decide)⟩, ⟨show 0 ≤ w68.toInt from by omega, show w68.toInt ≤ 60 from by omega⟩, hI75⟩, by rw [ht]; exact hP9, hD9⟩, hS.F ht⟩) hS.2.2 dX5_lawFault_63
          · have i_32 : 0 ≤ y73.toInt := z_nlt (rfl) (rfl) c_32
            refine lv_aload_n hx hb dX5_lawFault_50 rfl (lv_at hl 1 rfl) ?_
            refine va_get (D := g.1) (ci := 5) (v := .ref h3) (C := RX5) (T := TX5) (N := 27) hx hb hts zl_X5 hown hK hP 1 rfl rfl 5 (by decide) (hts _ m_f_RX5_16) (fun _ h => h) rfl dX5_lawFault_51 ?_
            refine lv_iload_n hx hb dX5_lawFault_54 rfl (lv_at hl 0 rfl) ?_
            refine va_iald (D := g.1) hx hb hK hP 0 0 rfl rfl (vp_in_iff.mpr ⟨by omega, by omega⟩) dX5_lawFault_55 ?_
            refine lv_topi (fun y76 ey76 => ?_)
            have qy76_0 : y76.toInt = (G1_0 y73.toNatClampNeg).toInt := congrArg Int32.toInt ey76
            refine lv_if_lt (tgt := 64) hx hb dX5_lawFault_56 (by decide) (fun c_33 => ?_) (fun c_33 => ?_)
            · have i_33 : y76.toInt < 0 := z_lt (rfl) (rfl) c_33
              have c1n : ¬ (zr Z1 f1.toInt w68.toInt < 0 ∨ 0 ≤ (G1_0 (zr Z1 f1.toInt w68.toInt).toNat).toInt) := by rw [← z_tn (i := y73) hzr (by omega)]; omega
              have hpl : w68.toInt < f1.toInt := zr_lt (fun q => c1n (Or.inl q))
              have hp59 : w68.toInt ≤ 59 := by omega
              have hs := zstep (F := Z1) (len := f1.toInt) (p := w68.toInt) hpl
              refine lv_aload_n hx hb dX5_lawFault_64 rfl (lv_at hl 1 rfl) ?_
              refine lv_dup hx hb dX5_lawFault_65 rfl ?_
              refine va_get (D := g.1) (ci := 5) (v := .int w68) (C := RX5) (T := TX5) (N := 27) hx hb hts zl_X5 hown hK hP 1 rfl rfl 4 (by decide) (hts _ m_f_RX5_118) (fun _ h => h) rfl dX5_lawFault_66 ?_
              refine lv_iconst (v := 1) hx hb dX5_lawFault_69 (by decide) ?_
              refine lv_iadd hx hb dX5_lawFault_70 ?_
              refine lv_topi (fun y77 ey77 => ?_)
              have qy77_0 : y77.toInt = w68.toInt + 1 := zi_add ey77 (rfl) (rfl) (by omega) (by omega)
              refine va_put (D := g.1) (ci := 5) (v := .int y77) (ty := .int) (C := RX5) (T := TX5) (N := 27) hx hb hts zl_X5 tyX5 tyX5_ok nmX5 hown hK hP hD hS 1 rfl rfl 4 (by decide) (hts _ m_f_RX5_118) (fun _ h => h) rfl (by decide +kernel) rfl rfl (Nat.le_of_ble_eq_true rfl) dX5_lawFault_71 (fun H locs hP hD hS => ?_)
              have hP : va_P g.1 vwCl [(h3, .inl (zI g, 5, .inl G1_0)), (h0, .inr (5, [.ref h1, .int f0, .ref h2, .int f1, .int y77, .ref h3, .ref h4, .ref h5, .ref h6, .int f3, .ref h7, .ref h8, .ref h9, .int f4, .ref h10, .ref h11, .ref h12, .ref h13, .ref h14, .ref h15, .ref h16, .ref h17, .ref h18, .ref h19, .ref h20, .ref h21, .ref h22])), (h2, .inl (zI g, 60, .inl Z1))] H := hP
              have hD : va_D A [(h3, .inl (zI g, 5, .inl G1_0)), (h0, .inr (5, [.ref h1, .int f0, .ref h2, .int f1, .int y77, .ref h3, .ref h4, .ref h5, .ref h6, .int f3, .ref h7, .ref h8, .ref h9, .int f4, .ref h10, .ref h11, .ref h12, .ref h13, .ref h14, .ref h15, .ref h16, .ref h17, .ref h18, .ref h19, .ref h20, .ref h21, .ref h22])), (h2, .inl (zI g, 60, .inl Z1))] := hD
              refine lv_aload_n hx hb dX5_lawFault_74 rfl (lv_at hl 1 rfl) ?_
              refine z_calli (wr := [(h3, .inl (zI g, 5, .inl G1_0))]) hP hD hS hA [1, 2] [0] (by decide) rfl rfl (by decide) (va_runV (As := []) (rest := []) ⟨hx, hb, hml, hown, hts⟩ (gX5_ahead l g h0 h1 h2 h3 h4 h5 h6 h7 h8 h9 h10 h11 h12 h13 h14 h15 h16 h17 h18 h19 h20 h21 h22 H.size f0 f1 y77 f3 f4 Z1 (by constructor <;> omega) (by constructor <;> omega) (by constructor <;> omega) (by constructor <;> omega)) ⟨callB_of 0 hts (zGood m_o_yX5_ahead) rfl rfl rfl (hts _ m_z_RX5) (hts _ m_m_RX5_121) ⟨by decide +kernel, by decide +kernel, by decide +kernel⟩ ⟨Nat.le_of_ble_eq_true rfl, Nat.le_of_ble_eq_true rfl⟩, hts _ m_i_yX5_ahead, hts _ m_e_yX5_ahead⟩ (zPreV hK hN hZ hP hD hS hA [1, 2] (by decide) rfl rfl 5 1 rfl rfl) rfl rfl hl.1 rfl (lv_room (Nat.le_of_ble_eq_true rfl)) dX5_lawFault_75 ⟨Nat.le_of_ble_eq_true rfl, Nat.le_of_ble_eq_true rfl⟩) (fun r u H locs hw hP hD hS => ?_)
              obtain ⟨w78, rfl⟩ : ∃ z, z = u := ⟨_, rfl⟩
              obtain ⟨hw, hI79⟩ := hw
              obtain ⟨hI79a, hI79b⟩ := hI79
              obtain ⟨y80, rfl⟩ : ∃ z, z = r := ⟨_, rfl⟩
              obtain ⟨q81_0, q81_1, q81_2, q81_3, q81_4⟩ := hw
              have q81_0 : (y80.toInt = -1 ∨ w78.toInt < f1.toInt) := q81_0
              have q81_1 : y77.toInt ≤ w78.toInt := q81_1
              have q81_2 : w78.toInt = zsk Z1 f1.toInt y77.toInt := q81_2
              have q81_3 : (w78.toInt < f1.toInt → y80.toInt = zc Z1 w78.toInt) := q81_3
              have q81_4 : (f1.toInt ≤ w78.toInt → y80.toInt = -1) := q81_4
              have hP : va_P g.1 vwCl [(h3, .inl (zI g, 5, .inl G1_0)), (h0, .inr (5, [.ref h1, .int f0, .ref h2, .int f1, .int w78, .ref h3, .ref h4, .ref h5, .ref h6, .int f3, .ref h7, .ref h8, .ref h9, .int f4, .ref h10, .ref h11, .ref h12, .ref h13, .ref h14, .ref h15, .ref h16, .ref h17, .ref h18, .ref h19, .ref h20, .ref h21, .ref h22])), (h2, .inl (zI g, 60, .inl Z1))] H := hP
              have hD : va_D A [(h3, .inl (zI g, 5, .inl G1_0)), (h0, .inr (5, [.ref h1, .int f0, .ref h2, .int f1, .int w78, .ref h3, .ref h4, .ref h5, .ref h6, .int f3, .ref h7, .ref h8, .ref h9, .int f4, .ref h10, .ref h11, .ref h12, .ref h13, .ref h14, .ref h15, .ref h16, .ref h17, .ref h18, .ref h19, .ref h20, .ref h21, .ref h22])), (h2, .inl (zI g, 60, .inl Z1))] := hD
              have hq : w78.toInt = zq Z1 f1.toInt w68.toInt := by
                show w78.toInt = zsk Z1 f1.toInt (w68.toInt + 1)
                rw [← (by omega : y77.toInt = w68.toInt + 1)]
                omega
              refine lv_i2l (v := y80.toInt64) hx hb dX5_lawFault_78 rfl ?_
              refine lv_ldc2 (v := 48) hx hb hown (hts _ m_k_RX5_128) dX5_lawFault_79 ?_
              refine lv_ldc2 (v := 57) hx hb hown (hts _ m_k_RX5_130) dX5_lawFault_82 ?_
              refine z_calli (wr := [(h3, .inl (zI g, 5, .inl G1_0)), (h0, .inr (5, [.ref h1, .int f0, .ref h2, .int f1, .int w78, .ref h3, .ref h4, .ref h5, .ref h6, .int f3, .ref h7, .ref h8, .ref h9, .int f4, .ref h10, .ref h11, .ref h12, .ref h13, .ref h14, .ref h15, .ref h16, .ref h17, .ref h18, .ref h19, .ref h20, .ref h21, .ref h22])), (h2, .inl (zI g, 60, .inl Z1))]) hP hD hS hA [] [0, 1, 2] (by decide) rfl rfl (by decide) (va_runS (As := [.long y80.toInt64, .long 48, .long 57]) (rest := []) ⟨hx, hb, hml, hown, hts⟩ (gX5_in l g  H.size y80.toInt64 (48 : Int64) (57 : Int64)) ⟨callB_of 3 hts (zGood m_o_yX5_in) rfl rfl rfl (hts _ m_z_RX5) (hts _ m_m_RX5_77) ⟨by decide +kernel, by decide +kernel, by decide +kernel⟩ ⟨Nat.le_of_ble_eq_true rfl, Nat.le_of_ble_eq_true rfl⟩, hts _ m_s_yX5_in⟩ (zPreS hK hN hZ hP hD hS hA [] (by decide) rfl rfl) rfl rfl hl.1 rfl (lv_room (Nat.le_of_ble_eq_true rfl)) dX5_lawFault_85 ⟨Nat.le_of_ble_eq_true rfl, Nat.le_of_ble_eq_true rfl⟩) (fun r u H locs hw hP hD hS => ?_)
              rcases hw with ⟨i_34, rfl⟩ | ⟨i_35, i_36, rfl⟩ | ⟨i_37, i_38, rfl⟩
              · skip
                have i_34 : y80.toInt < 48 := by (try simp only [Int32.toInt_toInt64] at i_34); exact i_34
                have hP : va_P g.1 vwCl [(h3, .inl (zI g, 5, .inl G1_0)), (h0, .inr (5, [.ref h1, .int f0, .ref h2, .int f1, .int w78, .ref h3, .ref h4, .ref h5, .ref h6, .int f3, .ref h7, .ref h8, .ref h9, .int f4, .ref h10, .ref h11, .ref h12, .ref h13, .ref h14, .ref h15, .ref h16, .ref h17, .ref h18, .ref h19, .ref h20, .ref h21, .ref h22])), (h2, .inl (zI g, 60, .inl Z1))] H := hP
                have hD : va_D A [(h3, .inl (zI g, 5, .inl G1_0)), (h0, .inr (5, [.ref h1, .int f0, .ref h2, .int f1, .int w78, .ref h3, .ref h4, .ref h5, .ref h6, .int f3, .ref h7, .ref h8, .ref h9, .int f4, .ref h10, .ref h11, .ref h12, .ref h13, .ref h14, .ref h15, .ref h16, .ref h17, .ref h18, .ref h19, .ref h20, .ref h21, .ref h22])), (h2, .inl (zI g, 60, .inl Z1))] := hD
                refine lv_if_ne (tgt := 96) hx hb dX5_lawFault_88 (by decide) (fun h => absurd h (by decide +kernel)) (fun _ => ?_)
                have c2 : (ze Z1 f1.toInt w68.toInt = zq Z1 f1.toInt w68.toInt ∨ ¬ zft (zr Z1 f1.toInt w68.toInt) (zv Z1 f1.toInt w68.toInt)) := Or.inl (by
                  show zdg Z1 f1.toInt (zq Z1 f1.toInt w68.toInt) = zq Z1 f1.toInt w68.toInt
                  rw [← hq]
                  by_cases h : w78.toInt < f1.toInt
                  · exact zdg_stop h (by omega)
                  · exact zdg_end (by omega))
                have hzb := zRL_bad2 hI72 c1n c2
                have hI82 : zTold Z1 f1.toInt G1_0 := zTold_neg (by omega)
                refine lv_aload_n hx hb dX5_lawFault_91 rfl (lv_at hl 1 rfl) ?_
                refine va_get (D := g.1) (ci := 5) (v := .int w78) (C := RX5) (T := TX5) (N := 27) hx hb hts zl_X5 hown hK hP 1 rfl rfl 4 (by decide) (hts _ m_f_RX5_118) (fun _ h => h) rfl dX5_lawFault_92 ?_
                have hP9 := hP.sub (ws' := [(h0, .inr (5, [.ref h1, .int f0, .ref h2, .int f1, .int w78, .ref h3, .ref h4, .ref h5, .ref h6, .int f3, .ref h7, .ref h8, .ref h9, .int f4, .ref h10, .ref h11, .ref h12, .ref h13, .ref h14, .ref h15, .ref h16, .ref h17, .ref h18, .ref h19, .ref h20, .ref h21, .ref h22])), (h2, .inl (zI g, 60, .inl Z1)), (h3, .inl (zI g, 5, .inl G1_0))]) [1, 2, 0] rfl
                have hD9 := hD.sub (ws' := [(h0, .inr (5, [.ref h1, .int f0, .ref h2, .int f1, .int w78, .ref h3, .ref h4, .ref h5, .ref h6, .int f3, .ref h7, .ref h8, .ref h9, .int f4, .ref h10, .ref h11, .ref h12, .ref h13, .ref h14, .ref h15, .ref h16, .ref h17, .ref h18, .ref h19, .ref h20, .ref h21, .ref h22])), (h2, .inl (zI g, 60, .inl Z1)), (h3, .inl (zI g, 5, .inl G1_0))]) [1, 2, 0] (by decide) rfl
                exact W.iret (v := w78) hx hb hr (fun t ht hW => ⟨⟨w78, ⟨w78, G1_0⟩, rfl, ⟨⟨(by first | omega | decide), (by first | omega | decide), (by first | omega | decide), (by first | omega | decide)⟩, ⟨show 0 ≤ w78.toInt from by omega, show w78.toInt ≤ 60 from by omega⟩, hI82⟩, by rw [ht]; exact hP9, hD9⟩, hS.F ht⟩) hS.2.2 dX5_lawFault_95
              · skip
                have i_35 : 48 ≤ y80.toInt := by (try simp only [Int32.toInt_toInt64] at i_35); exact i_35
                have i_36 : 57 < y80.toInt := by (try simp only [Int32.toInt_toInt64] at i_36); exact i_36
                have hP : va_P g.1 vwCl [(h3, .inl (zI g, 5, .inl G1_0)), (h0, .inr (5, [.ref h1, .int f0, .ref h2, .int f1, .int w78, .ref h3, .ref h4, .ref h5, .ref h6, .int f3, .ref h7, .ref h8, .ref h9, .int f4, .ref h10, .ref h11, .ref h12, .ref h13, .ref h14, .ref h15, .ref h16, .ref h17, .ref h18, .ref h19, .ref h20, .ref h21, .ref h22])), (h2, .inl (zI g, 60, .inl Z1))] H := hP
                have hD : va_D A [(h3, .inl (zI g, 5, .inl G1_0)), (h0, .inr (5, [.ref h1, .int f0, .ref h2, .int f1, .int w78, .ref h3, .ref h4, .ref h5, .ref h6, .int f3, .ref h7, .ref h8, .ref h9, .int f4, .ref h10, .ref h11, .ref h12, .ref h13, .ref h14, .ref h15, .ref h16, .ref h17, .ref h18, .ref h19, .ref h20, .ref h21, .ref h22])), (h2, .inl (zI g, 60, .inl Z1))] := hD
                refine lv_if_ne (tgt := 96) hx hb dX5_lawFault_88 (by decide) (fun h => absurd h (by decide +kernel)) (fun _ => ?_)
                have c2 : (ze Z1 f1.toInt w68.toInt = zq Z1 f1.toInt w68.toInt ∨ ¬ zft (zr Z1 f1.toInt w68.toInt) (zv Z1 f1.toInt w68.toInt)) := Or.inl (by
                  show zdg Z1 f1.toInt (zq Z1 f1.toInt w68.toInt) = zq Z1 f1.toInt w68.toInt
                  rw [← hq]
                  by_cases h : w78.toInt < f1.toInt
                  · exact zdg_stop h (by omega)
                  · exact zdg_end (by omega))
                have hzb := zRL_bad2 hI72 c1n c2
                have hI83 : zTold Z1 f1.toInt G1_0 := zTold_neg (by omega)
                refine lv_aload_n hx hb dX5_lawFault_91 rfl (lv_at hl 1 rfl) ?_
                refine va_get (D := g.1) (ci := 5) (v := .int w78) (C := RX5) (T := TX5) (N := 27) hx hb hts zl_X5 hown hK hP 1 rfl rfl 4 (by decide) (hts _ m_f_RX5_118) (fun _ h => h) rfl dX5_lawFault_92 ?_
                have hP9 := hP.sub (ws' := [(h0, .inr (5, [.ref h1, .int f0, .ref h2, .int f1, .int w78, .ref h3, .ref h4, .ref h5, .ref h6, .int f3, .ref h7, .ref h8, .ref h9, .int f4, .ref h10, .ref h11, .ref h12, .ref h13, .ref h14, .ref h15, .ref h16, .ref h17, .ref h18, .ref h19, .ref h20, .ref h21, .ref h22])), (h2, .inl (zI g, 60, .inl Z1)), (h3, .inl (zI g, 5, .inl G1_0))]) [1, 2, 0] rfl
                have hD9 := hD.sub (ws' := [(h0, .inr (5, [.ref h1, .int f0, .ref h2, .int f1, .int w78, .ref h3, .ref h4, .ref h5, .ref h6, .int f3, .ref h7, .ref h8, .ref h9, .int f4, .ref h10, .ref h11, .ref h12, .ref h13, .ref h14, .ref h15, .ref h16, .ref h17, .ref h18, .ref h19, .ref h20, .ref h21, .ref h22])), (h2, .inl (zI g, 60, .inl Z1)), (h3, .inl (zI g, 5, .inl G1_0))]) [1, 2, 0] (by decide) rfl
                exact W.iret (v := w78) hx hb hr (fun t ht hW => ⟨⟨w78, ⟨w78, G1_0⟩, rfl, ⟨⟨(by first | omega | decide), (by first | omega | decide), (by first | omega | decide), (by first | omega | decide)⟩, ⟨show 0 ≤ w78.toInt from by omega, show w78.toInt ≤ 60 from by omega⟩, hI83⟩, by rw [ht]; exact hP9, hD9⟩, hS.F ht⟩) hS.2.2 dX5_lawFault_95
              · skip
                have i_37 : 48 ≤ y80.toInt := by (try simp only [Int32.toInt_toInt64] at i_37); exact i_37
                have i_38 : y80.toInt ≤ 57 := by (try simp only [Int32.toInt_toInt64] at i_38); exact i_38
                have hP : va_P g.1 vwCl [(h3, .inl (zI g, 5, .inl G1_0)), (h0, .inr (5, [.ref h1, .int f0, .ref h2, .int f1, .int w78, .ref h3, .ref h4, .ref h5, .ref h6, .int f3, .ref h7, .ref h8, .ref h9, .int f4, .ref h10, .ref h11, .ref h12, .ref h13, .ref h14, .ref h15, .ref h16, .ref h17, .ref h18, .ref h19, .ref h20, .ref h21, .ref h22])), (h2, .inl (zI g, 60, .inl Z1))] H := hP
                have hD : va_D A [(h3, .inl (zI g, 5, .inl G1_0)), (h0, .inr (5, [.ref h1, .int f0, .ref h2, .int f1, .int w78, .ref h3, .ref h4, .ref h5, .ref h6, .int f3, .ref h7, .ref h8, .ref h9, .int f4, .ref h10, .ref h11, .ref h12, .ref h13, .ref h14, .ref h15, .ref h16, .ref h17, .ref h18, .ref h19, .ref h20, .ref h21, .ref h22])), (h2, .inl (zI g, 60, .inl Z1))] := hD
                refine lv_if_ne (tgt := 96) hx hb dX5_lawFault_88 (by decide) (fun _ => ?_) (fun h => absurd h (by decide +kernel))
                have ha3 : w78.toInt < f1.toInt := by omega
                have ha59 : w78.toInt ≤ 59 := by omega
                have hd3 := zdg_dig (F := Z1) (len := f1.toInt) (a := w78.toInt) ha3 ⟨by omega, by omega⟩
                have hd4 := zdg_r (F := Z1) (len := f1.toInt) (a := w78.toInt + 1) (by omega)
                refine lv_aload_n hx hb dX5_lawFault_96 rfl (lv_at hl 1 rfl) ?_
                refine va_get (D := g.1) (ci := 5) (v := .int w78) (C := RX5) (T := TX5) (N := 27) hx hb hts zl_X5 hown hK hP 1 rfl rfl 4 (by decide) (hts _ m_f_RX5_118) (fun _ h => h) rfl dX5_lawFault_97 ?_
                refine lv_istore_n (lv' := [(3, .int w78), (2, .int y73), (0, .ref h0), (1, .int v1_0)]) hx hb dX5_lawFault_100 rfl hl (by decide) rfl (fun ls hl => ?_)
                refine lv_iconst (v := 0) hx hb dX5_lawFault_101 (by decide) ?_
                have hz0 : zNu Z1 (zdg Z1 f1.toInt w78.toInt) w78.toInt (0 : Int32).toInt = zNu Z1 (zdg Z1 f1.toInt w78.toInt) w78.toInt 0 := rfl
                refine lv_istore (lv' := [(4, .int 0), (3, .int w78), (2, .int y73), (0, .ref h0), (1, .int v1_0)]) hx hb dX5_lawFault_102 hl (by decide) rfl (fun ls hl => ?_)
                have loop104_39 : ∀ (n40 : Nat) (v4_39 : Int32) (g0_39 : Int32) (hg0_39a : 0 ≤ g0_39.toInt) (hg0_39b : g0_39.toInt ≤ 60) (n40_0 : 0 ≤ v4_39.toInt) (n40_1 : v4_39.toInt ≤ 1000) (n40_2 : w78.toInt ≤ g0_39.toInt) (n40_3 : zdg Z1 f1.toInt g0_39.toInt = zdg Z1 f1.toInt w78.toInt) (n40_4 : zNu Z1 (zdg Z1 f1.toInt w78.toInt) g0_39.toInt v4_39.toInt = zNu Z1 (zdg Z1 f1.toInt w78.toInt) w78.toInt 0) (hm40 : 60 - g0_39.toInt < (n40 : Int)) (H : Heap) (locs : List Loc), va_P g.1 vwCl [(h3, .inl (zI g, 5, .inl G1_0)), (h0, .inr (5, [.ref h1, .int f0, .ref h2, .int f1, .int g0_39, .ref h3, .ref h4, .ref h5, .ref h6, .int f3, .ref h7, .ref h8, .ref h9, .int f4, .ref h10, .ref h11, .ref h12, .ref h13, .ref h14, .ref h15, .ref h16, .ref h17, .ref h18, .ref h19, .ref h20, .ref h21, .ref h22])), (h2, .inl (zI g, 60, .inl Z1))] H → va_D A [(h3, .inl (zI g, 5, .inl G1_0)), (h0, .inr (5, [.ref h1, .int f0, .ref h2, .int f1, .int g0_39, .ref h3, .ref h4, .ref h5, .ref h6, .int f3, .ref h7, .ref h8, .ref h9, .int f4, .ref h10, .ref h11, .ref h12, .ref h13, .ref h14, .ref h15, .ref h16, .ref h17, .ref h18, .ref h19, .ref h20, .ref h21, .ref h22])), (h2, .inl (zI g, 60, .inl Z1))] → va_S A s.heap H locs → ∀ (ls : Array Slot), lv_has ls 5 [(0, .ref h0), (1, .int v1_0), (2, .int y73), (3, .int w78), (4, .int v4_39)] → W p l e ({ frames := 1, cells := 0, slots := 0, locals := 25 }) s m args below meth c H locs 0 0 (MQ below (va_Qi (fun (r : Int32) (u : Int32 × (Nat → Int32)) => (-1 ≤ r.toInt ∧ r.toInt ≤ 60 ∧ (r.toInt = -1 → 0 < zLaw Z1 f1.toInt) ∧ (0 ≤ r.toInt → zLaw Z1 f1.toInt = -20 - r.toInt)) ∧ (0 ≤ u.1.toInt ∧ u.1.toInt ≤ 60) ∧ zTold Z1 f1.toInt u.2) (zPost g (fun u : Int32 × (Nat → Int32) => [(h0, .inr (5, [.ref h1, .int f0, .ref h2, .int f1, .int u.1, .ref h3, .ref h4, .ref h5, .ref h6, .int f3, .ref h7, .ref h8, .ref h9, .int f4, .ref h10, .ref h11, .ref h12, .ref h13, .ref h14, .ref h15, .ref h16, .ref h17, .ref h18, .ref h19, .ref h20, .ref h21, .ref h22])), (h2, .inl (zI g, 60, .inl Z1)), (h3, .inl (zI g, 5, .inl u.2))]) A) A) args s 0 0 A) (F0 m 104 ls []) := by
                  intro n40
                  induction n40 with
                  | zero => intro v4_39 g0_39 hg0_39a hg0_39b n40_0 n40_1 n40_2 n40_3 n40_4 hm40; exfalso; omega
                  | succ n40 ih40 =>
                    intro v4_39 g0_39 hg0_39a hg0_39b n40_0 n40_1 n40_2 n40_3 n40_4 hm40 H locs hP hD hS ls hl
                    refine lv_aload_n hx hb dX5_lawFault_104 rfl (lv_at hl 0 rfl) ?_
                    refine va_get (D := g.1) (ci := 5) (v := .int g0_39) (C := RX5) (T := TX5) (N := 27) hx hb hts zl_X5 hown hK hP 1 rfl rfl 4 (by decide) (hts _ m_f_RX5_118) (fun _ h => h) rfl dX5_lawFault_105 ?_
                    refine lv_aload_n hx hb dX5_lawFault_108 rfl (lv_at hl 0 rfl) ?_
                    refine va_get (D := g.1) (ci := 5) (v := .int f1) (C := RX5) (T := TX5) (N := 27) hx hb hts zl_X5 hown hK hP 1 rfl rfl 3 (by decide) (hts _ m_f_RX5_114) (fun _ h => h) rfl dX5_lawFault_109 ?_
                    refine lv_icmp_ge (tgt := 176) hx hb dX5_lawFault_112 (by decide) (fun c_40 => ?_) (fun c_40 => ?_)
                    · have i_40 : f1.toInt ≤ g0_39.toInt := z_le (rfl) (rfl) c_40
                      have hend : zdg Z1 f1.toInt g0_39.toInt = g0_39.toInt := by first | exact zdg_end (by omega) | exact zdg_stop (by omega) (by omega)
                      have hfe : zdg Z1 f1.toInt w78.toInt = g0_39.toInt := by omega
                      have he : g0_39.toInt = ze Z1 f1.toInt w68.toInt := by
                        show g0_39.toInt = zdg Z1 f1.toInt (zq Z1 f1.toInt w68.toInt)
                        rw [← hq]
                        exact hfe.symm
                      have hv : v4_39.toInt = zv Z1 f1.toInt w68.toInt := by
                        show v4_39.toInt = zNu Z1 (ze Z1 f1.toInt w68.toInt) (zq Z1 f1.toInt w68.toInt) 0
                        rw [← he, ← hq]
                        have h2 := zNu_end (F := Z1) (b := g0_39.toInt) (a := g0_39.toInt) (v := v4_39.toInt) (by omega)
                        have h3 : zNu Z1 (zdg Z1 f1.toInt w78.toInt) g0_39.toInt v4_39.toInt = zNu Z1 (zdg Z1 f1.toInt w78.toInt) w78.toInt 0 := by omega
                        rw [hfe, h2] at h3
                        exact h3
                      refine lv_iload hx hb dX5_lawFault_176 (lv_at hl 4 rfl) ?_
                      refine lv_i2l (v := v4_39.toInt64) hx hb dX5_lawFault_178 rfl ?_
                      refine lv_iload_n hx hb dX5_lawFault_179 rfl (lv_at hl 2 rfl) ?_
                      refine z_calli (wr := [(h3, .inl (zI g, 5, .inl G1_0)), (h0, .inr (5, [.ref h1, .int f0, .ref h2, .int f1, .int g0_39, .ref h3, .ref h4, .ref h5, .ref h6, .int f3, .ref h7, .ref h8, .ref h9, .int f4, .ref h10, .ref h11, .ref h12, .ref h13, .ref h14, .ref h15, .ref h16, .ref h17, .ref h18, .ref h19, .ref h20, .ref h21, .ref h22])), (h2, .inl (zI g, 60, .inl Z1))]) hP hD hS hA [] [0, 1, 2] (by decide) rfl rfl (by decide) (va_runS (As := [.int y73]) (rest := [.long v4_39.toInt64]) ⟨hx, hb, hml, hown, hts⟩ (gX5_leastOf l g  H.size y73) ⟨callB_of 1 hts (zGood m_o_yX5_leastOf) rfl rfl rfl (hts _ m_z_RX5) (hts _ m_m_RX5_83) ⟨by decide +kernel, by decide +kernel, by decide +kernel⟩ ⟨Nat.le_of_ble_eq_true rfl, Nat.le_of_ble_eq_true rfl⟩, hts _ m_s_yX5_leastOf⟩ (zPreS hK hN hZ hP hD hS hA [] (by decide) rfl rfl) rfl rfl hl.1 rfl (lv_room (Nat.le_of_ble_eq_true rfl)) dX5_lawFault_180 ⟨Nat.le_of_ble_eq_true rfl, Nat.le_of_ble_eq_true rfl⟩) (fun r u H locs hw hP hD hS => ?_)
                      obtain ⟨y84, rfl⟩ : ∃ z, z = r := ⟨_, rfl⟩
                      obtain ⟨q85_0, q85_1, q85_2⟩ := hw
                      have q85_0 : y84.toInt = zlo y73.toInt := q85_0
                      have q85_1 : 0 ≤ y84.toInt := q85_1
                      have q85_2 : y84.toInt ≤ 1 := q85_2
                      have hP : va_P g.1 vwCl [(h3, .inl (zI g, 5, .inl G1_0)), (h0, .inr (5, [.ref h1, .int f0, .ref h2, .int f1, .int g0_39, .ref h3, .ref h4, .ref h5, .ref h6, .int f3, .ref h7, .ref h8, .ref h9, .int f4, .ref h10, .ref h11, .ref h12, .ref h13, .ref h14, .ref h15, .ref h16, .ref h17, .ref h18, .ref h19, .ref h20, .ref h21, .ref h22])), (h2, .inl (zI g, 60, .inl Z1))] H := hP
                      have hD : va_D A [(h3, .inl (zI g, 5, .inl G1_0)), (h0, .inr (5, [.ref h1, .int f0, .ref h2, .int f1, .int g0_39, .ref h3, .ref h4, .ref h5, .ref h6, .int f3, .ref h7, .ref h8, .ref h9, .int f4, .ref h10, .ref h11, .ref h12, .ref h13, .ref h14, .ref h15, .ref h16, .ref h17, .ref h18, .ref h19, .ref h20, .ref h21, .ref h22])), (h2, .inl (zI g, 60, .inl Z1))] := hD
                      refine lv_i2l (v := y84.toInt64) hx hb dX5_lawFault_183 rfl ?_
                      refine lv_iload_n hx hb dX5_lawFault_184 rfl (lv_at hl 2 rfl) ?_
                      refine z_calli (wr := [(h3, .inl (zI g, 5, .inl G1_0)), (h0, .inr (5, [.ref h1, .int f0, .ref h2, .int f1, .int g0_39, .ref h3, .ref h4, .ref h5, .ref h6, .int f3, .ref h7, .ref h8, .ref h9, .int f4, .ref h10, .ref h11, .ref h12, .ref h13, .ref h14, .ref h15, .ref h16, .ref h17, .ref h18, .ref h19, .ref h20, .ref h21, .ref h22])), (h2, .inl (zI g, 60, .inl Z1))]) hP hD hS hA [] [0, 1, 2] (by decide) rfl rfl (by decide) (va_runS (As := [.int y73]) (rest := [.long y84.toInt64, .long v4_39.toInt64]) ⟨hx, hb, hml, hown, hts⟩ (gX5_mostOf l g  H.size y73) ⟨callB_of 1 hts (zGood m_o_yX5_mostOf) rfl rfl rfl (hts _ m_z_RX5) (hts _ m_m_RX5_87) ⟨by decide +kernel, by decide +kernel, by decide +kernel⟩ ⟨Nat.le_of_ble_eq_true rfl, Nat.le_of_ble_eq_true rfl⟩, hts _ m_s_yX5_mostOf⟩ (zPreS hK hN hZ hP hD hS hA [] (by decide) rfl rfl) rfl rfl hl.1 rfl (lv_room (Nat.le_of_ble_eq_true rfl)) dX5_lawFault_185 ⟨Nat.le_of_ble_eq_true rfl, Nat.le_of_ble_eq_true rfl⟩) (fun r u H locs hw hP hD hS => ?_)
                      obtain ⟨y86, rfl⟩ : ∃ z, z = r := ⟨_, rfl⟩
                      obtain ⟨q87_0, q87_1, q87_2⟩ := hw
                      have q87_0 : y86.toInt = zhi y73.toInt := q87_0
                      have q87_1 : y86.toInt ≤ 99 := q87_1
                      have q87_2 : 1 ≤ y86.toInt := q87_2
                      have hP : va_P g.1 vwCl [(h3, .inl (zI g, 5, .inl G1_0)), (h0, .inr (5, [.ref h1, .int f0, .ref h2, .int f1, .int g0_39, .ref h3, .ref h4, .ref h5, .ref h6, .int f3, .ref h7, .ref h8, .ref h9, .int f4, .ref h10, .ref h11, .ref h12, .ref h13, .ref h14, .ref h15, .ref h16, .ref h17, .ref h18, .ref h19, .ref h20, .ref h21, .ref h22])), (h2, .inl (zI g, 60, .inl Z1))] H := hP
                      have hD : va_D A [(h3, .inl (zI g, 5, .inl G1_0)), (h0, .inr (5, [.ref h1, .int f0, .ref h2, .int f1, .int g0_39, .ref h3, .ref h4, .ref h5, .ref h6, .int f3, .ref h7, .ref h8, .ref h9, .int f4, .ref h10, .ref h11, .ref h12, .ref h13, .ref h14, .ref h15, .ref h16, .ref h17, .ref h18, .ref h19, .ref h20, .ref h21, .ref h22])), (h2, .inl (zI g, 60, .inl Z1))] := hD
                      refine lv_i2l (v := y86.toInt64) hx hb dX5_lawFault_188 rfl ?_
                      refine z_calli (wr := [(h3, .inl (zI g, 5, .inl G1_0)), (h0, .inr (5, [.ref h1, .int f0, .ref h2, .int f1, .int g0_39, .ref h3, .ref h4, .ref h5, .ref h6, .int f3, .ref h7, .ref h8, .ref h9, .int f4, .ref h10, .ref h11, .ref h12, .ref h13, .ref h14, .ref h15, .ref h16, .ref h17, .ref h18, .ref h19, .ref h20, .ref h21, .ref h22])), (h2, .inl (zI g, 60, .inl Z1))]) hP hD hS hA [] [0, 1, 2] (by decide) rfl rfl (by decide) (va_runS (As := [.long v4_39.toInt64, .long y84.toInt64, .long y86.toInt64]) (rest := []) ⟨hx, hb, hml, hown, hts⟩ (gX5_in l g  H.size v4_39.toInt64 y84.toInt64 y86.toInt64) ⟨callB_of 3 hts (zGood m_o_yX5_in) rfl rfl rfl (hts _ m_z_RX5) (hts _ m_m_RX5_77) ⟨by decide +kernel, by decide +kernel, by decide +kernel⟩ ⟨Nat.le_of_ble_eq_true rfl, Nat.le_of_ble_eq_true rfl⟩, hts _ m_s_yX5_in⟩ (zPreS hK hN hZ hP hD hS hA [] (by decide) rfl rfl) rfl rfl hl.1 rfl (lv_room (Nat.le_of_ble_eq_true rfl)) dX5_lawFault_189 ⟨Nat.le_of_ble_eq_true rfl, Nat.le_of_ble_eq_true rfl⟩) (fun r u H locs hw hP hD hS => ?_)
                      rcases hw with ⟨i_41, rfl⟩ | ⟨i_42, i_43, rfl⟩ | ⟨i_44, i_45, rfl⟩
                      · skip
                        have i_41 : v4_39.toInt < y84.toInt := by simpa only [Int32.toInt_toInt64] using i_41
                        have hP : va_P g.1 vwCl [(h3, .inl (zI g, 5, .inl G1_0)), (h0, .inr (5, [.ref h1, .int f0, .ref h2, .int f1, .int g0_39, .ref h3, .ref h4, .ref h5, .ref h6, .int f3, .ref h7, .ref h8, .ref h9, .int f4, .ref h10, .ref h11, .ref h12, .ref h13, .ref h14, .ref h15, .ref h16, .ref h17, .ref h18, .ref h19, .ref h20, .ref h21, .ref h22])), (h2, .inl (zI g, 60, .inl Z1))] H := hP
                        have hD : va_D A [(h3, .inl (zI g, 5, .inl G1_0)), (h0, .inr (5, [.ref h1, .int f0, .ref h2, .int f1, .int g0_39, .ref h3, .ref h4, .ref h5, .ref h6, .int f3, .ref h7, .ref h8, .ref h9, .int f4, .ref h10, .ref h11, .ref h12, .ref h13, .ref h14, .ref h15, .ref h16, .ref h17, .ref h18, .ref h19, .ref h20, .ref h21, .ref h22])), (h2, .inl (zI g, 60, .inl Z1))] := hD
                        refine lv_if_ne (tgt := 197) hx hb dX5_lawFault_192 (by decide) (fun h => absurd h (by decide +kernel)) (fun _ => ?_)
                        have c2 : (ze Z1 f1.toInt w68.toInt = zq Z1 f1.toInt w68.toInt ∨ ¬ zft (zr Z1 f1.toInt w68.toInt) (zv Z1 f1.toInt w68.toInt)) := Or.inr (fun h => by
                          rw [← hzr, ← hv] at h
                          have h1 := h.1
                          have h2 := h.2
                          omega)
                        have hzb := zRL_bad2 hI72 c1n c2
                        have hI88 : zTold Z1 f1.toInt G1_0 := zTold_neg (by omega)
                        refine lv_iload_n hx hb dX5_lawFault_195 rfl (lv_at hl 3 rfl) ?_
                        have hP9 := hP.sub (ws' := [(h0, .inr (5, [.ref h1, .int f0, .ref h2, .int f1, .int g0_39, .ref h3, .ref h4, .ref h5, .ref h6, .int f3, .ref h7, .ref h8, .ref h9, .int f4, .ref h10, .ref h11, .ref h12, .ref h13, .ref h14, .ref h15, .ref h16, .ref h17, .ref h18, .ref h19, .ref h20, .ref h21, .ref h22])), (h2, .inl (zI g, 60, .inl Z1)), (h3, .inl (zI g, 5, .inl G1_0))]) [1, 2, 0] rfl
                        have hD9 := hD.sub (ws' := [(h0, .inr (5, [.ref h1, .int f0, .ref h2, .int f1, .int g0_39, .ref h3, .ref h4, .ref h5, .ref h6, .int f3, .ref h7, .ref h8, .ref h9, .int f4, .ref h10, .ref h11, .ref h12, .ref h13, .ref h14, .ref h15, .ref h16, .ref h17, .ref h18, .ref h19, .ref h20, .ref h21, .ref h22])), (h2, .inl (zI g, 60, .inl Z1)), (h3, .inl (zI g, 5, .inl G1_0))]) [1, 2, 0] (by decide) rfl
                        exact W.iret (v := w78) hx hb hr (fun t ht hW => ⟨⟨w78, ⟨g0_39, G1_0⟩, rfl, ⟨⟨(by first | omega | decide), (by first | omega | decide), (by first | omega | decide), (by first | omega | decide)⟩, ⟨show 0 ≤ g0_39.toInt from by omega, show g0_39.toInt ≤ 60 from by omega⟩, hI88⟩, by rw [ht]; exact hP9, hD9⟩, hS.F ht⟩) hS.2.2 dX5_lawFault_196
                      · skip
                        have i_42 : y84.toInt ≤ v4_39.toInt := by simpa only [Int32.toInt_toInt64] using i_42
                        have i_43 : y86.toInt < v4_39.toInt := by simpa only [Int32.toInt_toInt64] using i_43
                        have hP : va_P g.1 vwCl [(h3, .inl (zI g, 5, .inl G1_0)), (h0, .inr (5, [.ref h1, .int f0, .ref h2, .int f1, .int g0_39, .ref h3, .ref h4, .ref h5, .ref h6, .int f3, .ref h7, .ref h8, .ref h9, .int f4, .ref h10, .ref h11, .ref h12, .ref h13, .ref h14, .ref h15, .ref h16, .ref h17, .ref h18, .ref h19, .ref h20, .ref h21, .ref h22])), (h2, .inl (zI g, 60, .inl Z1))] H := hP
                        have hD : va_D A [(h3, .inl (zI g, 5, .inl G1_0)), (h0, .inr (5, [.ref h1, .int f0, .ref h2, .int f1, .int g0_39, .ref h3, .ref h4, .ref h5, .ref h6, .int f3, .ref h7, .ref h8, .ref h9, .int f4, .ref h10, .ref h11, .ref h12, .ref h13, .ref h14, .ref h15, .ref h16, .ref h17, .ref h18, .ref h19, .ref h20, .ref h21, .ref h22])), (h2, .inl (zI g, 60, .inl Z1))] := hD
                        refine lv_if_ne (tgt := 197) hx hb dX5_lawFault_192 (by decide) (fun h => absurd h (by decide +kernel)) (fun _ => ?_)
                        have c2 : (ze Z1 f1.toInt w68.toInt = zq Z1 f1.toInt w68.toInt ∨ ¬ zft (zr Z1 f1.toInt w68.toInt) (zv Z1 f1.toInt w68.toInt)) := Or.inr (fun h => by
                          rw [← hzr, ← hv] at h
                          have h1 := h.1
                          have h2 := h.2
                          omega)
                        have hzb := zRL_bad2 hI72 c1n c2
                        have hI89 : zTold Z1 f1.toInt G1_0 := zTold_neg (by omega)
                        refine lv_iload_n hx hb dX5_lawFault_195 rfl (lv_at hl 3 rfl) ?_
                        have hP9 := hP.sub (ws' := [(h0, .inr (5, [.ref h1, .int f0, .ref h2, .int f1, .int g0_39, .ref h3, .ref h4, .ref h5, .ref h6, .int f3, .ref h7, .ref h8, .ref h9, .int f4, .ref h10, .ref h11, .ref h12, .ref h13, .ref h14, .ref h15, .ref h16, .ref h17, .ref h18, .ref h19, .ref h20, .ref h21, .ref h22])), (h2, .inl (zI g, 60, .inl Z1)), (h3, .inl (zI g, 5, .inl G1_0))]) [1, 2, 0] rfl
                        have hD9 := hD.sub (ws' := [(h0, .inr (5, [.ref h1, .int f0, .ref h2, .int f1, .int g0_39, .ref h3, .ref h4, .ref h5, .ref h6, .int f3, .ref h7, .ref h8, .ref h9, .int f4, .ref h10, .ref h11, .ref h12, .ref h13, .ref h14, .ref h15, .ref h16, .ref h17, .ref h18, .ref h19, .ref h20, .ref h21, .ref h22])), (h2, .inl (zI g, 60, .inl Z1)), (h3, .inl (zI g, 5, .inl G1_0))]) [1, 2, 0] (by decide) rfl
                        exact W.iret (v := w78) hx hb hr (fun t ht hW => ⟨⟨w78, ⟨g0_39, G1_0⟩, rfl, ⟨⟨(by first | omega | decide), (by first | omega | decide), (by first | omega | decide), (by first | omega | decide)⟩, ⟨show 0 ≤ g0_39.toInt from by omega, show g0_39.toInt ≤ 60 from by omega⟩, hI89⟩, by rw [ht]; exact hP9, hD9⟩, hS.F ht⟩) hS.2.2 dX5_lawFault_196
                      · skip
                        have i_44 : y84.toInt ≤ v4_39.toInt := by simpa only [Int32.toInt_toInt64] using i_44
                        have i_45 : v4_39.toInt ≤ y86.toInt := by simpa only [Int32.toInt_toInt64] using i_45
                        have hP : va_P g.1 vwCl [(h3, .inl (zI g, 5, .inl G1_0)), (h0, .inr (5, [.ref h1, .int f0, .ref h2, .int f1, .int g0_39, .ref h3, .ref h4, .ref h5, .ref h6, .int f3, .ref h7, .ref h8, .ref h9, .int f4, .ref h10, .ref h11, .ref h12, .ref h13, .ref h14, .ref h15, .ref h16, .ref h17, .ref h18, .ref h19, .ref h20, .ref h21, .ref h22])), (h2, .inl (zI g, 60, .inl Z1))] H := hP
                        have hD : va_D A [(h3, .inl (zI g, 5, .inl G1_0)), (h0, .inr (5, [.ref h1, .int f0, .ref h2, .int f1, .int g0_39, .ref h3, .ref h4, .ref h5, .ref h6, .int f3, .ref h7, .ref h8, .ref h9, .int f4, .ref h10, .ref h11, .ref h12, .ref h13, .ref h14, .ref h15, .ref h16, .ref h17, .ref h18, .ref h19, .ref h20, .ref h21, .ref h22])), (h2, .inl (zI g, 60, .inl Z1))] := hD
                        refine lv_if_ne (tgt := 197) hx hb dX5_lawFault_192 (by decide) (fun _ => ?_) (fun h => absurd h (by decide +kernel))
                        have c2n : ¬ (ze Z1 f1.toInt w68.toInt = zq Z1 f1.toInt w68.toInt ∨ ¬ zft (zr Z1 f1.toInt w68.toInt) (zv Z1 f1.toInt w68.toInt)) := fun h => h.elim (fun h => by omega) (fun h => h (by rw [← hzr, ← hv]; exact ⟨by omega, by omega⟩))
                        refine lv_aload_n hx hb dX5_lawFault_197 rfl (lv_at hl 0 rfl) ?_
                        refine va_get (D := g.1) (ci := 5) (v := .ref h3) (C := RX5) (T := TX5) (N := 27) hx hb hts zl_X5 hown hK hP 1 rfl rfl 5 (by decide) (hts _ m_f_RX5_16) (fun _ h => h) rfl dX5_lawFault_198 ?_
                        refine lv_iload_n hx hb dX5_lawFault_201 rfl (lv_at hl 2 rfl) ?_
                        refine lv_iload hx hb dX5_lawFault_202 (lv_at hl 4 rfl) ?_
                        refine va_iast (D := g.1) hx hb hK hP hD hS 0 0 rfl rfl (vp_in_iff.mpr ⟨by omega, by omega⟩) dX5_lawFault_204 (fun H locs hP hD hS => ?_)
                        have hP : va_P g.1 vwCl [(h3, .inl (zI g, 5, .inl (upd G1_0 y73.toNatClampNeg v4_39))), (h0, .inr (5, [.ref h1, .int f0, .ref h2, .int f1, .int g0_39, .ref h3, .ref h4, .ref h5, .ref h6, .int f3, .ref h7, .ref h8, .ref h9, .int f4, .ref h10, .ref h11, .ref h12, .ref h13, .ref h14, .ref h15, .ref h16, .ref h17, .ref h18, .ref h19, .ref h20, .ref h21, .ref h22])), (h2, .inl (zI g, 60, .inl Z1))] H := hP
                        have hD : va_D A [(h3, .inl (zI g, 5, .inl (upd G1_0 y73.toNatClampNeg v4_39))), (h0, .inr (5, [.ref h1, .int f0, .ref h2, .int f1, .int g0_39, .ref h3, .ref h4, .ref h5, .ref h6, .int f3, .ref h7, .ref h8, .ref h9, .int f4, .ref h10, .ref h11, .ref h12, .ref h13, .ref h14, .ref h15, .ref h16, .ref h17, .ref h18, .ref h19, .ref h20, .ref h21, .ref h22])), (h2, .inl (zI g, 60, .inl Z1))] := hD
                        have hI90 : zRQ Z1 f1.toInt w68.toInt v1_0.toInt (upd G1_0 y73.toNatClampNeg v4_39) := zRL_put (r := y73) (v := v4_39) hI72 c1n c2n hzr hv (by omega)
                        obtain ⟨R91, eR91⟩ : ∃ z : Nat → Int32, z = (upd G1_0 y73.toNatClampNeg v4_39) := ⟨_, rfl⟩
                        rw [← eR91] at hP hD hI90
                        have qR91 : (R91 y73.toNatClampNeg).toInt = v4_39.toInt := z_put eR91 (rfl)
                        obtain ⟨y92, ey92⟩ : ∃ z : Int32, z = v1_0 + 1 := ⟨_, rfl⟩
                        have qy92 : y92.toInt = v1_0.toInt + 1 := zi_add ey92 (rfl) rfl (by omega) (by omega)
                        refine lv_iinc (v := y92) (lv' := [(1, .int y92), (0, .ref h0), (2, .int y73), (3, .int w78), (4, .int v4_39)]) hx hb dX5_lawFault_205 hl (k := 1) rfl ey92.symm (by decide) rfl (fun ls hl => ?_)
                        have hc5 := zCt_le R91
                        have hcn := hI90.1
                        have hI93 : zRH Z1 f1.toInt g0_39.toInt (v1_0.toInt + 1) R91 := zRH_of hI90 he (by omega)
                        refine lv_goto (tgt := 27) hx hb dX5_lawFault_208 (by decide) ?_
                        have hP := hP.sub (ws' := [(h0, .inr (5, [.ref h1, .int f0, .ref h2, .int f1, .int g0_39, .ref h3, .ref h4, .ref h5, .ref h6, .int f3, .ref h7, .ref h8, .ref h9, .int f4, .ref h10, .ref h11, .ref h12, .ref h13, .ref h14, .ref h15, .ref h16, .ref h17, .ref h18, .ref h19, .ref h20, .ref h21, .ref h22])), (h2, .inl (zI g, 60, .inl Z1)), (h3, .inl (zI g, 5, .inl R91))]) [1, 2, 0] rfl
                        have hD := hD.sub (ws' := [(h0, .inr (5, [.ref h1, .int f0, .ref h2, .int f1, .int g0_39, .ref h3, .ref h4, .ref h5, .ref h6, .int f3, .ref h7, .ref h8, .ref h9, .int f4, .ref h10, .ref h11, .ref h12, .ref h13, .ref h14, .ref h15, .ref h16, .ref h17, .ref h18, .ref h19, .ref h20, .ref h21, .ref h22])), (h2, .inl (zI g, 60, .inl Z1)), (h3, .inl (zI g, 5, .inl R91))]) [1, 2, 0] (by decide) rfl
                        exact ih1 y92 g0_39 R91 (by omega) (by omega) (zRH_eq hI93 (by omega) (by omega)) (by omega) (by omega) (by omega) _ _ hP hD hS ls (lv_sub hl [1, 0] rfl)
                    · have i_40 : g0_39.toInt < f1.toInt := z_nle (rfl) (rfl) c_40
                      refine lv_aload_n hx hb dX5_lawFault_115 rfl (lv_at hl 0 rfl) ?_
                      refine va_get (D := g.1) (ci := 5) (v := .ref h2) (C := RX5) (T := TX5) (N := 27) hx hb hts zl_X5 hown hK hP 1 rfl rfl 2 (by decide) (hts _ m_f_RX5_13) (fun _ h => h) rfl dX5_lawFault_116 ?_
                      refine lv_aload_n hx hb dX5_lawFault_119 rfl (lv_at hl 0 rfl) ?_
                      refine va_get (D := g.1) (ci := 5) (v := .int g0_39) (C := RX5) (T := TX5) (N := 27) hx hb hts zl_X5 hown hK hP 1 rfl rfl 4 (by decide) (hts _ m_f_RX5_118) (fun _ h => h) rfl dX5_lawFault_120 ?_
                      refine va_iald (D := g.1) hx hb hK hP 2 0 rfl rfl (vp_in_iff.mpr ⟨by omega, by omega⟩) dX5_lawFault_123 ?_
                      refine lv_topi (fun y94 ey94 => ?_)
                      have qy94_0 : y94.toInt = (Z1 g0_39.toNatClampNeg).toInt := congrArg Int32.toInt ey94
                      have py94_0 : y94.toInt = zc Z1 g0_39.toInt := congrArg Int32.toInt ey94
                      refine lv_i2l (v := y94.toInt64) hx hb dX5_lawFault_124 rfl ?_
                      refine lv_ldc2 (v := 48) hx hb hown (hts _ m_k_RX5_128) dX5_lawFault_125 ?_
                      refine lv_ldc2 (v := 57) hx hb hown (hts _ m_k_RX5_130) dX5_lawFault_128 ?_
                      refine z_calli (wr := [(h3, .inl (zI g, 5, .inl G1_0)), (h0, .inr (5, [.ref h1, .int f0, .ref h2, .int f1, .int g0_39, .ref h3, .ref h4, .ref h5, .ref h6, .int f3, .ref h7, .ref h8, .ref h9, .int f4, .ref h10, .ref h11, .ref h12, .ref h13, .ref h14, .ref h15, .ref h16, .ref h17, .ref h18, .ref h19, .ref h20, .ref h21, .ref h22])), (h2, .inl (zI g, 60, .inl Z1))]) hP hD hS hA [] [0, 1, 2] (by decide) rfl rfl (by decide) (va_runS (As := [.long y94.toInt64, .long 48, .long 57]) (rest := []) ⟨hx, hb, hml, hown, hts⟩ (gX5_in l g  H.size y94.toInt64 (48 : Int64) (57 : Int64)) ⟨callB_of 3 hts (zGood m_o_yX5_in) rfl rfl rfl (hts _ m_z_RX5) (hts _ m_m_RX5_77) ⟨by decide +kernel, by decide +kernel, by decide +kernel⟩ ⟨Nat.le_of_ble_eq_true rfl, Nat.le_of_ble_eq_true rfl⟩, hts _ m_s_yX5_in⟩ (zPreS hK hN hZ hP hD hS hA [] (by decide) rfl rfl) rfl rfl hl.1 rfl (lv_room (Nat.le_of_ble_eq_true rfl)) dX5_lawFault_131 ⟨Nat.le_of_ble_eq_true rfl, Nat.le_of_ble_eq_true rfl⟩) (fun r u H locs hw hP hD hS => ?_)
                      rcases hw with ⟨i_46, rfl⟩ | ⟨i_47, i_48, rfl⟩ | ⟨i_49, i_50, rfl⟩
                      · skip
                        have i_46 : y94.toInt < 48 := by (try simp only [Int32.toInt_toInt64] at i_46); exact i_46
                        have hP : va_P g.1 vwCl [(h3, .inl (zI g, 5, .inl G1_0)), (h0, .inr (5, [.ref h1, .int f0, .ref h2, .int f1, .int g0_39, .ref h3, .ref h4, .ref h5, .ref h6, .int f3, .ref h7, .ref h8, .ref h9, .int f4, .ref h10, .ref h11, .ref h12, .ref h13, .ref h14, .ref h15, .ref h16, .ref h17, .ref h18, .ref h19, .ref h20, .ref h21, .ref h22])), (h2, .inl (zI g, 60, .inl Z1))] H := hP
                        have hD : va_D A [(h3, .inl (zI g, 5, .inl G1_0)), (h0, .inr (5, [.ref h1, .int f0, .ref h2, .int f1, .int g0_39, .ref h3, .ref h4, .ref h5, .ref h6, .int f3, .ref h7, .ref h8, .ref h9, .int f4, .ref h10, .ref h11, .ref h12, .ref h13, .ref h14, .ref h15, .ref h16, .ref h17, .ref h18, .ref h19, .ref h20, .ref h21, .ref h22])), (h2, .inl (zI g, 60, .inl Z1))] := hD
                        refine lv_if_eq (tgt := 176) hx hb dX5_lawFault_134 (by decide) (fun _ => ?_) (fun h => absurd h (by decide +kernel))
                        have hend : zdg Z1 f1.toInt g0_39.toInt = g0_39.toInt := by first | exact zdg_end (by omega) | exact zdg_stop (by omega) (by omega)
                        have hfe : zdg Z1 f1.toInt w78.toInt = g0_39.toInt := by omega
                        have he : g0_39.toInt = ze Z1 f1.toInt w68.toInt := by
                          show g0_39.toInt = zdg Z1 f1.toInt (zq Z1 f1.toInt w68.toInt)
                          rw [← hq]
                          exact hfe.symm
                        have hv : v4_39.toInt = zv Z1 f1.toInt w68.toInt := by
                          show v4_39.toInt = zNu Z1 (ze Z1 f1.toInt w68.toInt) (zq Z1 f1.toInt w68.toInt) 0
                          rw [← he, ← hq]
                          have h2 := zNu_end (F := Z1) (b := g0_39.toInt) (a := g0_39.toInt) (v := v4_39.toInt) (by omega)
                          have h3 : zNu Z1 (zdg Z1 f1.toInt w78.toInt) g0_39.toInt v4_39.toInt = zNu Z1 (zdg Z1 f1.toInt w78.toInt) w78.toInt 0 := by omega
                          rw [hfe, h2] at h3
                          exact h3
                        refine lv_iload hx hb dX5_lawFault_176 (lv_at hl 4 rfl) ?_
                        refine lv_i2l (v := v4_39.toInt64) hx hb dX5_lawFault_178 rfl ?_
                        refine lv_iload_n hx hb dX5_lawFault_179 rfl (lv_at hl 2 rfl) ?_
                        refine z_calli (wr := [(h3, .inl (zI g, 5, .inl G1_0)), (h0, .inr (5, [.ref h1, .int f0, .ref h2, .int f1, .int g0_39, .ref h3, .ref h4, .ref h5, .ref h6, .int f3, .ref h7, .ref h8, .ref h9, .int f4, .ref h10, .ref h11, .ref h12, .ref h13, .ref h14, .ref h15, .ref h16, .ref h17, .ref h18, .ref h19, .ref h20, .ref h21, .ref h22])), (h2, .inl (zI g, 60, .inl Z1))]) hP hD hS hA [] [0, 1, 2] (by decide) rfl rfl (by decide) (va_runS (As := [.int y73]) (rest := [.long v4_39.toInt64]) ⟨hx, hb, hml, hown, hts⟩ (gX5_leastOf l g  H.size y73) ⟨callB_of 1 hts (zGood m_o_yX5_leastOf) rfl rfl rfl (hts _ m_z_RX5) (hts _ m_m_RX5_83) ⟨by decide +kernel, by decide +kernel, by decide +kernel⟩ ⟨Nat.le_of_ble_eq_true rfl, Nat.le_of_ble_eq_true rfl⟩, hts _ m_s_yX5_leastOf⟩ (zPreS hK hN hZ hP hD hS hA [] (by decide) rfl rfl) rfl rfl hl.1 rfl (lv_room (Nat.le_of_ble_eq_true rfl)) dX5_lawFault_180 ⟨Nat.le_of_ble_eq_true rfl, Nat.le_of_ble_eq_true rfl⟩) (fun r u H locs hw hP hD hS => ?_)
                        obtain ⟨y95, rfl⟩ : ∃ z, z = r := ⟨_, rfl⟩
                        obtain ⟨q96_0, q96_1, q96_2⟩ := hw
                        have q96_0 : y95.toInt = zlo y73.toInt := q96_0
                        have q96_1 : 0 ≤ y95.toInt := q96_1
                        have q96_2 : y95.toInt ≤ 1 := q96_2
                        have hP : va_P g.1 vwCl [(h3, .inl (zI g, 5, .inl G1_0)), (h0, .inr (5, [.ref h1, .int f0, .ref h2, .int f1, .int g0_39, .ref h3, .ref h4, .ref h5, .ref h6, .int f3, .ref h7, .ref h8, .ref h9, .int f4, .ref h10, .ref h11, .ref h12, .ref h13, .ref h14, .ref h15, .ref h16, .ref h17, .ref h18, .ref h19, .ref h20, .ref h21, .ref h22])), (h2, .inl (zI g, 60, .inl Z1))] H := hP
                        have hD : va_D A [(h3, .inl (zI g, 5, .inl G1_0)), (h0, .inr (5, [.ref h1, .int f0, .ref h2, .int f1, .int g0_39, .ref h3, .ref h4, .ref h5, .ref h6, .int f3, .ref h7, .ref h8, .ref h9, .int f4, .ref h10, .ref h11, .ref h12, .ref h13, .ref h14, .ref h15, .ref h16, .ref h17, .ref h18, .ref h19, .ref h20, .ref h21, .ref h22])), (h2, .inl (zI g, 60, .inl Z1))] := hD
                        refine lv_i2l (v := y95.toInt64) hx hb dX5_lawFault_183 rfl ?_
                        refine lv_iload_n hx hb dX5_lawFault_184 rfl (lv_at hl 2 rfl) ?_
                        refine z_calli (wr := [(h3, .inl (zI g, 5, .inl G1_0)), (h0, .inr (5, [.ref h1, .int f0, .ref h2, .int f1, .int g0_39, .ref h3, .ref h4, .ref h5, .ref h6, .int f3, .ref h7, .ref h8, .ref h9, .int f4, .ref h10, .ref h11, .ref h12, .ref h13, .ref h14, .ref h15, .ref h16, .ref h17, .ref h18, .ref h19, .ref h20, .ref h21, .ref h22])), (h2, .inl (zI g, 60, .inl Z1))]) hP hD hS hA [] [0, 1, 2] (by decide) rfl rfl (by decide) (va_runS (As := [.int y73]) (rest := [.long y95.toInt64, .long v4_39.toInt64]) ⟨hx, hb, hml, hown, hts⟩ (gX5_mostOf l g  H.size y73) ⟨callB_of 1 hts (zGood m_o_yX5_mostOf) rfl rfl rfl (hts _ m_z_RX5) (hts _ m_m_RX5_87) ⟨by decide +kernel, by decide +kernel, by decide +kernel⟩ ⟨Nat.le_of_ble_eq_true rfl, Nat.le_of_ble_eq_true rfl⟩, hts _ m_s_yX5_mostOf⟩ (zPreS hK hN hZ hP hD hS hA [] (by decide) rfl rfl) rfl rfl hl.1 rfl (lv_room (Nat.le_of_ble_eq_true rfl)) dX5_lawFault_185 ⟨Nat.le_of_ble_eq_true rfl, Nat.le_of_ble_eq_true rfl⟩) (fun r u H locs hw hP hD hS => ?_)
                        obtain ⟨y97, rfl⟩ : ∃ z, z = r := ⟨_, rfl⟩
                        obtain ⟨q98_0, q98_1, q98_2⟩ := hw
                        have q98_0 : y97.toInt = zhi y73.toInt := q98_0
                        have q98_1 : y97.toInt ≤ 99 := q98_1
                        have q98_2 : 1 ≤ y97.toInt := q98_2
                        have hP : va_P g.1 vwCl [(h3, .inl (zI g, 5, .inl G1_0)), (h0, .inr (5, [.ref h1, .int f0, .ref h2, .int f1, .int g0_39, .ref h3, .ref h4, .ref h5, .ref h6, .int f3, .ref h7, .ref h8, .ref h9, .int f4, .ref h10, .ref h11, .ref h12, .ref h13, .ref h14, .ref h15, .ref h16, .ref h17, .ref h18, .ref h19, .ref h20, .ref h21, .ref h22])), (h2, .inl (zI g, 60, .inl Z1))] H := hP
                        have hD : va_D A [(h3, .inl (zI g, 5, .inl G1_0)), (h0, .inr (5, [.ref h1, .int f0, .ref h2, .int f1, .int g0_39, .ref h3, .ref h4, .ref h5, .ref h6, .int f3, .ref h7, .ref h8, .ref h9, .int f4, .ref h10, .ref h11, .ref h12, .ref h13, .ref h14, .ref h15, .ref h16, .ref h17, .ref h18, .ref h19, .ref h20, .ref h21, .ref h22])), (h2, .inl (zI g, 60, .inl Z1))] := hD
                        refine lv_i2l (v := y97.toInt64) hx hb dX5_lawFault_188 rfl ?_
                        refine z_calli (wr := [(h3, .inl (zI g, 5, .inl G1_0)), (h0, .inr (5, [.ref h1, .int f0, .ref h2, .int f1, .int g0_39, .ref h3, .ref h4, .ref h5, .ref h6, .int f3, .ref h7, .ref h8, .ref h9, .int f4, .ref h10, .ref h11, .ref h12, .ref h13, .ref h14, .ref h15, .ref h16, .ref h17, .ref h18, .ref h19, .ref h20, .ref h21, .ref h22])), (h2, .inl (zI g, 60, .inl Z1))]) hP hD hS hA [] [0, 1, 2] (by decide) rfl rfl (by decide) (va_runS (As := [.long v4_39.toInt64, .long y95.toInt64, .long y97.toInt64]) (rest := []) ⟨hx, hb, hml, hown, hts⟩ (gX5_in l g  H.size v4_39.toInt64 y95.toInt64 y97.toInt64) ⟨callB_of 3 hts (zGood m_o_yX5_in) rfl rfl rfl (hts _ m_z_RX5) (hts _ m_m_RX5_77) ⟨by decide +kernel, by decide +kernel, by decide +kernel⟩ ⟨Nat.le_of_ble_eq_true rfl, Nat.le_of_ble_eq_true rfl⟩, hts _ m_s_yX5_in⟩ (zPreS hK hN hZ hP hD hS hA [] (by decide) rfl rfl) rfl rfl hl.1 rfl (lv_room (Nat.le_of_ble_eq_true rfl)) dX5_lawFault_189 ⟨Nat.le_of_ble_eq_true rfl, Nat.le_of_ble_eq_true rfl⟩) (fun r u H locs hw hP hD hS => ?_)
                        rcases hw with ⟨i_51, rfl⟩ | ⟨i_52, i_53, rfl⟩ | ⟨i_54, i_55, rfl⟩
                        · skip
                          have i_51 : v4_39.toInt < y95.toInt := by simpa only [Int32.toInt_toInt64] using i_51
                          have hP : va_P g.1 vwCl [(h3, .inl (zI g, 5, .inl G1_0)), (h0, .inr (5, [.ref h1, .int f0, .ref h2, .int f1, .int g0_39, .ref h3, .ref h4, .ref h5, .ref h6, .int f3, .ref h7, .ref h8, .ref h9, .int f4, .ref h10, .ref h11, .ref h12, .ref h13, .ref h14, .ref h15, .ref h16, .ref h17, .ref h18, .ref h19, .ref h20, .ref h21, .ref h22])), (h2, .inl (zI g, 60, .inl Z1))] H := hP
                          have hD : va_D A [(h3, .inl (zI g, 5, .inl G1_0)), (h0, .inr (5, [.ref h1, .int f0, .ref h2, .int f1, .int g0_39, .ref h3, .ref h4, .ref h5, .ref h6, .int f3, .ref h7, .ref h8, .ref h9, .int f4, .ref h10, .ref h11, .ref h12, .ref h13, .ref h14, .ref h15, .ref h16, .ref h17, .ref h18, .ref h19, .ref h20, .ref h21, .ref h22])), (h2, .inl (zI g, 60, .inl Z1))] := hD
                          refine lv_if_ne (tgt := 197) hx hb dX5_lawFault_192 (by decide) (fun h => absurd h (by decide +kernel)) (fun _ => ?_)
                          have c2 : (ze Z1 f1.toInt w68.toInt = zq Z1 f1.toInt w68.toInt ∨ ¬ zft (zr Z1 f1.toInt w68.toInt) (zv Z1 f1.toInt w68.toInt)) := Or.inr (fun h => by
                            rw [← hzr, ← hv] at h
                            have h1 := h.1
                            have h2 := h.2
                            omega)
                          have hzb := zRL_bad2 hI72 c1n c2
                          have hI99 : zTold Z1 f1.toInt G1_0 := zTold_neg (by omega)
                          refine lv_iload_n hx hb dX5_lawFault_195 rfl (lv_at hl 3 rfl) ?_
                          have hP9 := hP.sub (ws' := [(h0, .inr (5, [.ref h1, .int f0, .ref h2, .int f1, .int g0_39, .ref h3, .ref h4, .ref h5, .ref h6, .int f3, .ref h7, .ref h8, .ref h9, .int f4, .ref h10, .ref h11, .ref h12, .ref h13, .ref h14, .ref h15, .ref h16, .ref h17, .ref h18, .ref h19, .ref h20, .ref h21, .ref h22])), (h2, .inl (zI g, 60, .inl Z1)), (h3, .inl (zI g, 5, .inl G1_0))]) [1, 2, 0] rfl
                          have hD9 := hD.sub (ws' := [(h0, .inr (5, [.ref h1, .int f0, .ref h2, .int f1, .int g0_39, .ref h3, .ref h4, .ref h5, .ref h6, .int f3, .ref h7, .ref h8, .ref h9, .int f4, .ref h10, .ref h11, .ref h12, .ref h13, .ref h14, .ref h15, .ref h16, .ref h17, .ref h18, .ref h19, .ref h20, .ref h21, .ref h22])), (h2, .inl (zI g, 60, .inl Z1)), (h3, .inl (zI g, 5, .inl G1_0))]) [1, 2, 0] (by decide) rfl
                          exact W.iret (v := w78) hx hb hr (fun t ht hW => ⟨⟨w78, ⟨g0_39, G1_0⟩, rfl, ⟨⟨(by first | omega | decide), (by first | omega | decide), (by first | omega | decide), (by first | omega | decide)⟩, ⟨show 0 ≤ g0_39.toInt from by omega, show g0_39.toInt ≤ 60 from by omega⟩, hI99⟩, by rw [ht]; exact hP9, hD9⟩, hS.F ht⟩) hS.2.2 dX5_lawFault_196
                        · skip
                          have i_52 : y95.toInt ≤ v4_39.toInt := by simpa only [Int32.toInt_toInt64] using i_52
                          have i_53 : y97.toInt < v4_39.toInt := by simpa only [Int32.toInt_toInt64] using i_53
                          have hP : va_P g.1 vwCl [(h3, .inl (zI g, 5, .inl G1_0)), (h0, .inr (5, [.ref h1, .int f0, .ref h2, .int f1, .int g0_39, .ref h3, .ref h4, .ref h5, .ref h6, .int f3, .ref h7, .ref h8, .ref h9, .int f4, .ref h10, .ref h11, .ref h12, .ref h13, .ref h14, .ref h15, .ref h16, .ref h17, .ref h18, .ref h19, .ref h20, .ref h21, .ref h22])), (h2, .inl (zI g, 60, .inl Z1))] H := hP
                          have hD : va_D A [(h3, .inl (zI g, 5, .inl G1_0)), (h0, .inr (5, [.ref h1, .int f0, .ref h2, .int f1, .int g0_39, .ref h3, .ref h4, .ref h5, .ref h6, .int f3, .ref h7, .ref h8, .ref h9, .int f4, .ref h10, .ref h11, .ref h12, .ref h13, .ref h14, .ref h15, .ref h16, .ref h17, .ref h18, .ref h19, .ref h20, .ref h21, .ref h22])), (h2, .inl (zI g, 60, .inl Z1))] := hD
                          refine lv_if_ne (tgt := 197) hx hb dX5_lawFault_192 (by decide) (fun h => absurd h (by decide +kernel)) (fun _ => ?_)
                          have c2 : (ze Z1 f1.toInt w68.toInt = zq Z1 f1.toInt w68.toInt ∨ ¬ zft (zr Z1 f1.toInt w68.toInt) (zv Z1 f1.toInt w68.toInt)) := Or.inr (fun h => by
                            rw [← hzr, ← hv] at h
                            have h1 := h.1
                            have h2 := h.2
                            omega)
                          have hzb := zRL_bad2 hI72 c1n c2
                          have hI100 : zTold Z1 f1.toInt G1_0 := zTold_neg (by omega)
                          refine lv_iload_n hx hb dX5_lawFault_195 rfl (lv_at hl 3 rfl) ?_
                          have hP9 := hP.sub (ws' := [(h0, .inr (5, [.ref h1, .int f0, .ref h2, .int f1, .int g0_39, .ref h3, .ref h4, .ref h5, .ref h6, .int f3, .ref h7, .ref h8, .ref h9, .int f4, .ref h10, .ref h11, .ref h12, .ref h13, .ref h14, .ref h15, .ref h16, .ref h17, .ref h18, .ref h19, .ref h20, .ref h21, .ref h22])), (h2, .inl (zI g, 60, .inl Z1)), (h3, .inl (zI g, 5, .inl G1_0))]) [1, 2, 0] rfl
                          have hD9 := hD.sub (ws' := [(h0, .inr (5, [.ref h1, .int f0, .ref h2, .int f1, .int g0_39, .ref h3, .ref h4, .ref h5, .ref h6, .int f3, .ref h7, .ref h8, .ref h9, .int f4, .ref h10, .ref h11, .ref h12, .ref h13, .ref h14, .ref h15, .ref h16, .ref h17, .ref h18, .ref h19, .ref h20, .ref h21, .ref h22])), (h2, .inl (zI g, 60, .inl Z1)), (h3, .inl (zI g, 5, .inl G1_0))]) [1, 2, 0] (by decide) rfl
                          exact W.iret (v := w78) hx hb hr (fun t ht hW => ⟨⟨w78, ⟨g0_39, G1_0⟩, rfl, ⟨⟨(by first | omega | decide), (by first | omega | decide), (by first | omega | decide), (by first | omega | decide)⟩, ⟨show 0 ≤ g0_39.toInt from by omega, show g0_39.toInt ≤ 60 from by omega⟩, hI100⟩, by rw [ht]; exact hP9, hD9⟩, hS.F ht⟩) hS.2.2 dX5_lawFault_196
                        · skip
                          have i_54 : y95.toInt ≤ v4_39.toInt := by simpa only [Int32.toInt_toInt64] using i_54
                          have i_55 : v4_39.toInt ≤ y97.toInt := by simpa only [Int32.toInt_toInt64] using i_55
                          have hP : va_P g.1 vwCl [(h3, .inl (zI g, 5, .inl G1_0)), (h0, .inr (5, [.ref h1, .int f0, .ref h2, .int f1, .int g0_39, .ref h3, .ref h4, .ref h5, .ref h6, .int f3, .ref h7, .ref h8, .ref h9, .int f4, .ref h10, .ref h11, .ref h12, .ref h13, .ref h14, .ref h15, .ref h16, .ref h17, .ref h18, .ref h19, .ref h20, .ref h21, .ref h22])), (h2, .inl (zI g, 60, .inl Z1))] H := hP
                          have hD : va_D A [(h3, .inl (zI g, 5, .inl G1_0)), (h0, .inr (5, [.ref h1, .int f0, .ref h2, .int f1, .int g0_39, .ref h3, .ref h4, .ref h5, .ref h6, .int f3, .ref h7, .ref h8, .ref h9, .int f4, .ref h10, .ref h11, .ref h12, .ref h13, .ref h14, .ref h15, .ref h16, .ref h17, .ref h18, .ref h19, .ref h20, .ref h21, .ref h22])), (h2, .inl (zI g, 60, .inl Z1))] := hD
                          refine lv_if_ne (tgt := 197) hx hb dX5_lawFault_192 (by decide) (fun _ => ?_) (fun h => absurd h (by decide +kernel))
                          have c2n : ¬ (ze Z1 f1.toInt w68.toInt = zq Z1 f1.toInt w68.toInt ∨ ¬ zft (zr Z1 f1.toInt w68.toInt) (zv Z1 f1.toInt w68.toInt)) := fun h => h.elim (fun h => by omega) (fun h => h (by rw [← hzr, ← hv]; exact ⟨by omega, by omega⟩))
                          refine lv_aload_n hx hb dX5_lawFault_197 rfl (lv_at hl 0 rfl) ?_
                          refine va_get (D := g.1) (ci := 5) (v := .ref h3) (C := RX5) (T := TX5) (N := 27) hx hb hts zl_X5 hown hK hP 1 rfl rfl 5 (by decide) (hts _ m_f_RX5_16) (fun _ h => h) rfl dX5_lawFault_198 ?_
                          refine lv_iload_n hx hb dX5_lawFault_201 rfl (lv_at hl 2 rfl) ?_
                          refine lv_iload hx hb dX5_lawFault_202 (lv_at hl 4 rfl) ?_
                          refine va_iast (D := g.1) hx hb hK hP hD hS 0 0 rfl rfl (vp_in_iff.mpr ⟨by omega, by omega⟩) dX5_lawFault_204 (fun H locs hP hD hS => ?_)
                          have hP : va_P g.1 vwCl [(h3, .inl (zI g, 5, .inl (upd G1_0 y73.toNatClampNeg v4_39))), (h0, .inr (5, [.ref h1, .int f0, .ref h2, .int f1, .int g0_39, .ref h3, .ref h4, .ref h5, .ref h6, .int f3, .ref h7, .ref h8, .ref h9, .int f4, .ref h10, .ref h11, .ref h12, .ref h13, .ref h14, .ref h15, .ref h16, .ref h17, .ref h18, .ref h19, .ref h20, .ref h21, .ref h22])), (h2, .inl (zI g, 60, .inl Z1))] H := hP
                          have hD : va_D A [(h3, .inl (zI g, 5, .inl (upd G1_0 y73.toNatClampNeg v4_39))), (h0, .inr (5, [.ref h1, .int f0, .ref h2, .int f1, .int g0_39, .ref h3, .ref h4, .ref h5, .ref h6, .int f3, .ref h7, .ref h8, .ref h9, .int f4, .ref h10, .ref h11, .ref h12, .ref h13, .ref h14, .ref h15, .ref h16, .ref h17, .ref h18, .ref h19, .ref h20, .ref h21, .ref h22])), (h2, .inl (zI g, 60, .inl Z1))] := hD
                          have hI101 : zRQ Z1 f1.toInt w68.toInt v1_0.toInt (upd G1_0 y73.toNatClampNeg v4_39) := zRL_put (r := y73) (v := v4_39) hI72 c1n c2n hzr hv (by omega)
                          obtain ⟨R102, eR102⟩ : ∃ z : Nat → Int32, z = (upd G1_0 y73.toNatClampNeg v4_39) := ⟨_, rfl⟩
                          rw [← eR102] at hP hD hI101
                          have qR102 : (R102 y73.toNatClampNeg).toInt = v4_39.toInt := z_put eR102 (rfl)
                          obtain ⟨y103, ey103⟩ : ∃ z : Int32, z = v1_0 + 1 := ⟨_, rfl⟩
                          have qy103 : y103.toInt = v1_0.toInt + 1 := zi_add ey103 (rfl) rfl (by omega) (by omega)
                          refine lv_iinc (v := y103) (lv' := [(1, .int y103), (0, .ref h0), (2, .int y73), (3, .int w78), (4, .int v4_39)]) hx hb dX5_lawFault_205 hl (k := 1) rfl ey103.symm (by decide) rfl (fun ls hl => ?_)
                          have hc5 := zCt_le R102
                          have hcn := hI101.1
                          have hI104 : zRH Z1 f1.toInt g0_39.toInt (v1_0.toInt + 1) R102 := zRH_of hI101 he (by omega)
                          refine lv_goto (tgt := 27) hx hb dX5_lawFault_208 (by decide) ?_
                          have hP := hP.sub (ws' := [(h0, .inr (5, [.ref h1, .int f0, .ref h2, .int f1, .int g0_39, .ref h3, .ref h4, .ref h5, .ref h6, .int f3, .ref h7, .ref h8, .ref h9, .int f4, .ref h10, .ref h11, .ref h12, .ref h13, .ref h14, .ref h15, .ref h16, .ref h17, .ref h18, .ref h19, .ref h20, .ref h21, .ref h22])), (h2, .inl (zI g, 60, .inl Z1)), (h3, .inl (zI g, 5, .inl R102))]) [1, 2, 0] rfl
                          have hD := hD.sub (ws' := [(h0, .inr (5, [.ref h1, .int f0, .ref h2, .int f1, .int g0_39, .ref h3, .ref h4, .ref h5, .ref h6, .int f3, .ref h7, .ref h8, .ref h9, .int f4, .ref h10, .ref h11, .ref h12, .ref h13, .ref h14, .ref h15, .ref h16, .ref h17, .ref h18, .ref h19, .ref h20, .ref h21, .ref h22])), (h2, .inl (zI g, 60, .inl Z1)), (h3, .inl (zI g, 5, .inl R102))]) [1, 2, 0] (by decide) rfl
                          exact ih1 y103 g0_39 R102 (by omega) (by omega) (zRH_eq hI104 (by omega) (by omega)) (by omega) (by omega) (by omega) _ _ hP hD hS ls (lv_sub hl [1, 0] rfl)
                      · skip
                        have i_47 : 48 ≤ y94.toInt := by (try simp only [Int32.toInt_toInt64] at i_47); exact i_47
                        have i_48 : 57 < y94.toInt := by (try simp only [Int32.toInt_toInt64] at i_48); exact i_48
                        have hP : va_P g.1 vwCl [(h3, .inl (zI g, 5, .inl G1_0)), (h0, .inr (5, [.ref h1, .int f0, .ref h2, .int f1, .int g0_39, .ref h3, .ref h4, .ref h5, .ref h6, .int f3, .ref h7, .ref h8, .ref h9, .int f4, .ref h10, .ref h11, .ref h12, .ref h13, .ref h14, .ref h15, .ref h16, .ref h17, .ref h18, .ref h19, .ref h20, .ref h21, .ref h22])), (h2, .inl (zI g, 60, .inl Z1))] H := hP
                        have hD : va_D A [(h3, .inl (zI g, 5, .inl G1_0)), (h0, .inr (5, [.ref h1, .int f0, .ref h2, .int f1, .int g0_39, .ref h3, .ref h4, .ref h5, .ref h6, .int f3, .ref h7, .ref h8, .ref h9, .int f4, .ref h10, .ref h11, .ref h12, .ref h13, .ref h14, .ref h15, .ref h16, .ref h17, .ref h18, .ref h19, .ref h20, .ref h21, .ref h22])), (h2, .inl (zI g, 60, .inl Z1))] := hD
                        refine lv_if_eq (tgt := 176) hx hb dX5_lawFault_134 (by decide) (fun _ => ?_) (fun h => absurd h (by decide +kernel))
                        have hend : zdg Z1 f1.toInt g0_39.toInt = g0_39.toInt := by first | exact zdg_end (by omega) | exact zdg_stop (by omega) (by omega)
                        have hfe : zdg Z1 f1.toInt w78.toInt = g0_39.toInt := by omega
                        have he : g0_39.toInt = ze Z1 f1.toInt w68.toInt := by
                          show g0_39.toInt = zdg Z1 f1.toInt (zq Z1 f1.toInt w68.toInt)
                          rw [← hq]
                          exact hfe.symm
                        have hv : v4_39.toInt = zv Z1 f1.toInt w68.toInt := by
                          show v4_39.toInt = zNu Z1 (ze Z1 f1.toInt w68.toInt) (zq Z1 f1.toInt w68.toInt) 0
                          rw [← he, ← hq]
                          have h2 := zNu_end (F := Z1) (b := g0_39.toInt) (a := g0_39.toInt) (v := v4_39.toInt) (by omega)
                          have h3 : zNu Z1 (zdg Z1 f1.toInt w78.toInt) g0_39.toInt v4_39.toInt = zNu Z1 (zdg Z1 f1.toInt w78.toInt) w78.toInt 0 := by omega
                          rw [hfe, h2] at h3
                          exact h3
                        refine lv_iload hx hb dX5_lawFault_176 (lv_at hl 4 rfl) ?_
                        refine lv_i2l (v := v4_39.toInt64) hx hb dX5_lawFault_178 rfl ?_
                        refine lv_iload_n hx hb dX5_lawFault_179 rfl (lv_at hl 2 rfl) ?_
                        refine z_calli (wr := [(h3, .inl (zI g, 5, .inl G1_0)), (h0, .inr (5, [.ref h1, .int f0, .ref h2, .int f1, .int g0_39, .ref h3, .ref h4, .ref h5, .ref h6, .int f3, .ref h7, .ref h8, .ref h9, .int f4, .ref h10, .ref h11, .ref h12, .ref h13, .ref h14, .ref h15, .ref h16, .ref h17, .ref h18, .ref h19, .ref h20, .ref h21, .ref h22])), (h2, .inl (zI g, 60, .inl Z1))]) hP hD hS hA [] [0, 1, 2] (by decide) rfl rfl (by decide) (va_runS (As := [.int y73]) (rest := [.long v4_39.toInt64]) ⟨hx, hb, hml, hown, hts⟩ (gX5_leastOf l g  H.size y73) ⟨callB_of 1 hts (zGood m_o_yX5_leastOf) rfl rfl rfl (hts _ m_z_RX5) (hts _ m_m_RX5_83) ⟨by decide +kernel, by decide +kernel, by decide +kernel⟩ ⟨Nat.le_of_ble_eq_true rfl, Nat.le_of_ble_eq_true rfl⟩, hts _ m_s_yX5_leastOf⟩ (zPreS hK hN hZ hP hD hS hA [] (by decide) rfl rfl) rfl rfl hl.1 rfl (lv_room (Nat.le_of_ble_eq_true rfl)) dX5_lawFault_180 ⟨Nat.le_of_ble_eq_true rfl, Nat.le_of_ble_eq_true rfl⟩) (fun r u H locs hw hP hD hS => ?_)
                        obtain ⟨y105, rfl⟩ : ∃ z, z = r := ⟨_, rfl⟩
                        obtain ⟨q106_0, q106_1, q106_2⟩ := hw
                        have q106_0 : y105.toInt = zlo y73.toInt := q106_0
                        have q106_1 : 0 ≤ y105.toInt := q106_1
                        have q106_2 : y105.toInt ≤ 1 := q106_2
                        have hP : va_P g.1 vwCl [(h3, .inl (zI g, 5, .inl G1_0)), (h0, .inr (5, [.ref h1, .int f0, .ref h2, .int f1, .int g0_39, .ref h3, .ref h4, .ref h5, .ref h6, .int f3, .ref h7, .ref h8, .ref h9, .int f4, .ref h10, .ref h11, .ref h12, .ref h13, .ref h14, .ref h15, .ref h16, .ref h17, .ref h18, .ref h19, .ref h20, .ref h21, .ref h22])), (h2, .inl (zI g, 60, .inl Z1))] H := hP
                        have hD : va_D A [(h3, .inl (zI g, 5, .inl G1_0)), (h0, .inr (5, [.ref h1, .int f0, .ref h2, .int f1, .int g0_39, .ref h3, .ref h4, .ref h5, .ref h6, .int f3, .ref h7, .ref h8, .ref h9, .int f4, .ref h10, .ref h11, .ref h12, .ref h13, .ref h14, .ref h15, .ref h16, .ref h17, .ref h18, .ref h19, .ref h20, .ref h21, .ref h22])), (h2, .inl (zI g, 60, .inl Z1))] := hD
                        refine lv_i2l (v := y105.toInt64) hx hb dX5_lawFault_183 rfl ?_
                        refine lv_iload_n hx hb dX5_lawFault_184 rfl (lv_at hl 2 rfl) ?_
                        refine z_calli (wr := [(h3, .inl (zI g, 5, .inl G1_0)), (h0, .inr (5, [.ref h1, .int f0, .ref h2, .int f1, .int g0_39, .ref h3, .ref h4, .ref h5, .ref h6, .int f3, .ref h7, .ref h8, .ref h9, .int f4, .ref h10, .ref h11, .ref h12, .ref h13, .ref h14, .ref h15, .ref h16, .ref h17, .ref h18, .ref h19, .ref h20, .ref h21, .ref h22])), (h2, .inl (zI g, 60, .inl Z1))]) hP hD hS hA [] [0, 1, 2] (by decide) rfl rfl (by decide) (va_runS (As := [.int y73]) (rest := [.long y105.toInt64, .long v4_39.toInt64]) ⟨hx, hb, hml, hown, hts⟩ (gX5_mostOf l g  H.size y73) ⟨callB_of 1 hts (zGood m_o_yX5_mostOf) rfl rfl rfl (hts _ m_z_RX5) (hts _ m_m_RX5_87) ⟨by decide +kernel, by decide +kernel, by decide +kernel⟩ ⟨Nat.le_of_ble_eq_true rfl, Nat.le_of_ble_eq_true rfl⟩, hts _ m_s_yX5_mostOf⟩ (zPreS hK hN hZ hP hD hS hA [] (by decide) rfl rfl) rfl rfl hl.1 rfl (lv_room (Nat.le_of_ble_eq_true rfl)) dX5_lawFault_185 ⟨Nat.le_of_ble_eq_true rfl, Nat.le_of_ble_eq_true rfl⟩) (fun r u H locs hw hP hD hS => ?_)
                        obtain ⟨y107, rfl⟩ : ∃ z, z = r := ⟨_, rfl⟩
                        obtain ⟨q108_0, q108_1, q108_2⟩ := hw
                        have q108_0 : y107.toInt = zhi y73.toInt := q108_0
                        have q108_1 : y107.toInt ≤ 99 := q108_1
                        have q108_2 : 1 ≤ y107.toInt := q108_2
                        have hP : va_P g.1 vwCl [(h3, .inl (zI g, 5, .inl G1_0)), (h0, .inr (5, [.ref h1, .int f0, .ref h2, .int f1, .int g0_39, .ref h3, .ref h4, .ref h5, .ref h6, .int f3, .ref h7, .ref h8, .ref h9, .int f4, .ref h10, .ref h11, .ref h12, .ref h13, .ref h14, .ref h15, .ref h16, .ref h17, .ref h18, .ref h19, .ref h20, .ref h21, .ref h22])), (h2, .inl (zI g, 60, .inl Z1))] H := hP
                        have hD : va_D A [(h3, .inl (zI g, 5, .inl G1_0)), (h0, .inr (5, [.ref h1, .int f0, .ref h2, .int f1, .int g0_39, .ref h3, .ref h4, .ref h5, .ref h6, .int f3, .ref h7, .ref h8, .ref h9, .int f4, .ref h10, .ref h11, .ref h12, .ref h13, .ref h14, .ref h15, .ref h16, .ref h17, .ref h18, .ref h19, .ref h20, .ref h21, .ref h22])), (h2, .inl (zI g, 60, .inl Z1))] := hD
                        refine lv_i2l (v := y107.toInt64) hx hb dX5_lawFault_188 rfl ?_
                        refine z_calli (wr := [(h3, .inl (zI g, 5, .inl G1_0)), (h0, .inr (5, [.ref h1, .int f0, .ref h2, .int f1, .int g0_39, .ref h3, .ref h4, .ref h5, .ref h6, .int f3, .ref h7, .ref h8, .ref h9, .int f4, .ref h10, .ref h11, .ref h12, .ref h13, .ref h14, .ref h15, .ref h16, .ref h17, .ref h18, .ref h19, .ref h20, .ref h21, .ref h22])), (h2, .inl (zI g, 60, .inl Z1))]) hP hD hS hA [] [0, 1, 2] (by decide) rfl rfl (by decide) (va_runS (As := [.long v4_39.toInt64, .long y105.toInt64, .long y107.toInt64]) (rest := []) ⟨hx, hb, hml, hown, hts⟩ (gX5_in l g  H.size v4_39.toInt64 y105.toInt64 y107.toInt64) ⟨callB_of 3 hts (zGood m_o_yX5_in) rfl rfl rfl (hts _ m_z_RX5) (hts _ m_m_RX5_77) ⟨by decide +kernel, by decide +kernel, by decide +kernel⟩ ⟨Nat.le_of_ble_eq_true rfl, Nat.le_of_ble_eq_true rfl⟩, hts _ m_s_yX5_in⟩ (zPreS hK hN hZ hP hD hS hA [] (by decide) rfl rfl) rfl rfl hl.1 rfl (lv_room (Nat.le_of_ble_eq_true rfl)) dX5_lawFault_189 ⟨Nat.le_of_ble_eq_true rfl, Nat.le_of_ble_eq_true rfl⟩) (fun r u H locs hw hP hD hS => ?_)
                        rcases hw with ⟨i_56, rfl⟩ | ⟨i_57, i_58, rfl⟩ | ⟨i_59, i_60, rfl⟩
                        · skip
                          have i_56 : v4_39.toInt < y105.toInt := by simpa only [Int32.toInt_toInt64] using i_56
                          have hP : va_P g.1 vwCl [(h3, .inl (zI g, 5, .inl G1_0)), (h0, .inr (5, [.ref h1, .int f0, .ref h2, .int f1, .int g0_39, .ref h3, .ref h4, .ref h5, .ref h6, .int f3, .ref h7, .ref h8, .ref h9, .int f4, .ref h10, .ref h11, .ref h12, .ref h13, .ref h14, .ref h15, .ref h16, .ref h17, .ref h18, .ref h19, .ref h20, .ref h21, .ref h22])), (h2, .inl (zI g, 60, .inl Z1))] H := hP
                          have hD : va_D A [(h3, .inl (zI g, 5, .inl G1_0)), (h0, .inr (5, [.ref h1, .int f0, .ref h2, .int f1, .int g0_39, .ref h3, .ref h4, .ref h5, .ref h6, .int f3, .ref h7, .ref h8, .ref h9, .int f4, .ref h10, .ref h11, .ref h12, .ref h13, .ref h14, .ref h15, .ref h16, .ref h17, .ref h18, .ref h19, .ref h20, .ref h21, .ref h22])), (h2, .inl (zI g, 60, .inl Z1))] := hD
                          refine lv_if_ne (tgt := 197) hx hb dX5_lawFault_192 (by decide) (fun h => absurd h (by decide +kernel)) (fun _ => ?_)
                          have c2 : (ze Z1 f1.toInt w68.toInt = zq Z1 f1.toInt w68.toInt ∨ ¬ zft (zr Z1 f1.toInt w68.toInt) (zv Z1 f1.toInt w68.toInt)) := Or.inr (fun h => by
                            rw [← hzr, ← hv] at h
                            have h1 := h.1
                            have h2 := h.2
                            omega)
                          have hzb := zRL_bad2 hI72 c1n c2
                          have hI109 : zTold Z1 f1.toInt G1_0 := zTold_neg (by omega)
                          refine lv_iload_n hx hb dX5_lawFault_195 rfl (lv_at hl 3 rfl) ?_
                          have hP9 := hP.sub (ws' := [(h0, .inr (5, [.ref h1, .int f0, .ref h2, .int f1, .int g0_39, .ref h3, .ref h4, .ref h5, .ref h6, .int f3, .ref h7, .ref h8, .ref h9, .int f4, .ref h10, .ref h11, .ref h12, .ref h13, .ref h14, .ref h15, .ref h16, .ref h17, .ref h18, .ref h19, .ref h20, .ref h21, .ref h22])), (h2, .inl (zI g, 60, .inl Z1)), (h3, .inl (zI g, 5, .inl G1_0))]) [1, 2, 0] rfl
                          have hD9 := hD.sub (ws' := [(h0, .inr (5, [.ref h1, .int f0, .ref h2, .int f1, .int g0_39, .ref h3, .ref h4, .ref h5, .ref h6, .int f3, .ref h7, .ref h8, .ref h9, .int f4, .ref h10, .ref h11, .ref h12, .ref h13, .ref h14, .ref h15, .ref h16, .ref h17, .ref h18, .ref h19, .ref h20, .ref h21, .ref h22])), (h2, .inl (zI g, 60, .inl Z1)), (h3, .inl (zI g, 5, .inl G1_0))]) [1, 2, 0] (by decide) rfl
                          exact W.iret (v := w78) hx hb hr (fun t ht hW => ⟨⟨w78, ⟨g0_39, G1_0⟩, rfl, ⟨⟨(by first | omega | decide), (by first | omega | decide), (by first | omega | decide), (by first | omega | decide)⟩, ⟨show 0 ≤ g0_39.toInt from by omega, show g0_39.toInt ≤ 60 from by omega⟩, hI109⟩, by rw [ht]; exact hP9, hD9⟩, hS.F ht⟩) hS.2.2 dX5_lawFault_196
                        · skip
                          have i_57 : y105.toInt ≤ v4_39.toInt := by simpa only [Int32.toInt_toInt64] using i_57
                          have i_58 : y107.toInt < v4_39.toInt := by simpa only [Int32.toInt_toInt64] using i_58
                          have hP : va_P g.1 vwCl [(h3, .inl (zI g, 5, .inl G1_0)), (h0, .inr (5, [.ref h1, .int f0, .ref h2, .int f1, .int g0_39, .ref h3, .ref h4, .ref h5, .ref h6, .int f3, .ref h7, .ref h8, .ref h9, .int f4, .ref h10, .ref h11, .ref h12, .ref h13, .ref h14, .ref h15, .ref h16, .ref h17, .ref h18, .ref h19, .ref h20, .ref h21, .ref h22])), (h2, .inl (zI g, 60, .inl Z1))] H := hP
                          have hD : va_D A [(h3, .inl (zI g, 5, .inl G1_0)), (h0, .inr (5, [.ref h1, .int f0, .ref h2, .int f1, .int g0_39, .ref h3, .ref h4, .ref h5, .ref h6, .int f3, .ref h7, .ref h8, .ref h9, .int f4, .ref h10, .ref h11, .ref h12, .ref h13, .ref h14, .ref h15, .ref h16, .ref h17, .ref h18, .ref h19, .ref h20, .ref h21, .ref h22])), (h2, .inl (zI g, 60, .inl Z1))] := hD
                          refine lv_if_ne (tgt := 197) hx hb dX5_lawFault_192 (by decide) (fun h => absurd h (by decide +kernel)) (fun _ => ?_)
                          have c2 : (ze Z1 f1.toInt w68.toInt = zq Z1 f1.toInt w68.toInt ∨ ¬ zft (zr Z1 f1.toInt w68.toInt) (zv Z1 f1.toInt w68.toInt)) := Or.inr (fun h => by
                            rw [← hzr, ← hv] at h
                            have h1 := h.1
                            have h2 := h.2
                            omega)
                          have hzb := zRL_bad2 hI72 c1n c2
                          have hI110 : zTold Z1 f1.toInt G1_0 := zTold_neg (by omega)
                          refine lv_iload_n hx hb dX5_lawFault_195 rfl (lv_at hl 3 rfl) ?_
                          have hP9 := hP.sub (ws' := [(h0, .inr (5, [.ref h1, .int f0, .ref h2, .int f1, .int g0_39, .ref h3, .ref h4, .ref h5, .ref h6, .int f3, .ref h7, .ref h8, .ref h9, .int f4, .ref h10, .ref h11, .ref h12, .ref h13, .ref h14, .ref h15, .ref h16, .ref h17, .ref h18, .ref h19, .ref h20, .ref h21, .ref h22])), (h2, .inl (zI g, 60, .inl Z1)), (h3, .inl (zI g, 5, .inl G1_0))]) [1, 2, 0] rfl
                          have hD9 := hD.sub (ws' := [(h0, .inr (5, [.ref h1, .int f0, .ref h2, .int f1, .int g0_39, .ref h3, .ref h4, .ref h5, .ref h6, .int f3, .ref h7, .ref h8, .ref h9, .int f4, .ref h10, .ref h11, .ref h12, .ref h13, .ref h14, .ref h15, .ref h16, .ref h17, .ref h18, .ref h19, .ref h20, .ref h21, .ref h22])), (h2, .inl (zI g, 60, .inl Z1)), (h3, .inl (zI g, 5, .inl G1_0))]) [1, 2, 0] (by decide) rfl
                          exact W.iret (v := w78) hx hb hr (fun t ht hW => ⟨⟨w78, ⟨g0_39, G1_0⟩, rfl, ⟨⟨(by first | omega | decide), (by first | omega | decide), (by first | omega | decide), (by first | omega | decide)⟩, ⟨show 0 ≤ g0_39.toInt from by omega, show g0_39.toInt ≤ 60 from by omega⟩, hI110⟩, by rw [ht]; exact hP9, hD9⟩, hS.F ht⟩) hS.2.2 dX5_lawFault_196
                        · skip
                          have i_59 : y105.toInt ≤ v4_39.toInt := by simpa only [Int32.toInt_toInt64] using i_59
                          have i_60 : v4_39.toInt ≤ y107.toInt := by simpa only [Int32.toInt_toInt64] using i_60
                          have hP : va_P g.1 vwCl [(h3, .inl (zI g, 5, .inl G1_0)), (h0, .inr (5, [.ref h1, .int f0, .ref h2, .int f1, .int g0_39, .ref h3, .ref h4, .ref h5, .ref h6, .int f3, .ref h7, .ref h8, .ref h9, .int f4, .ref h10, .ref h11, .ref h12, .ref h13, .ref h14, .ref h15, .ref h16, .ref h17, .ref h18, .ref h19, .ref h20, .ref h21, .ref h22])), (h2, .inl (zI g, 60, .inl Z1))] H := hP
                          have hD : va_D A [(h3, .inl (zI g, 5, .inl G1_0)), (h0, .inr (5, [.ref h1, .int f0, .ref h2, .int f1, .int g0_39, .ref h3, .ref h4, .ref h5, .ref h6, .int f3, .ref h7, .ref h8, .ref h9, .int f4, .ref h10, .ref h11, .ref h12, .ref h13, .ref h14, .ref h15, .ref h16, .ref h17, .ref h18, .ref h19, .ref h20, .ref h21, .ref h22])), (h2, .inl (zI g, 60, .inl Z1))] := hD
                          refine lv_if_ne (tgt := 197) hx hb dX5_lawFault_192 (by decide) (fun _ => ?_) (fun h => absurd h (by decide +kernel))
                          have c2n : ¬ (ze Z1 f1.toInt w68.toInt = zq Z1 f1.toInt w68.toInt ∨ ¬ zft (zr Z1 f1.toInt w68.toInt) (zv Z1 f1.toInt w68.toInt)) := fun h => h.elim (fun h => by omega) (fun h => h (by rw [← hzr, ← hv]; exact ⟨by omega, by omega⟩))
                          refine lv_aload_n hx hb dX5_lawFault_197 rfl (lv_at hl 0 rfl) ?_
                          refine va_get (D := g.1) (ci := 5) (v := .ref h3) (C := RX5) (T := TX5) (N := 27) hx hb hts zl_X5 hown hK hP 1 rfl rfl 5 (by decide) (hts _ m_f_RX5_16) (fun _ h => h) rfl dX5_lawFault_198 ?_
                          refine lv_iload_n hx hb dX5_lawFault_201 rfl (lv_at hl 2 rfl) ?_
                          refine lv_iload hx hb dX5_lawFault_202 (lv_at hl 4 rfl) ?_
                          refine va_iast (D := g.1) hx hb hK hP hD hS 0 0 rfl rfl (vp_in_iff.mpr ⟨by omega, by omega⟩) dX5_lawFault_204 (fun H locs hP hD hS => ?_)
                          have hP : va_P g.1 vwCl [(h3, .inl (zI g, 5, .inl (upd G1_0 y73.toNatClampNeg v4_39))), (h0, .inr (5, [.ref h1, .int f0, .ref h2, .int f1, .int g0_39, .ref h3, .ref h4, .ref h5, .ref h6, .int f3, .ref h7, .ref h8, .ref h9, .int f4, .ref h10, .ref h11, .ref h12, .ref h13, .ref h14, .ref h15, .ref h16, .ref h17, .ref h18, .ref h19, .ref h20, .ref h21, .ref h22])), (h2, .inl (zI g, 60, .inl Z1))] H := hP
                          have hD : va_D A [(h3, .inl (zI g, 5, .inl (upd G1_0 y73.toNatClampNeg v4_39))), (h0, .inr (5, [.ref h1, .int f0, .ref h2, .int f1, .int g0_39, .ref h3, .ref h4, .ref h5, .ref h6, .int f3, .ref h7, .ref h8, .ref h9, .int f4, .ref h10, .ref h11, .ref h12, .ref h13, .ref h14, .ref h15, .ref h16, .ref h17, .ref h18, .ref h19, .ref h20, .ref h21, .ref h22])), (h2, .inl (zI g, 60, .inl Z1))] := hD
                          have hI111 : zRQ Z1 f1.toInt w68.toInt v1_0.toInt (upd G1_0 y73.toNatClampNeg v4_39) := zRL_put (r := y73) (v := v4_39) hI72 c1n c2n hzr hv (by omega)
                          obtain ⟨R112, eR112⟩ : ∃ z : Nat → Int32, z = (upd G1_0 y73.toNatClampNeg v4_39) := ⟨_, rfl⟩
                          rw [← eR112] at hP hD hI111
                          have qR112 : (R112 y73.toNatClampNeg).toInt = v4_39.toInt := z_put eR112 (rfl)
                          obtain ⟨y113, ey113⟩ : ∃ z : Int32, z = v1_0 + 1 := ⟨_, rfl⟩
                          have qy113 : y113.toInt = v1_0.toInt + 1 := zi_add ey113 (rfl) rfl (by omega) (by omega)
                          refine lv_iinc (v := y113) (lv' := [(1, .int y113), (0, .ref h0), (2, .int y73), (3, .int w78), (4, .int v4_39)]) hx hb dX5_lawFault_205 hl (k := 1) rfl ey113.symm (by decide) rfl (fun ls hl => ?_)
                          have hc5 := zCt_le R112
                          have hcn := hI111.1
                          have hI114 : zRH Z1 f1.toInt g0_39.toInt (v1_0.toInt + 1) R112 := zRH_of hI111 he (by omega)
                          refine lv_goto (tgt := 27) hx hb dX5_lawFault_208 (by decide) ?_
                          have hP := hP.sub (ws' := [(h0, .inr (5, [.ref h1, .int f0, .ref h2, .int f1, .int g0_39, .ref h3, .ref h4, .ref h5, .ref h6, .int f3, .ref h7, .ref h8, .ref h9, .int f4, .ref h10, .ref h11, .ref h12, .ref h13, .ref h14, .ref h15, .ref h16, .ref h17, .ref h18, .ref h19, .ref h20, .ref h21, .ref h22])), (h2, .inl (zI g, 60, .inl Z1)), (h3, .inl (zI g, 5, .inl R112))]) [1, 2, 0] rfl
                          have hD := hD.sub (ws' := [(h0, .inr (5, [.ref h1, .int f0, .ref h2, .int f1, .int g0_39, .ref h3, .ref h4, .ref h5, .ref h6, .int f3, .ref h7, .ref h8, .ref h9, .int f4, .ref h10, .ref h11, .ref h12, .ref h13, .ref h14, .ref h15, .ref h16, .ref h17, .ref h18, .ref h19, .ref h20, .ref h21, .ref h22])), (h2, .inl (zI g, 60, .inl Z1)), (h3, .inl (zI g, 5, .inl R112))]) [1, 2, 0] (by decide) rfl
                          exact ih1 y113 g0_39 R112 (by omega) (by omega) (zRH_eq hI114 (by omega) (by omega)) (by omega) (by omega) (by omega) _ _ hP hD hS ls (lv_sub hl [1, 0] rfl)
                      · skip
                        have i_49 : 48 ≤ y94.toInt := by (try simp only [Int32.toInt_toInt64] at i_49); exact i_49
                        have i_50 : y94.toInt ≤ 57 := by (try simp only [Int32.toInt_toInt64] at i_50); exact i_50
                        have hP : va_P g.1 vwCl [(h3, .inl (zI g, 5, .inl G1_0)), (h0, .inr (5, [.ref h1, .int f0, .ref h2, .int f1, .int g0_39, .ref h3, .ref h4, .ref h5, .ref h6, .int f3, .ref h7, .ref h8, .ref h9, .int f4, .ref h10, .ref h11, .ref h12, .ref h13, .ref h14, .ref h15, .ref h16, .ref h17, .ref h18, .ref h19, .ref h20, .ref h21, .ref h22])), (h2, .inl (zI g, 60, .inl Z1))] H := hP
                        have hD : va_D A [(h3, .inl (zI g, 5, .inl G1_0)), (h0, .inr (5, [.ref h1, .int f0, .ref h2, .int f1, .int g0_39, .ref h3, .ref h4, .ref h5, .ref h6, .int f3, .ref h7, .ref h8, .ref h9, .int f4, .ref h10, .ref h11, .ref h12, .ref h13, .ref h14, .ref h15, .ref h16, .ref h17, .ref h18, .ref h19, .ref h20, .ref h21, .ref h22])), (h2, .inl (zI g, 60, .inl Z1))] := hD
                        refine lv_if_eq (tgt := 176) hx hb dX5_lawFault_134 (by decide) (fun h => absurd h (by decide +kernel)) (fun _ => ?_)
                        have hdg := zdg_dig (F := Z1) (len := f1.toInt) (a := g0_39.toInt) (by omega) ⟨by omega, by omega⟩
                        have hr9 := zdg_r (F := Z1) (len := f1.toInt) (a := g0_39.toInt + 1) (by omega)
                        refine lv_bipush (v := 10) hx hb dX5_lawFault_137 (by decide) ?_
                        refine lv_iload hx hb dX5_lawFault_139 (lv_at hl 4 rfl) ?_
                        refine lv_imul hx hb dX5_lawFault_141 ?_
                        refine lv_topi (fun y115 ey115 => ?_)
                        have qy115_0 : y115.toInt = 10 * v4_39.toInt := zi_mul ey115 (rfl) (rfl) (by omega) (by omega)
                        refine lv_aload_n hx hb dX5_lawFault_142 rfl (lv_at hl 0 rfl) ?_
                        refine va_get (D := g.1) (ci := 5) (v := .ref h2) (C := RX5) (T := TX5) (N := 27) hx hb hts zl_X5 hown hK hP 1 rfl rfl 2 (by decide) (hts _ m_f_RX5_13) (fun _ h => h) rfl dX5_lawFault_143 ?_
                        refine lv_aload_n hx hb dX5_lawFault_146 rfl (lv_at hl 0 rfl) ?_
                        refine va_get (D := g.1) (ci := 5) (v := .int g0_39) (C := RX5) (T := TX5) (N := 27) hx hb hts zl_X5 hown hK hP 1 rfl rfl 4 (by decide) (hts _ m_f_RX5_118) (fun _ h => h) rfl dX5_lawFault_147 ?_
                        refine va_iald (D := g.1) hx hb hK hP 2 0 rfl rfl (vp_in_iff.mpr ⟨by omega, by omega⟩) dX5_lawFault_150 ?_
                        refine lv_topi (fun y116 ey116 => ?_)
                        have qy116_0 : y116.toInt = (Z1 g0_39.toNatClampNeg).toInt := congrArg Int32.toInt ey116
                        have py116_0 : y116.toInt = zc Z1 g0_39.toInt := congrArg Int32.toInt ey116
                        have py116_1 : 48 ≤ y116.toInt := by omega
                        have py116_2 : y116.toInt ≤ 57 := by omega
                        refine lv_iadd hx hb dX5_lawFault_151 ?_
                        refine lv_topi (fun y117 ey117 => ?_)
                        have qy117_0 : y117.toInt = y115.toInt + y116.toInt := zi_add ey117 (rfl) (rfl) (by omega) (by omega)
                        refine lv_bipush (v := 48) hx hb dX5_lawFault_152 (by decide) ?_
                        refine lv_isub hx hb dX5_lawFault_154 ?_
                        refine lv_topi (fun y118 ey118 => ?_)
                        have qy118_0 : y118.toInt = y117.toInt - 48 := zi_sub ey118 (rfl) (rfl) (by omega) (by omega)
                        refine lv_sipush (v := 1000) hx hb dX5_lawFault_155 (by decide) ?_
                        refine z_calli (wr := [(h3, .inl (zI g, 5, .inl G1_0)), (h0, .inr (5, [.ref h1, .int f0, .ref h2, .int f1, .int g0_39, .ref h3, .ref h4, .ref h5, .ref h6, .int f3, .ref h7, .ref h8, .ref h9, .int f4, .ref h10, .ref h11, .ref h12, .ref h13, .ref h14, .ref h15, .ref h16, .ref h17, .ref h18, .ref h19, .ref h20, .ref h21, .ref h22])), (h2, .inl (zI g, 60, .inl Z1))]) hP hD hS hA [] [0, 1, 2] (by decide) rfl rfl (by decide) (va_runS (As := [.int y118, .int 1000]) (rest := []) ⟨hx, hb, hml, hown, hts⟩ (gX5_lesser l g  H.size y118 (1000 : Int32)) ⟨callB_of 2 hts (zGood m_o_yX5_lesser) rfl rfl rfl (hts _ m_z_RX5) (hts _ m_m_RX5_132) ⟨by decide +kernel, by decide +kernel, by decide +kernel⟩ ⟨Nat.le_of_ble_eq_true rfl, Nat.le_of_ble_eq_true rfl⟩, hts _ m_s_yX5_lesser⟩ (zPreS hK hN hZ hP hD hS hA [] (by decide) rfl rfl) rfl rfl hl.1 rfl (lv_room (Nat.le_of_ble_eq_true rfl)) dX5_lawFault_158 ⟨Nat.le_of_ble_eq_true rfl, Nat.le_of_ble_eq_true rfl⟩) (fun r u H locs hw hP hD hS => ?_)
                        obtain ⟨y119, rfl⟩ : ∃ z, z = r := ⟨_, rfl⟩
                        obtain ⟨q120_0, q120_1, q120_2⟩ := hw
                        have q120_0 : y119.toInt ≤ y118.toInt := q120_0
                        have q120_1 : y119.toInt ≤ 1000 := q120_1
                        have q120_2 : (y119.toInt = y118.toInt ∨ y119.toInt = (1000 : Int)) := q120_2
                        have q121_0 : 0 ≤ y119.toInt := by omega
                        have q121_1 : y119.toInt ≤ 1000 := by omega
                        have hP : va_P g.1 vwCl [(h3, .inl (zI g, 5, .inl G1_0)), (h0, .inr (5, [.ref h1, .int f0, .ref h2, .int f1, .int g0_39, .ref h3, .ref h4, .ref h5, .ref h6, .int f3, .ref h7, .ref h8, .ref h9, .int f4, .ref h10, .ref h11, .ref h12, .ref h13, .ref h14, .ref h15, .ref h16, .ref h17, .ref h18, .ref h19, .ref h20, .ref h21, .ref h22])), (h2, .inl (zI g, 60, .inl Z1))] H := hP
                        have hD : va_D A [(h3, .inl (zI g, 5, .inl G1_0)), (h0, .inr (5, [.ref h1, .int f0, .ref h2, .int f1, .int g0_39, .ref h3, .ref h4, .ref h5, .ref h6, .int f3, .ref h7, .ref h8, .ref h9, .int f4, .ref h10, .ref h11, .ref h12, .ref h13, .ref h14, .ref h15, .ref h16, .ref h17, .ref h18, .ref h19, .ref h20, .ref h21, .ref h22])), (h2, .inl (zI g, 60, .inl Z1))] := hD
                        have hv9 : y119.toInt = min 1000 (10 * v4_39.toInt + zc Z1 g0_39.toInt - 48) := by omega
                        refine lv_istore (lv' := [(4, .int y119), (0, .ref h0), (1, .int v1_0), (2, .int y73), (3, .int w78)]) hx hb dX5_lawFault_161 hl (by decide) rfl (fun ls hl => ?_)
                        refine lv_aload_n hx hb dX5_lawFault_163 rfl (lv_at hl 1 rfl) ?_
                        refine lv_dup hx hb dX5_lawFault_164 rfl ?_
                        refine va_get (D := g.1) (ci := 5) (v := .int g0_39) (C := RX5) (T := TX5) (N := 27) hx hb hts zl_X5 hown hK hP 1 rfl rfl 4 (by decide) (hts _ m_f_RX5_118) (fun _ h => h) rfl dX5_lawFault_165 ?_
                        refine lv_iconst (v := 1) hx hb dX5_lawFault_168 (by decide) ?_
                        refine lv_iadd hx hb dX5_lawFault_169 ?_
                        refine lv_topi (fun y122 ey122 => ?_)
                        have qy122_0 : y122.toInt = g0_39.toInt + 1 := zi_add ey122 (rfl) (rfl) (by omega) (by omega)
                        refine va_put (D := g.1) (ci := 5) (v := .int y122) (ty := .int) (C := RX5) (T := TX5) (N := 27) hx hb hts zl_X5 tyX5 tyX5_ok nmX5 hown hK hP hD hS 1 rfl rfl 4 (by decide) (hts _ m_f_RX5_118) (fun _ h => h) rfl (by decide +kernel) rfl rfl (Nat.le_of_ble_eq_true rfl) dX5_lawFault_170 (fun H locs hP hD hS => ?_)
                        have hP : va_P g.1 vwCl [(h3, .inl (zI g, 5, .inl G1_0)), (h0, .inr (5, [.ref h1, .int f0, .ref h2, .int f1, .int y122, .ref h3, .ref h4, .ref h5, .ref h6, .int f3, .ref h7, .ref h8, .ref h9, .int f4, .ref h10, .ref h11, .ref h12, .ref h13, .ref h14, .ref h15, .ref h16, .ref h17, .ref h18, .ref h19, .ref h20, .ref h21, .ref h22])), (h2, .inl (zI g, 60, .inl Z1))] H := hP
                        have hD : va_D A [(h3, .inl (zI g, 5, .inl G1_0)), (h0, .inr (5, [.ref h1, .int f0, .ref h2, .int f1, .int y122, .ref h3, .ref h4, .ref h5, .ref h6, .int f3, .ref h7, .ref h8, .ref h9, .int f4, .ref h10, .ref h11, .ref h12, .ref h13, .ref h14, .ref h15, .ref h16, .ref h17, .ref h18, .ref h19, .ref h20, .ref h21, .ref h22])), (h2, .inl (zI g, 60, .inl Z1))] := hD
                        have hz9 : zdg Z1 f1.toInt y122.toInt = zdg Z1 f1.toInt w78.toInt := by
                          rw [(by omega : y122.toInt = g0_39.toInt + 1), ← hdg]
                          omega
                        have hn9 : zNu Z1 (zdg Z1 f1.toInt w78.toInt) y122.toInt y119.toInt = zNu Z1 (zdg Z1 f1.toInt w78.toInt) w78.toInt 0 := by
                          have h1 := zNu_s (F := Z1) (b := zdg Z1 f1.toInt w78.toInt) (a := g0_39.toInt) (v := v4_39.toInt) (by omega)
                          rw [(by omega : y122.toInt = g0_39.toInt + 1), hv9, ← h1]
                          omega
                        refine lv_goto (tgt := 104) hx hb dX5_lawFault_173 (by decide) ?_
                        exact ih40 y119 y122 (by omega) (by omega) (by omega) (by omega) (by omega) (by omega) (by omega) (by omega) _ _ hP hD hS ls (lv_sub hl [1, 2, 3, 4, 0] rfl)
                have : (0 : Int32).toInt = 0 := rfl
                exact loop104_39 ((60 - w78.toInt : Int).toNat + 1) (0 : Int32) w78 (by omega) (by omega) (by omega) (by omega) (by omega) (by omega) (by omega) (by omega) _ _ hP hD hS ls (lv_sub hl [3, 4, 2, 1, 0] rfl)
            · have i_33 : 0 ≤ y76.toInt := z_nlt (rfl) (rfl) c_33
              have c1 : (zr Z1 f1.toInt w68.toInt < 0 ∨ 0 ≤ (G1_0 (zr Z1 f1.toInt w68.toInt).toNat).toInt) := Or.inr (by rw [← z_tn (i := y73) hzr (by omega)]; omega)
              have hzb := zRL_bad1 hI72 c1
              have hI123 : zTold Z1 f1.toInt G1_0 := zTold_neg (by omega)
              refine lv_aload_n hx hb dX5_lawFault_59 rfl (lv_at hl 1 rfl) ?_
              refine va_get (D := g.1) (ci := 5) (v := .int w68) (C := RX5) (T := TX5) (N := 27) hx hb hts zl_X5 hown hK hP 1 rfl rfl 4 (by decide) (hts _ m_f_RX5_118) (fun _ h => h) rfl dX5_lawFault_60 ?_
              have hP9 := hP.sub (ws' := [(h0, .inr (5, [.ref h1, .int f0, .ref h2, .int f1, .int w68, .ref h3, .ref h4, .ref h5, .ref h6, .int f3, .ref h7, .ref h8, .ref h9, .int f4, .ref h10, .ref h11, .ref h12, .ref h13, .ref h14, .ref h15, .ref h16, .ref h17, .ref h18, .ref h19, .ref h20, .ref h21, .ref h22])), (h2, .inl (zI g, 60, .inl Z1)), (h3, .inl (zI g, 5, .inl G1_0))]) [1, 2, 0] rfl
              have hD9 := hD.sub (ws' := [(h0, .inr (5, [.ref h1, .int f0, .ref h2, .int f1, .int w68, .ref h3, .ref h4, .ref h5, .ref h6, .int f3, .ref h7, .ref h8, .ref h9, .int f4, .ref h10, .ref h11, .ref h12, .ref h13, .ref h14, .ref h15, .ref h16, .ref h17, .ref h18, .ref h19, .ref h20, .ref h21, .ref h22])), (h2, .inl (zI g, 60, .inl Z1)), (h3, .inl (zI g, 5, .inl G1_0))]) [1, 2, 0] (by decide) rfl
              exact W.iret (v := w68) hx hb hr (fun t ht hW => ⟨⟨w68, ⟨w68, G1_0⟩, rfl, ⟨⟨(by first | omega | decide), (by first | omega | decide), (by first | omega | decide), (by first | omega | decide)⟩, ⟨show 0 ≤ w68.toInt from by omega, show w68.toInt ≤ 60 from by omega⟩, hI123⟩, by rw [ht]; exact hP9, hD9⟩, hS.F ht⟩) hS.2.2 dX5_lawFault_63
  have : (0 : Int32).toInt = 0 := rfl
  exact loop27_0 ((60 - 0 : Int).toNat + 1) (0 : Int32) (0 : Int32) R4 (by omega) (by omega) (zRH_eq hI6 (by omega) (by omega)) (by omega) (by omega) (by omega) _ _ hP hD hS ls (lv_sub hl [1, 0] rfl)

set_option maxHeartbeats 8000000 in
set_option maxRecDepth 100000 in
theorem gX5_together (l : Launch) (g : zG) (K : Prop) (B C : zBk) (hB : bOk B) (h0 h1 h2 h3 h4 h5 h6 h7 h8 h9 h10 h11 h12 h13 h14 h15 h16 h17 h18 h19 h20 h21 h22 : Nat) (sz : Nat) (p1 : Int32) (f0 : Int32) (f1 : Int32) (f2 : Int32) (f3 : Int32) (f4 : Int32) (Z0 : Nat → Int32) (Z8 : Nat → Int32) (hp0 : 0 ≤ p1.toInt) (hp1 : p1.toInt ≤ 31) (hp2 : p1.toInt < zPw B.n) (hf_f1 : 0 ≤ f1.toInt ∧ f1.toInt ≤ 60) (hf_f2 : 0 ≤ f2.toInt ∧ f2.toInt ≤ 60) (hf_f3 : 0 ≤ f3.toInt ∧ f3.toInt ≤ 31) (hf_f4 : 0 ≤ f4.toInt ∧ f4.toInt ≤ 1000) (hF_Z0 : iW K B C Z0) (hF_Z8 : iGa Z8) : Met l yX5_together (.code yX5_together cX5_together 4 (some .int) :: zBig) ({ frames := 1, cells := 0, slots := 0, locals := 21 }) (va_Pc [.ref h0, .int p1] (zPre g [(h0, .inr (5, [.ref h1, .int f0, .ref h2, .int f1, .int f2, .ref h3, .ref h4, .ref h5, .ref h6, .int f3, .ref h7, .ref h8, .ref h9, .int f4, .ref h10, .ref h11, .ref h12, .ref h13, .ref h14, .ref h15, .ref h16, .ref h17, .ref h18, .ref h19, .ref h20, .ref h21, .ref h22])), (h1, .inl (zI g, 180, .inl Z0)), (h9, .inl (zI g, 5, .inl Z8))] sz)) (va_Qi (fun (r : Int32) (u : Nat) => r.toInt = zGs (zib p1) (zIv Z8) 5 ∧ -5000 ≤ r.toInt ∧ r.toInt ≤ 5000) (zPost g (fun u : Nat => [(h0, .inr (5, [.ref h1, .int f0, .ref h2, .int f1, .int f2, .ref h3, .ref h4, .ref h5, .ref h6, .int f3, .ref h7, .ref h8, .ref h9, .int f4, .ref h10, .ref h11, .ref h12, .ref h13, .ref h14, .ref h15, .ref h16, .ref h17, .ref h18, .ref h19, .ref h20, .ref h21, .ref h22])), (h1, .inl (zI g, 180, .inl Z0)), (h9, .inl (zI g, 5, .inl Z8))]) (va_A [(h0, .inr (5, [.ref h1, .int f0, .ref h2, .int f1, .int f2, .ref h3, .ref h4, .ref h5, .ref h6, .int f3, .ref h7, .ref h8, .ref h9, .int f4, .ref h10, .ref h11, .ref h12, .ref h13, .ref h14, .ref h15, .ref h16, .ref h17, .ref h18, .ref h19, .ref h20, .ref h21, .ref h22])), (h1, .inl (zI g, 180, .inl Z0)), (h9, .inl (zI g, 5, .inl Z8))] sz)) (va_A [(h0, .inr (5, [.ref h1, .int f0, .ref h2, .int f1, .int f2, .ref h3, .ref h4, .ref h5, .ref h6, .int f3, .ref h7, .ref h8, .ref h9, .int f4, .ref h10, .ref h11, .ref h12, .ref h13, .ref h14, .ref h15, .ref h16, .ref h17, .ref h18, .ref h19, .ref h20, .ref h21, .ref h22])), (h1, .inl (zI g, 180, .inl Z0)), (h9, .inl (zI g, 5, .inl Z8))] sz)) 0 0 (va_A [(h0, .inr (5, [.ref h1, .int f0, .ref h2, .int f1, .int f2, .ref h3, .ref h4, .ref h5, .ref h6, .int f3, .ref h7, .ref h8, .ref h9, .int f4, .ref h10, .ref h11, .ref h12, .ref h13, .ref h14, .ref h15, .ref h16, .ref h17, .ref h18, .ref h19, .ref h20, .ref h21, .ref h22])), (h1, .inl (zI g, 180, .inl Z0)), (h9, .inl (zI g, 5, .inl Z8))] sz) := by
  refine zMetI rfl (Nat.le_of_ble_eq_true rfl) ?_
  intro p e s m args below meth c A ls hx hb hml hr hlocks hin hown hts hK hN hZ hP hD hA hS hAe hl
  have hown : s.vm.findClass RX5 = some m.cls := hown
  have hl : lv_has ls 4 [(0, .ref h0), (1, .int p1)] := hl
  have hnr := iW_nr hF_Z0
  refine lv_iconst (v := 0) hx hb dX5_together_0 (by decide) ?_
  refine lv_istore_n (lv' := [(2, .int 0), (0, .ref h0), (1, .int p1)]) hx hb dX5_together_1 rfl hl (by decide) rfl (fun ls hl => ?_)
  have hg0 : zGs (zib p1) (zIv Z8) (0 : Int32).toInt.toNat = 0 := rfl
  refine lv_iconst (v := 0) hx hb dX5_together_2 (by decide) ?_
  refine lv_istore_n (lv' := [(3, .int 0), (2, .int 0), (0, .ref h0), (1, .int p1)]) hx hb dX5_together_3 rfl hl (by decide) rfl (fun ls hl => ?_)
  have loop4_0 : ∀ (n1 : Nat) (v2_0 : Int32) (v3_0 : Int32) (n1_0 : 0 ≤ v3_0.toInt) (n1_1 : v3_0.toInt ≤ B.n) (n1_2 : -1000 * v3_0.toInt ≤ v2_0.toInt) (n1_3 : v2_0.toInt ≤ 1000 * v3_0.toInt) (n1_4 : v2_0.toInt = zGs (zib p1) (zIv Z8) v3_0.toInt.toNat) (hm1 : 5 - v3_0.toInt < (n1 : Int)) (H : Heap) (locs : List Loc), va_P g.1 vwCl [(h0, .inr (5, [.ref h1, .int f0, .ref h2, .int f1, .int f2, .ref h3, .ref h4, .ref h5, .ref h6, .int f3, .ref h7, .ref h8, .ref h9, .int f4, .ref h10, .ref h11, .ref h12, .ref h13, .ref h14, .ref h15, .ref h16, .ref h17, .ref h18, .ref h19, .ref h20, .ref h21, .ref h22])), (h1, .inl (zI g, 180, .inl Z0)), (h9, .inl (zI g, 5, .inl Z8))] H → va_D A [(h0, .inr (5, [.ref h1, .int f0, .ref h2, .int f1, .int f2, .ref h3, .ref h4, .ref h5, .ref h6, .int f3, .ref h7, .ref h8, .ref h9, .int f4, .ref h10, .ref h11, .ref h12, .ref h13, .ref h14, .ref h15, .ref h16, .ref h17, .ref h18, .ref h19, .ref h20, .ref h21, .ref h22])), (h1, .inl (zI g, 180, .inl Z0)), (h9, .inl (zI g, 5, .inl Z8))] → va_S A s.heap H locs → ∀ (ls : Array Slot), lv_has ls 4 [(0, .ref h0), (1, .int p1), (2, .int v2_0), (3, .int v3_0)] → W p l e ({ frames := 1, cells := 0, slots := 0, locals := 21 }) s m args below meth c H locs 0 0 (MQ below (va_Qi (fun (r : Int32) (u : Nat) => r.toInt = zGs (zib p1) (zIv Z8) 5 ∧ -5000 ≤ r.toInt ∧ r.toInt ≤ 5000) (zPost g (fun u : Nat => [(h0, .inr (5, [.ref h1, .int f0, .ref h2, .int f1, .int f2, .ref h3, .ref h4, .ref h5, .ref h6, .int f3, .ref h7, .ref h8, .ref h9, .int f4, .ref h10, .ref h11, .ref h12, .ref h13, .ref h14, .ref h15, .ref h16, .ref h17, .ref h18, .ref h19, .ref h20, .ref h21, .ref h22])), (h1, .inl (zI g, 180, .inl Z0)), (h9, .inl (zI g, 5, .inl Z8))]) A) A) args s 0 0 A) (F0 m 4 ls []) := by
    intro n1
    induction n1 with
    | zero => intro v2_0 v3_0 n1_0 n1_1 n1_2 n1_3 n1_4 hm1; exfalso; omega
    | succ n1 ih1 =>
      intro v2_0 v3_0 n1_0 n1_1 n1_2 n1_3 n1_4 hm1 H locs hP hD hS ls hl
      refine lv_iload_n hx hb dX5_together_4 rfl (lv_at hl 3 rfl) ?_
      refine lv_aload_n hx hb dX5_together_5 rfl (lv_at hl 0 rfl) ?_
      refine va_get (D := g.1) (ci := 5) (v := .ref h1) (C := RX5) (T := TX5) (N := 27) hx hb hts zl_X5 hown hK hP 0 rfl rfl 0 (by decide) (hts _ m_f_RX5_7) (fun _ h => h) rfl dX5_together_6 ?_
      refine lv_bipush (v := 12) hx hb dX5_together_9 (by decide) ?_
      refine va_iald (D := g.1) hx hb hK hP 1 0 rfl rfl (vp_in_iff.mpr (by decide +kernel)) dX5_together_11 ?_
      refine lv_topi (fun y0 ey0 => ?_)
      have qy0_0 : 0 ≤ y0.toInt := ((iW_at (i := (12 : Int32)) (a := 12) hF_Z0 (rfl) (by omega) (by omega) ey0).2.2.2.2.2 (by omega)).1
      have qy0_1 : y0.toInt ≤ 5 := ((iW_at (i := (12 : Int32)) (a := 12) hF_Z0 (rfl) (by omega) (by omega) ey0).2.2.2.2.2 (by omega)).2
      have qy0_2 : y0.toInt = (Z0 12).toInt := congrArg Int32.toInt ey0
      have qy0_3 : y0.toInt = B.n := (congrArg Int32.toInt ey0).trans (iW_n hF_Z0)
      refine lv_icmp_ge (tgt := 42) hx hb dX5_together_12 (by decide) (fun c_1 => ?_) (fun c_1 => ?_)
      · have i_1 : y0.toInt ≤ v3_0.toInt := z_le (rfl) (rfl) c_1
        have hke : v3_0.toInt = B.n := by omega
        have hsx : zGs (zib p1) (zIv Z8) v3_0.toInt.toNat = zGs (zib p1) (zIv Z8) 5 := zGs_out (by omega) (fun b hb hb5 h => by have := zib_n (n := B.n) (by omega) (by omega) (by omega) (by omega) hb5 h; omega)
        refine lv_iload_n hx hb dX5_together_42 rfl (lv_at hl 2 rfl) ?_
        have hP9 := hP.sub (ws' := [(h0, .inr (5, [.ref h1, .int f0, .ref h2, .int f1, .int f2, .ref h3, .ref h4, .ref h5, .ref h6, .int f3, .ref h7, .ref h8, .ref h9, .int f4, .ref h10, .ref h11, .ref h12, .ref h13, .ref h14, .ref h15, .ref h16, .ref h17, .ref h18, .ref h19, .ref h20, .ref h21, .ref h22])), (h1, .inl (zI g, 180, .inl Z0)), (h9, .inl (zI g, 5, .inl Z8))]) [0, 1, 2] rfl
        have hD9 := hD.sub (ws' := [(h0, .inr (5, [.ref h1, .int f0, .ref h2, .int f1, .int f2, .ref h3, .ref h4, .ref h5, .ref h6, .int f3, .ref h7, .ref h8, .ref h9, .int f4, .ref h10, .ref h11, .ref h12, .ref h13, .ref h14, .ref h15, .ref h16, .ref h17, .ref h18, .ref h19, .ref h20, .ref h21, .ref h22])), (h1, .inl (zI g, 180, .inl Z0)), (h9, .inl (zI g, 5, .inl Z8))]) [0, 1, 2] (by decide) rfl
        exact W.iret (v := v2_0) hx hb hr (fun t ht hW => ⟨⟨v2_0, (0 : Nat), rfl, ⟨(by first | omega | decide), (by first | omega | decide), (by first | omega | decide)⟩, by rw [ht]; exact hP9, hD9⟩, hS.F ht⟩) hS.2.2 dX5_together_43
      · have i_1 : v3_0.toInt < y0.toInt := z_nle (rfl) (rfl) c_1
        refine lv_iload_n hx hb dX5_together_15 rfl (lv_at hl 2 rfl) ?_
        refine lv_iload_n hx hb dX5_together_16 rfl (lv_at hl 1 rfl) ?_
        refine lv_iload_n hx hb dX5_together_17 rfl (lv_at hl 3 rfl) ?_
        refine z_calli (wr := [(h0, .inr (5, [.ref h1, .int f0, .ref h2, .int f1, .int f2, .ref h3, .ref h4, .ref h5, .ref h6, .int f3, .ref h7, .ref h8, .ref h9, .int f4, .ref h10, .ref h11, .ref h12, .ref h13, .ref h14, .ref h15, .ref h16, .ref h17, .ref h18, .ref h19, .ref h20, .ref h21, .ref h22])), (h1, .inl (zI g, 180, .inl Z0)), (h9, .inl (zI g, 5, .inl Z8))]) hP hD hS hA [] [0, 1, 2] (by decide) rfl rfl (by decide) (va_runS (As := [.int p1, .int v3_0]) (rest := [.int v2_0]) ⟨hx, hb, hml, hown, hts⟩ (gX5_has l g  H.size p1 v3_0) ⟨callB_of 2 hts (zGood m_o_yX5_has) rfl rfl rfl (hts _ m_z_RX5) (hts _ m_m_RX5_156) ⟨by decide +kernel, by decide +kernel, by decide +kernel⟩ ⟨Nat.le_of_ble_eq_true rfl, Nat.le_of_ble_eq_true rfl⟩, hts _ m_s_yX5_has⟩ (zPreS hK hN hZ hP hD hS hA [] (by decide) rfl rfl) rfl rfl hl.1 rfl (lv_room (Nat.le_of_ble_eq_true rfl)) dX5_together_18 ⟨Nat.le_of_ble_eq_true rfl, Nat.le_of_ble_eq_true rfl⟩) (fun r u H locs hw hP hD hS => ?_)
        rcases hw with ⟨i_2, rfl⟩ | ⟨i_3, rfl⟩
        · skip
          have i_2 : zbit p1 v3_0 = 1 := i_2
          have hP : va_P g.1 vwCl [(h0, .inr (5, [.ref h1, .int f0, .ref h2, .int f1, .int f2, .ref h3, .ref h4, .ref h5, .ref h6, .int f3, .ref h7, .ref h8, .ref h9, .int f4, .ref h10, .ref h11, .ref h12, .ref h13, .ref h14, .ref h15, .ref h16, .ref h17, .ref h18, .ref h19, .ref h20, .ref h21, .ref h22])), (h1, .inl (zI g, 180, .inl Z0)), (h9, .inl (zI g, 5, .inl Z8))] H := hP
          have hD : va_D A [(h0, .inr (5, [.ref h1, .int f0, .ref h2, .int f1, .int f2, .ref h3, .ref h4, .ref h5, .ref h6, .int f3, .ref h7, .ref h8, .ref h9, .int f4, .ref h10, .ref h11, .ref h12, .ref h13, .ref h14, .ref h15, .ref h16, .ref h17, .ref h18, .ref h19, .ref h20, .ref h21, .ref h22])), (h1, .inl (zI g, 180, .inl Z0)), (h9, .inl (zI g, 5, .inl Z8))] := hD
          refine lv_if_eq (tgt := 33) hx hb dX5_together_21 (by decide) (fun h => absurd h (by decide +kernel)) (fun _ => ?_)
          refine lv_aload_n hx hb dX5_together_24 rfl (lv_at hl 0 rfl) ?_
          refine va_get (D := g.1) (ci := 5) (v := .ref h9) (C := RX5) (T := TX5) (N := 27) hx hb hts zl_X5 hown hK hP 0 rfl rfl 12 (by decide) (hts _ m_f_RX5_34) (fun _ h => h) rfl dX5_together_25 ?_
          refine lv_iload_n hx hb dX5_together_28 rfl (lv_at hl 3 rfl) ?_
          refine va_iald (D := g.1) hx hb hK hP 2 0 rfl rfl (vp_in_iff.mpr ⟨by omega, by omega⟩) dX5_together_29 ?_
          refine lv_topi (fun y1 ey1 => ?_)
          have qy1_0 : (-1000) ≤ y1.toInt := (i_at (N := 5) (lo := (-1000)) (hi := 1000) (i := v3_0) (a := v3_0.toInt) hF_Z8 (rfl) (by omega) (by omega) ey1).1
          have qy1_1 : y1.toInt ≤ 1000 := (i_at (N := 5) (lo := (-1000)) (hi := 1000) (i := v3_0) (a := v3_0.toInt) hF_Z8 (rfl) (by omega) (by omega) ey1).2
          have qy1_2 : y1.toInt = (Z8 v3_0.toNatClampNeg).toInt := congrArg Int32.toInt ey1
          have py1_0 : y1.toInt = zIv Z8 v3_0.toInt.toNat := congrArg Int32.toInt ey1
          refine lv_goto (tgt := 34) hx hb dX5_together_30 (by decide) ?_
          refine lv_iadd hx hb dX5_together_34 ?_
          refine lv_topi (fun y2 ey2 => ?_)
          have qy2_0 : y2.toInt = v2_0.toInt + y1.toInt := zi_add ey2 (rfl) (rfl) (by omega) (by omega)
          refine lv_istore_n (lv' := [(2, .int y2), (0, .ref h0), (1, .int p1), (3, .int v3_0)]) hx hb dX5_together_35 rfl hl (by decide) rfl (fun ls hl => ?_)
          have hib : zib p1 v3_0.toInt.toNat = zbit p1 v3_0 := (show zib p1 v3_0.toNatClampNeg = zbit p1 v3_0 from zib_i (s := p1) (i := v3_0) rfl (by omega))
          have hst : zGs (zib p1) (zIv Z8) (v3_0.toInt.toNat + 1) = zGs (zib p1) (zIv Z8) v3_0.toInt.toNat + zIv Z8 v3_0.toInt.toNat := zGs_1 (by omega)
          obtain ⟨y3, ey3⟩ : ∃ z : Int32, z = v3_0 + 1 := ⟨_, rfl⟩
          have qy3 : y3.toInt = v3_0.toInt + 1 := zi_add ey3 (rfl) rfl (by omega) (by omega)
          refine lv_iinc (v := y3) (lv' := [(3, .int y3), (2, .int y2), (0, .ref h0), (1, .int p1)]) hx hb dX5_together_36 hl (k := 3) rfl ey3.symm (by decide) rfl (fun ls hl => ?_)
          have hsb : zGs (zib p1) (zIv Z8) y3.toInt.toNat = zGs (zib p1) (zIv Z8) (v3_0.toInt.toNat + 1) := by rw [(by omega : y3.toInt.toNat = v3_0.toInt.toNat + 1)]
          refine lv_goto (tgt := 4) hx hb dX5_together_39 (by decide) ?_
          exact ih1 y2 y3 (by omega) (by omega) (by omega) (by omega) (by omega) (by omega) _ _ hP hD hS ls (lv_sub hl [2, 3, 1, 0] rfl)
        · skip
          have i_3 : zbit p1 v3_0 = 0 := i_3
          have hP : va_P g.1 vwCl [(h0, .inr (5, [.ref h1, .int f0, .ref h2, .int f1, .int f2, .ref h3, .ref h4, .ref h5, .ref h6, .int f3, .ref h7, .ref h8, .ref h9, .int f4, .ref h10, .ref h11, .ref h12, .ref h13, .ref h14, .ref h15, .ref h16, .ref h17, .ref h18, .ref h19, .ref h20, .ref h21, .ref h22])), (h1, .inl (zI g, 180, .inl Z0)), (h9, .inl (zI g, 5, .inl Z8))] H := hP
          have hD : va_D A [(h0, .inr (5, [.ref h1, .int f0, .ref h2, .int f1, .int f2, .ref h3, .ref h4, .ref h5, .ref h6, .int f3, .ref h7, .ref h8, .ref h9, .int f4, .ref h10, .ref h11, .ref h12, .ref h13, .ref h14, .ref h15, .ref h16, .ref h17, .ref h18, .ref h19, .ref h20, .ref h21, .ref h22])), (h1, .inl (zI g, 180, .inl Z0)), (h9, .inl (zI g, 5, .inl Z8))] := hD
          refine lv_if_eq (tgt := 33) hx hb dX5_together_21 (by decide) (fun _ => ?_) (fun h => absurd h (by decide +kernel))
          refine lv_iconst (v := 0) hx hb dX5_together_33 (by decide) ?_
          refine lv_iadd hx hb dX5_together_34 ?_
          refine lv_topi (fun y4 ey4 => ?_)
          have qy4_0 : y4.toInt = v2_0.toInt + 0 := zi_add ey4 (rfl) (rfl) (by omega) (by omega)
          refine lv_istore_n (lv' := [(2, .int y4), (0, .ref h0), (1, .int p1), (3, .int v3_0)]) hx hb dX5_together_35 rfl hl (by decide) rfl (fun ls hl => ?_)
          have hib : zib p1 v3_0.toInt.toNat = zbit p1 v3_0 := (show zib p1 v3_0.toNatClampNeg = zbit p1 v3_0 from zib_i (s := p1) (i := v3_0) rfl (by omega))
          have hst : zGs (zib p1) (zIv Z8) (v3_0.toInt.toNat + 1) = zGs (zib p1) (zIv Z8) v3_0.toInt.toNat := zGs_0 (by omega)
          obtain ⟨y5, ey5⟩ : ∃ z : Int32, z = v3_0 + 1 := ⟨_, rfl⟩
          have qy5 : y5.toInt = v3_0.toInt + 1 := zi_add ey5 (rfl) rfl (by omega) (by omega)
          refine lv_iinc (v := y5) (lv' := [(3, .int y5), (2, .int y4), (0, .ref h0), (1, .int p1)]) hx hb dX5_together_36 hl (k := 3) rfl ey5.symm (by decide) rfl (fun ls hl => ?_)
          have hsb : zGs (zib p1) (zIv Z8) y5.toInt.toNat = zGs (zib p1) (zIv Z8) (v3_0.toInt.toNat + 1) := by rw [(by omega : y5.toInt.toNat = v3_0.toInt.toNat + 1)]
          refine lv_goto (tgt := 4) hx hb dX5_together_39 (by decide) ?_
          exact ih1 y4 y5 (by omega) (by omega) (by omega) (by omega) (by omega) (by omega) _ _ hP hD hS ls (lv_sub hl [2, 3, 1, 0] rfl)
  have : (0 : Int32).toInt = 0 := rfl
  exact loop4_0 ((5 - 0 : Int).toNat + 1) (0 : Int32) (0 : Int32) (by omega) (by omega) (by omega) (by omega) (by omega) (by omega) _ _ hP hD hS ls (lv_sub hl [2, 3, 1, 0] rfl)
set_option maxHeartbeats 8000000 in
set_option maxRecDepth 100000 in
theorem gX5_ring (l : Launch) (g : zG) (K : Prop) (B C : zBk) (hB : bOk B) (h0 h1 h2 h3 h4 h5 h6 h7 h8 h9 h10 h11 h12 h13 h14 h15 h16 h17 h18 h19 h20 h21 h22 : Nat) (sz : Nat) (p1 : Int32) (f0 : Int32) (f1 : Int32) (f2 : Int32) (f3 : Int32) (f4 : Int32) (Z0 : Nat → Int32) (Z4 : Nat → Int32) (Z5 : Nat → Int32) (Z6 : Nat → Int32) (Z7 : Nat → Int32) (Z8 : Nat → Int32) (Z9 : Nat → Int32) (Z10 : Nat → Int32) (Z11 : Nat → Int32) (Z12 : Nat → Int32) (Z13 : Nat → Int32) (Z14 : Nat → Int32) (Z15 : Nat → Int32) (hf_f1 : 0 ≤ f1.toInt ∧ f1.toInt ≤ 60) (hf_f2 : 0 ≤ f2.toInt ∧ f2.toInt ≤ 60) (hf_f3 : 0 ≤ f3.toInt ∧ f3.toInt ≤ 31) (hf_f4 : 0 ≤ f4.toInt ∧ f4.toInt ≤ 1000) (hF_Z0 : iW K B C Z0) (hF_Z4 : iPerm Z4) (hF_Z5 : iMa Z5) (hF_Z6 : iPu Z6) (hF_Z7 : iRo Z7) (hF_Z8 : iGa Z8) : Met l yX5_ring (.code yX5_ring cX5_ring 3 (some .int) :: zBig) ({ frames := 5, cells := 0, slots := 0, locals := 124 }) (va_Pc [.ref h0, .int p1] (zPre g [(h0, .inr (5, [.ref h1, .int f0, .ref h2, .int f1, .int f2, .ref h3, .ref h4, .ref h5, .ref h6, .int f3, .ref h7, .ref h8, .ref h9, .int f4, .ref h10, .ref h11, .ref h12, .ref h13, .ref h14, .ref h15, .ref h16, .ref h17, .ref h18, .ref h19, .ref h20, .ref h21, .ref h22])), (h1, .inl (zI g, 180, .inl Z0)), (h5, .inl (zI g, 6, .inl Z4)), (h6, .inl (zI g, 5, .inl Z5)), (h7, .inl (zI g, 5, .inl Z6)), (h8, .inl (zI g, 5, .inl Z7)), (h9, .inl (zI g, 5, .inl Z8)), (h10, .inl (zI g, 6, .inl Z9)), (h11, .inl (zI g, 6, .inl Z10)), (h12, .inl (zI g, 6, .inl Z11)), (h13, .inl (zI g, 6, .inl Z12)), (h14, .inl (zI g, 6, .inl Z13)), (h15, .inl (zI g, 6, .inl Z14)), (h16, .inl (zI g, 6, .inl Z15))] sz)) (va_Qi (fun (r : Int32) (u : Int32 × Int32 × (Nat → Int32) × (Nat → Int32) × (Nat → Int32) × (Nat → Int32) × (Nat → Int32) × (Nat → Int32) × (Nat → Int32) × (Nat → Int32) × (Nat → Int32) × (Nat → Int32) × (Nat → Int32) × (Nat → Int32)) => (r.toInt = zAring B.n p1 (zSm B.L B.n B.S B.V (zRw B.n B.M) p1 (zIv B.K) (zRw B.n B.P) B.lots.toNat).2.2.1 (zSm B.L B.n B.S B.V (zRw B.n B.M) 0 (zIv B.K) (zRw B.n B.P) B.lots.toNat).2.2.1) ∧ (0 ≤ u.1.toInt ∧ u.1.toInt ≤ 31) ∧ (0 ≤ u.2.1.toInt ∧ u.2.1.toInt ≤ 1000) ∧ iPerm u.2.2.1 ∧ iMa u.2.2.2.1 ∧ iPu u.2.2.2.2.1 ∧ iRo u.2.2.2.2.2.1 ∧ iGa u.2.2.2.2.2.2.1) (zPost g (fun u : Int32 × Int32 × (Nat → Int32) × (Nat → Int32) × (Nat → Int32) × (Nat → Int32) × (Nat → Int32) × (Nat → Int32) × (Nat → Int32) × (Nat → Int32) × (Nat → Int32) × (Nat → Int32) × (Nat → Int32) × (Nat → Int32) => [(h0, .inr (5, [.ref h1, .int f0, .ref h2, .int f1, .int f2, .ref h3, .ref h4, .ref h5, .ref h6, .int u.1, .ref h7, .ref h8, .ref h9, .int u.2.1, .ref h10, .ref h11, .ref h12, .ref h13, .ref h14, .ref h15, .ref h16, .ref h17, .ref h18, .ref h19, .ref h20, .ref h21, .ref h22])), (h1, .inl (zI g, 180, .inl Z0)), (h5, .inl (zI g, 6, .inl u.2.2.1)), (h6, .inl (zI g, 5, .inl u.2.2.2.1)), (h7, .inl (zI g, 5, .inl u.2.2.2.2.1)), (h8, .inl (zI g, 5, .inl u.2.2.2.2.2.1)), (h9, .inl (zI g, 5, .inl u.2.2.2.2.2.2.1)), (h10, .inl (zI g, 6, .inl u.2.2.2.2.2.2.2.1)), (h11, .inl (zI g, 6, .inl u.2.2.2.2.2.2.2.2.1)), (h12, .inl (zI g, 6, .inl u.2.2.2.2.2.2.2.2.2.1)), (h13, .inl (zI g, 6, .inl u.2.2.2.2.2.2.2.2.2.2.1)), (h14, .inl (zI g, 6, .inl u.2.2.2.2.2.2.2.2.2.2.2.1)), (h15, .inl (zI g, 6, .inl u.2.2.2.2.2.2.2.2.2.2.2.2.1)), (h16, .inl (zI g, 6, .inl u.2.2.2.2.2.2.2.2.2.2.2.2.2))]) (va_A [(h0, .inr (5, [.ref h1, .int f0, .ref h2, .int f1, .int f2, .ref h3, .ref h4, .ref h5, .ref h6, .int f3, .ref h7, .ref h8, .ref h9, .int f4, .ref h10, .ref h11, .ref h12, .ref h13, .ref h14, .ref h15, .ref h16, .ref h17, .ref h18, .ref h19, .ref h20, .ref h21, .ref h22])), (h1, .inl (zI g, 180, .inl Z0)), (h5, .inl (zI g, 6, .inl Z4)), (h6, .inl (zI g, 5, .inl Z5)), (h7, .inl (zI g, 5, .inl Z6)), (h8, .inl (zI g, 5, .inl Z7)), (h9, .inl (zI g, 5, .inl Z8)), (h10, .inl (zI g, 6, .inl Z9)), (h11, .inl (zI g, 6, .inl Z10)), (h12, .inl (zI g, 6, .inl Z11)), (h13, .inl (zI g, 6, .inl Z12)), (h14, .inl (zI g, 6, .inl Z13)), (h15, .inl (zI g, 6, .inl Z14)), (h16, .inl (zI g, 6, .inl Z15))] sz)) (va_A [(h0, .inr (5, [.ref h1, .int f0, .ref h2, .int f1, .int f2, .ref h3, .ref h4, .ref h5, .ref h6, .int f3, .ref h7, .ref h8, .ref h9, .int f4, .ref h10, .ref h11, .ref h12, .ref h13, .ref h14, .ref h15, .ref h16, .ref h17, .ref h18, .ref h19, .ref h20, .ref h21, .ref h22])), (h1, .inl (zI g, 180, .inl Z0)), (h5, .inl (zI g, 6, .inl Z4)), (h6, .inl (zI g, 5, .inl Z5)), (h7, .inl (zI g, 5, .inl Z6)), (h8, .inl (zI g, 5, .inl Z7)), (h9, .inl (zI g, 5, .inl Z8)), (h10, .inl (zI g, 6, .inl Z9)), (h11, .inl (zI g, 6, .inl Z10)), (h12, .inl (zI g, 6, .inl Z11)), (h13, .inl (zI g, 6, .inl Z12)), (h14, .inl (zI g, 6, .inl Z13)), (h15, .inl (zI g, 6, .inl Z14)), (h16, .inl (zI g, 6, .inl Z15))] sz)) 0 0 (va_A [(h0, .inr (5, [.ref h1, .int f0, .ref h2, .int f1, .int f2, .ref h3, .ref h4, .ref h5, .ref h6, .int f3, .ref h7, .ref h8, .ref h9, .int f4, .ref h10, .ref h11, .ref h12, .ref h13, .ref h14, .ref h15, .ref h16, .ref h17, .ref h18, .ref h19, .ref h20, .ref h21, .ref h22])), (h1, .inl (zI g, 180, .inl Z0)), (h5, .inl (zI g, 6, .inl Z4)), (h6, .inl (zI g, 5, .inl Z5)), (h7, .inl (zI g, 5, .inl Z6)), (h8, .inl (zI g, 5, .inl Z7)), (h9, .inl (zI g, 5, .inl Z8)), (h10, .inl (zI g, 6, .inl Z9)), (h11, .inl (zI g, 6, .inl Z10)), (h12, .inl (zI g, 6, .inl Z11)), (h13, .inl (zI g, 6, .inl Z12)), (h14, .inl (zI g, 6, .inl Z13)), (h15, .inl (zI g, 6, .inl Z14)), (h16, .inl (zI g, 6, .inl Z15))] sz) := by
  refine zMetI rfl (Nat.le_of_ble_eq_true rfl) ?_
  intro p e s m args below meth c A ls hx hb hml hr hlocks hin hown hts hK hN hZ hP hD hA hS hAe hl
  have hown : s.vm.findClass RX5 = some m.cls := hown
  have hl : lv_has ls 3 [(0, .ref h0), (1, .int p1)] := hl
  have hnr := iW_nr hF_Z0
  have hlr := iW_lr hF_Z0
  refine lv_iload_n hx hb dX5_ring_0 rfl (lv_at hl 1 rfl) ?_
  refine lv_i2l (v := p1.toInt64) hx hb dX5_ring_1 rfl ?_
  refine lv_lconst (v := 0) hx hb dX5_ring_2 (by decide) ?_
  refine lv_iconst (v := 1) hx hb dX5_ring_3 (by decide) ?_
  refine lv_aload_n hx hb dX5_ring_4 rfl (lv_at hl 0 rfl) ?_
  refine va_get (D := g.1) (ci := 5) (v := .ref h1) (C := RX5) (T := TX5) (N := 27) hx hb hts zl_X5 hown hK hP 0 rfl rfl 0 (by decide) (hts _ m_f_RX5_7) (fun _ h => h) rfl dX5_ring_5 ?_
  refine lv_bipush (v := 12) hx hb dX5_ring_8 (by decide) ?_
  refine va_iald (D := g.1) hx hb hK hP 1 0 rfl rfl (vp_in_iff.mpr (by decide +kernel)) dX5_ring_10 ?_
  refine lv_topi (fun y0 ey0 => ?_)
  have qy0_0 : 0 ≤ y0.toInt := ((iW_at (i := (12 : Int32)) (a := 12) hF_Z0 (rfl) (by omega) (by omega) ey0).2.2.2.2.2 (by omega)).1
  have qy0_1 : y0.toInt ≤ 5 := ((iW_at (i := (12 : Int32)) (a := 12) hF_Z0 (rfl) (by omega) (by omega) ey0).2.2.2.2.2 (by omega)).2
  have qy0_2 : y0.toInt = (Z0 12).toInt := congrArg Int32.toInt ey0
  have qy0_3 : y0.toInt = B.n := (congrArg Int32.toInt ey0).trans (iW_n hF_Z0)
  refine lv_ishl hx hb dX5_ring_11 ?_
  refine lv_topi (fun y1 ey1 => ?_)
  have qy1_0 : 1 ≤ y1.toInt := (zi_shl 5 ey1 (rfl) (by omega) (by omega) (by decide)).1
  have qy1_1 : y1.toInt ≤ 32 := (zi_shl 5 ey1 (rfl) (by omega) (by omega) (by decide)).2
  have py1_0 : y1.toInt = zPw B.n := z_pw ey1 (by omega) (by omega) (by omega)
  refine lv_iconst (v := 1) hx hb dX5_ring_12 (by decide) ?_
  refine lv_isub hx hb dX5_ring_13 ?_
  refine lv_topi (fun y2 ey2 => ?_)
  have qy2_0 : y2.toInt = y1.toInt - 1 := zi_sub ey2 (rfl) (rfl) (by omega) (by omega)
  refine lv_i2l (v := y2.toInt64) hx hb dX5_ring_14 rfl ?_
  refine z_calli (wr := [(h0, .inr (5, [.ref h1, .int f0, .ref h2, .int f1, .int f2, .ref h3, .ref h4, .ref h5, .ref h6, .int f3, .ref h7, .ref h8, .ref h9, .int f4, .ref h10, .ref h11, .ref h12, .ref h13, .ref h14, .ref h15, .ref h16, .ref h17, .ref h18, .ref h19, .ref h20, .ref h21, .ref h22])), (h1, .inl (zI g, 180, .inl Z0)), (h5, .inl (zI g, 6, .inl Z4)), (h6, .inl (zI g, 5, .inl Z5)), (h7, .inl (zI g, 5, .inl Z6)), (h8, .inl (zI g, 5, .inl Z7)), (h9, .inl (zI g, 5, .inl Z8)), (h10, .inl (zI g, 6, .inl Z9)), (h11, .inl (zI g, 6, .inl Z10)), (h12, .inl (zI g, 6, .inl Z11)), (h13, .inl (zI g, 6, .inl Z12)), (h14, .inl (zI g, 6, .inl Z13)), (h15, .inl (zI g, 6, .inl Z14)), (h16, .inl (zI g, 6, .inl Z15))]) hP hD hS hA [] [0, 1, 2, 3, 4, 5, 6, 7, 8, 9, 10, 11, 12, 13] (by decide) rfl rfl (by decide) (va_runS (As := [.long p1.toInt64, .long 0, .long y2.toInt64]) (rest := []) ⟨hx, hb, hml, hown, hts⟩ (gX5_in l g  s.heap.size p1.toInt64 (0 : Int64) y2.toInt64) ⟨callB_of 3 hts (zGood m_o_yX5_in) rfl rfl rfl (hts _ m_z_RX5) (hts _ m_m_RX5_77) ⟨by decide +kernel, by decide +kernel, by decide +kernel⟩ ⟨Nat.le_of_ble_eq_true rfl, Nat.le_of_ble_eq_true rfl⟩, hts _ m_s_yX5_in⟩ (zPreS hK hN hZ hP hD hS hA [] (by decide) rfl rfl) rfl rfl hl.1 rfl (lv_room (Nat.le_of_ble_eq_true rfl)) dX5_ring_15 ⟨Nat.le_of_ble_eq_true rfl, Nat.le_of_ble_eq_true rfl⟩) (fun r u H locs hw hP hD hS => ?_)
  rcases hw with ⟨i_0, rfl⟩ | ⟨i_1, i_2, rfl⟩ | ⟨i_3, i_4, rfl⟩
  · skip
    have i_0 : p1.toInt < 0 := by (try simp only [Int32.toInt_toInt64] at i_0); exact i_0
    have hP : va_P g.1 vwCl [(h0, .inr (5, [.ref h1, .int f0, .ref h2, .int f1, .int f2, .ref h3, .ref h4, .ref h5, .ref h6, .int f3, .ref h7, .ref h8, .ref h9, .int f4, .ref h10, .ref h11, .ref h12, .ref h13, .ref h14, .ref h15, .ref h16, .ref h17, .ref h18, .ref h19, .ref h20, .ref h21, .ref h22])), (h1, .inl (zI g, 180, .inl Z0)), (h5, .inl (zI g, 6, .inl Z4)), (h6, .inl (zI g, 5, .inl Z5)), (h7, .inl (zI g, 5, .inl Z6)), (h8, .inl (zI g, 5, .inl Z7)), (h9, .inl (zI g, 5, .inl Z8)), (h10, .inl (zI g, 6, .inl Z9)), (h11, .inl (zI g, 6, .inl Z10)), (h12, .inl (zI g, 6, .inl Z11)), (h13, .inl (zI g, 6, .inl Z12)), (h14, .inl (zI g, 6, .inl Z13)), (h15, .inl (zI g, 6, .inl Z14)), (h16, .inl (zI g, 6, .inl Z15))] H := hP
    have hD : va_D A [(h0, .inr (5, [.ref h1, .int f0, .ref h2, .int f1, .int f2, .ref h3, .ref h4, .ref h5, .ref h6, .int f3, .ref h7, .ref h8, .ref h9, .int f4, .ref h10, .ref h11, .ref h12, .ref h13, .ref h14, .ref h15, .ref h16, .ref h17, .ref h18, .ref h19, .ref h20, .ref h21, .ref h22])), (h1, .inl (zI g, 180, .inl Z0)), (h5, .inl (zI g, 6, .inl Z4)), (h6, .inl (zI g, 5, .inl Z5)), (h7, .inl (zI g, 5, .inl Z6)), (h8, .inl (zI g, 5, .inl Z7)), (h9, .inl (zI g, 5, .inl Z8)), (h10, .inl (zI g, 6, .inl Z9)), (h11, .inl (zI g, 6, .inl Z10)), (h12, .inl (zI g, 6, .inl Z11)), (h13, .inl (zI g, 6, .inl Z12)), (h14, .inl (zI g, 6, .inl Z13)), (h15, .inl (zI g, 6, .inl Z14)), (h16, .inl (zI g, 6, .inl Z15))] := hD
    refine lv_if_eq (tgt := 29) hx hb dX5_ring_18 (by decide) (fun _ => ?_) (fun h => absurd h (by decide +kernel))
    refine lv_ldc (v := (-100001)) hx hb hown (hts _ m_k_RX5_104) dX5_ring_29 ?_
    have hz : zAring B.n p1 (zSm B.L B.n B.S B.V (zRw B.n B.M) p1 (zIv B.K) (zRw B.n B.P) B.lots.toNat).2.2.1 (zSm B.L B.n B.S B.V (zRw B.n B.M) 0 (zIv B.K) (zRw B.n B.P) B.lots.toNat).2.2.1 = (-100001) := by
      unfold zAring
      rw [if_neg (by omega)]
    have : ((-100001) : Int32).toInt = (-100001) := rfl
    have hP9 := hP.sub (ws' := [(h0, .inr (5, [.ref h1, .int f0, .ref h2, .int f1, .int f2, .ref h3, .ref h4, .ref h5, .ref h6, .int f3, .ref h7, .ref h8, .ref h9, .int f4, .ref h10, .ref h11, .ref h12, .ref h13, .ref h14, .ref h15, .ref h16, .ref h17, .ref h18, .ref h19, .ref h20, .ref h21, .ref h22])), (h1, .inl (zI g, 180, .inl Z0)), (h5, .inl (zI g, 6, .inl Z4)), (h6, .inl (zI g, 5, .inl Z5)), (h7, .inl (zI g, 5, .inl Z6)), (h8, .inl (zI g, 5, .inl Z7)), (h9, .inl (zI g, 5, .inl Z8)), (h10, .inl (zI g, 6, .inl Z9)), (h11, .inl (zI g, 6, .inl Z10)), (h12, .inl (zI g, 6, .inl Z11)), (h13, .inl (zI g, 6, .inl Z12)), (h14, .inl (zI g, 6, .inl Z13)), (h15, .inl (zI g, 6, .inl Z14)), (h16, .inl (zI g, 6, .inl Z15))]) [0, 1, 2, 3, 4, 5, 6, 7, 8, 9, 10, 11, 12, 13] rfl
    have hD9 := hD.sub (ws' := [(h0, .inr (5, [.ref h1, .int f0, .ref h2, .int f1, .int f2, .ref h3, .ref h4, .ref h5, .ref h6, .int f3, .ref h7, .ref h8, .ref h9, .int f4, .ref h10, .ref h11, .ref h12, .ref h13, .ref h14, .ref h15, .ref h16, .ref h17, .ref h18, .ref h19, .ref h20, .ref h21, .ref h22])), (h1, .inl (zI g, 180, .inl Z0)), (h5, .inl (zI g, 6, .inl Z4)), (h6, .inl (zI g, 5, .inl Z5)), (h7, .inl (zI g, 5, .inl Z6)), (h8, .inl (zI g, 5, .inl Z7)), (h9, .inl (zI g, 5, .inl Z8)), (h10, .inl (zI g, 6, .inl Z9)), (h11, .inl (zI g, 6, .inl Z10)), (h12, .inl (zI g, 6, .inl Z11)), (h13, .inl (zI g, 6, .inl Z12)), (h14, .inl (zI g, 6, .inl Z13)), (h15, .inl (zI g, 6, .inl Z14)), (h16, .inl (zI g, 6, .inl Z15))]) [0, 1, 2, 3, 4, 5, 6, 7, 8, 9, 10, 11, 12, 13] (by decide) rfl
    exact W.iret (v := (-100001)) hx hb hr (fun t ht hW => ⟨⟨(-100001), ⟨f3, f4, Z4, Z5, Z6, Z7, Z8, Z9, Z10, Z11, Z12, Z13, Z14, Z15⟩, rfl, ⟨(by first | omega | decide), ⟨show 0 ≤ f3.toInt from by omega, show f3.toInt ≤ 31 from by omega⟩, ⟨show 0 ≤ f4.toInt from by omega, show f4.toInt ≤ 1000 from by omega⟩, hF_Z4, hF_Z5, hF_Z6, hF_Z7, hF_Z8⟩, by rw [ht]; exact hP9, hD9⟩, hS.F ht⟩) hS.2.2 dX5_ring_31
  · skip
    have i_1 : 0 ≤ p1.toInt := by (try simp only [Int32.toInt_toInt64] at i_1); exact i_1
    have i_2 : y2.toInt < p1.toInt := by (try simp only [Int32.toInt_toInt64] at i_2); exact i_2
    have hP : va_P g.1 vwCl [(h0, .inr (5, [.ref h1, .int f0, .ref h2, .int f1, .int f2, .ref h3, .ref h4, .ref h5, .ref h6, .int f3, .ref h7, .ref h8, .ref h9, .int f4, .ref h10, .ref h11, .ref h12, .ref h13, .ref h14, .ref h15, .ref h16, .ref h17, .ref h18, .ref h19, .ref h20, .ref h21, .ref h22])), (h1, .inl (zI g, 180, .inl Z0)), (h5, .inl (zI g, 6, .inl Z4)), (h6, .inl (zI g, 5, .inl Z5)), (h7, .inl (zI g, 5, .inl Z6)), (h8, .inl (zI g, 5, .inl Z7)), (h9, .inl (zI g, 5, .inl Z8)), (h10, .inl (zI g, 6, .inl Z9)), (h11, .inl (zI g, 6, .inl Z10)), (h12, .inl (zI g, 6, .inl Z11)), (h13, .inl (zI g, 6, .inl Z12)), (h14, .inl (zI g, 6, .inl Z13)), (h15, .inl (zI g, 6, .inl Z14)), (h16, .inl (zI g, 6, .inl Z15))] H := hP
    have hD : va_D A [(h0, .inr (5, [.ref h1, .int f0, .ref h2, .int f1, .int f2, .ref h3, .ref h4, .ref h5, .ref h6, .int f3, .ref h7, .ref h8, .ref h9, .int f4, .ref h10, .ref h11, .ref h12, .ref h13, .ref h14, .ref h15, .ref h16, .ref h17, .ref h18, .ref h19, .ref h20, .ref h21, .ref h22])), (h1, .inl (zI g, 180, .inl Z0)), (h5, .inl (zI g, 6, .inl Z4)), (h6, .inl (zI g, 5, .inl Z5)), (h7, .inl (zI g, 5, .inl Z6)), (h8, .inl (zI g, 5, .inl Z7)), (h9, .inl (zI g, 5, .inl Z8)), (h10, .inl (zI g, 6, .inl Z9)), (h11, .inl (zI g, 6, .inl Z10)), (h12, .inl (zI g, 6, .inl Z11)), (h13, .inl (zI g, 6, .inl Z12)), (h14, .inl (zI g, 6, .inl Z13)), (h15, .inl (zI g, 6, .inl Z14)), (h16, .inl (zI g, 6, .inl Z15))] := hD
    refine lv_if_eq (tgt := 29) hx hb dX5_ring_18 (by decide) (fun _ => ?_) (fun h => absurd h (by decide +kernel))
    refine lv_ldc (v := (-100001)) hx hb hown (hts _ m_k_RX5_104) dX5_ring_29 ?_
    have hz : zAring B.n p1 (zSm B.L B.n B.S B.V (zRw B.n B.M) p1 (zIv B.K) (zRw B.n B.P) B.lots.toNat).2.2.1 (zSm B.L B.n B.S B.V (zRw B.n B.M) 0 (zIv B.K) (zRw B.n B.P) B.lots.toNat).2.2.1 = (-100001) := by
      unfold zAring
      rw [if_neg (by omega)]
    have : ((-100001) : Int32).toInt = (-100001) := rfl
    have hP9 := hP.sub (ws' := [(h0, .inr (5, [.ref h1, .int f0, .ref h2, .int f1, .int f2, .ref h3, .ref h4, .ref h5, .ref h6, .int f3, .ref h7, .ref h8, .ref h9, .int f4, .ref h10, .ref h11, .ref h12, .ref h13, .ref h14, .ref h15, .ref h16, .ref h17, .ref h18, .ref h19, .ref h20, .ref h21, .ref h22])), (h1, .inl (zI g, 180, .inl Z0)), (h5, .inl (zI g, 6, .inl Z4)), (h6, .inl (zI g, 5, .inl Z5)), (h7, .inl (zI g, 5, .inl Z6)), (h8, .inl (zI g, 5, .inl Z7)), (h9, .inl (zI g, 5, .inl Z8)), (h10, .inl (zI g, 6, .inl Z9)), (h11, .inl (zI g, 6, .inl Z10)), (h12, .inl (zI g, 6, .inl Z11)), (h13, .inl (zI g, 6, .inl Z12)), (h14, .inl (zI g, 6, .inl Z13)), (h15, .inl (zI g, 6, .inl Z14)), (h16, .inl (zI g, 6, .inl Z15))]) [0, 1, 2, 3, 4, 5, 6, 7, 8, 9, 10, 11, 12, 13] rfl
    have hD9 := hD.sub (ws' := [(h0, .inr (5, [.ref h1, .int f0, .ref h2, .int f1, .int f2, .ref h3, .ref h4, .ref h5, .ref h6, .int f3, .ref h7, .ref h8, .ref h9, .int f4, .ref h10, .ref h11, .ref h12, .ref h13, .ref h14, .ref h15, .ref h16, .ref h17, .ref h18, .ref h19, .ref h20, .ref h21, .ref h22])), (h1, .inl (zI g, 180, .inl Z0)), (h5, .inl (zI g, 6, .inl Z4)), (h6, .inl (zI g, 5, .inl Z5)), (h7, .inl (zI g, 5, .inl Z6)), (h8, .inl (zI g, 5, .inl Z7)), (h9, .inl (zI g, 5, .inl Z8)), (h10, .inl (zI g, 6, .inl Z9)), (h11, .inl (zI g, 6, .inl Z10)), (h12, .inl (zI g, 6, .inl Z11)), (h13, .inl (zI g, 6, .inl Z12)), (h14, .inl (zI g, 6, .inl Z13)), (h15, .inl (zI g, 6, .inl Z14)), (h16, .inl (zI g, 6, .inl Z15))]) [0, 1, 2, 3, 4, 5, 6, 7, 8, 9, 10, 11, 12, 13] (by decide) rfl
    exact W.iret (v := (-100001)) hx hb hr (fun t ht hW => ⟨⟨(-100001), ⟨f3, f4, Z4, Z5, Z6, Z7, Z8, Z9, Z10, Z11, Z12, Z13, Z14, Z15⟩, rfl, ⟨(by first | omega | decide), ⟨show 0 ≤ f3.toInt from by omega, show f3.toInt ≤ 31 from by omega⟩, ⟨show 0 ≤ f4.toInt from by omega, show f4.toInt ≤ 1000 from by omega⟩, hF_Z4, hF_Z5, hF_Z6, hF_Z7, hF_Z8⟩, by rw [ht]; exact hP9, hD9⟩, hS.F ht⟩) hS.2.2 dX5_ring_31
  · skip
    have i_3 : 0 ≤ p1.toInt := by (try simp only [Int32.toInt_toInt64] at i_3); exact i_3
    have i_4 : p1.toInt ≤ y2.toInt := by (try simp only [Int32.toInt_toInt64] at i_4); exact i_4
    have hP : va_P g.1 vwCl [(h0, .inr (5, [.ref h1, .int f0, .ref h2, .int f1, .int f2, .ref h3, .ref h4, .ref h5, .ref h6, .int f3, .ref h7, .ref h8, .ref h9, .int f4, .ref h10, .ref h11, .ref h12, .ref h13, .ref h14, .ref h15, .ref h16, .ref h17, .ref h18, .ref h19, .ref h20, .ref h21, .ref h22])), (h1, .inl (zI g, 180, .inl Z0)), (h5, .inl (zI g, 6, .inl Z4)), (h6, .inl (zI g, 5, .inl Z5)), (h7, .inl (zI g, 5, .inl Z6)), (h8, .inl (zI g, 5, .inl Z7)), (h9, .inl (zI g, 5, .inl Z8)), (h10, .inl (zI g, 6, .inl Z9)), (h11, .inl (zI g, 6, .inl Z10)), (h12, .inl (zI g, 6, .inl Z11)), (h13, .inl (zI g, 6, .inl Z12)), (h14, .inl (zI g, 6, .inl Z13)), (h15, .inl (zI g, 6, .inl Z14)), (h16, .inl (zI g, 6, .inl Z15))] H := hP
    have hD : va_D A [(h0, .inr (5, [.ref h1, .int f0, .ref h2, .int f1, .int f2, .ref h3, .ref h4, .ref h5, .ref h6, .int f3, .ref h7, .ref h8, .ref h9, .int f4, .ref h10, .ref h11, .ref h12, .ref h13, .ref h14, .ref h15, .ref h16, .ref h17, .ref h18, .ref h19, .ref h20, .ref h21, .ref h22])), (h1, .inl (zI g, 180, .inl Z0)), (h5, .inl (zI g, 6, .inl Z4)), (h6, .inl (zI g, 5, .inl Z5)), (h7, .inl (zI g, 5, .inl Z6)), (h8, .inl (zI g, 5, .inl Z7)), (h9, .inl (zI g, 5, .inl Z8)), (h10, .inl (zI g, 6, .inl Z9)), (h11, .inl (zI g, 6, .inl Z10)), (h12, .inl (zI g, 6, .inl Z11)), (h13, .inl (zI g, 6, .inl Z12)), (h14, .inl (zI g, 6, .inl Z13)), (h15, .inl (zI g, 6, .inl Z14)), (h16, .inl (zI g, 6, .inl Z15))] := hD
    refine lv_if_eq (tgt := 29) hx hb dX5_ring_18 (by decide) (fun h => absurd h (by decide +kernel)) (fun _ => ?_)
    refine lv_iload_n hx hb dX5_ring_21 rfl (lv_at hl 1 rfl) ?_
    refine lv_iload_n hx hb dX5_ring_22 rfl (lv_at hl 1 rfl) ?_
    refine lv_iconst (v := 1) hx hb dX5_ring_23 (by decide) ?_
    refine lv_isub hx hb dX5_ring_24 ?_
    refine lv_topi (fun y3 ey3 => ?_)
    have qy3_0 : y3.toInt = p1.toInt - 1 := zi_sub ey3 (rfl) (rfl) (by omega) (by omega)
    refine lv_iand hx hb dX5_ring_25 ?_
    refine lv_topi (fun y4 ey4 => ?_)
    refine lv_if_ne (tgt := 32) hx hb dX5_ring_26 (by decide) (fun c_5 => ?_) (fun c_5 => ?_)
    · have i_5 : y4.toInt ≠ 0 := z_ne (rfl) (rfl) c_5
      have htw := z_two (s := p1) (by omega) (by omega) ey3 ey4
      have hnp : p1.toInt ≠ 0 := fun q => by
        have e0 : p1 = 0 := Int32.toInt_inj.mp (q.trans rfl)
        have e4 : y4 = 0 := by rw [ey4, ey3, e0]; decide
        have e5 : y4.toInt = 0 := by rw [e4]; rfl
        omega
      have htw1 : ¬ (zPop p1).toInt < 2 := fun h => by rcases htw.mpr h with q | q <;> omega
      refine lv_aload_n hx hb dX5_ring_32 rfl (lv_at hl 0 rfl) ?_
      refine lv_iconst (v := 0) hx hb dX5_ring_33 (by decide) ?_
      have : (0 : Int32).toInt = 0 := rfl
      refine z_callv (wr := []) hP hD hS hA [0, 1, 2, 3, 4, 5, 6, 7, 8, 9, 10, 11, 12, 13] [] (by decide) rfl rfl (by decide) (va_runV (As := [.int 0]) (rest := []) ⟨hx, hb, hml, hown, hts⟩ (gX5_hold l g K B C hB h0 h1 h2 h3 h4 h5 h6 h7 h8 h9 h10 h11 h12 h13 h14 h15 h16 h17 h18 h19 h20 h21 h22 H.size (0 : Int32) f0 f1 f2 f3 f4 Z0 Z4 Z5 Z6 Z7 Z8 Z9 Z10 Z11 Z12 Z13 Z14 Z15 (by omega) (by omega) (by constructor <;> omega) (by constructor <;> omega) (by constructor <;> omega) (by constructor <;> omega) hF_Z0 hF_Z4 hF_Z5 hF_Z6 hF_Z7 hF_Z8) ⟨callB_of 1 hts (zGood m_o_yX5_hold) rfl rfl rfl (hts _ m_z_RX5) (hts _ m_m_RX5_194) ⟨by decide +kernel, by decide +kernel, by decide +kernel⟩ ⟨Nat.le_of_ble_eq_true rfl, Nat.le_of_ble_eq_true rfl⟩, hts _ m_i_yX5_hold, hts _ m_e_yX5_hold⟩ (zPreV hK hN hZ hP hD hS hA [0, 1, 2, 3, 4, 5, 6, 7, 8, 9, 10, 11, 12, 13] (by decide) rfl rfl 5 0 rfl rfl) rfl rfl hl.1 rfl (lv_room (Nat.le_of_ble_eq_true rfl)) dX5_ring_34 ⟨Nat.le_of_ble_eq_true rfl, Nat.le_of_ble_eq_true rfl⟩) (fun u H locs hw hP hD hS => ?_)
      obtain ⟨w5, w6, R7, R8, R9, R10, R11, R12, R13, R14, R15, R16, R17, R18⟩ := u
      obtain ⟨hw, hI19, hI20, hI21, hI22, hI23, hI24, hI25, hI26, hI27, hI28, hI29⟩ := hw
      obtain ⟨hI19a, hI19b⟩ := hI19
      obtain ⟨hI20a, hI20b⟩ := hI20
      have q30_0 := hw
      have q30_0 : w6.toInt = (zSm B.L B.n B.S B.V (zRw B.n B.M) 0 (zIv B.K) (zRw B.n B.P) B.lots.toNat).2.2.2 := q30_0
      have hP : va_P g.1 vwCl [(h0, .inr (5, [.ref h1, .int f0, .ref h2, .int f1, .int f2, .ref h3, .ref h4, .ref h5, .ref h6, .int w5, .ref h7, .ref h8, .ref h9, .int w6, .ref h10, .ref h11, .ref h12, .ref h13, .ref h14, .ref h15, .ref h16, .ref h17, .ref h18, .ref h19, .ref h20, .ref h21, .ref h22])), (h1, .inl (zI g, 180, .inl Z0)), (h5, .inl (zI g, 6, .inl R7)), (h6, .inl (zI g, 5, .inl R8)), (h7, .inl (zI g, 5, .inl R9)), (h8, .inl (zI g, 5, .inl R10)), (h9, .inl (zI g, 5, .inl R11)), (h10, .inl (zI g, 6, .inl R12)), (h11, .inl (zI g, 6, .inl R13)), (h12, .inl (zI g, 6, .inl R14)), (h13, .inl (zI g, 6, .inl R15)), (h14, .inl (zI g, 6, .inl R16)), (h15, .inl (zI g, 6, .inl R17)), (h16, .inl (zI g, 6, .inl R18))] H := hP
      have hD : va_D A [(h0, .inr (5, [.ref h1, .int f0, .ref h2, .int f1, .int f2, .ref h3, .ref h4, .ref h5, .ref h6, .int w5, .ref h7, .ref h8, .ref h9, .int w6, .ref h10, .ref h11, .ref h12, .ref h13, .ref h14, .ref h15, .ref h16, .ref h17, .ref h18, .ref h19, .ref h20, .ref h21, .ref h22])), (h1, .inl (zI g, 180, .inl Z0)), (h5, .inl (zI g, 6, .inl R7)), (h6, .inl (zI g, 5, .inl R8)), (h7, .inl (zI g, 5, .inl R9)), (h8, .inl (zI g, 5, .inl R10)), (h9, .inl (zI g, 5, .inl R11)), (h10, .inl (zI g, 6, .inl R12)), (h11, .inl (zI g, 6, .inl R13)), (h12, .inl (zI g, 6, .inl R14)), (h13, .inl (zI g, 6, .inl R15)), (h14, .inl (zI g, 6, .inl R16)), (h15, .inl (zI g, 6, .inl R17)), (h16, .inl (zI g, 6, .inl R18))] := hD
      refine lv_aload_n hx hb dX5_ring_37 rfl (lv_at hl 0 rfl) ?_
      refine lv_iload_n hx hb dX5_ring_38 rfl (lv_at hl 1 rfl) ?_
      refine z_calli (wr := [(h5, .inl (zI g, 6, .inl R7)), (h6, .inl (zI g, 5, .inl R8)), (h7, .inl (zI g, 5, .inl R9)), (h8, .inl (zI g, 5, .inl R10)), (h10, .inl (zI g, 6, .inl R12)), (h11, .inl (zI g, 6, .inl R13)), (h12, .inl (zI g, 6, .inl R14)), (h13, .inl (zI g, 6, .inl R15)), (h14, .inl (zI g, 6, .inl R16)), (h15, .inl (zI g, 6, .inl R17)), (h16, .inl (zI g, 6, .inl R18))]) hP hD hS hA [0, 1, 6] [2, 3, 4, 5, 7, 8, 9, 10, 11, 12, 13] (by decide) rfl rfl (by decide) (va_runV (As := [.int p1]) (rest := []) ⟨hx, hb, hml, hown, hts⟩ (gX5_together l g K B C hB h0 h1 h2 h3 h4 h5 h6 h7 h8 h9 h10 h11 h12 h13 h14 h15 h16 h17 h18 h19 h20 h21 h22 H.size p1 f0 f1 f2 w5 w6 Z0 R11 (by omega) (by omega) (by omega) (by constructor <;> omega) (by constructor <;> omega) (by constructor <;> omega) (by constructor <;> omega) hF_Z0 hI25.1) ⟨callB_of 1 hts (zGood m_o_yX5_together) rfl rfl rfl (hts _ m_z_RX5) (hts _ m_m_RX5_218) ⟨by decide +kernel, by decide +kernel, by decide +kernel⟩ ⟨Nat.le_of_ble_eq_true rfl, Nat.le_of_ble_eq_true rfl⟩, hts _ m_i_yX5_together, hts _ m_e_yX5_together⟩ (zPreV hK hN hZ hP hD hS hA [0, 1, 6] (by decide) rfl rfl 5 0 rfl rfl) rfl rfl hl.1 rfl (lv_room (Nat.le_of_ble_eq_true rfl)) dX5_ring_39 ⟨Nat.le_of_ble_eq_true rfl, Nat.le_of_ble_eq_true rfl⟩) (fun r u H locs hw hP hD hS => ?_)
      obtain ⟨y31, rfl⟩ : ∃ z, z = r := ⟨_, rfl⟩
      obtain ⟨q32_0, q32_1, q32_2⟩ := hw
      have q32_0 : y31.toInt = zGs (zib p1) (zIv R11) 5 := q32_0
      have q32_1 : -5000 ≤ y31.toInt := q32_1
      have q32_2 : y31.toInt ≤ 5000 := q32_2
      have hP : va_P g.1 vwCl [(h5, .inl (zI g, 6, .inl R7)), (h6, .inl (zI g, 5, .inl R8)), (h7, .inl (zI g, 5, .inl R9)), (h8, .inl (zI g, 5, .inl R10)), (h10, .inl (zI g, 6, .inl R12)), (h11, .inl (zI g, 6, .inl R13)), (h12, .inl (zI g, 6, .inl R14)), (h13, .inl (zI g, 6, .inl R15)), (h14, .inl (zI g, 6, .inl R16)), (h15, .inl (zI g, 6, .inl R17)), (h16, .inl (zI g, 6, .inl R18)), (h0, .inr (5, [.ref h1, .int f0, .ref h2, .int f1, .int f2, .ref h3, .ref h4, .ref h5, .ref h6, .int w5, .ref h7, .ref h8, .ref h9, .int w6, .ref h10, .ref h11, .ref h12, .ref h13, .ref h14, .ref h15, .ref h16, .ref h17, .ref h18, .ref h19, .ref h20, .ref h21, .ref h22])), (h1, .inl (zI g, 180, .inl Z0)), (h9, .inl (zI g, 5, .inl R11))] H := hP
      have hD : va_D A [(h5, .inl (zI g, 6, .inl R7)), (h6, .inl (zI g, 5, .inl R8)), (h7, .inl (zI g, 5, .inl R9)), (h8, .inl (zI g, 5, .inl R10)), (h10, .inl (zI g, 6, .inl R12)), (h11, .inl (zI g, 6, .inl R13)), (h12, .inl (zI g, 6, .inl R14)), (h13, .inl (zI g, 6, .inl R15)), (h14, .inl (zI g, 6, .inl R16)), (h15, .inl (zI g, 6, .inl R17)), (h16, .inl (zI g, 6, .inl R18)), (h0, .inr (5, [.ref h1, .int f0, .ref h2, .int f1, .int f2, .ref h3, .ref h4, .ref h5, .ref h6, .int w5, .ref h7, .ref h8, .ref h9, .int w6, .ref h10, .ref h11, .ref h12, .ref h13, .ref h14, .ref h15, .ref h16, .ref h17, .ref h18, .ref h19, .ref h20, .ref h21, .ref h22])), (h1, .inl (zI g, 180, .inl Z0)), (h9, .inl (zI g, 5, .inl R11))] := hD
      have hx1 : zRw B.n R11 = (zSm B.L B.n B.S B.V (zRw B.n B.M) 0 (zIv B.K) (zRw B.n B.P) B.lots.toNat).2.2.1 := hI25.2
      have hg1 := zGs_rw (s := p1) (by omega) (by omega) (by omega) (by omega) hx1
      refine lv_istore_n (lv' := [(2, .int y31), (0, .ref h0), (1, .int p1)]) hx hb dX5_ring_42 rfl hl (by decide) rfl (fun ls hl => ?_)
      refine lv_aload_n hx hb dX5_ring_43 rfl (lv_at hl 1 rfl) ?_
      refine lv_iload_n hx hb dX5_ring_44 rfl (lv_at hl 2 rfl) ?_
      refine z_callv (wr := []) hP hD hS hA [11, 12, 0, 1, 2, 3, 13, 4, 5, 6, 7, 8, 9, 10] [] (by decide) rfl rfl (by decide) (va_runV (As := [.int p1]) (rest := []) ⟨hx, hb, hml, hown, hts⟩ (gX5_hold l g K B C hB h0 h1 h2 h3 h4 h5 h6 h7 h8 h9 h10 h11 h12 h13 h14 h15 h16 h17 h18 h19 h20 h21 h22 H.size p1 f0 f1 f2 w5 w6 Z0 R7 R8 R9 R10 R11 R12 R13 R14 R15 R16 R17 R18 (by omega) (by omega) (by constructor <;> omega) (by constructor <;> omega) (by constructor <;> omega) (by constructor <;> omega) hF_Z0 hI21.1 hI22.1 hI23.1 hI24.1 hI25.1) ⟨callB_of 1 hts (zGood m_o_yX5_hold) rfl rfl rfl (hts _ m_z_RX5) (hts _ m_m_RX5_194) ⟨by decide +kernel, by decide +kernel, by decide +kernel⟩ ⟨Nat.le_of_ble_eq_true rfl, Nat.le_of_ble_eq_true rfl⟩, hts _ m_i_yX5_hold, hts _ m_e_yX5_hold⟩ (zPreV hK hN hZ hP hD hS hA [11, 12, 0, 1, 2, 3, 13, 4, 5, 6, 7, 8, 9, 10] (by decide) rfl rfl 5 11 rfl rfl) rfl rfl hl.1 rfl (lv_room (Nat.le_of_ble_eq_true rfl)) dX5_ring_45 ⟨Nat.le_of_ble_eq_true rfl, Nat.le_of_ble_eq_true rfl⟩) (fun u H locs hw hP hD hS => ?_)
      obtain ⟨w33, w34, R35, R36, R37, R38, R39, R40, R41, R42, R43, R44, R45, R46⟩ := u
      obtain ⟨hw, hI47, hI48, hI49, hI50, hI51, hI52, hI53, hI54, hI55, hI56, hI57⟩ := hw
      obtain ⟨hI47a, hI47b⟩ := hI47
      obtain ⟨hI48a, hI48b⟩ := hI48
      have q58_0 := hw
      have q58_0 : w34.toInt = (zSm B.L B.n B.S B.V (zRw B.n B.M) p1 (zIv B.K) (zRw B.n B.P) B.lots.toNat).2.2.2 := q58_0
      have hP : va_P g.1 vwCl [(h0, .inr (5, [.ref h1, .int f0, .ref h2, .int f1, .int f2, .ref h3, .ref h4, .ref h5, .ref h6, .int w33, .ref h7, .ref h8, .ref h9, .int w34, .ref h10, .ref h11, .ref h12, .ref h13, .ref h14, .ref h15, .ref h16, .ref h17, .ref h18, .ref h19, .ref h20, .ref h21, .ref h22])), (h1, .inl (zI g, 180, .inl Z0)), (h5, .inl (zI g, 6, .inl R35)), (h6, .inl (zI g, 5, .inl R36)), (h7, .inl (zI g, 5, .inl R37)), (h8, .inl (zI g, 5, .inl R38)), (h9, .inl (zI g, 5, .inl R39)), (h10, .inl (zI g, 6, .inl R40)), (h11, .inl (zI g, 6, .inl R41)), (h12, .inl (zI g, 6, .inl R42)), (h13, .inl (zI g, 6, .inl R43)), (h14, .inl (zI g, 6, .inl R44)), (h15, .inl (zI g, 6, .inl R45)), (h16, .inl (zI g, 6, .inl R46))] H := hP
      have hD : va_D A [(h0, .inr (5, [.ref h1, .int f0, .ref h2, .int f1, .int f2, .ref h3, .ref h4, .ref h5, .ref h6, .int w33, .ref h7, .ref h8, .ref h9, .int w34, .ref h10, .ref h11, .ref h12, .ref h13, .ref h14, .ref h15, .ref h16, .ref h17, .ref h18, .ref h19, .ref h20, .ref h21, .ref h22])), (h1, .inl (zI g, 180, .inl Z0)), (h5, .inl (zI g, 6, .inl R35)), (h6, .inl (zI g, 5, .inl R36)), (h7, .inl (zI g, 5, .inl R37)), (h8, .inl (zI g, 5, .inl R38)), (h9, .inl (zI g, 5, .inl R39)), (h10, .inl (zI g, 6, .inl R40)), (h11, .inl (zI g, 6, .inl R41)), (h12, .inl (zI g, 6, .inl R42)), (h13, .inl (zI g, 6, .inl R43)), (h14, .inl (zI g, 6, .inl R44)), (h15, .inl (zI g, 6, .inl R45)), (h16, .inl (zI g, 6, .inl R46))] := hD
      refine lv_aload_n hx hb dX5_ring_48 rfl (lv_at hl 1 rfl) ?_
      refine lv_iload_n hx hb dX5_ring_49 rfl (lv_at hl 2 rfl) ?_
      refine z_calli (wr := [(h5, .inl (zI g, 6, .inl R35)), (h6, .inl (zI g, 5, .inl R36)), (h7, .inl (zI g, 5, .inl R37)), (h8, .inl (zI g, 5, .inl R38)), (h10, .inl (zI g, 6, .inl R40)), (h11, .inl (zI g, 6, .inl R41)), (h12, .inl (zI g, 6, .inl R42)), (h13, .inl (zI g, 6, .inl R43)), (h14, .inl (zI g, 6, .inl R44)), (h15, .inl (zI g, 6, .inl R45)), (h16, .inl (zI g, 6, .inl R46))]) hP hD hS hA [0, 1, 6] [2, 3, 4, 5, 7, 8, 9, 10, 11, 12, 13] (by decide) rfl rfl (by decide) (va_runV (As := [.int p1]) (rest := []) ⟨hx, hb, hml, hown, hts⟩ (gX5_together l g K B C hB h0 h1 h2 h3 h4 h5 h6 h7 h8 h9 h10 h11 h12 h13 h14 h15 h16 h17 h18 h19 h20 h21 h22 H.size p1 f0 f1 f2 w33 w34 Z0 R39 (by omega) (by omega) (by omega) (by constructor <;> omega) (by constructor <;> omega) (by constructor <;> omega) (by constructor <;> omega) hF_Z0 hI53.1) ⟨callB_of 1 hts (zGood m_o_yX5_together) rfl rfl rfl (hts _ m_z_RX5) (hts _ m_m_RX5_218) ⟨by decide +kernel, by decide +kernel, by decide +kernel⟩ ⟨Nat.le_of_ble_eq_true rfl, Nat.le_of_ble_eq_true rfl⟩, hts _ m_i_yX5_together, hts _ m_e_yX5_together⟩ (zPreV hK hN hZ hP hD hS hA [0, 1, 6] (by decide) rfl rfl 5 0 rfl rfl) rfl rfl hl.1 rfl (lv_room (Nat.le_of_ble_eq_true rfl)) dX5_ring_50 ⟨Nat.le_of_ble_eq_true rfl, Nat.le_of_ble_eq_true rfl⟩) (fun r u H locs hw hP hD hS => ?_)
      obtain ⟨y59, rfl⟩ : ∃ z, z = r := ⟨_, rfl⟩
      obtain ⟨q60_0, q60_1, q60_2⟩ := hw
      have q60_0 : y59.toInt = zGs (zib p1) (zIv R39) 5 := q60_0
      have q60_1 : -5000 ≤ y59.toInt := q60_1
      have q60_2 : y59.toInt ≤ 5000 := q60_2
      have hP : va_P g.1 vwCl [(h5, .inl (zI g, 6, .inl R35)), (h6, .inl (zI g, 5, .inl R36)), (h7, .inl (zI g, 5, .inl R37)), (h8, .inl (zI g, 5, .inl R38)), (h10, .inl (zI g, 6, .inl R40)), (h11, .inl (zI g, 6, .inl R41)), (h12, .inl (zI g, 6, .inl R42)), (h13, .inl (zI g, 6, .inl R43)), (h14, .inl (zI g, 6, .inl R44)), (h15, .inl (zI g, 6, .inl R45)), (h16, .inl (zI g, 6, .inl R46)), (h0, .inr (5, [.ref h1, .int f0, .ref h2, .int f1, .int f2, .ref h3, .ref h4, .ref h5, .ref h6, .int w33, .ref h7, .ref h8, .ref h9, .int w34, .ref h10, .ref h11, .ref h12, .ref h13, .ref h14, .ref h15, .ref h16, .ref h17, .ref h18, .ref h19, .ref h20, .ref h21, .ref h22])), (h1, .inl (zI g, 180, .inl Z0)), (h9, .inl (zI g, 5, .inl R39))] H := hP
      have hD : va_D A [(h5, .inl (zI g, 6, .inl R35)), (h6, .inl (zI g, 5, .inl R36)), (h7, .inl (zI g, 5, .inl R37)), (h8, .inl (zI g, 5, .inl R38)), (h10, .inl (zI g, 6, .inl R40)), (h11, .inl (zI g, 6, .inl R41)), (h12, .inl (zI g, 6, .inl R42)), (h13, .inl (zI g, 6, .inl R43)), (h14, .inl (zI g, 6, .inl R44)), (h15, .inl (zI g, 6, .inl R45)), (h16, .inl (zI g, 6, .inl R46)), (h0, .inr (5, [.ref h1, .int f0, .ref h2, .int f1, .int f2, .ref h3, .ref h4, .ref h5, .ref h6, .int w33, .ref h7, .ref h8, .ref h9, .int w34, .ref h10, .ref h11, .ref h12, .ref h13, .ref h14, .ref h15, .ref h16, .ref h17, .ref h18, .ref h19, .ref h20, .ref h21, .ref h22])), (h1, .inl (zI g, 180, .inl Z0)), (h9, .inl (zI g, 5, .inl R39))] := hD
      have hx2 : zRw B.n R39 = (zSm B.L B.n B.S B.V (zRw B.n B.M) p1 (zIv B.K) (zRw B.n B.P) B.lots.toNat).2.2.1 := hI53.2
      have hg2 := zGs_rw (s := p1) (by omega) (by omega) (by omega) (by omega) hx2
      refine lv_iload_n hx hb dX5_ring_53 rfl (lv_at hl 0 rfl) ?_
      refine lv_isub hx hb dX5_ring_54 ?_
      refine lv_topi (fun y61 ey61 => ?_)
      have qy61_0 : y61.toInt = y59.toInt - y31.toInt := zi_sub ey61 (rfl) (rfl) (by omega) (by omega)
      have hz : zAring B.n p1 (zSm B.L B.n B.S B.V (zRw B.n B.M) p1 (zIv B.K) (zRw B.n B.P) B.lots.toNat).2.2.1 (zSm B.L B.n B.S B.V (zRw B.n B.M) 0 (zIv B.K) (zRw B.n B.P) B.lots.toNat).2.2.1 = y61.toInt := by
        unfold zAring
        rw [if_pos ⟨by omega, by omega, by omega⟩]
        omega
      have hP9 := hP.sub (ws' := [(h0, .inr (5, [.ref h1, .int f0, .ref h2, .int f1, .int f2, .ref h3, .ref h4, .ref h5, .ref h6, .int w33, .ref h7, .ref h8, .ref h9, .int w34, .ref h10, .ref h11, .ref h12, .ref h13, .ref h14, .ref h15, .ref h16, .ref h17, .ref h18, .ref h19, .ref h20, .ref h21, .ref h22])), (h1, .inl (zI g, 180, .inl Z0)), (h5, .inl (zI g, 6, .inl R35)), (h6, .inl (zI g, 5, .inl R36)), (h7, .inl (zI g, 5, .inl R37)), (h8, .inl (zI g, 5, .inl R38)), (h9, .inl (zI g, 5, .inl R39)), (h10, .inl (zI g, 6, .inl R40)), (h11, .inl (zI g, 6, .inl R41)), (h12, .inl (zI g, 6, .inl R42)), (h13, .inl (zI g, 6, .inl R43)), (h14, .inl (zI g, 6, .inl R44)), (h15, .inl (zI g, 6, .inl R45)), (h16, .inl (zI g, 6, .inl R46))]) [11, 12, 0, 1, 2, 3, 13, 4, 5, 6, 7, 8, 9, 10] rfl
      have hD9 := hD.sub (ws' := [(h0, .inr (5, [.ref h1, .int f0, .ref h2, .int f1, .int f2, .ref h3, .ref h4, .ref h5, .ref h6, .int w33, .ref h7, .ref h8, .ref h9, .int w34, .ref h10, .ref h11, .ref h12, .ref h13, .ref h14, .ref h15, .ref h16, .ref h17, .ref h18, .ref h19, .ref h20, .ref h21, .ref h22])), (h1, .inl (zI g, 180, .inl Z0)), (h5, .inl (zI g, 6, .inl R35)), (h6, .inl (zI g, 5, .inl R36)), (h7, .inl (zI g, 5, .inl R37)), (h8, .inl (zI g, 5, .inl R38)), (h9, .inl (zI g, 5, .inl R39)), (h10, .inl (zI g, 6, .inl R40)), (h11, .inl (zI g, 6, .inl R41)), (h12, .inl (zI g, 6, .inl R42)), (h13, .inl (zI g, 6, .inl R43)), (h14, .inl (zI g, 6, .inl R44)), (h15, .inl (zI g, 6, .inl R45)), (h16, .inl (zI g, 6, .inl R46))]) [11, 12, 0, 1, 2, 3, 13, 4, 5, 6, 7, 8, 9, 10] (by decide) rfl
      exact W.iret (v := y61) hx hb hr (fun t ht hW => ⟨⟨y61, ⟨w33, w34, R35, R36, R37, R38, R39, R40, R41, R42, R43, R44, R45, R46⟩, rfl, ⟨(by first | omega | decide), ⟨show 0 ≤ w33.toInt from by omega, show w33.toInt ≤ 31 from by omega⟩, ⟨show 0 ≤ w34.toInt from by omega, show w34.toInt ≤ 1000 from by omega⟩, hI49.1, hI50.1, hI51.1, hI52.1, hI53.1⟩, by rw [ht]; exact hP9, hD9⟩, hS.F ht⟩) hS.2.2 dX5_ring_55
    · have i_5 : y4.toInt = 0 := z_eq (rfl) (rfl) c_5
      refine lv_ldc (v := (-100001)) hx hb hown (hts _ m_k_RX5_104) dX5_ring_29 ?_
      have htw := z_two (s := p1) (by omega) (by omega) ey3 ey4
      have htw1 := htw.mp (Or.inl (by omega))
      have hz : zAring B.n p1 (zSm B.L B.n B.S B.V (zRw B.n B.M) p1 (zIv B.K) (zRw B.n B.P) B.lots.toNat).2.2.1 (zSm B.L B.n B.S B.V (zRw B.n B.M) 0 (zIv B.K) (zRw B.n B.P) B.lots.toNat).2.2.1 = (-100001) := by
        unfold zAring
        rw [if_neg (by omega)]
      have : ((-100001) : Int32).toInt = (-100001) := rfl
      have hP9 := hP.sub (ws' := [(h0, .inr (5, [.ref h1, .int f0, .ref h2, .int f1, .int f2, .ref h3, .ref h4, .ref h5, .ref h6, .int f3, .ref h7, .ref h8, .ref h9, .int f4, .ref h10, .ref h11, .ref h12, .ref h13, .ref h14, .ref h15, .ref h16, .ref h17, .ref h18, .ref h19, .ref h20, .ref h21, .ref h22])), (h1, .inl (zI g, 180, .inl Z0)), (h5, .inl (zI g, 6, .inl Z4)), (h6, .inl (zI g, 5, .inl Z5)), (h7, .inl (zI g, 5, .inl Z6)), (h8, .inl (zI g, 5, .inl Z7)), (h9, .inl (zI g, 5, .inl Z8)), (h10, .inl (zI g, 6, .inl Z9)), (h11, .inl (zI g, 6, .inl Z10)), (h12, .inl (zI g, 6, .inl Z11)), (h13, .inl (zI g, 6, .inl Z12)), (h14, .inl (zI g, 6, .inl Z13)), (h15, .inl (zI g, 6, .inl Z14)), (h16, .inl (zI g, 6, .inl Z15))]) [0, 1, 2, 3, 4, 5, 6, 7, 8, 9, 10, 11, 12, 13] rfl
      have hD9 := hD.sub (ws' := [(h0, .inr (5, [.ref h1, .int f0, .ref h2, .int f1, .int f2, .ref h3, .ref h4, .ref h5, .ref h6, .int f3, .ref h7, .ref h8, .ref h9, .int f4, .ref h10, .ref h11, .ref h12, .ref h13, .ref h14, .ref h15, .ref h16, .ref h17, .ref h18, .ref h19, .ref h20, .ref h21, .ref h22])), (h1, .inl (zI g, 180, .inl Z0)), (h5, .inl (zI g, 6, .inl Z4)), (h6, .inl (zI g, 5, .inl Z5)), (h7, .inl (zI g, 5, .inl Z6)), (h8, .inl (zI g, 5, .inl Z7)), (h9, .inl (zI g, 5, .inl Z8)), (h10, .inl (zI g, 6, .inl Z9)), (h11, .inl (zI g, 6, .inl Z10)), (h12, .inl (zI g, 6, .inl Z11)), (h13, .inl (zI g, 6, .inl Z12)), (h14, .inl (zI g, 6, .inl Z13)), (h15, .inl (zI g, 6, .inl Z14)), (h16, .inl (zI g, 6, .inl Z15))]) [0, 1, 2, 3, 4, 5, 6, 7, 8, 9, 10, 11, 12, 13] (by decide) rfl
      exact W.iret (v := (-100001)) hx hb hr (fun t ht hW => ⟨⟨(-100001), ⟨f3, f4, Z4, Z5, Z6, Z7, Z8, Z9, Z10, Z11, Z12, Z13, Z14, Z15⟩, rfl, ⟨(by first | omega | decide), ⟨show 0 ≤ f3.toInt from by omega, show f3.toInt ≤ 31 from by omega⟩, ⟨show 0 ≤ f4.toInt from by omega, show f4.toInt ≤ 1000 from by omega⟩, hF_Z4, hF_Z5, hF_Z6, hF_Z7, hF_Z8⟩, by rw [ht]; exact hP9, hD9⟩, hS.F ht⟩) hS.2.2 dX5_ring_31
set_option maxHeartbeats 8000000 in
set_option maxRecDepth 100000 in
theorem gX5_image (l : Launch) (g : zG) (K : Prop) (B C : zBk) (hB : bOk B) (h0 h1 h2 h3 h4 h5 h6 h7 h8 h9 h10 h11 h12 h13 h14 h15 h16 h17 h18 h19 h20 h21 h22 : Nat) (sz : Nat) (f0 : Int32) (f1 : Int32) (f2 : Int32) (f3 : Int32) (f4 : Int32) (Z0 : Nat → Int32) (hf_f1 : 0 ≤ f1.toInt ∧ f1.toInt ≤ 60) (hf_f2 : 0 ≤ f2.toInt ∧ f2.toInt ≤ 60) (hf_f3 : 0 ≤ f3.toInt ∧ f3.toInt ≤ 31) (hf_f4 : 0 ≤ f4.toInt ∧ f4.toInt ≤ 1000) (hF_Z0 : iW K B C Z0) : Met l yX5_image (.code yX5_image cX5_image 2 (some .int) :: zBig) ({ frames := 0, cells := 0, slots := 0, locals := 0 }) (va_Pc [.ref h0] (zPre g [(h0, .inr (5, [.ref h1, .int f0, .ref h2, .int f1, .int f2, .ref h3, .ref h4, .ref h5, .ref h6, .int f3, .ref h7, .ref h8, .ref h9, .int f4, .ref h10, .ref h11, .ref h12, .ref h13, .ref h14, .ref h15, .ref h16, .ref h17, .ref h18, .ref h19, .ref h20, .ref h21, .ref h22])), (h1, .inl (zI g, 180, .inl Z0))] sz)) (va_Qi (fun (r : Int32) (u : Int32 × (Nat → Int32)) => (r.toInt = 1) ∧ iW True B (bCpy B C) u.2 ∧ u.1 = 1) (zPost g (fun u : Int32 × (Nat → Int32) => [(h0, .inr (5, [.ref h1, .int u.1, .ref h2, .int f1, .int f2, .ref h3, .ref h4, .ref h5, .ref h6, .int f3, .ref h7, .ref h8, .ref h9, .int f4, .ref h10, .ref h11, .ref h12, .ref h13, .ref h14, .ref h15, .ref h16, .ref h17, .ref h18, .ref h19, .ref h20, .ref h21, .ref h22])), (h1, .inl (zI g, 180, .inl u.2))]) (va_A [(h0, .inr (5, [.ref h1, .int f0, .ref h2, .int f1, .int f2, .ref h3, .ref h4, .ref h5, .ref h6, .int f3, .ref h7, .ref h8, .ref h9, .int f4, .ref h10, .ref h11, .ref h12, .ref h13, .ref h14, .ref h15, .ref h16, .ref h17, .ref h18, .ref h19, .ref h20, .ref h21, .ref h22])), (h1, .inl (zI g, 180, .inl Z0))] sz)) (va_A [(h0, .inr (5, [.ref h1, .int f0, .ref h2, .int f1, .int f2, .ref h3, .ref h4, .ref h5, .ref h6, .int f3, .ref h7, .ref h8, .ref h9, .int f4, .ref h10, .ref h11, .ref h12, .ref h13, .ref h14, .ref h15, .ref h16, .ref h17, .ref h18, .ref h19, .ref h20, .ref h21, .ref h22])), (h1, .inl (zI g, 180, .inl Z0))] sz)) 0 0 (va_A [(h0, .inr (5, [.ref h1, .int f0, .ref h2, .int f1, .int f2, .ref h3, .ref h4, .ref h5, .ref h6, .int f3, .ref h7, .ref h8, .ref h9, .int f4, .ref h10, .ref h11, .ref h12, .ref h13, .ref h14, .ref h15, .ref h16, .ref h17, .ref h18, .ref h19, .ref h20, .ref h21, .ref h22])), (h1, .inl (zI g, 180, .inl Z0))] sz) := by
  refine zMetI rfl (Nat.le_of_ble_eq_true rfl) ?_
  intro p e s m args below meth c A ls hx hb hml hr hlocks hin hown hts hK hN hZ hP hD hA hS hAe hl
  have hown : s.vm.findClass RX5 = some m.cls := hown
  have hl : lv_has ls 2 [(0, .ref h0)] := hl
  have hI0 : zImg B 0 Z0 := zImg_0 hF_Z0
  refine lv_iconst (v := 0) hx hb dX5_image_0 (by decide) ?_
  refine lv_istore_n (lv' := [(1, .int 0), (0, .ref h0)]) hx hb dX5_image_1 rfl hl (by decide) rfl (fun ls hl => ?_)
  have loop2_0 : ∀ (n1 : Nat) (v1_0 : Int32) (G0_0 : Nat → Int32) (hG0_0 : zImg B (v1_0.toInt) G0_0) (n1_0 : 0 ≤ v1_0.toInt) (n1_1 : v1_0.toInt ≤ 90) (hm1 : 90 - v1_0.toInt < (n1 : Int)) (H : Heap) (locs : List Loc), va_P g.1 vwCl [(h0, .inr (5, [.ref h1, .int f0, .ref h2, .int f1, .int f2, .ref h3, .ref h4, .ref h5, .ref h6, .int f3, .ref h7, .ref h8, .ref h9, .int f4, .ref h10, .ref h11, .ref h12, .ref h13, .ref h14, .ref h15, .ref h16, .ref h17, .ref h18, .ref h19, .ref h20, .ref h21, .ref h22])), (h1, .inl (zI g, 180, .inl G0_0))] H → va_D A [(h0, .inr (5, [.ref h1, .int f0, .ref h2, .int f1, .int f2, .ref h3, .ref h4, .ref h5, .ref h6, .int f3, .ref h7, .ref h8, .ref h9, .int f4, .ref h10, .ref h11, .ref h12, .ref h13, .ref h14, .ref h15, .ref h16, .ref h17, .ref h18, .ref h19, .ref h20, .ref h21, .ref h22])), (h1, .inl (zI g, 180, .inl G0_0))] → va_S A s.heap H locs → ∀ (ls : Array Slot), lv_has ls 2 [(0, .ref h0), (1, .int v1_0)] → W p l e ({ frames := 0, cells := 0, slots := 0, locals := 0 }) s m args below meth c H locs 0 0 (MQ below (va_Qi (fun (r : Int32) (u : Int32 × (Nat → Int32)) => (r.toInt = 1) ∧ iW True B (bCpy B C) u.2 ∧ u.1 = 1) (zPost g (fun u : Int32 × (Nat → Int32) => [(h0, .inr (5, [.ref h1, .int u.1, .ref h2, .int f1, .int f2, .ref h3, .ref h4, .ref h5, .ref h6, .int f3, .ref h7, .ref h8, .ref h9, .int f4, .ref h10, .ref h11, .ref h12, .ref h13, .ref h14, .ref h15, .ref h16, .ref h17, .ref h18, .ref h19, .ref h20, .ref h21, .ref h22])), (h1, .inl (zI g, 180, .inl u.2))]) A) A) args s 0 0 A) (F0 m 2 ls []) := by
    intro n1
    induction n1 with
    | zero => intro v1_0 G0_0 hG0_0 n1_0 n1_1 hm1; exfalso; omega
    | succ n1 ih1 =>
      intro v1_0 G0_0 hG0_0 n1_0 n1_1 hm1 H locs hP hD hS ls hl
      refine lv_iload_n hx hb dX5_image_2 rfl (lv_at hl 1 rfl) ?_
      refine lv_bipush (v := 90) hx hb dX5_image_3 (by decide) ?_
      refine lv_icmp_ge (tgt := 29) hx hb dX5_image_5 (by decide) (fun c_1 => ?_) (fun c_1 => ?_)
      · have i_1 : 90 ≤ v1_0.toInt := z_le (rfl) (rfl) c_1
        have hI1 : iW True B (bCpy B C) G0_0 := zImg_iW hG0_0 (by omega)
        refine lv_aload_n hx hb dX5_image_29 rfl (lv_at hl 0 rfl) ?_
        refine lv_iconst (v := 1) hx hb dX5_image_30 (by decide) ?_
        refine va_put (D := g.1) (ci := 5) (v := .int 1) (ty := .boolean) (C := RX5) (T := TX5) (N := 27) hx hb hts zl_X5 tyX5 tyX5_ok nmX5 hown hK hP hD hS 0 rfl rfl 1 (by decide) (hts _ m_f_RX5_221) (fun _ h => h) rfl (by decide +kernel) rfl rfl (Nat.le_of_ble_eq_true rfl) dX5_image_31 (fun H locs hP hD hS => ?_)
        have hP : va_P g.1 vwCl [(h0, .inr (5, [.ref h1, .int 1, .ref h2, .int f1, .int f2, .ref h3, .ref h4, .ref h5, .ref h6, .int f3, .ref h7, .ref h8, .ref h9, .int f4, .ref h10, .ref h11, .ref h12, .ref h13, .ref h14, .ref h15, .ref h16, .ref h17, .ref h18, .ref h19, .ref h20, .ref h21, .ref h22])), (h1, .inl (zI g, 180, .inl G0_0))] H := hP
        have hD : va_D A [(h0, .inr (5, [.ref h1, .int 1, .ref h2, .int f1, .int f2, .ref h3, .ref h4, .ref h5, .ref h6, .int f3, .ref h7, .ref h8, .ref h9, .int f4, .ref h10, .ref h11, .ref h12, .ref h13, .ref h14, .ref h15, .ref h16, .ref h17, .ref h18, .ref h19, .ref h20, .ref h21, .ref h22])), (h1, .inl (zI g, 180, .inl G0_0))] := hD
        refine lv_iconst (v := 1) hx hb dX5_image_34 (by decide) ?_
        have hP9 := hP.sub (ws' := [(h0, .inr (5, [.ref h1, .int 1, .ref h2, .int f1, .int f2, .ref h3, .ref h4, .ref h5, .ref h6, .int f3, .ref h7, .ref h8, .ref h9, .int f4, .ref h10, .ref h11, .ref h12, .ref h13, .ref h14, .ref h15, .ref h16, .ref h17, .ref h18, .ref h19, .ref h20, .ref h21, .ref h22])), (h1, .inl (zI g, 180, .inl G0_0))]) [0, 1] rfl
        have hD9 := hD.sub (ws' := [(h0, .inr (5, [.ref h1, .int 1, .ref h2, .int f1, .int f2, .ref h3, .ref h4, .ref h5, .ref h6, .int f3, .ref h7, .ref h8, .ref h9, .int f4, .ref h10, .ref h11, .ref h12, .ref h13, .ref h14, .ref h15, .ref h16, .ref h17, .ref h18, .ref h19, .ref h20, .ref h21, .ref h22])), (h1, .inl (zI g, 180, .inl G0_0))]) [0, 1] (by decide) rfl
        exact W.iret (v := 1) hx hb hr (fun t ht hW => ⟨⟨1, ⟨1, G0_0⟩, rfl, ⟨(by first | omega | decide), hI1, rfl⟩, by rw [ht]; exact hP9, hD9⟩, hS.F ht⟩) hS.2.2 dX5_image_35
      · have i_1 : v1_0.toInt < 90 := z_nle (rfl) (rfl) c_1
        refine lv_aload_n hx hb dX5_image_8 rfl (lv_at hl 0 rfl) ?_
        refine va_get (D := g.1) (ci := 5) (v := .ref h1) (C := RX5) (T := TX5) (N := 27) hx hb hts zl_X5 hown hK hP 0 rfl rfl 0 (by decide) (hts _ m_f_RX5_7) (fun _ h => h) rfl dX5_image_9 ?_
        refine lv_bipush (v := 90) hx hb dX5_image_12 (by decide) ?_
        refine lv_iload_n hx hb dX5_image_14 rfl (lv_at hl 1 rfl) ?_
        refine lv_iadd hx hb dX5_image_15 ?_
        refine lv_topi (fun y2 ey2 => ?_)
        have qy2_0 : y2.toInt = 90 + v1_0.toInt := zi_add ey2 (rfl) (rfl) (by omega) (by omega)
        refine lv_aload_n hx hb dX5_image_16 rfl (lv_at hl 0 rfl) ?_
        refine va_get (D := g.1) (ci := 5) (v := .ref h1) (C := RX5) (T := TX5) (N := 27) hx hb hts zl_X5 hown hK hP 0 rfl rfl 0 (by decide) (hts _ m_f_RX5_7) (fun _ h => h) rfl dX5_image_17 ?_
        refine lv_iload_n hx hb dX5_image_20 rfl (lv_at hl 1 rfl) ?_
        refine va_iald (D := g.1) hx hb hK hP 1 0 rfl rfl (vp_in_iff.mpr ⟨by omega, by omega⟩) dX5_image_21 ?_
        refine lv_topi (fun y3 ey3 => ?_)
        have qy3_0 : y3.toInt = (G0_0 v1_0.toNatClampNeg).toInt := congrArg Int32.toInt ey3
        refine va_iast (D := g.1) hx hb hK hP hD hS 1 0 rfl rfl (vp_in_iff.mpr ⟨by omega, by omega⟩) dX5_image_22 (fun H locs hP hD hS => ?_)
        have hP : va_P g.1 vwCl [(h0, .inr (5, [.ref h1, .int f0, .ref h2, .int f1, .int f2, .ref h3, .ref h4, .ref h5, .ref h6, .int f3, .ref h7, .ref h8, .ref h9, .int f4, .ref h10, .ref h11, .ref h12, .ref h13, .ref h14, .ref h15, .ref h16, .ref h17, .ref h18, .ref h19, .ref h20, .ref h21, .ref h22])), (h1, .inl (zI g, 180, .inl (upd G0_0 y2.toNatClampNeg y3)))] H := hP
        have hD : va_D A [(h0, .inr (5, [.ref h1, .int f0, .ref h2, .int f1, .int f2, .ref h3, .ref h4, .ref h5, .ref h6, .int f3, .ref h7, .ref h8, .ref h9, .int f4, .ref h10, .ref h11, .ref h12, .ref h13, .ref h14, .ref h15, .ref h16, .ref h17, .ref h18, .ref h19, .ref h20, .ref h21, .ref h22])), (h1, .inl (zI g, 180, .inl (upd G0_0 y2.toNatClampNeg y3)))] := hD
        have hI4 : zImg B (v1_0.toInt + 1) (upd G0_0 y2.toNatClampNeg y3) := zImg_put (i := v1_0) (n := y2) (a := v1_0.toInt) hG0_0 (ey3) (rfl) (by omega) (by omega) (by omega)
        obtain ⟨R5, eR5⟩ : ∃ z : Nat → Int32, z = (upd G0_0 y2.toNatClampNeg y3) := ⟨_, rfl⟩
        rw [← eR5] at hP hD hI4
        obtain ⟨y6, ey6⟩ : ∃ z : Int32, z = v1_0 + 1 := ⟨_, rfl⟩
        have qy6 : y6.toInt = v1_0.toInt + 1 := zi_add ey6 (rfl) rfl (by omega) (by omega)
        refine lv_iinc (v := y6) (lv' := [(1, .int y6), (0, .ref h0)]) hx hb dX5_image_23 hl (k := 1) rfl ey6.symm (by decide) rfl (fun ls hl => ?_)
        refine lv_goto (tgt := 2) hx hb dX5_image_26 (by decide) ?_
        exact ih1 y6 R5 (zImg_eq hI4 (by omega)) (by omega) (by omega) (by omega) _ _ hP hD hS ls (lv_sub hl [1, 0] rfl)
  have : (0 : Int32).toInt = 0 := rfl
  exact loop2_0 ((90 - 0 : Int).toNat + 1) (0 : Int32) Z0 (zImg_eq hI0 (by omega)) (by omega) (by omega) (by omega) _ _ hP hD hS ls (lv_sub hl [1, 0] rfl)
set_option maxHeartbeats 8000000 in
set_option maxRecDepth 100000 in
theorem gX5_restore (l : Launch) (g : zG) (K : Prop) (B C : zBk) (hB : bOk B) (h0 h1 h2 h3 h4 h5 h6 h7 h8 h9 h10 h11 h12 h13 h14 h15 h16 h17 h18 h19 h20 h21 h22 : Nat) (sz : Nat) (f0 : Int32) (f1 : Int32) (f2 : Int32) (f3 : Int32) (f4 : Int32) (Z0 : Nat → Int32) (hp0 : (f0.toInt ≠ 0 → K)) (hf_f1 : 0 ≤ f1.toInt ∧ f1.toInt ≤ 60) (hf_f2 : 0 ≤ f2.toInt ∧ f2.toInt ≤ 60) (hf_f3 : 0 ≤ f3.toInt ∧ f3.toInt ≤ 31) (hf_f4 : 0 ≤ f4.toInt ∧ f4.toInt ≤ 1000) (hF_Z0 : iW K B C Z0) : Met l yX5_restore (.code yX5_restore cX5_restore 2 (some .int) :: zBig) ({ frames := 0, cells := 0, slots := 0, locals := 0 }) (va_Pc [.ref h0] (zPre g [(h0, .inr (5, [.ref h1, .int f0, .ref h2, .int f1, .int f2, .ref h3, .ref h4, .ref h5, .ref h6, .int f3, .ref h7, .ref h8, .ref h9, .int f4, .ref h10, .ref h11, .ref h12, .ref h13, .ref h14, .ref h15, .ref h16, .ref h17, .ref h18, .ref h19, .ref h20, .ref h21, .ref h22])), (h1, .inl (zI g, 180, .inl Z0))] sz)) (va_Qi (fun (r : Int32) (u : (Nat → Int32)) => ((f0.toInt = 0 → r.toInt = -4) ∧ (f0.toInt ≠ 0 → r.toInt = 1)) ∧ iW K (if (f0.toInt ≠ 0) then bCpy C B else B) C u) (zPost g (fun u : (Nat → Int32) => [(h0, .inr (5, [.ref h1, .int f0, .ref h2, .int f1, .int f2, .ref h3, .ref h4, .ref h5, .ref h6, .int f3, .ref h7, .ref h8, .ref h9, .int f4, .ref h10, .ref h11, .ref h12, .ref h13, .ref h14, .ref h15, .ref h16, .ref h17, .ref h18, .ref h19, .ref h20, .ref h21, .ref h22])), (h1, .inl (zI g, 180, .inl u))]) (va_A [(h0, .inr (5, [.ref h1, .int f0, .ref h2, .int f1, .int f2, .ref h3, .ref h4, .ref h5, .ref h6, .int f3, .ref h7, .ref h8, .ref h9, .int f4, .ref h10, .ref h11, .ref h12, .ref h13, .ref h14, .ref h15, .ref h16, .ref h17, .ref h18, .ref h19, .ref h20, .ref h21, .ref h22])), (h1, .inl (zI g, 180, .inl Z0))] sz)) (va_A [(h0, .inr (5, [.ref h1, .int f0, .ref h2, .int f1, .int f2, .ref h3, .ref h4, .ref h5, .ref h6, .int f3, .ref h7, .ref h8, .ref h9, .int f4, .ref h10, .ref h11, .ref h12, .ref h13, .ref h14, .ref h15, .ref h16, .ref h17, .ref h18, .ref h19, .ref h20, .ref h21, .ref h22])), (h1, .inl (zI g, 180, .inl Z0))] sz)) 0 0 (va_A [(h0, .inr (5, [.ref h1, .int f0, .ref h2, .int f1, .int f2, .ref h3, .ref h4, .ref h5, .ref h6, .int f3, .ref h7, .ref h8, .ref h9, .int f4, .ref h10, .ref h11, .ref h12, .ref h13, .ref h14, .ref h15, .ref h16, .ref h17, .ref h18, .ref h19, .ref h20, .ref h21, .ref h22])), (h1, .inl (zI g, 180, .inl Z0))] sz) := by
  refine zMetI rfl (Nat.le_of_ble_eq_true rfl) ?_
  intro p e s m args below meth c A ls hx hb hml hr hlocks hin hown hts hK hN hZ hP hD hA hS hAe hl
  have hown : s.vm.findClass RX5 = some m.cls := hown
  have hl : lv_has ls 2 [(0, .ref h0)] := hl
  refine lv_aload_n hx hb dX5_restore_0 rfl (lv_at hl 0 rfl) ?_
  refine va_get (D := g.1) (ci := 5) (v := .int f0) (C := RX5) (T := TX5) (N := 27) hx hb hts zl_X5 hown hK hP 0 rfl rfl 1 (by decide) (hts _ m_f_RX5_221) (fun _ h => h) rfl dX5_restore_1 ?_
  refine lv_if_ne (tgt := 10) hx hb dX5_restore_4 (by decide) (fun c_0 => ?_) (fun c_0 => ?_)
  · have i_0 : f0.toInt ≠ 0 := z_ne (rfl) (rfl) c_0
    have hk : K := hp0 (by omega)
    have hI0 : zRes C 0 Z0 := zRes_0 hF_Z0 hk
    refine lv_iconst (v := 0) hx hb dX5_restore_10 (by decide) ?_
    refine lv_istore_n (lv' := [(1, .int 0), (0, .ref h0)]) hx hb dX5_restore_11 rfl hl (by decide) rfl (fun ls hl => ?_)
    have loop12_1 : ∀ (n2 : Nat) (v1_1 : Int32) (G0_1 : Nat → Int32) (hG0_1 : zRes C (v1_1.toInt) G0_1) (n2_0 : 0 ≤ v1_1.toInt) (n2_1 : v1_1.toInt ≤ 90) (hm2 : 90 - v1_1.toInt < (n2 : Int)) (H : Heap) (locs : List Loc), va_P g.1 vwCl [(h0, .inr (5, [.ref h1, .int f0, .ref h2, .int f1, .int f2, .ref h3, .ref h4, .ref h5, .ref h6, .int f3, .ref h7, .ref h8, .ref h9, .int f4, .ref h10, .ref h11, .ref h12, .ref h13, .ref h14, .ref h15, .ref h16, .ref h17, .ref h18, .ref h19, .ref h20, .ref h21, .ref h22])), (h1, .inl (zI g, 180, .inl G0_1))] H → va_D A [(h0, .inr (5, [.ref h1, .int f0, .ref h2, .int f1, .int f2, .ref h3, .ref h4, .ref h5, .ref h6, .int f3, .ref h7, .ref h8, .ref h9, .int f4, .ref h10, .ref h11, .ref h12, .ref h13, .ref h14, .ref h15, .ref h16, .ref h17, .ref h18, .ref h19, .ref h20, .ref h21, .ref h22])), (h1, .inl (zI g, 180, .inl G0_1))] → va_S A s.heap H locs → ∀ (ls : Array Slot), lv_has ls 2 [(0, .ref h0), (1, .int v1_1)] → W p l e ({ frames := 0, cells := 0, slots := 0, locals := 0 }) s m args below meth c H locs 0 0 (MQ below (va_Qi (fun (r : Int32) (u : (Nat → Int32)) => ((f0.toInt = 0 → r.toInt = -4) ∧ (f0.toInt ≠ 0 → r.toInt = 1)) ∧ iW K (if (f0.toInt ≠ 0) then bCpy C B else B) C u) (zPost g (fun u : (Nat → Int32) => [(h0, .inr (5, [.ref h1, .int f0, .ref h2, .int f1, .int f2, .ref h3, .ref h4, .ref h5, .ref h6, .int f3, .ref h7, .ref h8, .ref h9, .int f4, .ref h10, .ref h11, .ref h12, .ref h13, .ref h14, .ref h15, .ref h16, .ref h17, .ref h18, .ref h19, .ref h20, .ref h21, .ref h22])), (h1, .inl (zI g, 180, .inl u))]) A) A) args s 0 0 A) (F0 m 12 ls []) := by
      intro n2
      induction n2 with
      | zero => intro v1_1 G0_1 hG0_1 n2_0 n2_1 hm2; exfalso; omega
      | succ n2 ih2 =>
        intro v1_1 G0_1 hG0_1 n2_0 n2_1 hm2 H locs hP hD hS ls hl
        refine lv_iload_n hx hb dX5_restore_12 rfl (lv_at hl 1 rfl) ?_
        refine lv_bipush (v := 90) hx hb dX5_restore_13 (by decide) ?_
        refine lv_icmp_ge (tgt := 39) hx hb dX5_restore_15 (by decide) (fun c_2 => ?_) (fun c_2 => ?_)
        · have i_2 : 90 ≤ v1_1.toInt := z_le (rfl) (rfl) c_2
          have hI1 : iW K (bCpy C B) C G0_1 := zRes_end hG0_1 (by omega)
          refine lv_iconst (v := 1) hx hb dX5_restore_39 (by decide) ?_
          have : (1 : Int32).toInt = 1 := rfl
          have hP9 := hP.sub (ws' := [(h0, .inr (5, [.ref h1, .int f0, .ref h2, .int f1, .int f2, .ref h3, .ref h4, .ref h5, .ref h6, .int f3, .ref h7, .ref h8, .ref h9, .int f4, .ref h10, .ref h11, .ref h12, .ref h13, .ref h14, .ref h15, .ref h16, .ref h17, .ref h18, .ref h19, .ref h20, .ref h21, .ref h22])), (h1, .inl (zI g, 180, .inl G0_1))]) [0, 1] rfl
          have hD9 := hD.sub (ws' := [(h0, .inr (5, [.ref h1, .int f0, .ref h2, .int f1, .int f2, .ref h3, .ref h4, .ref h5, .ref h6, .int f3, .ref h7, .ref h8, .ref h9, .int f4, .ref h10, .ref h11, .ref h12, .ref h13, .ref h14, .ref h15, .ref h16, .ref h17, .ref h18, .ref h19, .ref h20, .ref h21, .ref h22])), (h1, .inl (zI g, 180, .inl G0_1))]) [0, 1] (by decide) rfl
          exact W.iret (v := 1) hx hb hr (fun t ht hW => ⟨⟨1, G0_1, rfl, ⟨⟨(by first | omega | decide), (by first | omega | decide)⟩, (by rw [if_pos (by omega)]; exact hI1)⟩, by rw [ht]; exact hP9, hD9⟩, hS.F ht⟩) hS.2.2 dX5_restore_40
        · have i_2 : v1_1.toInt < 90 := z_nle (rfl) (rfl) c_2
          refine lv_aload_n hx hb dX5_restore_18 rfl (lv_at hl 0 rfl) ?_
          refine va_get (D := g.1) (ci := 5) (v := .ref h1) (C := RX5) (T := TX5) (N := 27) hx hb hts zl_X5 hown hK hP 0 rfl rfl 0 (by decide) (hts _ m_f_RX5_7) (fun _ h => h) rfl dX5_restore_19 ?_
          refine lv_iload_n hx hb dX5_restore_22 rfl (lv_at hl 1 rfl) ?_
          refine lv_aload_n hx hb dX5_restore_23 rfl (lv_at hl 0 rfl) ?_
          refine va_get (D := g.1) (ci := 5) (v := .ref h1) (C := RX5) (T := TX5) (N := 27) hx hb hts zl_X5 hown hK hP 0 rfl rfl 0 (by decide) (hts _ m_f_RX5_7) (fun _ h => h) rfl dX5_restore_24 ?_
          refine lv_bipush (v := 90) hx hb dX5_restore_27 (by decide) ?_
          refine lv_iload_n hx hb dX5_restore_29 rfl (lv_at hl 1 rfl) ?_
          refine lv_iadd hx hb dX5_restore_30 ?_
          refine lv_topi (fun y2 ey2 => ?_)
          have qy2_0 : y2.toInt = 90 + v1_1.toInt := zi_add ey2 (rfl) (rfl) (by omega) (by omega)
          refine va_iald (D := g.1) hx hb hK hP 1 0 rfl rfl (vp_in_iff.mpr ⟨by omega, by omega⟩) dX5_restore_31 ?_
          refine lv_topi (fun y3 ey3 => ?_)
          have qy3_0 : y3.toInt = (G0_1 y2.toNatClampNeg).toInt := congrArg Int32.toInt ey3
          refine va_iast (D := g.1) hx hb hK hP hD hS 1 0 rfl rfl (vp_in_iff.mpr ⟨by omega, by omega⟩) dX5_restore_32 (fun H locs hP hD hS => ?_)
          have hP : va_P g.1 vwCl [(h0, .inr (5, [.ref h1, .int f0, .ref h2, .int f1, .int f2, .ref h3, .ref h4, .ref h5, .ref h6, .int f3, .ref h7, .ref h8, .ref h9, .int f4, .ref h10, .ref h11, .ref h12, .ref h13, .ref h14, .ref h15, .ref h16, .ref h17, .ref h18, .ref h19, .ref h20, .ref h21, .ref h22])), (h1, .inl (zI g, 180, .inl (upd G0_1 v1_1.toNatClampNeg y3)))] H := hP
          have hD : va_D A [(h0, .inr (5, [.ref h1, .int f0, .ref h2, .int f1, .int f2, .ref h3, .ref h4, .ref h5, .ref h6, .int f3, .ref h7, .ref h8, .ref h9, .int f4, .ref h10, .ref h11, .ref h12, .ref h13, .ref h14, .ref h15, .ref h16, .ref h17, .ref h18, .ref h19, .ref h20, .ref h21, .ref h22])), (h1, .inl (zI g, 180, .inl (upd G0_1 v1_1.toNatClampNeg y3)))] := hD
          have hI4 : zRes C (v1_1.toInt + 1) (upd G0_1 v1_1.toNatClampNeg y3) := zRes_put (n := y2) (i := v1_1) (a := v1_1.toInt) hG0_1 (ey3) (by omega) (rfl) (by omega) (by omega)
          obtain ⟨R5, eR5⟩ : ∃ z : Nat → Int32, z = (upd G0_1 v1_1.toNatClampNeg y3) := ⟨_, rfl⟩
          rw [← eR5] at hP hD hI4
          obtain ⟨y6, ey6⟩ : ∃ z : Int32, z = v1_1 + 1 := ⟨_, rfl⟩
          have qy6 : y6.toInt = v1_1.toInt + 1 := zi_add ey6 (rfl) rfl (by omega) (by omega)
          refine lv_iinc (v := y6) (lv' := [(1, .int y6), (0, .ref h0)]) hx hb dX5_restore_33 hl (k := 1) rfl ey6.symm (by decide) rfl (fun ls hl => ?_)
          refine lv_goto (tgt := 12) hx hb dX5_restore_36 (by decide) ?_
          exact ih2 y6 R5 (zRes_eq hI4 (by omega)) (by omega) (by omega) (by omega) _ _ hP hD hS ls (lv_sub hl [1, 0] rfl)
    have : (0 : Int32).toInt = 0 := rfl
    exact loop12_1 ((90 - 0 : Int).toNat + 1) (0 : Int32) Z0 (zRes_eq hI0 (by omega)) (by omega) (by omega) (by omega) _ _ hP hD hS ls (lv_sub hl [1, 0] rfl)
  · have i_0 : f0.toInt = 0 := z_eq (rfl) (rfl) c_0
    refine lv_bipush (v := (-4)) hx hb dX5_restore_7 (by decide) ?_
    have : ((-4) : Int32).toInt = (-4) := rfl
    have hP9 := hP.sub (ws' := [(h0, .inr (5, [.ref h1, .int f0, .ref h2, .int f1, .int f2, .ref h3, .ref h4, .ref h5, .ref h6, .int f3, .ref h7, .ref h8, .ref h9, .int f4, .ref h10, .ref h11, .ref h12, .ref h13, .ref h14, .ref h15, .ref h16, .ref h17, .ref h18, .ref h19, .ref h20, .ref h21, .ref h22])), (h1, .inl (zI g, 180, .inl Z0))]) [0, 1] rfl
    have hD9 := hD.sub (ws' := [(h0, .inr (5, [.ref h1, .int f0, .ref h2, .int f1, .int f2, .ref h3, .ref h4, .ref h5, .ref h6, .int f3, .ref h7, .ref h8, .ref h9, .int f4, .ref h10, .ref h11, .ref h12, .ref h13, .ref h14, .ref h15, .ref h16, .ref h17, .ref h18, .ref h19, .ref h20, .ref h21, .ref h22])), (h1, .inl (zI g, 180, .inl Z0))]) [0, 1] (by decide) rfl
    exact W.iret (v := (-4)) hx hb hr (fun t ht hW => ⟨⟨(-4), Z0, rfl, ⟨⟨(by first | omega | decide), (by first | omega | decide)⟩, (by rw [if_neg (by omega)]; exact hF_Z0)⟩, by rw [ht]; exact hP9, hD9⟩, hS.F ht⟩) hS.2.2 dX5_restore_9
set_option maxHeartbeats 8000000 in
set_option maxRecDepth 100000 in
theorem gX5_isSheet (l : Launch) (g : zG) (sz : Nat) (p0 : Int32) : Met l yX5_isSheet (.code yX5_isSheet cX5_isSheet 1 (some .boolean) :: zBig) ({ frames := 1, cells := 0, slots := 0, locals := 25 }) (va_Pc [.int p0] (zPre g [] sz)) (va_Qi (fun (r : Int32) (u : Nat) => (p0.toInt < 0 ∧ r = 0) ∨ (0 ≤ p0.toInt ∧ 3 < p0.toInt ∧ r = 0) ∨ (0 ≤ p0.toInt ∧ p0.toInt ≤ 3 ∧ r = 1)) (zPost g (fun u : Nat => []) (va_A [] sz)) (va_A [] sz)) 0 0 (va_A [] sz) := by
  refine zMetI rfl (Nat.le_of_ble_eq_true rfl) ?_
  intro p e s m args below meth c A ls hx hb hml hr hlocks hin hown hts hK hN hZ hP hD hA hS hAe hl
  have hown : s.vm.findClass RX5 = some m.cls := hown
  have hl : lv_has ls 1 [(0, .int p0)] := hl
  refine lv_iload_n hx hb dX5_isSheet_0 rfl (lv_at hl 0 rfl) ?_
  refine lv_i2l (v := p0.toInt64) hx hb dX5_isSheet_1 rfl ?_
  refine lv_lconst (v := 0) hx hb dX5_isSheet_2 (by decide) ?_
  refine lv_ldc2 (v := 3) hx hb hown (hts _ m_k_RX5_96) dX5_isSheet_3 ?_
  refine z_calli (wr := []) hP hD hS hA [] [] (by decide) rfl rfl (by decide) (va_runS (As := [.long p0.toInt64, .long 0, .long 3]) (rest := []) ⟨hx, hb, hml, hown, hts⟩ (gX5_in l g  s.heap.size p0.toInt64 (0 : Int64) (3 : Int64)) ⟨callB_of 3 hts (zGood m_o_yX5_in) rfl rfl rfl (hts _ m_z_RX5) (hts _ m_m_RX5_77) ⟨by decide +kernel, by decide +kernel, by decide +kernel⟩ ⟨Nat.le_of_ble_eq_true rfl, Nat.le_of_ble_eq_true rfl⟩, hts _ m_s_yX5_in⟩ (zPreS hK hN hZ hP hD hS hA [] (by decide) rfl rfl) rfl rfl hl.1 rfl (lv_room (Nat.le_of_ble_eq_true rfl)) dX5_isSheet_6 ⟨Nat.le_of_ble_eq_true rfl, Nat.le_of_ble_eq_true rfl⟩) (fun r u H locs hw hP hD hS => ?_)
  rcases hw with ⟨i_0, rfl⟩ | ⟨i_1, i_2, rfl⟩ | ⟨i_3, i_4, rfl⟩
  · skip
    have i_0 : p0.toInt < 0 := by (try simp only [Int32.toInt_toInt64] at i_0); exact i_0
    have hP : va_P g.1 vwCl [] H := hP
    have hD : va_D A [] := hD
    have hP9 := hP.sub (ws' := []) [] rfl
    have hD9 := hD.sub (ws' := []) [] (by decide) rfl
    exact W.zret (v := 0) hx hb hr (by decide) (fun t ht hW => ⟨⟨0, (0 : Nat), rfl, Or.inl ⟨i_0, rfl⟩, by rw [ht]; exact hP9, hD9⟩, hS.F ht⟩) hS.2.2 dX5_isSheet_9
  · skip
    have i_1 : 0 ≤ p0.toInt := by (try simp only [Int32.toInt_toInt64] at i_1); exact i_1
    have i_2 : 3 < p0.toInt := by (try simp only [Int32.toInt_toInt64] at i_2); exact i_2
    have hP : va_P g.1 vwCl [] H := hP
    have hD : va_D A [] := hD
    have hP9 := hP.sub (ws' := []) [] rfl
    have hD9 := hD.sub (ws' := []) [] (by decide) rfl
    exact W.zret (v := 0) hx hb hr (by decide) (fun t ht hW => ⟨⟨0, (0 : Nat), rfl, Or.inr (Or.inl ⟨i_1, i_2, rfl⟩), by rw [ht]; exact hP9, hD9⟩, hS.F ht⟩) hS.2.2 dX5_isSheet_9
  · skip
    have i_3 : 0 ≤ p0.toInt := by (try simp only [Int32.toInt_toInt64] at i_3); exact i_3
    have i_4 : p0.toInt ≤ 3 := by (try simp only [Int32.toInt_toInt64] at i_4); exact i_4
    have hP : va_P g.1 vwCl [] H := hP
    have hD : va_D A [] := hD
    have hP9 := hP.sub (ws' := []) [] rfl
    have hD9 := hD.sub (ws' := []) [] (by decide) rfl
    exact W.zret (v := 1) hx hb hr (by decide) (fun t ht hW => ⟨⟨1, (0 : Nat), rfl, Or.inr (Or.inr (⟨i_3, i_4, rfl⟩)), by rw [ht]; exact hP9, hD9⟩, hS.F ht⟩) hS.2.2 dX5_isSheet_9
set_option maxHeartbeats 8000000 in
set_option maxRecDepth 100000 in
theorem gX5_bars (l : Launch) (g : zG) (h0 h1 h2 h3 h4 h5 h6 h7 h8 h9 h10 h11 h12 h13 h14 h15 h16 h17 h18 h19 h20 h21 h22 : Nat) (sz : Nat) (p1 : Int32) (p2 : Int32) (p3 : Int32) (p4 : Int32) (f0 : Int32) (f1 : Int32) (f2 : Int32) (f3 : Int32) (f4 : Int32) (Z18 : Nat → Int32) (Z19 : Nat → Int32) (hp0 : 0 ≤ p1.toInt) (hp1 : p1.toInt ≤ 3) (hf_f1 : 0 ≤ f1.toInt ∧ f1.toInt ≤ 60) (hf_f2 : 0 ≤ f2.toInt ∧ f2.toInt ≤ 60) (hf_f3 : 0 ≤ f3.toInt ∧ f3.toInt ≤ 31) (hf_f4 : 0 ≤ f4.toInt ∧ f4.toInt ≤ 1000) (hF_Z19 : iSize Z19) : Met l yX5_bars (.code yX5_bars cX5_bars 5 (some .int) :: zBig) ({ frames := 0, cells := 0, slots := 0, locals := 0 }) (va_Pc [.ref h0, .int p1, .int p2, .int p3, .int p4] (zPre g [(h0, .inr (5, [.ref h1, .int f0, .ref h2, .int f1, .int f2, .ref h3, .ref h4, .ref h5, .ref h6, .int f3, .ref h7, .ref h8, .ref h9, .int f4, .ref h10, .ref h11, .ref h12, .ref h13, .ref h14, .ref h15, .ref h16, .ref h17, .ref h18, .ref h19, .ref h20, .ref h21, .ref h22])), (h19, .inl (zI g, 4, .inl Z18)), (h20, .inl (zI g, 4, .inl Z19))] sz)) (va_Qi (fun (r : Int32) (u : Nat) => (0 ≤ p1.toInt ∧ p1.toInt ≤ 3 ∧ 0 ≤ p4.toInt ∧ p4.toInt ≤ 16 ∧ 0 ≤ p3.toInt ∧ p3.toInt ≤ 16 ∧ p3.toInt + p4.toInt ≤ 16 ∧ 0 ≤ (Z18 p1.toNatClampNeg).toInt ∧ (Z18 p1.toNatClampNeg).toInt = p2.toInt ∧ p3.toInt + p4.toInt ≤ (Z19 p1.toNatClampNeg).toInt ∧ r = 0) ∨ (r.toInt < 0 ∧ ((Z18 p1.toNatClampNeg).toInt < 0 → r.toInt = -11) ∧ (0 ≤ (Z18 p1.toNatClampNeg).toInt → (Z18 p1.toNatClampNeg).toInt ≠ p2.toInt → r.toInt = -12) ∧ (0 ≤ (Z18 p1.toNatClampNeg).toInt → (Z18 p1.toNatClampNeg).toInt = p2.toInt → r.toInt = -13) ∧ (0 ≤ (Z18 p1.toNatClampNeg).toInt → (Z18 p1.toNatClampNeg).toInt = p2.toInt → p3.toInt < 0 ∨ p4.toInt < 0 ∨ (Z19 p1.toNatClampNeg).toInt < p3.toInt + p4.toInt))) (zPost g (fun u : Nat => [(h0, .inr (5, [.ref h1, .int f0, .ref h2, .int f1, .int f2, .ref h3, .ref h4, .ref h5, .ref h6, .int f3, .ref h7, .ref h8, .ref h9, .int f4, .ref h10, .ref h11, .ref h12, .ref h13, .ref h14, .ref h15, .ref h16, .ref h17, .ref h18, .ref h19, .ref h20, .ref h21, .ref h22])), (h19, .inl (zI g, 4, .inl Z18)), (h20, .inl (zI g, 4, .inl Z19))]) (va_A [(h0, .inr (5, [.ref h1, .int f0, .ref h2, .int f1, .int f2, .ref h3, .ref h4, .ref h5, .ref h6, .int f3, .ref h7, .ref h8, .ref h9, .int f4, .ref h10, .ref h11, .ref h12, .ref h13, .ref h14, .ref h15, .ref h16, .ref h17, .ref h18, .ref h19, .ref h20, .ref h21, .ref h22])), (h19, .inl (zI g, 4, .inl Z18)), (h20, .inl (zI g, 4, .inl Z19))] sz)) (va_A [(h0, .inr (5, [.ref h1, .int f0, .ref h2, .int f1, .int f2, .ref h3, .ref h4, .ref h5, .ref h6, .int f3, .ref h7, .ref h8, .ref h9, .int f4, .ref h10, .ref h11, .ref h12, .ref h13, .ref h14, .ref h15, .ref h16, .ref h17, .ref h18, .ref h19, .ref h20, .ref h21, .ref h22])), (h19, .inl (zI g, 4, .inl Z18)), (h20, .inl (zI g, 4, .inl Z19))] sz)) 0 0 (va_A [(h0, .inr (5, [.ref h1, .int f0, .ref h2, .int f1, .int f2, .ref h3, .ref h4, .ref h5, .ref h6, .int f3, .ref h7, .ref h8, .ref h9, .int f4, .ref h10, .ref h11, .ref h12, .ref h13, .ref h14, .ref h15, .ref h16, .ref h17, .ref h18, .ref h19, .ref h20, .ref h21, .ref h22])), (h19, .inl (zI g, 4, .inl Z18)), (h20, .inl (zI g, 4, .inl Z19))] sz) := by
  refine zMetI rfl (Nat.le_of_ble_eq_true rfl) ?_
  intro p e s m args below meth c A ls hx hb hml hr hlocks hin hown hts hK hN hZ hP hD hA hS hAe hl
  have hown : s.vm.findClass RX5 = some m.cls := hown
  have hl : lv_has ls 5 [(0, .ref h0), (1, .int p1), (2, .int p2), (3, .int p3), (4, .int p4)] := hl
  have hs16 : 0 ≤ p1.toInt → p1.toInt ≤ 3 → (Z19 p1.toNatClampNeg).toInt ≤ 16 := fun h1 h2 => (hF_Z19 _ (z_idx (vp_in_iff.mpr ⟨h1, by omega⟩))).2
  refine lv_aload_n hx hb dX5_bars_0 rfl (lv_at hl 0 rfl) ?_
  refine va_get (D := g.1) (ci := 5) (v := .ref h19) (C := RX5) (T := TX5) (N := 27) hx hb hts zl_X5 hown hK hP 0 rfl rfl 23 (by decide) (hts _ m_f_RX5_64) (fun _ h => h) rfl dX5_bars_1 ?_
  refine lv_iload_n hx hb dX5_bars_4 rfl (lv_at hl 1 rfl) ?_
  refine va_iald (D := g.1) hx hb hK hP 1 0 rfl rfl (vp_in_iff.mpr ⟨by omega, by omega⟩) dX5_bars_5 ?_
  refine lv_topi (fun y0 ey0 => ?_)
  have qy0_0 : y0.toInt = (Z18 p1.toNatClampNeg).toInt := congrArg Int32.toInt ey0
  refine lv_if_ge (tgt := 14) hx hb dX5_bars_6 (by decide) (fun c_0 => ?_) (fun c_0 => ?_)
  · have i_0 : 0 ≤ y0.toInt := z_le (rfl) (rfl) c_0
    refine lv_aload_n hx hb dX5_bars_14 rfl (lv_at hl 0 rfl) ?_
    refine va_get (D := g.1) (ci := 5) (v := .ref h19) (C := RX5) (T := TX5) (N := 27) hx hb hts zl_X5 hown hK hP 0 rfl rfl 23 (by decide) (hts _ m_f_RX5_64) (fun _ h => h) rfl dX5_bars_15 ?_
    refine lv_iload_n hx hb dX5_bars_18 rfl (lv_at hl 1 rfl) ?_
    refine va_iald (D := g.1) hx hb hK hP 1 0 rfl rfl (vp_in_iff.mpr ⟨by omega, by omega⟩) dX5_bars_19 ?_
    refine lv_topi (fun y1 ey1 => ?_)
    have qy1_0 : y1.toInt = (Z18 p1.toNatClampNeg).toInt := congrArg Int32.toInt ey1
    refine lv_iload_n hx hb dX5_bars_20 rfl (lv_at hl 2 rfl) ?_
    refine lv_icmp_eq (tgt := 29) hx hb dX5_bars_21 (by decide) (fun c_1 => ?_) (fun c_1 => ?_)
    · have i_1 : y1.toInt = p2.toInt := z_eq (rfl) (rfl) c_1
      refine lv_iload_n hx hb dX5_bars_29 rfl (lv_at hl 3 rfl) ?_
      refine lv_if_lt (tgt := 55) hx hb dX5_bars_30 (by decide) (fun c_2 => ?_) (fun c_2 => ?_)
      · have i_2 : p3.toInt < 0 := z_lt (rfl) (rfl) c_2
        refine lv_bipush (v := (-13)) hx hb dX5_bars_55 (by decide) ?_
        refine lv_goto (tgt := 61) hx hb dX5_bars_57 (by decide) ?_
        have : ((-13) : Int32).toInt = (-13) := rfl
        have hP9 := hP.sub (ws' := [(h0, .inr (5, [.ref h1, .int f0, .ref h2, .int f1, .int f2, .ref h3, .ref h4, .ref h5, .ref h6, .int f3, .ref h7, .ref h8, .ref h9, .int f4, .ref h10, .ref h11, .ref h12, .ref h13, .ref h14, .ref h15, .ref h16, .ref h17, .ref h18, .ref h19, .ref h20, .ref h21, .ref h22])), (h19, .inl (zI g, 4, .inl Z18)), (h20, .inl (zI g, 4, .inl Z19))]) [0, 1, 2] rfl
        have hD9 := hD.sub (ws' := [(h0, .inr (5, [.ref h1, .int f0, .ref h2, .int f1, .int f2, .ref h3, .ref h4, .ref h5, .ref h6, .int f3, .ref h7, .ref h8, .ref h9, .int f4, .ref h10, .ref h11, .ref h12, .ref h13, .ref h14, .ref h15, .ref h16, .ref h17, .ref h18, .ref h19, .ref h20, .ref h21, .ref h22])), (h19, .inl (zI g, 4, .inl Z18)), (h20, .inl (zI g, 4, .inl Z19))]) [0, 1, 2] (by decide) rfl
        exact W.iret (v := (-13)) hx hb hr (fun t ht hW => ⟨⟨(-13), (0 : Nat), rfl, Or.inr (⟨(by first | omega | decide), (by first | omega | decide), (by first | omega | decide), (by first | omega | decide), (by first | omega | decide)⟩), by rw [ht]; exact hP9, hD9⟩, hS.F ht⟩) hS.2.2 dX5_bars_61
      · have i_2 : 0 ≤ p3.toInt := z_nlt (rfl) (rfl) c_2
        refine lv_iload hx hb dX5_bars_33 (lv_at hl 4 rfl) ?_
        refine lv_if_lt (tgt := 55) hx hb dX5_bars_35 (by decide) (fun c_3 => ?_) (fun c_3 => ?_)
        · have i_3 : p4.toInt < 0 := z_lt (rfl) (rfl) c_3
          refine lv_bipush (v := (-13)) hx hb dX5_bars_55 (by decide) ?_
          refine lv_goto (tgt := 61) hx hb dX5_bars_57 (by decide) ?_
          have : ((-13) : Int32).toInt = (-13) := rfl
          have hP9 := hP.sub (ws' := [(h0, .inr (5, [.ref h1, .int f0, .ref h2, .int f1, .int f2, .ref h3, .ref h4, .ref h5, .ref h6, .int f3, .ref h7, .ref h8, .ref h9, .int f4, .ref h10, .ref h11, .ref h12, .ref h13, .ref h14, .ref h15, .ref h16, .ref h17, .ref h18, .ref h19, .ref h20, .ref h21, .ref h22])), (h19, .inl (zI g, 4, .inl Z18)), (h20, .inl (zI g, 4, .inl Z19))]) [0, 1, 2] rfl
          have hD9 := hD.sub (ws' := [(h0, .inr (5, [.ref h1, .int f0, .ref h2, .int f1, .int f2, .ref h3, .ref h4, .ref h5, .ref h6, .int f3, .ref h7, .ref h8, .ref h9, .int f4, .ref h10, .ref h11, .ref h12, .ref h13, .ref h14, .ref h15, .ref h16, .ref h17, .ref h18, .ref h19, .ref h20, .ref h21, .ref h22])), (h19, .inl (zI g, 4, .inl Z18)), (h20, .inl (zI g, 4, .inl Z19))]) [0, 1, 2] (by decide) rfl
          exact W.iret (v := (-13)) hx hb hr (fun t ht hW => ⟨⟨(-13), (0 : Nat), rfl, Or.inr (⟨(by first | omega | decide), (by first | omega | decide), (by first | omega | decide), (by first | omega | decide), (by first | omega | decide)⟩), by rw [ht]; exact hP9, hD9⟩, hS.F ht⟩) hS.2.2 dX5_bars_61
        · have i_3 : 0 ≤ p4.toInt := z_nlt (rfl) (rfl) c_3
          refine lv_iload_n hx hb dX5_bars_38 rfl (lv_at hl 3 rfl) ?_
          refine lv_i2l (v := p3.toInt64) hx hb dX5_bars_39 rfl ?_
          refine lv_iload hx hb dX5_bars_40 (lv_at hl 4 rfl) ?_
          refine lv_i2l (v := p4.toInt64) hx hb dX5_bars_42 rfl ?_
          refine lv_ladd hx hb dX5_bars_43 ?_
          have := z_rng p3
          have := z_rng p4
          refine lv_topl (fun y2 ey2 => ?_)
          have qy2_0 : (y2 : Int64).toInt = p3.toInt + p4.toInt := zl_add ey2 ((Int32.toInt_toInt64 _)) ((Int32.toInt_toInt64 _)) (by omega) (by omega)
          refine lv_aload_n hx hb dX5_bars_44 rfl (lv_at hl 0 rfl) ?_
          refine va_get (D := g.1) (ci := 5) (v := .ref h20) (C := RX5) (T := TX5) (N := 27) hx hb hts zl_X5 hown hK hP 0 rfl rfl 24 (by decide) (hts _ m_f_RX5_67) (fun _ h => h) rfl dX5_bars_45 ?_
          refine lv_iload_n hx hb dX5_bars_48 rfl (lv_at hl 1 rfl) ?_
          refine va_iald (D := g.1) hx hb hK hP 2 0 rfl rfl (vp_in_iff.mpr ⟨by omega, by omega⟩) dX5_bars_49 ?_
          refine lv_topi (fun y3 ey3 => ?_)
          have qy3_0 : 0 ≤ y3.toInt := (ey3 ▸ (hF_Z19 _ (z_idx (vp_in_iff.mpr ⟨by omega, by omega⟩))).1)
          have qy3_1 : y3.toInt ≤ 16 := (ey3 ▸ (hF_Z19 _ (z_idx (vp_in_iff.mpr ⟨by omega, by omega⟩))).2)
          have qy3_2 : y3.toInt = (Z19 p1.toNatClampNeg).toInt := congrArg Int32.toInt ey3
          refine lv_i2l (v := y3.toInt64) hx hb dX5_bars_50 rfl ?_
          refine W.lcmp hx hb dX5_bars_51 ?_
          refine lv_if_le (tgt := 60) hx hb dX5_bars_52 (by decide) (fun c_4 => ?_) (fun c_4 => ?_)
          · have i_4 : (y2 : Int64).toInt ≤ y3.toInt := zl_le (rfl) ((Int32.toInt_toInt64 _)) ((lg_cmp_le _ _).mp c_4)
            refine lv_iconst (v := 0) hx hb dX5_bars_60 (by decide) ?_
            have hP9 := hP.sub (ws' := [(h0, .inr (5, [.ref h1, .int f0, .ref h2, .int f1, .int f2, .ref h3, .ref h4, .ref h5, .ref h6, .int f3, .ref h7, .ref h8, .ref h9, .int f4, .ref h10, .ref h11, .ref h12, .ref h13, .ref h14, .ref h15, .ref h16, .ref h17, .ref h18, .ref h19, .ref h20, .ref h21, .ref h22])), (h19, .inl (zI g, 4, .inl Z18)), (h20, .inl (zI g, 4, .inl Z19))]) [0, 1, 2] rfl
            have hD9 := hD.sub (ws' := [(h0, .inr (5, [.ref h1, .int f0, .ref h2, .int f1, .int f2, .ref h3, .ref h4, .ref h5, .ref h6, .int f3, .ref h7, .ref h8, .ref h9, .int f4, .ref h10, .ref h11, .ref h12, .ref h13, .ref h14, .ref h15, .ref h16, .ref h17, .ref h18, .ref h19, .ref h20, .ref h21, .ref h22])), (h19, .inl (zI g, 4, .inl Z18)), (h20, .inl (zI g, 4, .inl Z19))]) [0, 1, 2] (by decide) rfl
            exact W.iret (v := 0) hx hb hr (fun t ht hW => ⟨⟨0, (0 : Nat), rfl, Or.inl ⟨(by first | omega | decide), (by first | omega | decide), (by first | omega | decide), (by first | omega | decide), (by first | omega | decide), (by first | omega | decide), (by first | omega | decide), (by first | omega | decide), (by first | omega | decide), (by first | omega | decide), rfl⟩, by rw [ht]; exact hP9, hD9⟩, hS.F ht⟩) hS.2.2 dX5_bars_61
          · have i_4 : y3.toInt < (y2 : Int64).toInt := zl_nle (rfl) ((Int32.toInt_toInt64 _)) (fun h => c_4 ((lg_cmp_le _ _).mpr h))
            refine lv_bipush (v := (-13)) hx hb dX5_bars_55 (by decide) ?_
            refine lv_goto (tgt := 61) hx hb dX5_bars_57 (by decide) ?_
            have : ((-13) : Int32).toInt = (-13) := rfl
            have hP9 := hP.sub (ws' := [(h0, .inr (5, [.ref h1, .int f0, .ref h2, .int f1, .int f2, .ref h3, .ref h4, .ref h5, .ref h6, .int f3, .ref h7, .ref h8, .ref h9, .int f4, .ref h10, .ref h11, .ref h12, .ref h13, .ref h14, .ref h15, .ref h16, .ref h17, .ref h18, .ref h19, .ref h20, .ref h21, .ref h22])), (h19, .inl (zI g, 4, .inl Z18)), (h20, .inl (zI g, 4, .inl Z19))]) [0, 1, 2] rfl
            have hD9 := hD.sub (ws' := [(h0, .inr (5, [.ref h1, .int f0, .ref h2, .int f1, .int f2, .ref h3, .ref h4, .ref h5, .ref h6, .int f3, .ref h7, .ref h8, .ref h9, .int f4, .ref h10, .ref h11, .ref h12, .ref h13, .ref h14, .ref h15, .ref h16, .ref h17, .ref h18, .ref h19, .ref h20, .ref h21, .ref h22])), (h19, .inl (zI g, 4, .inl Z18)), (h20, .inl (zI g, 4, .inl Z19))]) [0, 1, 2] (by decide) rfl
            exact W.iret (v := (-13)) hx hb hr (fun t ht hW => ⟨⟨(-13), (0 : Nat), rfl, Or.inr (⟨(by first | omega | decide), (by first | omega | decide), (by first | omega | decide), (by first | omega | decide), (by first | omega | decide)⟩), by rw [ht]; exact hP9, hD9⟩, hS.F ht⟩) hS.2.2 dX5_bars_61
    · have i_1 : y1.toInt ≠ p2.toInt := z_ne (rfl) (rfl) c_1
      refine lv_bipush (v := (-12)) hx hb dX5_bars_24 (by decide) ?_
      refine lv_goto (tgt := 61) hx hb dX5_bars_26 (by decide) ?_
      have : ((-12) : Int32).toInt = (-12) := rfl
      have hP9 := hP.sub (ws' := [(h0, .inr (5, [.ref h1, .int f0, .ref h2, .int f1, .int f2, .ref h3, .ref h4, .ref h5, .ref h6, .int f3, .ref h7, .ref h8, .ref h9, .int f4, .ref h10, .ref h11, .ref h12, .ref h13, .ref h14, .ref h15, .ref h16, .ref h17, .ref h18, .ref h19, .ref h20, .ref h21, .ref h22])), (h19, .inl (zI g, 4, .inl Z18)), (h20, .inl (zI g, 4, .inl Z19))]) [0, 1, 2] rfl
      have hD9 := hD.sub (ws' := [(h0, .inr (5, [.ref h1, .int f0, .ref h2, .int f1, .int f2, .ref h3, .ref h4, .ref h5, .ref h6, .int f3, .ref h7, .ref h8, .ref h9, .int f4, .ref h10, .ref h11, .ref h12, .ref h13, .ref h14, .ref h15, .ref h16, .ref h17, .ref h18, .ref h19, .ref h20, .ref h21, .ref h22])), (h19, .inl (zI g, 4, .inl Z18)), (h20, .inl (zI g, 4, .inl Z19))]) [0, 1, 2] (by decide) rfl
      exact W.iret (v := (-12)) hx hb hr (fun t ht hW => ⟨⟨(-12), (0 : Nat), rfl, Or.inr (⟨(by first | omega | decide), (by first | omega | decide), (by first | omega | decide), (by first | omega | decide), (by first | omega | decide)⟩), by rw [ht]; exact hP9, hD9⟩, hS.F ht⟩) hS.2.2 dX5_bars_61
  · have i_0 : y0.toInt < 0 := z_nle (rfl) (rfl) c_0
    refine lv_bipush (v := (-11)) hx hb dX5_bars_9 (by decide) ?_
    refine lv_goto (tgt := 61) hx hb dX5_bars_11 (by decide) ?_
    have : ((-11) : Int32).toInt = (-11) := rfl
    have hP9 := hP.sub (ws' := [(h0, .inr (5, [.ref h1, .int f0, .ref h2, .int f1, .int f2, .ref h3, .ref h4, .ref h5, .ref h6, .int f3, .ref h7, .ref h8, .ref h9, .int f4, .ref h10, .ref h11, .ref h12, .ref h13, .ref h14, .ref h15, .ref h16, .ref h17, .ref h18, .ref h19, .ref h20, .ref h21, .ref h22])), (h19, .inl (zI g, 4, .inl Z18)), (h20, .inl (zI g, 4, .inl Z19))]) [0, 1, 2] rfl
    have hD9 := hD.sub (ws' := [(h0, .inr (5, [.ref h1, .int f0, .ref h2, .int f1, .int f2, .ref h3, .ref h4, .ref h5, .ref h6, .int f3, .ref h7, .ref h8, .ref h9, .int f4, .ref h10, .ref h11, .ref h12, .ref h13, .ref h14, .ref h15, .ref h16, .ref h17, .ref h18, .ref h19, .ref h20, .ref h21, .ref h22])), (h19, .inl (zI g, 4, .inl Z18)), (h20, .inl (zI g, 4, .inl Z19))]) [0, 1, 2] (by decide) rfl
    exact W.iret (v := (-11)) hx hb hr (fun t ht hW => ⟨⟨(-11), (0 : Nat), rfl, Or.inr (⟨(by first | omega | decide), (by first | omega | decide), (by first | omega | decide), (by first | omega | decide), (by first | omega | decide)⟩), by rw [ht]; exact hP9, hD9⟩, hS.F ht⟩) hS.2.2 dX5_bars_61
set_option maxHeartbeats 8000000 in
set_option maxRecDepth 100000 in
theorem gX5_isSo (l : Launch) (g : zG) (K : Prop) (B C : zBk) (hB : bOk B) (h0 h1 h2 h3 h4 h5 h6 h7 h8 h9 h10 h11 h12 h13 h14 h15 h16 h17 h18 h19 h20 h21 h22 : Nat) (sz : Nat) (p1 : Int32) (f0 : Int32) (f1 : Int32) (f2 : Int32) (f3 : Int32) (f4 : Int32) (Z0 : Nat → Int32) (Z9 : Nat → Int32) (Z10 : Nat → Int32) (Z20 : Nat → Int64) (hp0 : 0 ≤ p1.toInt) (hp1 : p1.toInt ≤ 64) (hp2 : p1.toInt + 2 * (Z0 5).toInt ≤ 64) (hf_f1 : 0 ≤ f1.toInt ∧ f1.toInt ≤ 60) (hf_f2 : 0 ≤ f2.toInt ∧ f2.toInt ≤ 60) (hf_f3 : 0 ≤ f3.toInt ∧ f3.toInt ≤ 31) (hf_f4 : 0 ≤ f4.toInt ∧ f4.toInt ≤ 1000) (hF_Z0 : iW K B C Z0) : Met l yX5_isSo (.code yX5_isSo cX5_isSo 6 (some .boolean) :: zBig) ({ frames := 0, cells := 0, slots := 0, locals := 0 }) (va_Pc [.ref h0, .int p1] (zPre g [(h0, .inr (5, [.ref h1, .int f0, .ref h2, .int f1, .int f2, .ref h3, .ref h4, .ref h5, .ref h6, .int f3, .ref h7, .ref h8, .ref h9, .int f4, .ref h10, .ref h11, .ref h12, .ref h13, .ref h14, .ref h15, .ref h16, .ref h17, .ref h18, .ref h19, .ref h20, .ref h21, .ref h22])), (h1, .inl (zI g, 180, .inl Z0)), (h10, .inl (zI g, 6, .inl Z9)), (h11, .inl (zI g, 6, .inl Z10)), (h21, .inl (zJ g, 64, .inr (.inl Z20)))] sz)) (va_Qi (fun (r : Int32) (u : Nat) => (r = 1) ∨ (r = 0)) (zPost g (fun u : Nat => [(h0, .inr (5, [.ref h1, .int f0, .ref h2, .int f1, .int f2, .ref h3, .ref h4, .ref h5, .ref h6, .int f3, .ref h7, .ref h8, .ref h9, .int f4, .ref h10, .ref h11, .ref h12, .ref h13, .ref h14, .ref h15, .ref h16, .ref h17, .ref h18, .ref h19, .ref h20, .ref h21, .ref h22])), (h1, .inl (zI g, 180, .inl Z0)), (h10, .inl (zI g, 6, .inl Z9)), (h11, .inl (zI g, 6, .inl Z10)), (h21, .inl (zJ g, 64, .inr (.inl Z20)))]) (va_A [(h0, .inr (5, [.ref h1, .int f0, .ref h2, .int f1, .int f2, .ref h3, .ref h4, .ref h5, .ref h6, .int f3, .ref h7, .ref h8, .ref h9, .int f4, .ref h10, .ref h11, .ref h12, .ref h13, .ref h14, .ref h15, .ref h16, .ref h17, .ref h18, .ref h19, .ref h20, .ref h21, .ref h22])), (h1, .inl (zI g, 180, .inl Z0)), (h10, .inl (zI g, 6, .inl Z9)), (h11, .inl (zI g, 6, .inl Z10)), (h21, .inl (zJ g, 64, .inr (.inl Z20)))] sz)) (va_A [(h0, .inr (5, [.ref h1, .int f0, .ref h2, .int f1, .int f2, .ref h3, .ref h4, .ref h5, .ref h6, .int f3, .ref h7, .ref h8, .ref h9, .int f4, .ref h10, .ref h11, .ref h12, .ref h13, .ref h14, .ref h15, .ref h16, .ref h17, .ref h18, .ref h19, .ref h20, .ref h21, .ref h22])), (h1, .inl (zI g, 180, .inl Z0)), (h10, .inl (zI g, 6, .inl Z9)), (h11, .inl (zI g, 6, .inl Z10)), (h21, .inl (zJ g, 64, .inr (.inl Z20)))] sz)) 0 0 (va_A [(h0, .inr (5, [.ref h1, .int f0, .ref h2, .int f1, .int f2, .ref h3, .ref h4, .ref h5, .ref h6, .int f3, .ref h7, .ref h8, .ref h9, .int f4, .ref h10, .ref h11, .ref h12, .ref h13, .ref h14, .ref h15, .ref h16, .ref h17, .ref h18, .ref h19, .ref h20, .ref h21, .ref h22])), (h1, .inl (zI g, 180, .inl Z0)), (h10, .inl (zI g, 6, .inl Z9)), (h11, .inl (zI g, 6, .inl Z10)), (h21, .inl (zJ g, 64, .inr (.inl Z20)))] sz) := by
  refine zMetI rfl (Nat.le_of_ble_eq_true rfl) ?_
  intro p e s m args below meth c A ls hx hb hml hr hlocks hin hown hts hK hN hZ hP hD hA hS hAe hl
  have hown : s.vm.findClass RX5 = some m.cls := hown
  have hl : lv_has ls 6 [(0, .ref h0), (1, .int p1)] := hl
  refine lv_iconst (v := 1) hx hb dX5_isSo_0 (by decide) ?_
  refine lv_istore_n (lv' := [(2, .int 1), (0, .ref h0), (1, .int p1)]) hx hb dX5_isSo_1 rfl hl (by decide) rfl (fun ls hl => ?_)
  refine lv_iconst (v := 0) hx hb dX5_isSo_2 (by decide) ?_
  refine lv_istore_n (lv' := [(3, .int 0), (2, .int 1), (0, .ref h0), (1, .int p1)]) hx hb dX5_isSo_3 rfl hl (by decide) rfl (fun ls hl => ?_)
  have loop4_0 : ∀ (n1 : Nat) (v2_0 : Int32) (v3_0 : Int32) (n1_0 : 0 ≤ v3_0.toInt) (n1_1 : v3_0.toInt ≤ 6) (n1_2 : 0 ≤ v2_0.toInt) (n1_3 : v2_0.toInt ≤ 1) (hm1 : 6 - v3_0.toInt < (n1 : Int)) (H : Heap) (locs : List Loc), va_P g.1 vwCl [(h0, .inr (5, [.ref h1, .int f0, .ref h2, .int f1, .int f2, .ref h3, .ref h4, .ref h5, .ref h6, .int f3, .ref h7, .ref h8, .ref h9, .int f4, .ref h10, .ref h11, .ref h12, .ref h13, .ref h14, .ref h15, .ref h16, .ref h17, .ref h18, .ref h19, .ref h20, .ref h21, .ref h22])), (h1, .inl (zI g, 180, .inl Z0)), (h10, .inl (zI g, 6, .inl Z9)), (h11, .inl (zI g, 6, .inl Z10)), (h21, .inl (zJ g, 64, .inr (.inl Z20)))] H → va_D A [(h0, .inr (5, [.ref h1, .int f0, .ref h2, .int f1, .int f2, .ref h3, .ref h4, .ref h5, .ref h6, .int f3, .ref h7, .ref h8, .ref h9, .int f4, .ref h10, .ref h11, .ref h12, .ref h13, .ref h14, .ref h15, .ref h16, .ref h17, .ref h18, .ref h19, .ref h20, .ref h21, .ref h22])), (h1, .inl (zI g, 180, .inl Z0)), (h10, .inl (zI g, 6, .inl Z9)), (h11, .inl (zI g, 6, .inl Z10)), (h21, .inl (zJ g, 64, .inr (.inl Z20)))] → va_S A s.heap H locs → ∀ (ls : Array Slot), lv_has ls 6 [(0, .ref h0), (1, .int p1), (2, .int v2_0), (3, .int v3_0)] → W p l e ({ frames := 0, cells := 0, slots := 0, locals := 0 }) s m args below meth c H locs 0 0 (MQ below (va_Qi (fun (r : Int32) (u : Nat) => (r = 1) ∨ (r = 0)) (zPost g (fun u : Nat => [(h0, .inr (5, [.ref h1, .int f0, .ref h2, .int f1, .int f2, .ref h3, .ref h4, .ref h5, .ref h6, .int f3, .ref h7, .ref h8, .ref h9, .int f4, .ref h10, .ref h11, .ref h12, .ref h13, .ref h14, .ref h15, .ref h16, .ref h17, .ref h18, .ref h19, .ref h20, .ref h21, .ref h22])), (h1, .inl (zI g, 180, .inl Z0)), (h10, .inl (zI g, 6, .inl Z9)), (h11, .inl (zI g, 6, .inl Z10)), (h21, .inl (zJ g, 64, .inr (.inl Z20)))]) A) A) args s 0 0 A) (F0 m 4 ls []) := by
    intro n1
    induction n1 with
    | zero => intro v2_0 v3_0 n1_0 n1_1 n1_2 n1_3 hm1; exfalso; omega
    | succ n1 ih1 =>
      intro v2_0 v3_0 n1_0 n1_1 n1_2 n1_3 hm1 H locs hP hD hS ls hl
      refine lv_iload_n hx hb dX5_isSo_4 rfl (lv_at hl 3 rfl) ?_
      refine lv_aload_n hx hb dX5_isSo_5 rfl (lv_at hl 0 rfl) ?_
      refine va_get (D := g.1) (ci := 5) (v := .ref h1) (C := RX5) (T := TX5) (N := 27) hx hb hts zl_X5 hown hK hP 0 rfl rfl 0 (by decide) (hts _ m_f_RX5_7) (fun _ h => h) rfl dX5_isSo_6 ?_
      refine lv_iconst (v := 5) hx hb dX5_isSo_9 (by decide) ?_
      refine va_iald (D := g.1) hx hb hK hP 1 0 rfl rfl (vp_in_iff.mpr (by decide +kernel)) dX5_isSo_10 ?_
      refine lv_topi (fun y0 ey0 => ?_)
      have qy0_0 : 0 ≤ y0.toInt := ((iW_at (i := (5 : Int32)) (a := 5) hF_Z0 (rfl) (by omega) (by omega) ey0).2.2.2.1 (by omega)).1
      have qy0_1 : y0.toInt ≤ 6 := ((iW_at (i := (5 : Int32)) (a := 5) hF_Z0 (rfl) (by omega) (by omega) ey0).2.2.2.1 (by omega)).2
      have qy0_2 : y0.toInt = (Z0 5).toInt := congrArg Int32.toInt ey0
      have qy0_3 : y0.toInt = B.lots := (congrArg Int32.toInt ey0).trans (iW_lots hF_Z0)
      refine lv_icmp_ge (tgt := 99) hx hb dX5_isSo_11 (by decide) (fun c_1 => ?_) (fun c_1 => ?_)
      · have i_1 : y0.toInt ≤ v3_0.toInt := z_le (rfl) (rfl) c_1
        refine lv_iload_n hx hb dX5_isSo_99 rfl (lv_at hl 2 rfl) ?_
        rcases (show v2_0.toInt = 0 ∨ v2_0.toInt = 1 by omega) with j_2 | j_2
        · obtain rfl : v2_0 = 0 := Int32.toInt_inj.mp (show v2_0.toInt = (0 : Int32).toInt from j_2.trans rfl)
          have hP9 := hP.sub (ws' := [(h0, .inr (5, [.ref h1, .int f0, .ref h2, .int f1, .int f2, .ref h3, .ref h4, .ref h5, .ref h6, .int f3, .ref h7, .ref h8, .ref h9, .int f4, .ref h10, .ref h11, .ref h12, .ref h13, .ref h14, .ref h15, .ref h16, .ref h17, .ref h18, .ref h19, .ref h20, .ref h21, .ref h22])), (h1, .inl (zI g, 180, .inl Z0)), (h10, .inl (zI g, 6, .inl Z9)), (h11, .inl (zI g, 6, .inl Z10)), (h21, .inl (zJ g, 64, .inr (.inl Z20)))]) [0, 1, 2, 3, 4] rfl
          have hD9 := hD.sub (ws' := [(h0, .inr (5, [.ref h1, .int f0, .ref h2, .int f1, .int f2, .ref h3, .ref h4, .ref h5, .ref h6, .int f3, .ref h7, .ref h8, .ref h9, .int f4, .ref h10, .ref h11, .ref h12, .ref h13, .ref h14, .ref h15, .ref h16, .ref h17, .ref h18, .ref h19, .ref h20, .ref h21, .ref h22])), (h1, .inl (zI g, 180, .inl Z0)), (h10, .inl (zI g, 6, .inl Z9)), (h11, .inl (zI g, 6, .inl Z10)), (h21, .inl (zJ g, 64, .inr (.inl Z20)))]) [0, 1, 2, 3, 4] (by decide) rfl
          exact W.zret (v := 0) hx hb hr (by decide) (fun t ht hW => ⟨⟨0, (0 : Nat), rfl, Or.inr (rfl), by rw [ht]; exact hP9, hD9⟩, hS.F ht⟩) hS.2.2 dX5_isSo_100
        · obtain rfl : v2_0 = 1 := Int32.toInt_inj.mp (show v2_0.toInt = (1 : Int32).toInt from j_2.trans rfl)
          have hP9 := hP.sub (ws' := [(h0, .inr (5, [.ref h1, .int f0, .ref h2, .int f1, .int f2, .ref h3, .ref h4, .ref h5, .ref h6, .int f3, .ref h7, .ref h8, .ref h9, .int f4, .ref h10, .ref h11, .ref h12, .ref h13, .ref h14, .ref h15, .ref h16, .ref h17, .ref h18, .ref h19, .ref h20, .ref h21, .ref h22])), (h1, .inl (zI g, 180, .inl Z0)), (h10, .inl (zI g, 6, .inl Z9)), (h11, .inl (zI g, 6, .inl Z10)), (h21, .inl (zJ g, 64, .inr (.inl Z20)))]) [0, 1, 2, 3, 4] rfl
          have hD9 := hD.sub (ws' := [(h0, .inr (5, [.ref h1, .int f0, .ref h2, .int f1, .int f2, .ref h3, .ref h4, .ref h5, .ref h6, .int f3, .ref h7, .ref h8, .ref h9, .int f4, .ref h10, .ref h11, .ref h12, .ref h13, .ref h14, .ref h15, .ref h16, .ref h17, .ref h18, .ref h19, .ref h20, .ref h21, .ref h22])), (h1, .inl (zI g, 180, .inl Z0)), (h10, .inl (zI g, 6, .inl Z9)), (h11, .inl (zI g, 6, .inl Z10)), (h21, .inl (zJ g, 64, .inr (.inl Z20)))]) [0, 1, 2, 3, 4] (by decide) rfl
          exact W.zret (v := 1) hx hb hr (by decide) (fun t ht hW => ⟨⟨1, (0 : Nat), rfl, Or.inl (rfl), by rw [ht]; exact hP9, hD9⟩, hS.F ht⟩) hS.2.2 dX5_isSo_100
      · have i_1 : v3_0.toInt < y0.toInt := z_nle (rfl) (rfl) c_1
        refine lv_aload_n hx hb dX5_isSo_14 rfl (lv_at hl 0 rfl) ?_
        refine va_get (D := g.1) (ci := 5) (v := .ref h21) (C := RX5) (T := TX5) (N := 27) hx hb hts zl_X5 hown hK hP 0 rfl rfl 25 (by decide) (hts _ m_f_RX5_70) (fun _ h => h) rfl dX5_isSo_15 ?_
        refine lv_iload_n hx hb dX5_isSo_18 rfl (lv_at hl 1 rfl) ?_
        refine lv_iconst (v := 2) hx hb dX5_isSo_19 (by decide) ?_
        refine lv_iload_n hx hb dX5_isSo_20 rfl (lv_at hl 3 rfl) ?_
        refine lv_imul hx hb dX5_isSo_21 ?_
        refine lv_topi (fun y1 ey1 => ?_)
        have qy1_0 : y1.toInt = 2 * v3_0.toInt := zi_mul ey1 (rfl) (rfl) (by omega) (by omega)
        refine lv_iadd hx hb dX5_isSo_22 ?_
        refine lv_topi (fun y2 ey2 => ?_)
        have qy2_0 : y2.toInt = p1.toInt + y1.toInt := zi_add ey2 (rfl) (rfl) (by omega) (by omega)
        refine va_lald (D := g.1) hx hb hK hP 4 1 rfl rfl (vp_in_iff.mpr ⟨by omega, by omega⟩) dX5_isSo_23 ?_
        refine lv_topl (fun y3 ey3 => ?_)
        refine lv_lstore (lv' := [(4, .long y3), (0, .ref h0), (1, .int p1), (2, .int v2_0), (3, .int v3_0)]) hx hb dX5_isSo_24 hl (by decide) rfl (fun ls hl => ?_)
        refine lv_iload_n hx hb dX5_isSo_26 rfl (lv_at hl 3 rfl) ?_
        refine lv_if_eq (tgt := 91) hx hb dX5_isSo_27 (by decide) (fun c_3 => ?_) (fun c_3 => ?_)
        · have i_3 : v2_0.toInt = 0 := z_eq (rfl) (rfl) c_3
          refine lv_iconst (v := 0) hx hb dX5_isSo_91 (by decide) ?_
          refine lv_istore_n (lv' := [(2, .int 0), (4, .long y3), (0, .ref h0), (1, .int p1), (3, .int v3_0)]) hx hb dX5_isSo_92 rfl hl (by decide) rfl (fun ls hl => ?_)
          obtain ⟨y4, ey4⟩ : ∃ z : Int32, z = v3_0 + 1 := ⟨_, rfl⟩
          have qy4 : y4.toInt = v3_0.toInt + 1 := zi_add ey4 (rfl) rfl (by omega) (by omega)
          refine lv_iinc (v := y4) (lv' := [(3, .int y4), (2, .int 0), (4, .long y3), (0, .ref h0), (1, .int p1)]) hx hb dX5_isSo_93 hl (k := 4) rfl ey4.symm (by decide) rfl (fun ls hl => ?_)
          refine lv_goto (tgt := 4) hx hb dX5_isSo_96 (by decide) ?_
          have : (0 : Int32).toInt = 0 := rfl
          exact ih1 (0 : Int32) y4 (by omega) (by omega) (by omega) (by omega) (by omega) _ _ hP hD hS ls (lv_sub hl [3, 4, 1, 0] rfl)
        · have i_3 : v2_0.toInt ≠ 0 := z_ne (rfl) (rfl) c_3
          refine lv_aload_n hx hb dX5_isSo_30 rfl (lv_at hl 1 rfl) ?_
          refine va_get (D := g.1) (ci := 5) (v := .ref h10) (C := RX5) (T := TX5) (N := 27) hx hb hts zl_X5 hown hK hP 0 rfl rfl 14 (by decide) (hts _ m_f_RX5_37) (fun _ h => h) rfl dX5_isSo_31 ?_
          refine lv_iload_n hx hb dX5_isSo_34 rfl (lv_at hl 4 rfl) ?_
          refine va_iald (D := g.1) hx hb hK hP 2 0 rfl rfl (vp_in_iff.mpr ⟨by omega, by omega⟩) dX5_isSo_35 ?_
          refine lv_topi (fun y5 ey5 => ?_)
          have qy5_0 : y5.toInt = (Z9 v3_0.toNatClampNeg).toInt := congrArg Int32.toInt ey5
          refine lv_if_ge (tgt := 51) hx hb dX5_isSo_36 (by decide) (fun c_4 => ?_) (fun c_4 => ?_)
          · have i_4 : 0 ≤ y5.toInt := z_le (rfl) (rfl) c_4
            refine lv_lload hx hb dX5_isSo_51 (lv_at hl 0 rfl) ?_
            refine lv_aload_n hx hb dX5_isSo_53 rfl (lv_at hl 1 rfl) ?_
            refine va_get (D := g.1) (ci := 5) (v := .ref h10) (C := RX5) (T := TX5) (N := 27) hx hb hts zl_X5 hown hK hP 0 rfl rfl 14 (by decide) (hts _ m_f_RX5_37) (fun _ h => h) rfl dX5_isSo_54 ?_
            refine lv_iload_n hx hb dX5_isSo_57 rfl (lv_at hl 4 rfl) ?_
            refine va_iald (D := g.1) hx hb hK hP 2 0 rfl rfl (vp_in_iff.mpr ⟨by omega, by omega⟩) dX5_isSo_58 ?_
            refine lv_topi (fun y6 ey6 => ?_)
            have qy6_0 : y6.toInt = (Z9 v3_0.toNatClampNeg).toInt := congrArg Int32.toInt ey6
            refine lv_i2l (v := y6.toInt64) hx hb dX5_isSo_59 rfl ?_
            refine W.lcmp hx hb dX5_isSo_60 ?_
            refine lv_if_ne (tgt := 91) hx hb dX5_isSo_61 (by decide) (fun c_5 => ?_) (fun c_5 => ?_)
            · have i_5 : (y3 : Int64).toInt ≠ y6.toInt := zl_ne (rfl) ((Int32.toInt_toInt64 _)) (fun h => c_5 ((lg_cmp_eq _ _).mpr h))
              refine lv_iconst (v := 0) hx hb dX5_isSo_91 (by decide) ?_
              refine lv_istore_n (lv' := [(2, .int 0), (4, .long y3), (0, .ref h0), (1, .int p1), (3, .int v3_0)]) hx hb dX5_isSo_92 rfl hl (by decide) rfl (fun ls hl => ?_)
              obtain ⟨y7, ey7⟩ : ∃ z : Int32, z = v3_0 + 1 := ⟨_, rfl⟩
              have qy7 : y7.toInt = v3_0.toInt + 1 := zi_add ey7 (rfl) rfl (by omega) (by omega)
              refine lv_iinc (v := y7) (lv' := [(3, .int y7), (2, .int 0), (4, .long y3), (0, .ref h0), (1, .int p1)]) hx hb dX5_isSo_93 hl (k := 4) rfl ey7.symm (by decide) rfl (fun ls hl => ?_)
              refine lv_goto (tgt := 4) hx hb dX5_isSo_96 (by decide) ?_
              have : (0 : Int32).toInt = 0 := rfl
              exact ih1 (0 : Int32) y7 (by omega) (by omega) (by omega) (by omega) (by omega) _ _ hP hD hS ls (lv_sub hl [3, 4, 1, 0] rfl)
            · have i_5 : (y3 : Int64).toInt = y6.toInt := zl_eq (rfl) ((Int32.toInt_toInt64 _)) ((lg_cmp_eq _ _).mp c_5)
              refine lv_aload_n hx hb dX5_isSo_64 rfl (lv_at hl 1 rfl) ?_
              refine va_get (D := g.1) (ci := 5) (v := .ref h21) (C := RX5) (T := TX5) (N := 27) hx hb hts zl_X5 hown hK hP 0 rfl rfl 25 (by decide) (hts _ m_f_RX5_70) (fun _ h => h) rfl dX5_isSo_65 ?_
              refine lv_iload_n hx hb dX5_isSo_68 rfl (lv_at hl 2 rfl) ?_
              refine lv_iconst (v := 2) hx hb dX5_isSo_69 (by decide) ?_
              refine lv_iload_n hx hb dX5_isSo_70 rfl (lv_at hl 4 rfl) ?_
              refine lv_imul hx hb dX5_isSo_71 ?_
              refine lv_topi (fun y8 ey8 => ?_)
              have qy8_0 : y8.toInt = 2 * v3_0.toInt := zi_mul ey8 (rfl) (rfl) (by omega) (by omega)
              refine lv_iadd hx hb dX5_isSo_72 ?_
              refine lv_topi (fun y9 ey9 => ?_)
              have qy9_0 : y9.toInt = p1.toInt + y8.toInt := zi_add ey9 (rfl) (rfl) (by omega) (by omega)
              refine lv_iconst (v := 1) hx hb dX5_isSo_73 (by decide) ?_
              refine lv_iadd hx hb dX5_isSo_74 ?_
              refine lv_topi (fun y10 ey10 => ?_)
              have qy10_0 : y10.toInt = y9.toInt + 1 := zi_add ey10 (rfl) (rfl) (by omega) (by omega)
              refine va_lald (D := g.1) hx hb hK hP 4 1 rfl rfl (vp_in_iff.mpr ⟨by omega, by omega⟩) dX5_isSo_75 ?_
              refine lv_topl (fun y11 ey11 => ?_)
              refine lv_aload_n hx hb dX5_isSo_76 rfl (lv_at hl 1 rfl) ?_
              refine va_get (D := g.1) (ci := 5) (v := .ref h11) (C := RX5) (T := TX5) (N := 27) hx hb hts zl_X5 hown hK hP 0 rfl rfl 15 (by decide) (hts _ m_f_RX5_40) (fun _ h => h) rfl dX5_isSo_77 ?_
              refine lv_iload_n hx hb dX5_isSo_80 rfl (lv_at hl 4 rfl) ?_
              refine va_iald (D := g.1) hx hb hK hP 3 0 rfl rfl (vp_in_iff.mpr ⟨by omega, by omega⟩) dX5_isSo_81 ?_
              refine lv_topi (fun y12 ey12 => ?_)
              have qy12_0 : y12.toInt = (Z10 v3_0.toNatClampNeg).toInt := congrArg Int32.toInt ey12
              refine lv_i2l (v := y12.toInt64) hx hb dX5_isSo_82 rfl ?_
              refine W.lcmp hx hb dX5_isSo_83 ?_
              refine lv_if_ne (tgt := 91) hx hb dX5_isSo_84 (by decide) (fun c_6 => ?_) (fun c_6 => ?_)
              · have i_6 : (y11 : Int64).toInt ≠ y12.toInt := zl_ne (rfl) ((Int32.toInt_toInt64 _)) (fun h => c_6 ((lg_cmp_eq _ _).mpr h))
                refine lv_iconst (v := 0) hx hb dX5_isSo_91 (by decide) ?_
                refine lv_istore_n (lv' := [(2, .int 0), (4, .long y3), (0, .ref h0), (1, .int p1), (3, .int v3_0)]) hx hb dX5_isSo_92 rfl hl (by decide) rfl (fun ls hl => ?_)
                obtain ⟨y13, ey13⟩ : ∃ z : Int32, z = v3_0 + 1 := ⟨_, rfl⟩
                have qy13 : y13.toInt = v3_0.toInt + 1 := zi_add ey13 (rfl) rfl (by omega) (by omega)
                refine lv_iinc (v := y13) (lv' := [(3, .int y13), (2, .int 0), (4, .long y3), (0, .ref h0), (1, .int p1)]) hx hb dX5_isSo_93 hl (k := 4) rfl ey13.symm (by decide) rfl (fun ls hl => ?_)
                refine lv_goto (tgt := 4) hx hb dX5_isSo_96 (by decide) ?_
                have : (0 : Int32).toInt = 0 := rfl
                exact ih1 (0 : Int32) y13 (by omega) (by omega) (by omega) (by omega) (by omega) _ _ hP hD hS ls (lv_sub hl [3, 4, 1, 0] rfl)
              · have i_6 : (y11 : Int64).toInt = y12.toInt := zl_eq (rfl) ((Int32.toInt_toInt64 _)) ((lg_cmp_eq _ _).mp c_6)
                refine lv_iconst (v := 1) hx hb dX5_isSo_87 (by decide) ?_
                refine lv_goto (tgt := 92) hx hb dX5_isSo_88 (by decide) ?_
                refine lv_istore_n (lv' := [(2, .int 1), (4, .long y3), (0, .ref h0), (1, .int p1), (3, .int v3_0)]) hx hb dX5_isSo_92 rfl hl (by decide) rfl (fun ls hl => ?_)
                obtain ⟨y14, ey14⟩ : ∃ z : Int32, z = v3_0 + 1 := ⟨_, rfl⟩
                have qy14 : y14.toInt = v3_0.toInt + 1 := zi_add ey14 (rfl) rfl (by omega) (by omega)
                refine lv_iinc (v := y14) (lv' := [(3, .int y14), (2, .int 1), (4, .long y3), (0, .ref h0), (1, .int p1)]) hx hb dX5_isSo_93 hl (k := 4) rfl ey14.symm (by decide) rfl (fun ls hl => ?_)
                refine lv_goto (tgt := 4) hx hb dX5_isSo_96 (by decide) ?_
                have : (1 : Int32).toInt = 1 := rfl
                exact ih1 (1 : Int32) y14 (by omega) (by omega) (by omega) (by omega) (by omega) _ _ hP hD hS ls (lv_sub hl [3, 4, 1, 0] rfl)
          · have i_4 : y5.toInt < 0 := z_nle (rfl) (rfl) c_4
            refine lv_lload hx hb dX5_isSo_39 (lv_at hl 0 rfl) ?_
            refine lv_ldc2 (v := (-1)) hx hb hown (hts _ m_k_RX5_208) dX5_isSo_41 ?_
            refine W.lcmp hx hb dX5_isSo_44 ?_
            refine lv_if_ne (tgt := 91) hx hb dX5_isSo_45 (by decide) (fun c_7 => ?_) (fun c_7 => ?_)
            · have i_7 : (y3 : Int64).toInt ≠ (-1) := zl_ne (rfl) (rfl) (fun h => c_7 ((lg_cmp_eq _ _).mpr h))
              refine lv_iconst (v := 0) hx hb dX5_isSo_91 (by decide) ?_
              refine lv_istore_n (lv' := [(2, .int 0), (4, .long y3), (0, .ref h0), (1, .int p1), (3, .int v3_0)]) hx hb dX5_isSo_92 rfl hl (by decide) rfl (fun ls hl => ?_)
              obtain ⟨y15, ey15⟩ : ∃ z : Int32, z = v3_0 + 1 := ⟨_, rfl⟩
              have qy15 : y15.toInt = v3_0.toInt + 1 := zi_add ey15 (rfl) rfl (by omega) (by omega)
              refine lv_iinc (v := y15) (lv' := [(3, .int y15), (2, .int 0), (4, .long y3), (0, .ref h0), (1, .int p1)]) hx hb dX5_isSo_93 hl (k := 4) rfl ey15.symm (by decide) rfl (fun ls hl => ?_)
              refine lv_goto (tgt := 4) hx hb dX5_isSo_96 (by decide) ?_
              have : (0 : Int32).toInt = 0 := rfl
              exact ih1 (0 : Int32) y15 (by omega) (by omega) (by omega) (by omega) (by omega) _ _ hP hD hS ls (lv_sub hl [3, 4, 1, 0] rfl)
            · have i_7 : (y3 : Int64).toInt = (-1) := zl_eq (rfl) (rfl) ((lg_cmp_eq _ _).mp c_7)
              refine lv_goto (tgt := 87) hx hb dX5_isSo_48 (by decide) ?_
              refine lv_iconst (v := 1) hx hb dX5_isSo_87 (by decide) ?_
              refine lv_goto (tgt := 92) hx hb dX5_isSo_88 (by decide) ?_
              refine lv_istore_n (lv' := [(2, .int 1), (4, .long y3), (0, .ref h0), (1, .int p1), (3, .int v3_0)]) hx hb dX5_isSo_92 rfl hl (by decide) rfl (fun ls hl => ?_)
              obtain ⟨y16, ey16⟩ : ∃ z : Int32, z = v3_0 + 1 := ⟨_, rfl⟩
              have qy16 : y16.toInt = v3_0.toInt + 1 := zi_add ey16 (rfl) rfl (by omega) (by omega)
              refine lv_iinc (v := y16) (lv' := [(3, .int y16), (2, .int 1), (4, .long y3), (0, .ref h0), (1, .int p1)]) hx hb dX5_isSo_93 hl (k := 4) rfl ey16.symm (by decide) rfl (fun ls hl => ?_)
              refine lv_goto (tgt := 4) hx hb dX5_isSo_96 (by decide) ?_
              have : (1 : Int32).toInt = 1 := rfl
              exact ih1 (1 : Int32) y16 (by omega) (by omega) (by omega) (by omega) (by omega) _ _ hP hD hS ls (lv_sub hl [3, 4, 1, 0] rfl)
  have : (0 : Int32).toInt = 0 := rfl
  have : (1 : Int32).toInt = 1 := rfl
  exact loop4_0 ((6 - 0 : Int).toNat + 1) (1 : Int32) (0 : Int32) (by omega) (by omega) (by omega) (by omega) (by omega) _ _ hP hD hS ls (lv_sub hl [2, 3, 1, 0] rfl)

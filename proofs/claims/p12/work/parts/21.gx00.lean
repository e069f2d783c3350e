set_option maxHeartbeats 8000000 in
set_option maxRecDepth 100000 in
theorem gX0_countOwing (l : Launch) (g : zG) (h0 h1 h2 h3 h4 h5 h6 h7 h8 : Nat) (sz : Nat) (f0 : Int32) (f1 : Int32) (f2 : Int32) (Z3 : Nat → Int32) (hf_f0 : 0 ≤ f0.toInt ∧ f0.toInt ≤ 6) (hf_f1 : 0 ≤ f1.toInt ∧ f1.toInt ≤ 5) (hf_f2 : 0 ≤ f2.toInt ∧ f2.toInt ≤ 9999) (hF_Z3 : iPu Z3) : Met l yX0_countOwing (.code yX0_countOwing cX0_countOwing 3 (some .int) :: zBig) ({ frames := 0, cells := 0, slots := 0, locals := 0 }) (va_Pc [.ref h0] (zPre g [(h0, .inr (0, [.ref h1, .int f0, .ref h2, .int f1, .ref h3, .ref h4, .ref h5, .ref h6, .ref h7, .ref h8, .int f2])), (h4, .inl (zI g, 5, .inl Z3))] sz)) (va_Qi (fun (r : Int32) (u : Nat) => r.toInt = zOw Z3 f1.toInt.toNat ∧ 0 ≤ r.toInt ∧ r.toInt ≤ 5) (zPost g (fun u : Nat => [(h0, .inr (0, [.ref h1, .int f0, .ref h2, .int f1, .ref h3, .ref h4, .ref h5, .ref h6, .ref h7, .ref h8, .int f2])), (h4, .inl (zI g, 5, .inl Z3))]) (va_A [(h0, .inr (0, [.ref h1, .int f0, .ref h2, .int f1, .ref h3, .ref h4, .ref h5, .ref h6, .ref h7, .ref h8, .int f2])), (h4, .inl (zI g, 5, .inl Z3))] sz)) (va_A [(h0, .inr (0, [.ref h1, .int f0, .ref h2, .int f1, .ref h3, .ref h4, .ref h5, .ref h6, .ref h7, .ref h8, .int f2])), (h4, .inl (zI g, 5, .inl Z3))] sz)) 0 0 (va_A [(h0, .inr (0, [.ref h1, .int f0, .ref h2, .int f1, .ref h3, .ref h4, .ref h5, .ref h6, .ref h7, .ref h8, .int f2])), (h4, .inl (zI g, 5, .inl Z3))] sz) := by
  refine zMetI rfl (Nat.le_of_ble_eq_true rfl) ?_
  intro p e s m args below meth c A ls hx hb hml hr hlocks hin hown hts hK hN hZ hP hD hA hS hAe hl
  have hown : s.vm.findClass RX0 = some m.cls := hown
  have hl : lv_has ls 3 [(0, .ref h0)] := hl
  refine lv_iconst (v := 0) hx hb dX0_countOwing_0 (by decide) ?_
  refine lv_istore_n (lv' := [(1, .int 0), (0, .ref h0)]) hx hb dX0_countOwing_1 rfl hl (by decide) rfl (fun ls hl => ?_)
  have hw0 : zOw Z3 (0 : Int32).toInt.toNat = 0 := rfl
  refine lv_iconst (v := 0) hx hb dX0_countOwing_2 (by decide) ?_
  refine lv_istore_n (lv' := [(2, .int 0), (1, .int 0), (0, .ref h0)]) hx hb dX0_countOwing_3 rfl hl (by decide) rfl (fun ls hl => ?_)
  have loop4_0 : ∀ (n1 : Nat) (v1_0 : Int32) (v2_0 : Int32) (n1_0 : 0 ≤ v2_0.toInt) (n1_1 : v2_0.toInt ≤ 5) (n1_2 : v2_0.toInt ≤ f1.toInt) (n1_3 : 0 ≤ v1_0.toInt) (n1_4 : v1_0.toInt ≤ v2_0.toInt) (n1_5 : v1_0.toInt = zOw Z3 v2_0.toInt.toNat) (hm1 : 5 - v2_0.toInt < (n1 : Int)) (H : Heap) (locs : List Loc), va_P g.1 vwCl [(h0, .inr (0, [.ref h1, .int f0, .ref h2, .int f1, .ref h3, .ref h4, .ref h5, .ref h6, .ref h7, .ref h8, .int f2])), (h4, .inl (zI g, 5, .inl Z3))] H → va_D A [(h0, .inr (0, [.ref h1, .int f0, .ref h2, .int f1, .ref h3, .ref h4, .ref h5, .ref h6, .ref h7, .ref h8, .int f2])), (h4, .inl (zI g, 5, .inl Z3))] → va_S A s.heap H locs → ∀ (ls : Array Slot), lv_has ls 3 [(0, .ref h0), (1, .int v1_0), (2, .int v2_0)] → W p l e ({ frames := 0, cells := 0, slots := 0, locals := 0 }) s m args below meth c H locs 0 0 (MQ below (va_Qi (fun (r : Int32) (u : Nat) => r.toInt = zOw Z3 f1.toInt.toNat ∧ 0 ≤ r.toInt ∧ r.toInt ≤ 5) (zPost g (fun u : Nat => [(h0, .inr (0, [.ref h1, .int f0, .ref h2, .int f1, .ref h3, .ref h4, .ref h5, .ref h6, .ref h7, .ref h8, .int f2])), (h4, .inl (zI g, 5, .inl Z3))]) A) A) args s 0 0 A) (F0 m 4 ls []) := by
    intro n1
    induction n1 with
    | zero => intro v1_0 v2_0 n1_0 n1_1 n1_2 n1_3 n1_4 n1_5 hm1; exfalso; omega
    | succ n1 ih1 =>
      intro v1_0 v2_0 n1_0 n1_1 n1_2 n1_3 n1_4 n1_5 hm1 H locs hP hD hS ls hl
      refine lv_iload_n hx hb dX0_countOwing_4 rfl (lv_at hl 2 rfl) ?_
      refine lv_iconst (v := 5) hx hb dX0_countOwing_5 (by decide) ?_
      refine lv_icmp_ge (tgt := 40) hx hb dX0_countOwing_6 (by decide) (fun c_1 => ?_) (fun c_1 => ?_)
      · have i_1 : 5 ≤ v2_0.toInt := z_le (rfl) (rfl) c_1
        have hsx : zOw Z3 v2_0.toInt.toNat = zOw Z3 f1.toInt.toNat := by rw [(by omega : v2_0.toInt = f1.toInt)]
        refine lv_iload_n hx hb dX0_countOwing_40 rfl (lv_at hl 1 rfl) ?_
        have hP9 := hP.sub (ws' := [(h0, .inr (0, [.ref h1, .int f0, .ref h2, .int f1, .ref h3, .ref h4, .ref h5, .ref h6, .ref h7, .ref h8, .int f2])), (h4, .inl (zI g, 5, .inl Z3))]) [0, 1] rfl
        have hD9 := hD.sub (ws' := [(h0, .inr (0, [.ref h1, .int f0, .ref h2, .int f1, .ref h3, .ref h4, .ref h5, .ref h6, .ref h7, .ref h8, .int f2])), (h4, .inl (zI g, 5, .inl Z3))]) [0, 1] (by decide) rfl
        exact W.iret (v := v1_0) hx hb hr (fun t ht hW => ⟨⟨v1_0, (0 : Nat), rfl, ⟨(by first | omega | decide), (by first | omega | decide), (by first | omega | decide)⟩, by rw [ht]; exact hP9, hD9⟩, hS.F ht⟩) hS.2.2 dX0_countOwing_41
      · have i_1 : v2_0.toInt < 5 := z_nle (rfl) (rfl) c_1
        refine lv_iload_n hx hb dX0_countOwing_9 rfl (lv_at hl 2 rfl) ?_
        refine lv_aload_n hx hb dX0_countOwing_10 rfl (lv_at hl 0 rfl) ?_
        refine va_get (D := g.1) (ci := 0) (v := .int f1) (C := RX0) (T := TX0) (N := 11) hx hb hts zl_X0 hown hK hP 0 rfl rfl 3 (by decide) (hts _ m_f_RX0_30) (fun _ h => h) rfl dX0_countOwing_11 ?_
        refine lv_icmp_ge (tgt := 40) hx hb dX0_countOwing_14 (by decide) (fun c_2 => ?_) (fun c_2 => ?_)
        · have i_2 : f1.toInt ≤ v2_0.toInt := z_le (rfl) (rfl) c_2
          have hsx : zOw Z3 v2_0.toInt.toNat = zOw Z3 f1.toInt.toNat := by rw [(by omega : v2_0.toInt = f1.toInt)]
          refine lv_iload_n hx hb dX0_countOwing_40 rfl (lv_at hl 1 rfl) ?_
          have hP9 := hP.sub (ws' := [(h0, .inr (0, [.ref h1, .int f0, .ref h2, .int f1, .ref h3, .ref h4, .ref h5, .ref h6, .ref h7, .ref h8, .int f2])), (h4, .inl (zI g, 5, .inl Z3))]) [0, 1] rfl
          have hD9 := hD.sub (ws' := [(h0, .inr (0, [.ref h1, .int f0, .ref h2, .int f1, .ref h3, .ref h4, .ref h5, .ref h6, .ref h7, .ref h8, .int f2])), (h4, .inl (zI g, 5, .inl Z3))]) [0, 1] (by decide) rfl
          exact W.iret (v := v1_0) hx hb hr (fun t ht hW => ⟨⟨v1_0, (0 : Nat), rfl, ⟨(by first | omega | decide), (by first | omega | decide), (by first | omega | decide)⟩, by rw [ht]; exact hP9, hD9⟩, hS.F ht⟩) hS.2.2 dX0_countOwing_41
        · have i_2 : v2_0.toInt < f1.toInt := z_nle (rfl) (rfl) c_2
          refine lv_iload_n hx hb dX0_countOwing_17 rfl (lv_at hl 1 rfl) ?_
          refine lv_aload_n hx hb dX0_countOwing_18 rfl (lv_at hl 0 rfl) ?_
          refine va_get (D := g.1) (ci := 0) (v := .ref h4) (C := RX0) (T := TX0) (N := 11) hx hb hts zl_X0 hown hK hP 0 rfl rfl 5 (by decide) (hts _ m_f_RX0_36) (fun _ h => h) rfl dX0_countOwing_19 ?_
          refine lv_iload_n hx hb dX0_countOwing_22 rfl (lv_at hl 2 rfl) ?_
          refine va_iald (D := g.1) hx hb hK hP 1 0 rfl rfl (vp_in_iff.mpr ⟨by omega, by omega⟩) dX0_countOwing_23 ?_
          refine lv_topi (fun y0 ey0 => ?_)
          have qy0_0 : (-99) ≤ y0.toInt := (i_at (N := 5) (lo := (-99)) (hi := 9999) (i := v2_0) (a := v2_0.toInt) hF_Z3 (rfl) (by omega) (by omega) ey0).1
          have qy0_1 : y0.toInt ≤ 9999 := (i_at (N := 5) (lo := (-99)) (hi := 9999) (i := v2_0) (a := v2_0.toInt) hF_Z3 (rfl) (by omega) (by omega) ey0).2
          have qy0_2 : y0.toInt = (Z3 v2_0.toNatClampNeg).toInt := congrArg Int32.toInt ey0
          have py0_0 : y0.toInt = (Z3 v2_0.toInt.toNat).toInt := congrArg Int32.toInt ey0
          refine lv_if_ge (tgt := 31) hx hb dX0_countOwing_24 (by decide) (fun c_3 => ?_) (fun c_3 => ?_)
          · have i_3 : 0 ≤ y0.toInt := z_le (rfl) (rfl) c_3
            refine lv_iconst (v := 0) hx hb dX0_countOwing_31 (by decide) ?_
            refine lv_iadd hx hb dX0_countOwing_32 ?_
            refine lv_topi (fun y1 ey1 => ?_)
            have qy1_0 : y1.toInt = v1_0.toInt + 0 := zi_add ey1 (rfl) (rfl) (by omega) (by omega)
            refine lv_istore_n (lv' := [(1, .int y1), (0, .ref h0), (2, .int v2_0)]) hx hb dX0_countOwing_33 rfl hl (by decide) rfl (fun ls hl => ?_)
            have hst : zOw Z3 (v2_0.toInt.toNat + 1) = zOw Z3 v2_0.toInt.toNat := zOw_0 (by omega)
            obtain ⟨y2, ey2⟩ : ∃ z : Int32, z = v2_0 + 1 := ⟨_, rfl⟩
            have qy2 : y2.toInt = v2_0.toInt + 1 := zi_add ey2 (rfl) rfl (by omega) (by omega)
            refine lv_iinc (v := y2) (lv' := [(2, .int y2), (1, .int y1), (0, .ref h0)]) hx hb dX0_countOwing_34 hl (k := 2) rfl ey2.symm (by decide) rfl (fun ls hl => ?_)
            have hsb : zOw Z3 y2.toInt.toNat = zOw Z3 (v2_0.toInt.toNat + 1) := by rw [(by omega : y2.toInt.toNat = v2_0.toInt.toNat + 1)]
            refine lv_goto (tgt := 4) hx hb dX0_countOwing_37 (by decide) ?_
            exact ih1 y1 y2 (by omega) (by omega) (by omega) (by omega) (by omega) (by omega) (by omega) _ _ hP hD hS ls (lv_sub hl [2, 1, 0] rfl)
          · have i_3 : y0.toInt < 0 := z_nle (rfl) (rfl) c_3
            refine lv_iconst (v := 1) hx hb dX0_countOwing_27 (by decide) ?_
            refine lv_goto (tgt := 32) hx hb dX0_countOwing_28 (by decide) ?_
            refine lv_iadd hx hb dX0_countOwing_32 ?_
            refine lv_topi (fun y3 ey3 => ?_)
            have qy3_0 : y3.toInt = v1_0.toInt + 1 := zi_add ey3 (rfl) (rfl) (by omega) (by omega)
            refine lv_istore_n (lv' := [(1, .int y3), (0, .ref h0), (2, .int v2_0)]) hx hb dX0_countOwing_33 rfl hl (by decide) rfl (fun ls hl => ?_)
            have hst : zOw Z3 (v2_0.toInt.toNat + 1) = zOw Z3 v2_0.toInt.toNat + 1 := zOw_1 (by omega)
            obtain ⟨y4, ey4⟩ : ∃ z : Int32, z = v2_0 + 1 := ⟨_, rfl⟩
            have qy4 : y4.toInt = v2_0.toInt + 1 := zi_add ey4 (rfl) rfl (by omega) (by omega)
            refine lv_iinc (v := y4) (lv' := [(2, .int y4), (1, .int y3), (0, .ref h0)]) hx hb dX0_countOwing_34 hl (k := 2) rfl ey4.symm (by decide) rfl (fun ls hl => ?_)
            have hsb : zOw Z3 y4.toInt.toNat = zOw Z3 (v2_0.toInt.toNat + 1) := by rw [(by omega : y4.toInt.toNat = v2_0.toInt.toNat + 1)]
            refine lv_goto (tgt := 4) hx hb dX0_countOwing_37 (by decide) ?_
            exact ih1 y3 y4 (by omega) (by omega) (by omega) (by omega) (by omega) (by omega) (by omega) _ _ hP hD hS ls (lv_sub hl [2, 1, 0] rfl)
  have : (0 : Int32).toInt = 0 := rfl
  exact loop4_0 ((5 - 0 : Int).toNat + 1) (0 : Int32) (0 : Int32) (by omega) (by omega) (by omega) (by omega) (by omega) (by omega) (by omega) _ _ hP hD hS ls (lv_sub hl [2, 1, 0] rfl)
set_option maxHeartbeats 8000000 in
set_option maxRecDepth 100000 in
theorem gJ6_bitCount_0f7a4 (l : Launch) (g : zG) (sz : Nat) (p0 : Int32) : Met l yJ6_bitCount_0f7a4 (.code yJ6_bitCount_0f7a4 cJ6_bitCount_0f7a4 1 (some .int) :: zBig) ({ frames := 0, cells := 0, slots := 0, locals := 0 }) (va_Pc [.int p0] (zPre g [] sz)) (va_Qi (fun (r : Int32) (u : Nat) => r.toInt = (zPop p0).toInt) (zPost g (fun u : Nat => []) (va_A [] sz)) (va_A [] sz)) 0 0 (va_A [] sz) := by
  refine zMetI rfl (Nat.le_of_ble_eq_true rfl) ?_
  intro p e s m args below meth c A ls hx hb hml hr hlocks hin hown hts hK hN hZ hP hD hA hS hAe hl
  have hown : s.vm.findClass RJ6 = some m.cls := hown
  have hl : lv_has ls 1 [(0, .int p0)] := hl
  refine lv_iload_n hx hb dJ6_bitCount_0f7a4_0 rfl (lv_at hl 0 rfl) ?_
  refine lv_iload_n hx hb dJ6_bitCount_0f7a4_1 rfl (lv_at hl 0 rfl) ?_
  refine lv_iconst (v := 1) hx hb dJ6_bitCount_0f7a4_2 (by decide) ?_
  refine lv_iushr (v := ((p0.toUInt32 >>> ((1 : Int32).toUInt32 &&& Int32.toUInt32 31)).toInt32)) hx hb dJ6_bitCount_0f7a4_3 rfl ?_
  refine lv_topi (fun y0 ey0 => ?_)
  refine lv_ldcw (v := 1431655765) hx hb hown (hts _ m_k_RJ6_265) dJ6_bitCount_0f7a4_4 ?_
  refine lv_iand hx hb dJ6_bitCount_0f7a4_7 ?_
  refine lv_topi (fun y1 ey1 => ?_)
  refine lv_isub hx hb dJ6_bitCount_0f7a4_8 ?_
  refine lv_topi (fun y2 ey2 => ?_)
  refine lv_istore_n (lv' := [(0, .int y2)]) hx hb dJ6_bitCount_0f7a4_9 rfl hl (by decide) rfl (fun ls hl => ?_)
  refine lv_iload_n hx hb dJ6_bitCount_0f7a4_10 rfl (lv_at hl 0 rfl) ?_
  refine lv_ldcw (v := 858993459) hx hb hown (hts _ m_k_RJ6_266) dJ6_bitCount_0f7a4_11 ?_
  refine lv_iand hx hb dJ6_bitCount_0f7a4_14 ?_
  refine lv_topi (fun y3 ey3 => ?_)
  refine lv_iload_n hx hb dJ6_bitCount_0f7a4_15 rfl (lv_at hl 0 rfl) ?_
  refine lv_iconst (v := 2) hx hb dJ6_bitCount_0f7a4_16 (by decide) ?_
  refine lv_iushr (v := ((y2.toUInt32 >>> ((2 : Int32).toUInt32 &&& Int32.toUInt32 31)).toInt32)) hx hb dJ6_bitCount_0f7a4_17 rfl ?_
  refine lv_topi (fun y4 ey4 => ?_)
  refine lv_ldcw (v := 858993459) hx hb hown (hts _ m_k_RJ6_266) dJ6_bitCount_0f7a4_18 ?_
  refine lv_iand hx hb dJ6_bitCount_0f7a4_21 ?_
  refine lv_topi (fun y5 ey5 => ?_)
  refine lv_iadd hx hb dJ6_bitCount_0f7a4_22 ?_
  refine lv_topi (fun y6 ey6 => ?_)
  refine lv_istore_n (lv' := [(0, .int y6)]) hx hb dJ6_bitCount_0f7a4_23 rfl hl (by decide) rfl (fun ls hl => ?_)
  refine lv_iload_n hx hb dJ6_bitCount_0f7a4_24 rfl (lv_at hl 0 rfl) ?_
  refine lv_iload_n hx hb dJ6_bitCount_0f7a4_25 rfl (lv_at hl 0 rfl) ?_
  refine lv_iconst (v := 4) hx hb dJ6_bitCount_0f7a4_26 (by decide) ?_
  refine lv_iushr (v := ((y6.toUInt32 >>> ((4 : Int32).toUInt32 &&& Int32.toUInt32 31)).toInt32)) hx hb dJ6_bitCount_0f7a4_27 rfl ?_
  refine lv_topi (fun y7 ey7 => ?_)
  refine lv_iadd hx hb dJ6_bitCount_0f7a4_28 ?_
  refine lv_topi (fun y8 ey8 => ?_)
  refine lv_ldcw (v := 252645135) hx hb hown (hts _ m_k_RJ6_267) dJ6_bitCount_0f7a4_29 ?_
  refine lv_iand hx hb dJ6_bitCount_0f7a4_32 ?_
  refine lv_topi (fun y9 ey9 => ?_)
  refine lv_istore_n (lv' := [(0, .int y9)]) hx hb dJ6_bitCount_0f7a4_33 rfl hl (by decide) rfl (fun ls hl => ?_)
  refine lv_iload_n hx hb dJ6_bitCount_0f7a4_34 rfl (lv_at hl 0 rfl) ?_
  refine lv_iload_n hx hb dJ6_bitCount_0f7a4_35 rfl (lv_at hl 0 rfl) ?_
  refine lv_bipush (v := 8) hx hb dJ6_bitCount_0f7a4_36 (by decide) ?_
  refine lv_iushr (v := ((y9.toUInt32 >>> ((8 : Int32).toUInt32 &&& Int32.toUInt32 31)).toInt32)) hx hb dJ6_bitCount_0f7a4_38 rfl ?_
  refine lv_topi (fun y10 ey10 => ?_)
  refine lv_iadd hx hb dJ6_bitCount_0f7a4_39 ?_
  refine lv_topi (fun y11 ey11 => ?_)
  refine lv_istore_n (lv' := [(0, .int y11)]) hx hb dJ6_bitCount_0f7a4_40 rfl hl (by decide) rfl (fun ls hl => ?_)
  refine lv_iload_n hx hb dJ6_bitCount_0f7a4_41 rfl (lv_at hl 0 rfl) ?_
  refine lv_iload_n hx hb dJ6_bitCount_0f7a4_42 rfl (lv_at hl 0 rfl) ?_
  refine lv_bipush (v := 16) hx hb dJ6_bitCount_0f7a4_43 (by decide) ?_
  refine lv_iushr (v := ((y11.toUInt32 >>> ((16 : Int32).toUInt32 &&& Int32.toUInt32 31)).toInt32)) hx hb dJ6_bitCount_0f7a4_45 rfl ?_
  refine lv_topi (fun y12 ey12 => ?_)
  refine lv_iadd hx hb dJ6_bitCount_0f7a4_46 ?_
  refine lv_topi (fun y13 ey13 => ?_)
  refine lv_istore_n (lv' := [(0, .int y13)]) hx hb dJ6_bitCount_0f7a4_47 rfl hl (by decide) rfl (fun ls hl => ?_)
  refine lv_iload_n hx hb dJ6_bitCount_0f7a4_48 rfl (lv_at hl 0 rfl) ?_
  refine lv_bipush (v := 63) hx hb dJ6_bitCount_0f7a4_49 (by decide) ?_
  refine lv_iand hx hb dJ6_bitCount_0f7a4_51 ?_
  refine lv_topi (fun y14 ey14 => ?_)
  have hz : (zPop p0).toInt = y14.toInt := congrArg Int32.toInt (by rw [ey14, ey13, ey12, ey11, ey10, ey9, ey8, ey7, ey6, ey5, ey4, ey3, ey2, ey1, ey0]; rfl)
  have hP9 := hP.sub (ws' := []) [] rfl
  have hD9 := hD.sub (ws' := []) [] (by decide) rfl
  exact W.iret (v := y14) hx hb hr (fun t ht hW => ⟨⟨y14, (0 : Nat), rfl, (by first | omega | decide), by rw [ht]; exact hP9, hD9⟩, hS.F ht⟩) hS.2.2 dJ6_bitCount_0f7a4_52
set_option maxHeartbeats 8000000 in
set_option maxRecDepth 100000 in
theorem gX0_countKinds (l : Launch) (g : zG) (h0 h1 h2 h3 h4 h5 h6 h7 h8 : Nat) (sz : Nat) (f0 : Int32) (f1 : Int32) (f2 : Int32) (Z1 : Nat → Int32) (hf_f0 : 0 ≤ f0.toInt ∧ f0.toInt ≤ 6) (hf_f1 : 0 ≤ f1.toInt ∧ f1.toInt ≤ 5) (hf_f2 : 0 ≤ f2.toInt ∧ f2.toInt ≤ 9999) (hF_Z1 : iKd Z1) : Met l yX0_countKinds (.code yX0_countKinds cX0_countKinds 3 (some .int) :: zBig) ({ frames := 1, cells := 0, slots := 0, locals := 20 }) (va_Pc [.ref h0] (zPre g [(h0, .inr (0, [.ref h1, .int f0, .ref h2, .int f1, .ref h3, .ref h4, .ref h5, .ref h6, .ref h7, .ref h8, .int f2])), (h2, .inl (zI g, 6, .inl Z1))] sz)) (va_Qi (fun (r : Int32) (u : Nat) => r.toInt = zC5 (zKs Z1 f0.toInt.toNat)) (zPost g (fun u : Nat => [(h0, .inr (0, [.ref h1, .int f0, .ref h2, .int f1, .ref h3, .ref h4, .ref h5, .ref h6, .ref h7, .ref h8, .int f2])), (h2, .inl (zI g, 6, .inl Z1))]) (va_A [(h0, .inr (0, [.ref h1, .int f0, .ref h2, .int f1, .ref h3, .ref h4, .ref h5, .ref h6, .ref h7, .ref h8, .int f2])), (h2, .inl (zI g, 6, .inl Z1))] sz)) (va_A [(h0, .inr (0, [.ref h1, .int f0, .ref h2, .int f1, .ref h3, .ref h4, .ref h5, .ref h6, .ref h7, .ref h8, .int f2])), (h2, .inl (zI g, 6, .inl Z1))] sz)) 0 0 (va_A [(h0, .inr (0, [.ref h1, .int f0, .ref h2, .int f1, .ref h3, .ref h4, .ref h5, .ref h6, .ref h7, .ref h8, .int f2])), (h2, .inl (zI g, 6, .inl Z1))] sz) := by
  refine zMetI rfl (Nat.le_of_ble_eq_true rfl) ?_
  intro p e s m args below meth c A ls hx hb hml hr hlocks hin hown hts hK hN hZ hP hD hA hS hAe hl
  have hown : s.vm.findClass RX0 = some m.cls := hown
  have hl : lv_has ls 3 [(0, .ref h0)] := hl
  refine lv_iconst (v := 0) hx hb dX0_countKinds_0 (by decide) ?_
  refine lv_istore_n (lv' := [(1, .int 0), (0, .ref h0)]) hx hb dX0_countKinds_1 rfl hl (by decide) rfl (fun ls hl => ?_)
  have hk0 : zS5 (zKs Z1 (0 : Int32).toInt.toNat) = 0 := rfl
  refine lv_iconst (v := 0) hx hb dX0_countKinds_2 (by decide) ?_
  refine lv_istore_n (lv' := [(2, .int 0), (1, .int 0), (0, .ref h0)]) hx hb dX0_countKinds_3 rfl hl (by decide) rfl (fun ls hl => ?_)
  have loop4_0 : ∀ (n1 : Nat) (v1_0 : Int32) (v2_0 : Int32) (n1_0 : 0 ≤ v2_0.toInt) (n1_1 : v2_0.toInt ≤ 6) (n1_2 : v2_0.toInt ≤ f0.toInt) (n1_3 : 0 ≤ v1_0.toInt) (n1_4 : v1_0.toInt ≤ 31) (n1_5 : v1_0.toInt = zS5 (zKs Z1 v2_0.toInt.toNat)) (hm1 : 6 - v2_0.toInt < (n1 : Int)) (H : Heap) (locs : List Loc), va_P g.1 vwCl [(h0, .inr (0, [.ref h1, .int f0, .ref h2, .int f1, .ref h3, .ref h4, .ref h5, .ref h6, .ref h7, .ref h8, .int f2])), (h2, .inl (zI g, 6, .inl Z1))] H → va_D A [(h0, .inr (0, [.ref h1, .int f0, .ref h2, .int f1, .ref h3, .ref h4, .ref h5, .ref h6, .ref h7, .ref h8, .int f2])), (h2, .inl (zI g, 6, .inl Z1))] → va_S A s.heap H locs → ∀ (ls : Array Slot), lv_has ls 3 [(0, .ref h0), (1, .int v1_0), (2, .int v2_0)] → W p l e ({ frames := 1, cells := 0, slots := 0, locals := 20 }) s m args below meth c H locs 0 0 (MQ below (va_Qi (fun (r : Int32) (u : Nat) => r.toInt = zC5 (zKs Z1 f0.toInt.toNat)) (zPost g (fun u : Nat => [(h0, .inr (0, [.ref h1, .int f0, .ref h2, .int f1, .ref h3, .ref h4, .ref h5, .ref h6, .ref h7, .ref h8, .int f2])), (h2, .inl (zI g, 6, .inl Z1))]) A) A) args s 0 0 A) (F0 m 4 ls []) := by
    intro n1
    induction n1 with
    | zero => intro v1_0 v2_0 n1_0 n1_1 n1_2 n1_3 n1_4 n1_5 hm1; exfalso; omega
    | succ n1 ih1 =>
      intro v1_0 v2_0 n1_0 n1_1 n1_2 n1_3 n1_4 n1_5 hm1 H locs hP hD hS ls hl
      refine lv_iload_n hx hb dX0_countKinds_4 rfl (lv_at hl 2 rfl) ?_
      refine lv_bipush (v := 6) hx hb dX0_countKinds_5 (by decide) ?_
      refine lv_icmp_ge (tgt := 35) hx hb dX0_countKinds_7 (by decide) (fun c_1 => ?_) (fun c_1 => ?_)
      · have i_1 : 6 ≤ v2_0.toInt := z_le (rfl) (rfl) c_1
        have hkx : zS5 (zKs Z1 v2_0.toInt.toNat) = zS5 (zKs Z1 f0.toInt.toNat) := by rw [(by omega : v2_0.toInt = f0.toInt)]
        refine lv_iload_n hx hb dX0_countKinds_35 rfl (lv_at hl 1 rfl) ?_
        refine z_calli (wr := [(h0, .inr (0, [.ref h1, .int f0, .ref h2, .int f1, .ref h3, .ref h4, .ref h5, .ref h6, .ref h7, .ref h8, .int f2])), (h2, .inl (zI g, 6, .inl Z1))]) hP hD hS hA [] [0, 1] (by decide) rfl rfl (by decide) (va_runS (As := [.int v1_0]) (rest := []) ⟨hx, hb, hml, hown, hts⟩ (gJ6_bitCount_0f7a4 l g  H.size v1_0) ⟨callB_of 1 hts (zGood m_o_yJ6_bitCount_0f7a4) rfl rfl rfl (hts _ m_z_RJ6) (hts _ m_m_RX0_73) ⟨by decide +kernel, by decide +kernel, by decide +kernel⟩ ⟨Nat.le_of_ble_eq_true rfl, Nat.le_of_ble_eq_true rfl⟩, hts _ m_s_yJ6_bitCount_0f7a4⟩ (zPreS hK hN hZ hP hD hS hA [] (by decide) rfl rfl) rfl rfl hl.1 rfl (lv_room (Nat.le_of_ble_eq_true rfl)) dX0_countKinds_36 ⟨Nat.le_of_ble_eq_true rfl, Nat.le_of_ble_eq_true rfl⟩) (fun r u H locs hw hP hD hS => ?_)
        obtain ⟨y0, rfl⟩ : ∃ z, z = r := ⟨_, rfl⟩
        have q1_0 := hw
        have q1_0 : y0.toInt = (zPop v1_0).toInt := q1_0
        have hP : va_P g.1 vwCl [(h0, .inr (0, [.ref h1, .int f0, .ref h2, .int f1, .ref h3, .ref h4, .ref h5, .ref h6, .ref h7, .ref h8, .int f2])), (h2, .inl (zI g, 6, .inl Z1))] H := hP
        have hD : va_D A [(h0, .inr (0, [.ref h1, .int f0, .ref h2, .int f1, .ref h3, .ref h4, .ref h5, .ref h6, .ref h7, .ref h8, .int f2])), (h2, .inl (zI g, 6, .inl Z1))] := hD
        have hz : (zPop v1_0).toInt = zC5 (zKs Z1 f0.toInt.toNat) := zPop_S (zKs_01 _) (by omega)
        have hP9 := hP.sub (ws' := [(h0, .inr (0, [.ref h1, .int f0, .ref h2, .int f1, .ref h3, .ref h4, .ref h5, .ref h6, .ref h7, .ref h8, .int f2])), (h2, .inl (zI g, 6, .inl Z1))]) [0, 1] rfl
        have hD9 := hD.sub (ws' := [(h0, .inr (0, [.ref h1, .int f0, .ref h2, .int f1, .ref h3, .ref h4, .ref h5, .ref h6, .ref h7, .ref h8, .int f2])), (h2, .inl (zI g, 6, .inl Z1))]) [0, 1] (by decide) rfl
        exact W.iret (v := y0) hx hb hr (fun t ht hW => ⟨⟨y0, (0 : Nat), rfl, (by first | omega | decide), by rw [ht]; exact hP9, hD9⟩, hS.F ht⟩) hS.2.2 dX0_countKinds_39
      · have i_1 : v2_0.toInt < 6 := z_nle (rfl) (rfl) c_1
        refine lv_iload_n hx hb dX0_countKinds_10 rfl (lv_at hl 2 rfl) ?_
        refine lv_aload_n hx hb dX0_countKinds_11 rfl (lv_at hl 0 rfl) ?_
        refine va_get (D := g.1) (ci := 0) (v := .int f0) (C := RX0) (T := TX0) (N := 11) hx hb hts zl_X0 hown hK hP 0 rfl rfl 1 (by decide) (hts _ m_f_RX0_23) (fun _ h => h) rfl dX0_countKinds_12 ?_
        refine lv_icmp_ge (tgt := 35) hx hb dX0_countKinds_15 (by decide) (fun c_2 => ?_) (fun c_2 => ?_)
        · have i_2 : f0.toInt ≤ v2_0.toInt := z_le (rfl) (rfl) c_2
          have hkx : zS5 (zKs Z1 v2_0.toInt.toNat) = zS5 (zKs Z1 f0.toInt.toNat) := by rw [(by omega : v2_0.toInt = f0.toInt)]
          refine lv_iload_n hx hb dX0_countKinds_35 rfl (lv_at hl 1 rfl) ?_
          refine z_calli (wr := [(h0, .inr (0, [.ref h1, .int f0, .ref h2, .int f1, .ref h3, .ref h4, .ref h5, .ref h6, .ref h7, .ref h8, .int f2])), (h2, .inl (zI g, 6, .inl Z1))]) hP hD hS hA [] [0, 1] (by decide) rfl rfl (by decide) (va_runS (As := [.int v1_0]) (rest := []) ⟨hx, hb, hml, hown, hts⟩ (gJ6_bitCount_0f7a4 l g  H.size v1_0) ⟨callB_of 1 hts (zGood m_o_yJ6_bitCount_0f7a4) rfl rfl rfl (hts _ m_z_RJ6) (hts _ m_m_RX0_73) ⟨by decide +kernel, by decide +kernel, by decide +kernel⟩ ⟨Nat.le_of_ble_eq_true rfl, Nat.le_of_ble_eq_true rfl⟩, hts _ m_s_yJ6_bitCount_0f7a4⟩ (zPreS hK hN hZ hP hD hS hA [] (by decide) rfl rfl) rfl rfl hl.1 rfl (lv_room (Nat.le_of_ble_eq_true rfl)) dX0_countKinds_36 ⟨Nat.le_of_ble_eq_true rfl, Nat.le_of_ble_eq_true rfl⟩) (fun r u H locs hw hP hD hS => ?_)
          obtain ⟨y2, rfl⟩ : ∃ z, z = r := ⟨_, rfl⟩
          have q3_0 := hw
          have q3_0 : y2.toInt = (zPop v1_0).toInt := q3_0
          have hP : va_P g.1 vwCl [(h0, .inr (0, [.ref h1, .int f0, .ref h2, .int f1, .ref h3, .ref h4, .ref h5, .ref h6, .ref h7, .ref h8, .int f2])), (h2, .inl (zI g, 6, .inl Z1))] H := hP
          have hD : va_D A [(h0, .inr (0, [.ref h1, .int f0, .ref h2, .int f1, .ref h3, .ref h4, .ref h5, .ref h6, .ref h7, .ref h8, .int f2])), (h2, .inl (zI g, 6, .inl Z1))] := hD
          have hz : (zPop v1_0).toInt = zC5 (zKs Z1 f0.toInt.toNat) := zPop_S (zKs_01 _) (by omega)
          have hP9 := hP.sub (ws' := [(h0, .inr (0, [.ref h1, .int f0, .ref h2, .int f1, .ref h3, .ref h4, .ref h5, .ref h6, .ref h7, .ref h8, .int f2])), (h2, .inl (zI g, 6, .inl Z1))]) [0, 1] rfl
          have hD9 := hD.sub (ws' := [(h0, .inr (0, [.ref h1, .int f0, .ref h2, .int f1, .ref h3, .ref h4, .ref h5, .ref h6, .ref h7, .ref h8, .int f2])), (h2, .inl (zI g, 6, .inl Z1))]) [0, 1] (by decide) rfl
          exact W.iret (v := y2) hx hb hr (fun t ht hW => ⟨⟨y2, (0 : Nat), rfl, (by first | omega | decide), by rw [ht]; exact hP9, hD9⟩, hS.F ht⟩) hS.2.2 dX0_countKinds_39
        · have i_2 : v2_0.toInt < f0.toInt := z_nle (rfl) (rfl) c_2
          refine lv_iload_n hx hb dX0_countKinds_18 rfl (lv_at hl 1 rfl) ?_
          refine lv_iconst (v := 1) hx hb dX0_countKinds_19 (by decide) ?_
          refine lv_aload_n hx hb dX0_countKinds_20 rfl (lv_at hl 0 rfl) ?_
          refine va_get (D := g.1) (ci := 0) (v := .ref h2) (C := RX0) (T := TX0) (N := 11) hx hb hts zl_X0 hown hK hP 0 rfl rfl 2 (by decide) (hts _ m_f_RX0_27) (fun _ h => h) rfl dX0_countKinds_21 ?_
          refine lv_iload_n hx hb dX0_countKinds_24 rfl (lv_at hl 2 rfl) ?_
          refine va_iald (D := g.1) hx hb hK hP 1 0 rfl rfl (vp_in_iff.mpr ⟨by omega, by omega⟩) dX0_countKinds_25 ?_
          refine lv_topi (fun y4 ey4 => ?_)
          have qy4_0 : 0 ≤ y4.toInt := (iKd_at (i := v2_0) (a := v2_0.toInt) hF_Z1 (rfl) (by omega) (by omega) ey4).1
          have qy4_1 : y4.toInt ≤ 3 := (iKd_at (i := v2_0) (a := v2_0.toInt) hF_Z1 (rfl) (by omega) (by omega) ey4).2
          have qy4_2 : y4.toInt = (Z1 v2_0.toNatClampNeg).toInt := congrArg Int32.toInt ey4
          have py4_0 : y4.toInt = (Z1 v2_0.toInt.toNat).toInt := congrArg Int32.toInt ey4
          refine lv_ishl hx hb dX0_countKinds_26 ?_
          refine lv_topi (fun y5 ey5 => ?_)
          have qy5_0 : 1 ≤ y5.toInt := (zi_shl 3 ey5 (rfl) (by omega) (by omega) (by decide)).1
          have qy5_1 : y5.toInt ≤ 8 := (zi_shl 3 ey5 (rfl) (by omega) (by omega) (by decide)).2
          refine lv_ior hx hb dX0_countKinds_27 ?_
          refine lv_topi (fun y6 ey6 => ?_)
          have qy6_0 : v1_0.toInt ≤ y6.toInt := (zi_or ey6 (rfl) (rfl) (by omega) (by omega) (by omega) (by omega)).1
          have qy6_1 : y5.toInt ≤ y6.toInt := (zi_or ey6 (rfl) (rfl) (by omega) (by omega) (by omega) (by omega)).2.1
          have qy6_2 : y6.toInt ≤ 31 := (zi_or ey6 (rfl) (rfl) (by omega) (by omega) (by omega) (by omega)).2.2
          have py6_0 : y6.toInt = zS5 (zKs Z1 (v2_0.toInt.toNat + 1)) := zKs_or ey6 ey5 (by omega) (by omega) (by omega) (by omega)
          refine lv_istore_n (lv' := [(1, .int y6), (0, .ref h0), (2, .int v2_0)]) hx hb dX0_countKinds_28 rfl hl (by decide) rfl (fun ls hl => ?_)
          obtain ⟨y7, ey7⟩ : ∃ z : Int32, z = v2_0 + 1 := ⟨_, rfl⟩
          have qy7 : y7.toInt = v2_0.toInt + 1 := zi_add ey7 (rfl) rfl (by omega) (by omega)
          refine lv_iinc (v := y7) (lv' := [(2, .int y7), (1, .int y6), (0, .ref h0)]) hx hb dX0_countKinds_29 hl (k := 2) rfl ey7.symm (by decide) rfl (fun ls hl => ?_)
          have hkb : zS5 (zKs Z1 y7.toInt.toNat) = zS5 (zKs Z1 (v2_0.toInt.toNat + 1)) := by rw [(by omega : y7.toInt.toNat = v2_0.toInt.toNat + 1)]
          refine lv_goto (tgt := 4) hx hb dX0_countKinds_32 (by decide) ?_
          exact ih1 y6 y7 (by omega) (by omega) (by omega) (by omega) (by omega) (by omega) (by omega) _ _ hP hD hS ls (lv_sub hl [2, 1, 0] rfl)
  have : (0 : Int32).toInt = 0 := rfl
  exact loop4_0 ((6 - 0 : Int).toNat + 1) (0 : Int32) (0 : Int32) (by omega) (by omega) (by omega) (by omega) (by omega) (by omega) (by omega) _ _ hP hD hS ls (lv_sub hl [2, 1, 0] rfl)
set_option maxHeartbeats 8000000 in
set_option maxRecDepth 100000 in
theorem gX4_count (l : Launch) (g : zG) (h0 h1 h2 h3 h4 h5 h6 h7 h8 h9 h10 h11 h12 h13 h14 h15 h16 h17 h18 : Nat) (sz : Nat) (p1 : Int32) (f0 : Int32) (f1 : Int32) (f2 : Int32) (f3 : Int32) (f4 : Int32) (Z5 : Nat → Int32) (Z6 : Nat → Int32) (Z7 : Nat → Int32) (Z8 : Nat → Int32) (Z9 : Nat → Int32) (Z10 : Nat → Int32) (hf_f2 : 0 ≤ f2.toInt ∧ f2.toInt ≤ 6) (hf_f3 : 0 ≤ f3.toInt ∧ f3.toInt ≤ 5) (hf_f4 : 0 ≤ f4.toInt ∧ f4.toInt ≤ 9999) (hF_Z5 : iLaw Z5) (hF_Z6 : iKd Z6) (hF_Z7 : iSo Z7) (hF_Z8 : iPu Z8) (hF_Z9 : iMa Z9) (hF_Z10 : iWo Z10) : Met l yX4_count (.code yX4_count cX4_count 2 (some .int) :: zBig) ({ frames := 2, cells := 0, slots := 0, locals := 42 }) (va_Pc [.ref h0, .int p1] (zPre g [(h0, .inr (4, [.ref h1, .ref h2, .int f0, .ref h3, .ref h4, .ref h5, .ref h6, .int f1, .ref h7, .ref h8, .ref h9, .ref h10])), (h1, .inr (0, [.ref h11, .int f2, .ref h12, .int f3, .ref h13, .ref h14, .ref h15, .ref h16, .ref h17, .ref h18, .int f4])), (h11, .inl (zI g, 5, .inl Z5)), (h12, .inl (zI g, 6, .inl Z6)), (h13, .inl (zI g, 5, .inl Z7)), (h14, .inl (zI g, 5, .inl Z8)), (h15, .inl (zI g, 5, .inl Z9)), (h16, .inl (zI g, 20, .inl Z10))] sz)) (va_Qi (fun (r : Int32) (u : Nat) => r.toInt = zAcnt f2.toInt f3.toInt f4.toInt Z8 Z6 p1.toInt) (zPost g (fun u : Nat => [(h0, .inr (4, [.ref h1, .ref h2, .int f0, .ref h3, .ref h4, .ref h5, .ref h6, .int f1, .ref h7, .ref h8, .ref h9, .ref h10])), (h1, .inr (0, [.ref h11, .int f2, .ref h12, .int f3, .ref h13, .ref h14, .ref h15, .ref h16, .ref h17, .ref h18, .int f4])), (h11, .inl (zI g, 5, .inl Z5)), (h12, .inl (zI g, 6, .inl Z6)), (h13, .inl (zI g, 5, .inl Z7)), (h14, .inl (zI g, 5, .inl Z8)), (h15, .inl (zI g, 5, .inl Z9)), (h16, .inl (zI g, 20, .inl Z10))]) (va_A [(h0, .inr (4, [.ref h1, .ref h2, .int f0, .ref h3, .ref h4, .ref h5, .ref h6, .int f1, .ref h7, .ref h8, .ref h9, .ref h10])), (h1, .inr (0, [.ref h11, .int f2, .ref h12, .int f3, .ref h13, .ref h14, .ref h15, .ref h16, .ref h17, .ref h18, .int f4])), (h11, .inl (zI g, 5, .inl Z5)), (h12, .inl (zI g, 6, .inl Z6)), (h13, .inl (zI g, 5, .inl Z7)), (h14, .inl (zI g, 5, .inl Z8)), (h15, .inl (zI g, 5, .inl Z9)), (h16, .inl (zI g, 20, .inl Z10))] sz)) (va_A [(h0, .inr (4, [.ref h1, .ref h2, .int f0, .ref h3, .ref h4, .ref h5, .ref h6, .int f1, .ref h7, .ref h8, .ref h9, .ref h10])), (h1, .inr (0, [.ref h11, .int f2, .ref h12, .int f3, .ref h13, .ref h14, .ref h15, .ref h16, .ref h17, .ref h18, .int f4])), (h11, .inl (zI g, 5, .inl Z5)), (h12, .inl (zI g, 6, .inl Z6)), (h13, .inl (zI g, 5, .inl Z7)), (h14, .inl (zI g, 5, .inl Z8)), (h15, .inl (zI g, 5, .inl Z9)), (h16, .inl (zI g, 20, .inl Z10))] sz)) 0 0 (va_A [(h0, .inr (4, [.ref h1, .ref h2, .int f0, .ref h3, .ref h4, .ref h5, .ref h6, .int f1, .ref h7, .ref h8, .ref h9, .ref h10])), (h1, .inr (0, [.ref h11, .int f2, .ref h12, .int f3, .ref h13, .ref h14, .ref h15, .ref h16, .ref h17, .ref h18, .int f4])), (h11, .inl (zI g, 5, .inl Z5)), (h12, .inl (zI g, 6, .inl Z6)), (h13, .inl (zI g, 5, .inl Z7)), (h14, .inl (zI g, 5, .inl Z8)), (h15, .inl (zI g, 5, .inl Z9)), (h16, .inl (zI g, 20, .inl Z10))] sz) := by
  refine zMetI rfl (Nat.le_of_ble_eq_true rfl) ?_
  intro p e s m args below meth c A ls hx hb hml hr hlocks hin hown hts hK hN hZ hP hD hA hS hAe hl
  have hown : s.vm.findClass RX4 = some m.cls := hown
  have hl : lv_has ls 2 [(0, .ref h0), (1, .int p1)] := hl
  refine lv_iload_n hx hb dX4_count_0 rfl (lv_at hl 1 rfl) ?_
  by_cases j_0 : p1 = 0
  · have i_0 : p1.toInt = 0 := by rw [j_0]; rfl
    subst j_0
    refine lv_tableIn (x := 0) (off := 35) (tgt := 36) hx hb dX4_count_1 (by decide) (by decide) rfl (by decide) ?_
    refine lv_aload_n hx hb dX4_count_36 rfl (lv_at hl 0 rfl) ?_
    refine va_get (D := g.1) (ci := 4) (v := .ref h1) (C := RX4) (T := TX4) (N := 12) hx hb hts zl_X4 hown hK hP 0 rfl rfl 0 (by decide) (hts _ m_f_RX4_10) (fun _ h => h) rfl dX4_count_37 ?_
    refine va_getN (D := g.1) (ci := 0) (v := .int f2) (C := RX0) (T := TX0) (N := 11) hx hb hts zl_X0 hown hK hP 1 rfl rfl 1 (by decide) (hN.f 4 (q := (RX4, 122, "FishSteps$Books", "lots", "I")) rfl) (fun _ h => h) rfl dX4_count_40 ?_
    have hz : zAcnt f2.toInt f3.toInt f4.toInt Z8 Z6 (Int32.toInt 0) = f2.toInt := by
      unfold zAcnt
      rw [if_pos (by first | omega | decide)] <;> omega
    have hP9 := hP.sub (ws' := [(h0, .inr (4, [.ref h1, .ref h2, .int f0, .ref h3, .ref h4, .ref h5, .ref h6, .int f1, .ref h7, .ref h8, .ref h9, .ref h10])), (h1, .inr (0, [.ref h11, .int f2, .ref h12, .int f3, .ref h13, .ref h14, .ref h15, .ref h16, .ref h17, .ref h18, .int f4])), (h11, .inl (zI g, 5, .inl Z5)), (h12, .inl (zI g, 6, .inl Z6)), (h13, .inl (zI g, 5, .inl Z7)), (h14, .inl (zI g, 5, .inl Z8)), (h15, .inl (zI g, 5, .inl Z9)), (h16, .inl (zI g, 20, .inl Z10))]) [0, 1, 2, 3, 4, 5, 6, 7] rfl
    have hD9 := hD.sub (ws' := [(h0, .inr (4, [.ref h1, .ref h2, .int f0, .ref h3, .ref h4, .ref h5, .ref h6, .int f1, .ref h7, .ref h8, .ref h9, .ref h10])), (h1, .inr (0, [.ref h11, .int f2, .ref h12, .int f3, .ref h13, .ref h14, .ref h15, .ref h16, .ref h17, .ref h18, .int f4])), (h11, .inl (zI g, 5, .inl Z5)), (h12, .inl (zI g, 6, .inl Z6)), (h13, .inl (zI g, 5, .inl Z7)), (h14, .inl (zI g, 5, .inl Z8)), (h15, .inl (zI g, 5, .inl Z9)), (h16, .inl (zI g, 20, .inl Z10))]) [0, 1, 2, 3, 4, 5, 6, 7] (by decide) rfl
    exact W.iret (v := f2) hx hb hr (fun t ht hW => ⟨⟨f2, (0 : Nat), rfl, (by first | omega | decide), by rw [ht]; exact hP9, hD9⟩, hS.F ht⟩) hS.2.2 dX4_count_43
  have i_0 : p1.toInt ≠ 0 := fun h => j_0 (Int32.toInt_inj.mp (h.trans rfl))
  by_cases j_1 : p1 = 1
  · have i_1 : p1.toInt = 1 := by rw [j_1]; rfl
    subst j_1
    refine lv_tableIn (x := 1) (off := 43) (tgt := 44) hx hb dX4_count_1 (by decide) (by decide) rfl (by decide) ?_
    refine lv_aload_n hx hb dX4_count_44 rfl (lv_at hl 0 rfl) ?_
    refine va_get (D := g.1) (ci := 4) (v := .ref h1) (C := RX4) (T := TX4) (N := 12) hx hb hts zl_X4 hown hK hP 0 rfl rfl 0 (by decide) (hts _ m_f_RX4_10) (fun _ h => h) rfl dX4_count_45 ?_
    refine va_getN (D := g.1) (ci := 0) (v := .int f3) (C := RX0) (T := TX0) (N := 11) hx hb hts zl_X0 hown hK hP 1 rfl rfl 3 (by decide) (hN.f 7 (q := (RX4, 71, "FishSteps$Books", "buyers", "I")) rfl) (fun _ h => h) rfl dX4_count_48 ?_
    have hz : zAcnt f2.toInt f3.toInt f4.toInt Z8 Z6 (Int32.toInt 1) = f3.toInt := by
      unfold zAcnt
      rw [if_neg (by first | omega | decide), if_pos (by first | omega | decide)] <;> omega
    have hP9 := hP.sub (ws' := [(h0, .inr (4, [.ref h1, .ref h2, .int f0, .ref h3, .ref h4, .ref h5, .ref h6, .int f1, .ref h7, .ref h8, .ref h9, .ref h10])), (h1, .inr (0, [.ref h11, .int f2, .ref h12, .int f3, .ref h13, .ref h14, .ref h15, .ref h16, .ref h17, .ref h18, .int f4])), (h11, .inl (zI g, 5, .inl Z5)), (h12, .inl (zI g, 6, .inl Z6)), (h13, .inl (zI g, 5, .inl Z7)), (h14, .inl (zI g, 5, .inl Z8)), (h15, .inl (zI g, 5, .inl Z9)), (h16, .inl (zI g, 20, .inl Z10))]) [0, 1, 2, 3, 4, 5, 6, 7] rfl
    have hD9 := hD.sub (ws' := [(h0, .inr (4, [.ref h1, .ref h2, .int f0, .ref h3, .ref h4, .ref h5, .ref h6, .int f1, .ref h7, .ref h8, .ref h9, .ref h10])), (h1, .inr (0, [.ref h11, .int f2, .ref h12, .int f3, .ref h13, .ref h14, .ref h15, .ref h16, .ref h17, .ref h18, .int f4])), (h11, .inl (zI g, 5, .inl Z5)), (h12, .inl (zI g, 6, .inl Z6)), (h13, .inl (zI g, 5, .inl Z7)), (h14, .inl (zI g, 5, .inl Z8)), (h15, .inl (zI g, 5, .inl Z9)), (h16, .inl (zI g, 20, .inl Z10))]) [0, 1, 2, 3, 4, 5, 6, 7] (by decide) rfl
    exact W.iret (v := f3) hx hb hr (fun t ht hW => ⟨⟨f3, (0 : Nat), rfl, (by first | omega | decide), by rw [ht]; exact hP9, hD9⟩, hS.F ht⟩) hS.2.2 dX4_count_51
  have i_1 : p1.toInt ≠ 1 := fun h => j_1 (Int32.toInt_inj.mp (h.trans rfl))
  by_cases j_2 : p1 = 2
  · have i_2 : p1.toInt = 2 := by rw [j_2]; rfl
    subst j_2
    refine lv_tableIn (x := 2) (off := 51) (tgt := 52) hx hb dX4_count_1 (by decide) (by decide) rfl (by decide) ?_
    refine lv_aload_n hx hb dX4_count_52 rfl (lv_at hl 0 rfl) ?_
    refine va_get (D := g.1) (ci := 4) (v := .ref h1) (C := RX4) (T := TX4) (N := 12) hx hb hts zl_X4 hown hK hP 0 rfl rfl 0 (by decide) (hts _ m_f_RX4_10) (fun _ h => h) rfl dX4_count_53 ?_
    refine va_getN (D := g.1) (ci := 0) (v := .int f4) (C := RX0) (T := TX0) (N := 11) hx hb hts zl_X0 hown hK hP 1 rfl rfl 10 (by decide) (hN.f 18 (q := (RX4, 125, "FishSteps$Books", "held", "I")) rfl) (fun _ h => h) rfl dX4_count_56 ?_
    have hz : zAcnt f2.toInt f3.toInt f4.toInt Z8 Z6 (Int32.toInt 2) = f4.toInt := by
      unfold zAcnt
      rw [if_neg (by first | omega | decide), if_neg (by first | omega | decide), if_pos (by first | omega | decide)] <;> omega
    have hP9 := hP.sub (ws' := [(h0, .inr (4, [.ref h1, .ref h2, .int f0, .ref h3, .ref h4, .ref h5, .ref h6, .int f1, .ref h7, .ref h8, .ref h9, .ref h10])), (h1, .inr (0, [.ref h11, .int f2, .ref h12, .int f3, .ref h13, .ref h14, .ref h15, .ref h16, .ref h17, .ref h18, .int f4])), (h11, .inl (zI g, 5, .inl Z5)), (h12, .inl (zI g, 6, .inl Z6)), (h13, .inl (zI g, 5, .inl Z7)), (h14, .inl (zI g, 5, .inl Z8)), (h15, .inl (zI g, 5, .inl Z9)), (h16, .inl (zI g, 20, .inl Z10))]) [0, 1, 2, 3, 4, 5, 6, 7] rfl
    have hD9 := hD.sub (ws' := [(h0, .inr (4, [.ref h1, .ref h2, .int f0, .ref h3, .ref h4, .ref h5, .ref h6, .int f1, .ref h7, .ref h8, .ref h9, .ref h10])), (h1, .inr (0, [.ref h11, .int f2, .ref h12, .int f3, .ref h13, .ref h14, .ref h15, .ref h16, .ref h17, .ref h18, .int f4])), (h11, .inl (zI g, 5, .inl Z5)), (h12, .inl (zI g, 6, .inl Z6)), (h13, .inl (zI g, 5, .inl Z7)), (h14, .inl (zI g, 5, .inl Z8)), (h15, .inl (zI g, 5, .inl Z9)), (h16, .inl (zI g, 20, .inl Z10))]) [0, 1, 2, 3, 4, 5, 6, 7] (by decide) rfl
    exact W.iret (v := f4) hx hb hr (fun t ht hW => ⟨⟨f4, (0 : Nat), rfl, (by first | omega | decide), by rw [ht]; exact hP9, hD9⟩, hS.F ht⟩) hS.2.2 dX4_count_59
  have i_2 : p1.toInt ≠ 2 := fun h => j_2 (Int32.toInt_inj.mp (h.trans rfl))
  by_cases j_3 : p1 = 3
  · have i_3 : p1.toInt = 3 := by rw [j_3]; rfl
    subst j_3
    refine lv_tableIn (x := 3) (off := 59) (tgt := 60) hx hb dX4_count_1 (by decide) (by decide) rfl (by decide) ?_
    refine lv_aload_n hx hb dX4_count_60 rfl (lv_at hl 0 rfl) ?_
    refine va_get (D := g.1) (ci := 4) (v := .ref h1) (C := RX4) (T := TX4) (N := 12) hx hb hts zl_X4 hown hK hP 0 rfl rfl 0 (by decide) (hts _ m_f_RX4_10) (fun _ h => h) rfl dX4_count_61 ?_
    refine z_calli (wr := [(h0, .inr (4, [.ref h1, .ref h2, .int f0, .ref h3, .ref h4, .ref h5, .ref h6, .int f1, .ref h7, .ref h8, .ref h9, .ref h10])), (h11, .inl (zI g, 5, .inl Z5)), (h12, .inl (zI g, 6, .inl Z6)), (h13, .inl (zI g, 5, .inl Z7)), (h15, .inl (zI g, 5, .inl Z9)), (h16, .inl (zI g, 20, .inl Z10))]) hP hD hS hA [1, 5] [0, 2, 3, 4, 6, 7] (by decide) rfl rfl (by decide) (va_runVN (As := []) (rest := []) ⟨hx, hb, hml, hown, hts⟩ (gX0_countOwing l g h1 h11 h12 h13 h14 h15 h16 h17 h18 s.heap.size f2 f3 f4 Z8 (by constructor <;> omega) (by constructor <;> omega) (by constructor <;> omega) hF_Z8) ⟨va_cnB 0 hts (zGood m_o_yX0_countOwing) rfl rfl rfl (hN.m 12 (q := (RX4, 128, yX0_countOwing)) rfl) (hts _ m_z_RX0) ⟨by decide +kernel, by decide +kernel, by decide +kernel⟩ ⟨Nat.le_of_ble_eq_true rfl, Nat.le_of_ble_eq_true rfl⟩, hts _ m_i_yX0_countOwing, hts _ m_e_yX0_countOwing⟩ (zPreV hK hN hZ hP hD hS hA [1, 5] (by decide) rfl rfl 0 1 rfl rfl) rfl rfl hl.1 rfl (lv_room (Nat.le_of_ble_eq_true rfl)) dX4_count_64 ⟨Nat.le_of_ble_eq_true rfl, Nat.le_of_ble_eq_true rfl⟩) (fun r u H locs hw hP hD hS => ?_)
    obtain ⟨y0, rfl⟩ : ∃ z, z = r := ⟨_, rfl⟩
    obtain ⟨q1_0, q1_1, q1_2⟩ := hw
    have q1_0 : y0.toInt = zOw Z8 f3.toInt.toNat := q1_0
    have q1_1 : 0 ≤ y0.toInt := q1_1
    have q1_2 : y0.toInt ≤ 5 := q1_2
    have hP : va_P g.1 vwCl [(h0, .inr (4, [.ref h1, .ref h2, .int f0, .ref h3, .ref h4, .ref h5, .ref h6, .int f1, .ref h7, .ref h8, .ref h9, .ref h10])), (h11, .inl (zI g, 5, .inl Z5)), (h12, .inl (zI g, 6, .inl Z6)), (h13, .inl (zI g, 5, .inl Z7)), (h15, .inl (zI g, 5, .inl Z9)), (h16, .inl (zI g, 20, .inl Z10)), (h1, .inr (0, [.ref h11, .int f2, .ref h12, .int f3, .ref h13, .ref h14, .ref h15, .ref h16, .ref h17, .ref h18, .int f4])), (h14, .inl (zI g, 5, .inl Z8))] H := hP
    have hD : va_D A [(h0, .inr (4, [.ref h1, .ref h2, .int f0, .ref h3, .ref h4, .ref h5, .ref h6, .int f1, .ref h7, .ref h8, .ref h9, .ref h10])), (h11, .inl (zI g, 5, .inl Z5)), (h12, .inl (zI g, 6, .inl Z6)), (h13, .inl (zI g, 5, .inl Z7)), (h15, .inl (zI g, 5, .inl Z9)), (h16, .inl (zI g, 20, .inl Z10)), (h1, .inr (0, [.ref h11, .int f2, .ref h12, .int f3, .ref h13, .ref h14, .ref h15, .ref h16, .ref h17, .ref h18, .int f4])), (h14, .inl (zI g, 5, .inl Z8))] := hD
    have hz : zAcnt f2.toInt f3.toInt f4.toInt Z8 Z6 (Int32.toInt 3) = y0.toInt := by
      unfold zAcnt
      rw [if_neg (by first | omega | decide), if_neg (by first | omega | decide), if_neg (by first | omega | decide), if_pos (by first | omega | decide)] <;> omega
    have hP9 := hP.sub (ws' := [(h0, .inr (4, [.ref h1, .ref h2, .int f0, .ref h3, .ref h4, .ref h5, .ref h6, .int f1, .ref h7, .ref h8, .ref h9, .ref h10])), (h1, .inr (0, [.ref h11, .int f2, .ref h12, .int f3, .ref h13, .ref h14, .ref h15, .ref h16, .ref h17, .ref h18, .int f4])), (h11, .inl (zI g, 5, .inl Z5)), (h12, .inl (zI g, 6, .inl Z6)), (h13, .inl (zI g, 5, .inl Z7)), (h14, .inl (zI g, 5, .inl Z8)), (h15, .inl (zI g, 5, .inl Z9)), (h16, .inl (zI g, 20, .inl Z10))]) [0, 6, 1, 2, 3, 7, 4, 5] rfl
    have hD9 := hD.sub (ws' := [(h0, .inr (4, [.ref h1, .ref h2, .int f0, .ref h3, .ref h4, .ref h5, .ref h6, .int f1, .ref h7, .ref h8, .ref h9, .ref h10])), (h1, .inr (0, [.ref h11, .int f2, .ref h12, .int f3, .ref h13, .ref h14, .ref h15, .ref h16, .ref h17, .ref h18, .int f4])), (h11, .inl (zI g, 5, .inl Z5)), (h12, .inl (zI g, 6, .inl Z6)), (h13, .inl (zI g, 5, .inl Z7)), (h14, .inl (zI g, 5, .inl Z8)), (h15, .inl (zI g, 5, .inl Z9)), (h16, .inl (zI g, 20, .inl Z10))]) [0, 6, 1, 2, 3, 7, 4, 5] (by decide) rfl
    exact W.iret (v := y0) hx hb hr (fun t ht hW => ⟨⟨y0, (0 : Nat), rfl, (by first | omega | decide), by rw [ht]; exact hP9, hD9⟩, hS.F ht⟩) hS.2.2 dX4_count_67
  have i_3 : p1.toInt ≠ 3 := fun h => j_3 (Int32.toInt_inj.mp (h.trans rfl))
  by_cases j_4 : p1 = 4
  · have i_4 : p1.toInt = 4 := by rw [j_4]; rfl
    subst j_4
    refine lv_tableIn (x := 4) (off := 67) (tgt := 68) hx hb dX4_count_1 (by decide) (by decide) rfl (by decide) ?_
    refine lv_aload_n hx hb dX4_count_68 rfl (lv_at hl 0 rfl) ?_
    refine va_get (D := g.1) (ci := 4) (v := .ref h1) (C := RX4) (T := TX4) (N := 12) hx hb hts zl_X4 hown hK hP 0 rfl rfl 0 (by decide) (hts _ m_f_RX4_10) (fun _ h => h) rfl dX4_count_69 ?_
    refine z_calli (wr := [(h0, .inr (4, [.ref h1, .ref h2, .int f0, .ref h3, .ref h4, .ref h5, .ref h6, .int f1, .ref h7, .ref h8, .ref h9, .ref h10])), (h11, .inl (zI g, 5, .inl Z5)), (h13, .inl (zI g, 5, .inl Z7)), (h14, .inl (zI g, 5, .inl Z8)), (h15, .inl (zI g, 5, .inl Z9)), (h16, .inl (zI g, 20, .inl Z10))]) hP hD hS hA [1, 3] [0, 2, 4, 5, 6, 7] (by decide) rfl rfl (by decide) (va_runVN (As := []) (rest := []) ⟨hx, hb, hml, hown, hts⟩ (gX0_countKinds l g h1 h11 h12 h13 h14 h15 h16 h17 h18 s.heap.size f2 f3 f4 Z6 (by constructor <;> omega) (by constructor <;> omega) (by constructor <;> omega) hF_Z6) ⟨va_cnB 0 hts (zGood m_o_yX0_countKinds) rfl rfl rfl (hN.m 13 (q := (RX4, 132, yX0_countKinds)) rfl) (hts _ m_z_RX0) ⟨by decide +kernel, by decide +kernel, by decide +kernel⟩ ⟨Nat.le_of_ble_eq_true rfl, Nat.le_of_ble_eq_true rfl⟩, hts _ m_i_yX0_countKinds, hts _ m_e_yX0_countKinds⟩ (zPreV hK hN hZ hP hD hS hA [1, 3] (by decide) rfl rfl 0 1 rfl rfl) rfl rfl hl.1 rfl (lv_room (Nat.le_of_ble_eq_true rfl)) dX4_count_72 ⟨Nat.le_of_ble_eq_true rfl, Nat.le_of_ble_eq_true rfl⟩) (fun r u H locs hw hP hD hS => ?_)
    obtain ⟨y2, rfl⟩ : ∃ z, z = r := ⟨_, rfl⟩
    have q3_0 := hw
    have q3_0 : y2.toInt = zC5 (zKs Z6 f2.toInt.toNat) := q3_0
    have hP : va_P g.1 vwCl [(h0, .inr (4, [.ref h1, .ref h2, .int f0, .ref h3, .ref h4, .ref h5, .ref h6, .int f1, .ref h7, .ref h8, .ref h9, .ref h10])), (h11, .inl (zI g, 5, .inl Z5)), (h13, .inl (zI g, 5, .inl Z7)), (h14, .inl (zI g, 5, .inl Z8)), (h15, .inl (zI g, 5, .inl Z9)), (h16, .inl (zI g, 20, .inl Z10)), (h1, .inr (0, [.ref h11, .int f2, .ref h12, .int f3, .ref h13, .ref h14, .ref h15, .ref h16, .ref h17, .ref h18, .int f4])), (h12, .inl (zI g, 6, .inl Z6))] H := hP
    have hD : va_D A [(h0, .inr (4, [.ref h1, .ref h2, .int f0, .ref h3, .ref h4, .ref h5, .ref h6, .int f1, .ref h7, .ref h8, .ref h9, .ref h10])), (h11, .inl (zI g, 5, .inl Z5)), (h13, .inl (zI g, 5, .inl Z7)), (h14, .inl (zI g, 5, .inl Z8)), (h15, .inl (zI g, 5, .inl Z9)), (h16, .inl (zI g, 20, .inl Z10)), (h1, .inr (0, [.ref h11, .int f2, .ref h12, .int f3, .ref h13, .ref h14, .ref h15, .ref h16, .ref h17, .ref h18, .int f4])), (h12, .inl (zI g, 6, .inl Z6))] := hD
    have hz : zAcnt f2.toInt f3.toInt f4.toInt Z8 Z6 (Int32.toInt 4) = y2.toInt := by
      unfold zAcnt
      rw [if_neg (by first | omega | decide), if_neg (by first | omega | decide), if_neg (by first | omega | decide), if_neg (by first | omega | decide), if_pos (by first | omega | decide)] <;> omega
    have hP9 := hP.sub (ws' := [(h0, .inr (4, [.ref h1, .ref h2, .int f0, .ref h3, .ref h4, .ref h5, .ref h6, .int f1, .ref h7, .ref h8, .ref h9, .ref h10])), (h1, .inr (0, [.ref h11, .int f2, .ref h12, .int f3, .ref h13, .ref h14, .ref h15, .ref h16, .ref h17, .ref h18, .int f4])), (h11, .inl (zI g, 5, .inl Z5)), (h12, .inl (zI g, 6, .inl Z6)), (h13, .inl (zI g, 5, .inl Z7)), (h14, .inl (zI g, 5, .inl Z8)), (h15, .inl (zI g, 5, .inl Z9)), (h16, .inl (zI g, 20, .inl Z10))]) [0, 6, 1, 7, 2, 3, 4, 5] rfl
    have hD9 := hD.sub (ws' := [(h0, .inr (4, [.ref h1, .ref h2, .int f0, .ref h3, .ref h4, .ref h5, .ref h6, .int f1, .ref h7, .ref h8, .ref h9, .ref h10])), (h1, .inr (0, [.ref h11, .int f2, .ref h12, .int f3, .ref h13, .ref h14, .ref h15, .ref h16, .ref h17, .ref h18, .int f4])), (h11, .inl (zI g, 5, .inl Z5)), (h12, .inl (zI g, 6, .inl Z6)), (h13, .inl (zI g, 5, .inl Z7)), (h14, .inl (zI g, 5, .inl Z8)), (h15, .inl (zI g, 5, .inl Z9)), (h16, .inl (zI g, 20, .inl Z10))]) [0, 6, 1, 7, 2, 3, 4, 5] (by decide) rfl
    exact W.iret (v := y2) hx hb hr (fun t ht hW => ⟨⟨y2, (0 : Nat), rfl, (by first | omega | decide), by rw [ht]; exact hP9, hD9⟩, hS.F ht⟩) hS.2.2 dX4_count_75
  have i_4 : p1.toInt ≠ 4 := fun h => j_4 (Int32.toInt_inj.mp (h.trans rfl))
  refine lv_tableOut (x := p1) (tgt := 76) hx hb dX4_count_1 (by omega) (by decide) ?_
  refine lv_iconst (v := (-1)) hx hb dX4_count_76 (by decide) ?_
  have : ((-1) : Int32).toInt = (-1) := rfl
  have hz : zAcnt f2.toInt f3.toInt f4.toInt Z8 Z6 p1.toInt = (-1) := by
    unfold zAcnt
    rw [if_neg (by omega), if_neg (by omega), if_neg (by omega), if_neg (by omega), if_neg (by omega)]
  have hP9 := hP.sub (ws' := [(h0, .inr (4, [.ref h1, .ref h2, .int f0, .ref h3, .ref h4, .ref h5, .ref h6, .int f1, .ref h7, .ref h8, .ref h9, .ref h10])), (h1, .inr (0, [.ref h11, .int f2, .ref h12, .int f3, .ref h13, .ref h14, .ref h15, .ref h16, .ref h17, .ref h18, .int f4])), (h11, .inl (zI g, 5, .inl Z5)), (h12, .inl (zI g, 6, .inl Z6)), (h13, .inl (zI g, 5, .inl Z7)), (h14, .inl (zI g, 5, .inl Z8)), (h15, .inl (zI g, 5, .inl Z9)), (h16, .inl (zI g, 20, .inl Z10))]) [0, 1, 2, 3, 4, 5, 6, 7] rfl
  have hD9 := hD.sub (ws' := [(h0, .inr (4, [.ref h1, .ref h2, .int f0, .ref h3, .ref h4, .ref h5, .ref h6, .int f1, .ref h7, .ref h8, .ref h9, .ref h10])), (h1, .inr (0, [.ref h11, .int f2, .ref h12, .int f3, .ref h13, .ref h14, .ref h15, .ref h16, .ref h17, .ref h18, .int f4])), (h11, .inl (zI g, 5, .inl Z5)), (h12, .inl (zI g, 6, .inl Z6)), (h13, .inl (zI g, 5, .inl Z7)), (h14, .inl (zI g, 5, .inl Z8)), (h15, .inl (zI g, 5, .inl Z9)), (h16, .inl (zI g, 20, .inl Z10))]) [0, 1, 2, 3, 4, 5, 6, 7] (by decide) rfl
  exact W.iret (v := (-1)) hx hb hr (fun t ht hW => ⟨⟨(-1), (0 : Nat), rfl, (by first | omega | decide), by rw [ht]; exact hP9, hD9⟩, hS.F ht⟩) hS.2.2 dX4_count_77
set_option maxHeartbeats 8000000 in
set_option maxRecDepth 100000 in
theorem gX2_takeMargins (l : Launch) (g : zG) (h0 h1 h2 h3 h4 h5 h6 h7 h8 h9 h10 h11 h12 h13 h14 h15 h16 h17 h18 h19 : Nat) (sz : Nat) (f0 : Int32) (f1 : Int32) (f2 : Int32) (f3 : Int32) (f4 : Int32) (Z0 : Nat → Int32) (Z14 : Nat → Int32) (hf_f2 : 0 ≤ f2.toInt ∧ f2.toInt ≤ 6) (hf_f3 : 0 ≤ f3.toInt ∧ f3.toInt ≤ 5) (hf_f4 : 0 ≤ f4.toInt ∧ f4.toInt ≤ 9999) (hF_Z0 : iMa Z0) (hF_Z14 : iMa Z14) : Met l yX2_takeMargins (.code yX2_takeMargins cX2_takeMargins 2 none :: zBig) ({ frames := 1, cells := 0, slots := 0, locals := 60 }) (va_Pc [.ref h0, .ref h1] (zPre g [(h0, .inr (2, [.ref h2, .ref h3, .ref h4, .ref h5, .ref h6, .ref h7, .int f0, .int f1, .ref h8, .ref h9, .ref h10, .ref h11])), (h1, .inr (0, [.ref h12, .int f2, .ref h13, .int f3, .ref h14, .ref h15, .ref h16, .ref h17, .ref h18, .ref h19, .int f4])), (h2, .inl (zI g, 5, .inl Z0)), (h16, .inl (zI g, 5, .inl Z14))] sz)) (va_Qv (fun u : (Nat → Int32) => (True) ∧ iMa u ∧ u = va_cpy Z14 Z0 0 0 5) (zPost g (fun u : (Nat → Int32) => [(h0, .inr (2, [.ref h2, .ref h3, .ref h4, .ref h5, .ref h6, .ref h7, .int f0, .int f1, .ref h8, .ref h9, .ref h10, .ref h11])), (h1, .inr (0, [.ref h12, .int f2, .ref h13, .int f3, .ref h14, .ref h15, .ref h16, .ref h17, .ref h18, .ref h19, .int f4])), (h2, .inl (zI g, 5, .inl u)), (h16, .inl (zI g, 5, .inl Z14))]) (va_A [(h0, .inr (2, [.ref h2, .ref h3, .ref h4, .ref h5, .ref h6, .ref h7, .int f0, .int f1, .ref h8, .ref h9, .ref h10, .ref h11])), (h1, .inr (0, [.ref h12, .int f2, .ref h13, .int f3, .ref h14, .ref h15, .ref h16, .ref h17, .ref h18, .ref h19, .int f4])), (h2, .inl (zI g, 5, .inl Z0)), (h16, .inl (zI g, 5, .inl Z14))] sz)) (va_A [(h0, .inr (2, [.ref h2, .ref h3, .ref h4, .ref h5, .ref h6, .ref h7, .int f0, .int f1, .ref h8, .ref h9, .ref h10, .ref h11])), (h1, .inr (0, [.ref h12, .int f2, .ref h13, .int f3, .ref h14, .ref h15, .ref h16, .ref h17, .ref h18, .ref h19, .int f4])), (h2, .inl (zI g, 5, .inl Z0)), (h16, .inl (zI g, 5, .inl Z14))] sz)) 0 0 (va_A [(h0, .inr (2, [.ref h2, .ref h3, .ref h4, .ref h5, .ref h6, .ref h7, .int f0, .int f1, .ref h8, .ref h9, .ref h10, .ref h11])), (h1, .inr (0, [.ref h12, .int f2, .ref h13, .int f3, .ref h14, .ref h15, .ref h16, .ref h17, .ref h18, .ref h19, .int f4])), (h2, .inl (zI g, 5, .inl Z0)), (h16, .inl (zI g, 5, .inl Z14))] sz) := by
  refine zMetV rfl (Nat.le_of_ble_eq_true rfl) ?_
  intro p e s m args below meth c A ls hx hb hml hr hlocks hin hown hts hK hN hZ hP hD hA hS hAe hl
  have hown : s.vm.findClass RX2 = some m.cls := hown
  have hl : lv_has ls 2 [(0, .ref h0), (1, .ref h1)] := hl
  refine lv_aload_n hx hb dX2_takeMargins_0 rfl (lv_at hl 1 rfl) ?_
  refine va_getN (D := g.1) (ci := 0) (v := .ref h16) (C := RX0) (T := TX0) (N := 11) hx hb hts zl_X0 hown hK hP 1 rfl rfl 6 (by decide) (hN.f 13 (q := (RX2, 49, "FishSteps$Books", "margin", "[I")) rfl) (fun _ h => h) rfl dX2_takeMargins_1 ?_
  refine lv_iconst (v := 0) hx hb dX2_takeMargins_4 (by decide) ?_
  refine lv_aload_n hx hb dX2_takeMargins_5 rfl (lv_at hl 0 rfl) ?_
  refine va_get (D := g.1) (ci := 2) (v := .ref h2) (C := RX2) (T := TX2) (N := 12) hx hb hts zl_X2 hown hK hP 0 rfl rfl 0 (by decide) (hts _ m_f_RX2_9) (fun _ h => h) rfl dX2_takeMargins_6 ?_
  refine lv_iconst (v := 0) hx hb dX2_takeMargins_9 (by decide) ?_
  refine lv_iconst (v := 5) hx hb dX2_takeMargins_10 (by decide) ?_
  have : (0 : Int32).toInt = 0 := rfl
  have : (0 : Int32).toInt = 0 := rfl
  have : (5 : Int32).toInt = 5 := rfl
  refine va_copyi (D := g.1) (ty := .int) (sp := 0) (dp := 0) (n := 5) hx hb (hml.trans hl.1.symm) hown (hts _ m_m_RX2_52) (hts _ m_n_arraycopyName) (hts _ m_s_arraycopyName) (hts _ m_z_RJ10) hK hP hD hS 3 2 0 0 rfl rfl rfl rfl rfl (by decide) (by decide) (by decide) (by decide) (by decide) (fun _ _ => rfl) (Nat.le_of_ble_eq_true rfl) (Nat.le_of_ble_eq_true rfl) dX2_takeMargins_11 (fun H locs hP hD hS => ?_)
  have hP : va_P g.1 vwCl [(h0, .inr (2, [.ref h2, .ref h3, .ref h4, .ref h5, .ref h6, .ref h7, .int f0, .int f1, .ref h8, .ref h9, .ref h10, .ref h11])), (h1, .inr (0, [.ref h12, .int f2, .ref h13, .int f3, .ref h14, .ref h15, .ref h16, .ref h17, .ref h18, .ref h19, .int f4])), (h2, .inl (zI g, 5, .inl (va_cpy Z14 Z0 0 0 5))), (h16, .inl (zI g, 5, .inl Z14))] H := hP
  have hD : va_D A [(h0, .inr (2, [.ref h2, .ref h3, .ref h4, .ref h5, .ref h6, .ref h7, .int f0, .int f1, .ref h8, .ref h9, .ref h10, .ref h11])), (h1, .inr (0, [.ref h12, .int f2, .ref h13, .int f3, .ref h14, .ref h15, .ref h16, .ref h17, .ref h18, .ref h19, .int f4])), (h2, .inl (zI g, 5, .inl (va_cpy Z14 Z0 0 0 5))), (h16, .inl (zI g, 5, .inl Z14))] := hD
  obtain ⟨R0, eR0⟩ : ∃ z : Nat → Int32, z = (va_cpy Z14 Z0 0 0 5) := ⟨_, rfl⟩
  rw [← eR0] at hP hD
  have hI0 : iMa R0 := by rw [eR0]; exact iMa_cpy hF_Z14
  have hP9 := hP.sub (ws' := [(h0, .inr (2, [.ref h2, .ref h3, .ref h4, .ref h5, .ref h6, .ref h7, .int f0, .int f1, .ref h8, .ref h9, .ref h10, .ref h11])), (h1, .inr (0, [.ref h12, .int f2, .ref h13, .int f3, .ref h14, .ref h15, .ref h16, .ref h17, .ref h18, .ref h19, .int f4])), (h2, .inl (zI g, 5, .inl R0)), (h16, .inl (zI g, 5, .inl Z14))]) [0, 1, 2, 3] rfl
  have hD9 := hD.sub (ws' := [(h0, .inr (2, [.ref h2, .ref h3, .ref h4, .ref h5, .ref h6, .ref h7, .int f0, .int f1, .ref h8, .ref h9, .ref h10, .ref h11])), (h1, .inr (0, [.ref h12, .int f2, .ref h13, .int f3, .ref h14, .ref h15, .ref h16, .ref h17, .ref h18, .ref h19, .int f4])), (h2, .inl (zI g, 5, .inl R0)), (h16, .inl (zI g, 5, .inl Z14))]) [0, 1, 2, 3] (by decide) rfl
  exact W.vret hx hb hr (fun t ht hW => ⟨⟨R0, rfl, ⟨trivial, hI0, (by rw [eR0])⟩, by rw [ht]; exact hP9, hD9⟩, hS.F ht⟩) hS.2.2 dX2_takeMargins_14
set_option maxHeartbeats 8000000 in
set_option maxRecDepth 100000 in
theorem gJ7_fill_53178_n5 (l : Launch) (g : zG) (h0 : Nat) (sz : Nat) (p1 : Int32) (Z0 : Nat → Int32) : Met l yJ7_fill_53178 (.code yJ7_fill_53178 cJ7_fill_53178 4 none :: zBig) ({ frames := 0, cells := 0, slots := 0, locals := 0 }) (va_Pc [.ref h0, .int p1] (zPre g [(h0, .inl (zI g, 5, .inl Z0))] sz)) (va_Qv (fun u : (Nat → Int32) => (True) ∧ zFilK p1 5 u) (zPost g (fun u : (Nat → Int32) => [(h0, .inl (zI g, 5, .inl u))]) (va_A [(h0, .inl (zI g, 5, .inl Z0))] sz)) (va_A [(h0, .inl (zI g, 5, .inl Z0))] sz)) 0 0 (va_A [(h0, .inl (zI g, 5, .inl Z0))] sz) := by
  refine zMetV rfl (Nat.le_of_ble_eq_true rfl) ?_
  intro p e s m args below meth c A ls hx hb hml hr hlocks hin hown hts hK hN hZ hP hD hA hS hAe hl
  have hown : s.vm.findClass RJ7 = some m.cls := hown
  have hl : lv_has ls 4 [(0, .ref h0), (1, .int p1)] := hl
  refine lv_iconst (v := 0) hx hb dJ7_fill_53178_0 (by decide) ?_
  refine lv_istore_n (lv' := [(2, .int 0), (0, .ref h0), (1, .int p1)]) hx hb dJ7_fill_53178_1 rfl hl (by decide) rfl (fun ls hl => ?_)
  have hI0 : zFilK p1 0 Z0 := zFilK_0
  refine lv_aload_n hx hb dJ7_fill_53178_2 rfl (lv_at hl 1 rfl) ?_
  refine va_alen (D := g.1) hx hb hK hP 0 0 rfl rfl (v := 5) rfl dJ7_fill_53178_3 ?_
  refine lv_istore_n (lv' := [(3, .int 5), (2, .int 0), (0, .ref h0), (1, .int p1)]) hx hb dJ7_fill_53178_4 rfl hl (by decide) rfl (fun ls hl => ?_)
  have loop5_0 : ∀ (n1 : Nat) (v2_0 : Int32) (G0_0 : Nat → Int32) (hG0_0 : zFilK p1 (v2_0.toInt) G0_0) (n1_0 : 0 ≤ v2_0.toInt) (n1_1 : v2_0.toInt ≤ 5) (hm1 : 5 - v2_0.toInt < (n1 : Int)) (H : Heap) (locs : List Loc), va_P g.1 vwCl [(h0, .inl (zI g, 5, .inl G0_0))] H → va_D A [(h0, .inl (zI g, 5, .inl G0_0))] → va_S A s.heap H locs → ∀ (ls : Array Slot), lv_has ls 4 [(0, .ref h0), (1, .int p1), (2, .int v2_0), (3, .int 5)] → W p l e ({ frames := 0, cells := 0, slots := 0, locals := 0 }) s m args below meth c H locs 0 0 (MQ below (va_Qv (fun u : (Nat → Int32) => (True) ∧ zFilK p1 5 u) (zPost g (fun u : (Nat → Int32) => [(h0, .inl (zI g, 5, .inl u))]) A) A) args s 0 0 A) (F0 m 5 ls []) := by
    intro n1
    induction n1 with
    | zero => intro v2_0 G0_0 hG0_0 n1_0 n1_1 hm1; exfalso; omega
    | succ n1 ih1 =>
      intro v2_0 G0_0 hG0_0 n1_0 n1_1 hm1 H locs hP hD hS ls hl
      refine lv_iload_n hx hb dJ7_fill_53178_5 rfl (lv_at hl 2 rfl) ?_
      refine lv_iload_n hx hb dJ7_fill_53178_6 rfl (lv_at hl 3 rfl) ?_
      refine lv_icmp_ge (tgt := 20) hx hb dJ7_fill_53178_7 (by decide) (fun c_1 => ?_) (fun c_1 => ?_)
      · have i_1 : 5 ≤ v2_0.toInt := z_le (rfl) (rfl) c_1
        have hI1 : zFilK p1 5 G0_0 := zFilK_eq hG0_0 (by omega)
        have hP9 := hP.sub (ws' := [(h0, .inl (zI g, 5, .inl G0_0))]) [0] rfl
        have hD9 := hD.sub (ws' := [(h0, .inl (zI g, 5, .inl G0_0))]) [0] (by decide) rfl
        exact W.vret hx hb hr (fun t ht hW => ⟨⟨G0_0, rfl, ⟨trivial, hI1⟩, by rw [ht]; exact hP9, hD9⟩, hS.F ht⟩) hS.2.2 dJ7_fill_53178_20
      · have i_1 : v2_0.toInt < 5 := z_nle (rfl) (rfl) c_1
        refine lv_aload_n hx hb dJ7_fill_53178_10 rfl (lv_at hl 0 rfl) ?_
        refine lv_iload_n hx hb dJ7_fill_53178_11 rfl (lv_at hl 2 rfl) ?_
        refine lv_iload_n hx hb dJ7_fill_53178_12 rfl (lv_at hl 1 rfl) ?_
        refine va_iast (D := g.1) hx hb hK hP hD hS 0 0 rfl rfl (vp_in_iff.mpr ⟨by omega, by omega⟩) dJ7_fill_53178_13 (fun H locs hP hD hS => ?_)
        have hP : va_P g.1 vwCl [(h0, .inl (zI g, 5, .inl (upd G0_0 v2_0.toNatClampNeg p1)))] H := hP
        have hD : va_D A [(h0, .inl (zI g, 5, .inl (upd G0_0 v2_0.toNatClampNeg p1)))] := hD
        have hI2 : zFilK p1 (v2_0.toInt + 1) (upd G0_0 v2_0.toNatClampNeg p1) := zFilK_put (i := v2_0) hG0_0 (rfl)
        obtain ⟨R3, eR3⟩ : ∃ z : Nat → Int32, z = (upd G0_0 v2_0.toNatClampNeg p1) := ⟨_, rfl⟩
        rw [← eR3] at hP hD hI2
        obtain ⟨y4, ey4⟩ : ∃ z : Int32, z = v2_0 + 1 := ⟨_, rfl⟩
        have qy4 : y4.toInt = v2_0.toInt + 1 := zi_add ey4 (rfl) rfl (by omega) (by omega)
        refine lv_iinc (v := y4) (lv' := [(2, .int y4), (0, .ref h0), (1, .int p1), (3, .int 5)]) hx hb dJ7_fill_53178_14 hl (k := 2) rfl ey4.symm (by decide) rfl (fun ls hl => ?_)
        refine lv_goto (tgt := 5) hx hb dJ7_fill_53178_17 (by decide) ?_
        exact ih1 y4 R3 (zFilK_eq hI2 (by omega)) (by omega) (by omega) (by omega) _ _ hP hD hS ls (lv_sub hl [1, 2, 0, 3] rfl)
  have : (0 : Int32).toInt = 0 := rfl
  exact loop5_0 ((5 - 0 : Int).toNat + 1) (0 : Int32) Z0 (zFilK_eq hI0 (by omega)) (by omega) (by omega) (by omega) _ _ hP hD hS ls (lv_sub hl [2, 3, 1, 0] rfl)
set_option maxHeartbeats 8000000 in
set_option maxRecDepth 100000 in
theorem gX2_begin (l : Launch) (g : zG) (h0 h1 h2 h3 h4 h5 h6 h7 h8 h9 h10 h11 h12 h13 h14 h15 h16 h17 h18 h19 : Nat) (sz : Nat) (f0 : Int32) (f1 : Int32) (f2 : Int32) (f3 : Int32) (f4 : Int32) (Z1 : Nat → Int32) (Z2 : Nat → Int32) (Z3 : Nat → Int32) (Z13 : Nat → Int32) (hf_f2 : 0 ≤ f2.toInt ∧ f2.toInt ≤ 6) (hf_f3 : 0 ≤ f3.toInt ∧ f3.toInt ≤ 5) (hf_f4 : 0 ≤ f4.toInt ∧ f4.toInt ≤ 9999) (hF_Z1 : iPu Z1) (hF_Z2 : iHd Z2) (hF_Z3 : iGa Z3) (hF_Z13 : iPu Z13) : Met l yX2_begin (.code yX2_begin cX2_begin 2 none :: zBig) ({ frames := 1, cells := 0, slots := 0, locals := 60 }) (va_Pc [.ref h0, .ref h1] (zPre g [(h0, .inr (2, [.ref h2, .ref h3, .ref h4, .ref h5, .ref h6, .ref h7, .int f0, .int f1, .ref h8, .ref h9, .ref h10, .ref h11])), (h1, .inr (0, [.ref h12, .int f2, .ref h13, .int f3, .ref h14, .ref h15, .ref h16, .ref h17, .ref h18, .ref h19, .int f4])), (h3, .inl (zI g, 5, .inl Z1)), (h4, .inl (zI g, 5, .inl Z2)), (h5, .inl (zI g, 5, .inl Z3)), (h15, .inl (zI g, 5, .inl Z13))] sz)) (va_Qv (fun u : (Nat → Int32) × (Nat → Int32) × (Nat → Int32) => (True) ∧ iPu u.1 ∧ zHd0 u.2.1 ∧ zGa0 u.2.2 ∧ u.1 = va_cpy Z13 Z1 0 0 5) (zPost g (fun u : (Nat → Int32) × (Nat → Int32) × (Nat → Int32) => [(h0, .inr (2, [.ref h2, .ref h3, .ref h4, .ref h5, .ref h6, .ref h7, .int f0, .int f1, .ref h8, .ref h9, .ref h10, .ref h11])), (h1, .inr (0, [.ref h12, .int f2, .ref h13, .int f3, .ref h14, .ref h15, .ref h16, .ref h17, .ref h18, .ref h19, .int f4])), (h3, .inl (zI g, 5, .inl u.1)), (h4, .inl (zI g, 5, .inl u.2.1)), (h5, .inl (zI g, 5, .inl u.2.2)), (h15, .inl (zI g, 5, .inl Z13))]) (va_A [(h0, .inr (2, [.ref h2, .ref h3, .ref h4, .ref h5, .ref h6, .ref h7, .int f0, .int f1, .ref h8, .ref h9, .ref h10, .ref h11])), (h1, .inr (0, [.ref h12, .int f2, .ref h13, .int f3, .ref h14, .ref h15, .ref h16, .ref h17, .ref h18, .ref h19, .int f4])), (h3, .inl (zI g, 5, .inl Z1)), (h4, .inl (zI g, 5, .inl Z2)), (h5, .inl (zI g, 5, .inl Z3)), (h15, .inl (zI g, 5, .inl Z13))] sz)) (va_A [(h0, .inr (2, [.ref h2, .ref h3, .ref h4, .ref h5, .ref h6, .ref h7, .int f0, .int f1, .ref h8, .ref h9, .ref h10, .ref h11])), (h1, .inr (0, [.ref h12, .int f2, .ref h13, .int f3, .ref h14, .ref h15, .ref h16, .ref h17, .ref h18, .ref h19, .int f4])), (h3, .inl (zI g, 5, .inl Z1)), (h4, .inl (zI g, 5, .inl Z2)), (h5, .inl (zI g, 5, .inl Z3)), (h15, .inl (zI g, 5, .inl Z13))] sz)) 0 0 (va_A [(h0, .inr (2, [.ref h2, .ref h3, .ref h4, .ref h5, .ref h6, .ref h7, .int f0, .int f1, .ref h8, .ref h9, .ref h10, .ref h11])), (h1, .inr (0, [.ref h12, .int f2, .ref h13, .int f3, .ref h14, .ref h15, .ref h16, .ref h17, .ref h18, .ref h19, .int f4])), (h3, .inl (zI g, 5, .inl Z1)), (h4, .inl (zI g, 5, .inl Z2)), (h5, .inl (zI g, 5, .inl Z3)), (h15, .inl (zI g, 5, .inl Z13))] sz) := by
  refine zMetV rfl (Nat.le_of_ble_eq_true rfl) ?_
  intro p e s m args below meth c A ls hx hb hml hr hlocks hin hown hts hK hN hZ hP hD hA hS hAe hl
  have hown : s.vm.findClass RX2 = some m.cls := hown
  have hl : lv_has ls 2 [(0, .ref h0), (1, .ref h1)] := hl
  refine lv_aload_n hx hb dX2_begin_0 rfl (lv_at hl 1 rfl) ?_
  refine va_getN (D := g.1) (ci := 0) (v := .ref h15) (C := RX0) (T := TX0) (N := 11) hx hb hts zl_X0 hown hK hP 1 rfl rfl 5 (by decide) (hN.f 11 (q := (RX2, 58, "FishSteps$Books", "purse", "[I")) rfl) (fun _ h => h) rfl dX2_begin_1 ?_
  refine lv_iconst (v := 0) hx hb dX2_begin_4 (by decide) ?_
  refine lv_aload_n hx hb dX2_begin_5 rfl (lv_at hl 0 rfl) ?_
  refine va_get (D := g.1) (ci := 2) (v := .ref h3) (C := RX2) (T := TX2) (N := 12) hx hb hts zl_X2 hown hK hP 0 rfl rfl 1 (by decide) (hts _ m_f_RX2_15) (fun _ h => h) rfl dX2_begin_6 ?_
  refine lv_iconst (v := 0) hx hb dX2_begin_9 (by decide) ?_
  refine lv_iconst (v := 5) hx hb dX2_begin_10 (by decide) ?_
  have : (0 : Int32).toInt = 0 := rfl
  have : (0 : Int32).toInt = 0 := rfl
  have : (5 : Int32).toInt = 5 := rfl
  refine va_copyi (D := g.1) (ty := .int) (sp := 0) (dp := 0) (n := 5) hx hb (hml.trans hl.1.symm) hown (hts _ m_m_RX2_52) (hts _ m_n_arraycopyName) (hts _ m_s_arraycopyName) (hts _ m_z_RJ10) hK hP hD hS 5 2 0 0 rfl rfl rfl rfl rfl (by decide) (by decide) (by decide) (by decide) (by decide) (fun _ _ => rfl) (Nat.le_of_ble_eq_true rfl) (Nat.le_of_ble_eq_true rfl) dX2_begin_11 (fun H locs hP hD hS => ?_)
  have hP : va_P g.1 vwCl [(h0, .inr (2, [.ref h2, .ref h3, .ref h4, .ref h5, .ref h6, .ref h7, .int f0, .int f1, .ref h8, .ref h9, .ref h10, .ref h11])), (h1, .inr (0, [.ref h12, .int f2, .ref h13, .int f3, .ref h14, .ref h15, .ref h16, .ref h17, .ref h18, .ref h19, .int f4])), (h3, .inl (zI g, 5, .inl (va_cpy Z13 Z1 0 0 5))), (h4, .inl (zI g, 5, .inl Z2)), (h5, .inl (zI g, 5, .inl Z3)), (h15, .inl (zI g, 5, .inl Z13))] H := hP
  have hD : va_D A [(h0, .inr (2, [.ref h2, .ref h3, .ref h4, .ref h5, .ref h6, .ref h7, .int f0, .int f1, .ref h8, .ref h9, .ref h10, .ref h11])), (h1, .inr (0, [.ref h12, .int f2, .ref h13, .int f3, .ref h14, .ref h15, .ref h16, .ref h17, .ref h18, .ref h19, .int f4])), (h3, .inl (zI g, 5, .inl (va_cpy Z13 Z1 0 0 5))), (h4, .inl (zI g, 5, .inl Z2)), (h5, .inl (zI g, 5, .inl Z3)), (h15, .inl (zI g, 5, .inl Z13))] := hD
  obtain ⟨R0, eR0⟩ : ∃ z : Nat → Int32, z = (va_cpy Z13 Z1 0 0 5) := ⟨_, rfl⟩
  rw [← eR0] at hP hD
  have hI0 : iPu R0 := by rw [eR0]; exact iPu_cpy hF_Z13
  refine lv_aload_n hx hb dX2_begin_14 rfl (lv_at hl 0 rfl) ?_
  refine va_get (D := g.1) (ci := 2) (v := .ref h4) (C := RX2) (T := TX2) (N := 12) hx hb hts zl_X2 hown hK hP 0 rfl rfl 2 (by decide) (hts _ m_f_RX2_18) (fun _ h => h) rfl dX2_begin_15 ?_
  refine lv_iconst (v := 0) hx hb dX2_begin_18 (by decide) ?_
  refine z_callv (wr := [(h0, .inr (2, [.ref h2, .ref h3, .ref h4, .ref h5, .ref h6, .ref h7, .int f0, .int f1, .ref h8, .ref h9, .ref h10, .ref h11])), (h1, .inr (0, [.ref h12, .int f2, .ref h13, .int f3, .ref h14, .ref h15, .ref h16, .ref h17, .ref h18, .ref h19, .int f4])), (h3, .inl (zI g, 5, .inl R0)), (h5, .inl (zI g, 5, .inl Z3)), (h15, .inl (zI g, 5, .inl Z13))]) hP hD hS hA [3] [0, 1, 2, 4, 5] (by decide) rfl rfl (by decide) (va_runS (As := [.ref h4, .int 0]) (rest := []) ⟨hx, hb, hml, hown, hts⟩ (gJ7_fill_53178_n5 l g h4 H.size (0 : Int32) Z2) ⟨callB_of 2 hts (zGood m_o_yJ7_fill_53178) rfl rfl rfl (hts _ m_z_RJ7) (hts _ m_m_RX2_59) ⟨by decide +kernel, by decide +kernel, by decide +kernel⟩ ⟨Nat.le_of_ble_eq_true rfl, Nat.le_of_ble_eq_true rfl⟩, hts _ m_s_yJ7_fill_53178⟩ (zPreS hK hN hZ hP hD hS hA [3] (by decide) rfl rfl) rfl rfl hl.1 rfl (lv_room (Nat.le_of_ble_eq_true rfl)) dX2_begin_19 ⟨Nat.le_of_ble_eq_true rfl, Nat.le_of_ble_eq_true rfl⟩) (fun u H locs hw hP hD hS => ?_)
  obtain ⟨R1, rfl⟩ : ∃ z, z = u := ⟨_, rfl⟩
  obtain ⟨hw, hI2⟩ := hw
  have hP : va_P g.1 vwCl [(h0, .inr (2, [.ref h2, .ref h3, .ref h4, .ref h5, .ref h6, .ref h7, .int f0, .int f1, .ref h8, .ref h9, .ref h10, .ref h11])), (h1, .inr (0, [.ref h12, .int f2, .ref h13, .int f3, .ref h14, .ref h15, .ref h16, .ref h17, .ref h18, .ref h19, .int f4])), (h3, .inl (zI g, 5, .inl R0)), (h5, .inl (zI g, 5, .inl Z3)), (h15, .inl (zI g, 5, .inl Z13)), (h4, .inl (zI g, 5, .inl R1))] H := hP
  have hD : va_D A [(h0, .inr (2, [.ref h2, .ref h3, .ref h4, .ref h5, .ref h6, .ref h7, .int f0, .int f1, .ref h8, .ref h9, .ref h10, .ref h11])), (h1, .inr (0, [.ref h12, .int f2, .ref h13, .int f3, .ref h14, .ref h15, .ref h16, .ref h17, .ref h18, .ref h19, .int f4])), (h3, .inl (zI g, 5, .inl R0)), (h5, .inl (zI g, 5, .inl Z3)), (h15, .inl (zI g, 5, .inl Z13)), (h4, .inl (zI g, 5, .inl R1))] := hD
  have hI3 : zHd0 R1 := ⟨i_fil (N := 5) hI2 (by decide) (by decide), hI2⟩
  refine lv_aload_n hx hb dX2_begin_22 rfl (lv_at hl 0 rfl) ?_
  refine va_get (D := g.1) (ci := 2) (v := .ref h5) (C := RX2) (T := TX2) (N := 12) hx hb hts zl_X2 hown hK hP 0 rfl rfl 3 (by decide) (hts _ m_f_RX2_21) (fun _ h => h) rfl dX2_begin_23 ?_
  refine lv_iconst (v := 0) hx hb dX2_begin_26 (by decide) ?_
  refine z_callv (wr := [(h0, .inr (2, [.ref h2, .ref h3, .ref h4, .ref h5, .ref h6, .ref h7, .int f0, .int f1, .ref h8, .ref h9, .ref h10, .ref h11])), (h1, .inr (0, [.ref h12, .int f2, .ref h13, .int f3, .ref h14, .ref h15, .ref h16, .ref h17, .ref h18, .ref h19, .int f4])), (h3, .inl (zI g, 5, .inl R0)), (h15, .inl (zI g, 5, .inl Z13)), (h4, .inl (zI g, 5, .inl R1))]) hP hD hS hA [3] [0, 1, 2, 4, 5] (by decide) rfl rfl (by decide) (va_runS (As := [.ref h5, .int 0]) (rest := []) ⟨hx, hb, hml, hown, hts⟩ (gJ7_fill_53178_n5 l g h5 H.size (0 : Int32) Z3) ⟨callB_of 2 hts (zGood m_o_yJ7_fill_53178) rfl rfl rfl (hts _ m_z_RJ7) (hts _ m_m_RX2_59) ⟨by decide +kernel, by decide +kernel, by decide +kernel⟩ ⟨Nat.le_of_ble_eq_true rfl, Nat.le_of_ble_eq_true rfl⟩, hts _ m_s_yJ7_fill_53178⟩ (zPreS hK hN hZ hP hD hS hA [3] (by decide) rfl rfl) rfl rfl hl.1 rfl (lv_room (Nat.le_of_ble_eq_true rfl)) dX2_begin_27 ⟨Nat.le_of_ble_eq_true rfl, Nat.le_of_ble_eq_true rfl⟩) (fun u H locs hw hP hD hS => ?_)
  obtain ⟨R4, rfl⟩ : ∃ z, z = u := ⟨_, rfl⟩
  obtain ⟨hw, hI5⟩ := hw
  have hP : va_P g.1 vwCl [(h0, .inr (2, [.ref h2, .ref h3, .ref h4, .ref h5, .ref h6, .ref h7, .int f0, .int f1, .ref h8, .ref h9, .ref h10, .ref h11])), (h1, .inr (0, [.ref h12, .int f2, .ref h13, .int f3, .ref h14, .ref h15, .ref h16, .ref h17, .ref h18, .ref h19, .int f4])), (h3, .inl (zI g, 5, .inl R0)), (h15, .inl (zI g, 5, .inl Z13)), (h4, .inl (zI g, 5, .inl R1)), (h5, .inl (zI g, 5, .inl R4))] H := hP
  have hD : va_D A [(h0, .inr (2, [.ref h2, .ref h3, .ref h4, .ref h5, .ref h6, .ref h7, .int f0, .int f1, .ref h8, .ref h9, .ref h10, .ref h11])), (h1, .inr (0, [.ref h12, .int f2, .ref h13, .int f3, .ref h14, .ref h15, .ref h16, .ref h17, .ref h18, .ref h19, .int f4])), (h3, .inl (zI g, 5, .inl R0)), (h15, .inl (zI g, 5, .inl Z13)), (h4, .inl (zI g, 5, .inl R1)), (h5, .inl (zI g, 5, .inl R4))] := hD
  have hI6 : zGa0 R4 := ⟨i_fil (N := 5) hI5 (by decide) (by decide), hI5⟩
  have hP9 := hP.sub (ws' := [(h0, .inr (2, [.ref h2, .ref h3, .ref h4, .ref h5, .ref h6, .ref h7, .int f0, .int f1, .ref h8, .ref h9, .ref h10, .ref h11])), (h1, .inr (0, [.ref h12, .int f2, .ref h13, .int f3, .ref h14, .ref h15, .ref h16, .ref h17, .ref h18, .ref h19, .int f4])), (h3, .inl (zI g, 5, .inl R0)), (h4, .inl (zI g, 5, .inl R1)), (h5, .inl (zI g, 5, .inl R4)), (h15, .inl (zI g, 5, .inl Z13))]) [0, 1, 2, 4, 5, 3] rfl
  have hD9 := hD.sub (ws' := [(h0, .inr (2, [.ref h2, .ref h3, .ref h4, .ref h5, .ref h6, .ref h7, .int f0, .int f1, .ref h8, .ref h9, .ref h10, .ref h11])), (h1, .inr (0, [.ref h12, .int f2, .ref h13, .int f3, .ref h14, .ref h15, .ref h16, .ref h17, .ref h18, .ref h19, .int f4])), (h3, .inl (zI g, 5, .inl R0)), (h4, .inl (zI g, 5, .inl R1)), (h5, .inl (zI g, 5, .inl R4)), (h15, .inl (zI g, 5, .inl Z13))]) [0, 1, 2, 4, 5, 3] (by decide) rfl
  exact W.vret hx hb hr (fun t ht hW => ⟨⟨⟨R0, R1, R4⟩, rfl, ⟨trivial, hI0, hI3, hI6, (by rw [eR0])⟩, by rw [ht]; exact hP9, hD9⟩, hS.F ht⟩) hS.2.2 dX2_begin_30
set_option maxHeartbeats 8000000 in
set_option maxRecDepth 100000 in
theorem gX0_isThere (l : Launch) (g : zG) (h0 h1 h2 h3 h4 h5 h6 h7 h8 : Nat) (sz : Nat) (p1 : Int32) (f0 : Int32) (f1 : Int32) (f2 : Int32) (hf_f0 : 0 ≤ f0.toInt ∧ f0.toInt ≤ 6) (hf_f1 : 0 ≤ f1.toInt ∧ f1.toInt ≤ 5) (hf_f2 : 0 ≤ f2.toInt ∧ f2.toInt ≤ 9999) : Met l yX0_isThere (.code yX0_isThere cX0_isThere 2 (some .boolean) :: zBig) ({ frames := 0, cells := 0, slots := 0, locals := 0 }) (va_Pc [.ref h0, .int p1] (zPre g [(h0, .inr (0, [.ref h1, .int f0, .ref h2, .int f1, .ref h3, .ref h4, .ref h5, .ref h6, .ref h7, .ref h8, .int f2]))] sz)) (va_Qi (fun (r : Int32) (u : Nat) => (p1.toInt < 0 ∧ r = 0) ∨ (0 ≤ p1.toInt ∧ 5 ≤ p1.toInt ∧ r = 0) ∨ (0 ≤ p1.toInt ∧ p1.toInt < 5 ∧ f1.toInt ≤ p1.toInt ∧ r = 0) ∨ (0 ≤ p1.toInt ∧ p1.toInt < 5 ∧ p1.toInt < f1.toInt ∧ r = 1)) (zPost g (fun u : Nat => [(h0, .inr (0, [.ref h1, .int f0, .ref h2, .int f1, .ref h3, .ref h4, .ref h5, .ref h6, .ref h7, .ref h8, .int f2]))]) (va_A [(h0, .inr (0, [.ref h1, .int f0, .ref h2, .int f1, .ref h3, .ref h4, .ref h5, .ref h6, .ref h7, .ref h8, .int f2]))] sz)) (va_A [(h0, .inr (0, [.ref h1, .int f0, .ref h2, .int f1, .ref h3, .ref h4, .ref h5, .ref h6, .ref h7, .ref h8, .int f2]))] sz)) 0 0 (va_A [(h0, .inr (0, [.ref h1, .int f0, .ref h2, .int f1, .ref h3, .ref h4, .ref h5, .ref h6, .ref h7, .ref h8, .int f2]))] sz) := by
  refine zMetI rfl (Nat.le_of_ble_eq_true rfl) ?_
  intro p e s m args below meth c A ls hx hb hml hr hlocks hin hown hts hK hN hZ hP hD hA hS hAe hl
  have hown : s.vm.findClass RX0 = some m.cls := hown
  have hl : lv_has ls 2 [(0, .ref h0), (1, .int p1)] := hl
  refine lv_iload_n hx hb dX0_isThere_0 rfl (lv_at hl 1 rfl) ?_
  refine lv_if_lt (tgt := 21) hx hb dX0_isThere_1 (by decide) (fun c_0 => ?_) (fun c_0 => ?_)
  · have i_0 : p1.toInt < 0 := z_lt (rfl) (rfl) c_0
    refine lv_iconst (v := 0) hx hb dX0_isThere_21 (by decide) ?_
    have hP9 := hP.sub (ws' := [(h0, .inr (0, [.ref h1, .int f0, .ref h2, .int f1, .ref h3, .ref h4, .ref h5, .ref h6, .ref h7, .ref h8, .int f2]))]) [0] rfl
    have hD9 := hD.sub (ws' := [(h0, .inr (0, [.ref h1, .int f0, .ref h2, .int f1, .ref h3, .ref h4, .ref h5, .ref h6, .ref h7, .ref h8, .int f2]))]) [0] (by decide) rfl
    exact W.zret (v := 0) hx hb hr (by decide) (fun t ht hW => ⟨⟨0, (0 : Nat), rfl, Or.inl ⟨i_0, rfl⟩, by rw [ht]; exact hP9, hD9⟩, hS.F ht⟩) hS.2.2 dX0_isThere_22
  · have i_0 : 0 ≤ p1.toInt := z_nlt (rfl) (rfl) c_0
    refine lv_iload_n hx hb dX0_isThere_4 rfl (lv_at hl 1 rfl) ?_
    refine lv_iconst (v := 5) hx hb dX0_isThere_5 (by decide) ?_
    refine lv_icmp_ge (tgt := 21) hx hb dX0_isThere_6 (by decide) (fun c_1 => ?_) (fun c_1 => ?_)
    · have i_1 : 5 ≤ p1.toInt := z_le (rfl) (rfl) c_1
      refine lv_iconst (v := 0) hx hb dX0_isThere_21 (by decide) ?_
      have hP9 := hP.sub (ws' := [(h0, .inr (0, [.ref h1, .int f0, .ref h2, .int f1, .ref h3, .ref h4, .ref h5, .ref h6, .ref h7, .ref h8, .int f2]))]) [0] rfl
      have hD9 := hD.sub (ws' := [(h0, .inr (0, [.ref h1, .int f0, .ref h2, .int f1, .ref h3, .ref h4, .ref h5, .ref h6, .ref h7, .ref h8, .int f2]))]) [0] (by decide) rfl
      exact W.zret (v := 0) hx hb hr (by decide) (fun t ht hW => ⟨⟨0, (0 : Nat), rfl, Or.inr (Or.inl ⟨i_0, i_1, rfl⟩), by rw [ht]; exact hP9, hD9⟩, hS.F ht⟩) hS.2.2 dX0_isThere_22
    · have i_1 : p1.toInt < 5 := z_nle (rfl) (rfl) c_1
      refine lv_iload_n hx hb dX0_isThere_9 rfl (lv_at hl 1 rfl) ?_
      refine lv_aload_n hx hb dX0_isThere_10 rfl (lv_at hl 0 rfl) ?_
      refine va_get (D := g.1) (ci := 0) (v := .int f1) (C := RX0) (T := TX0) (N := 11) hx hb hts zl_X0 hown hK hP 0 rfl rfl 3 (by decide) (hts _ m_f_RX0_30) (fun _ h => h) rfl dX0_isThere_11 ?_
      refine lv_icmp_ge (tgt := 21) hx hb dX0_isThere_14 (by decide) (fun c_2 => ?_) (fun c_2 => ?_)
      · have i_2 : f1.toInt ≤ p1.toInt := z_le (rfl) (rfl) c_2
        refine lv_iconst (v := 0) hx hb dX0_isThere_21 (by decide) ?_
        have hP9 := hP.sub (ws' := [(h0, .inr (0, [.ref h1, .int f0, .ref h2, .int f1, .ref h3, .ref h4, .ref h5, .ref h6, .ref h7, .ref h8, .int f2]))]) [0] rfl
        have hD9 := hD.sub (ws' := [(h0, .inr (0, [.ref h1, .int f0, .ref h2, .int f1, .ref h3, .ref h4, .ref h5, .ref h6, .ref h7, .ref h8, .int f2]))]) [0] (by decide) rfl
        exact W.zret (v := 0) hx hb hr (by decide) (fun t ht hW => ⟨⟨0, (0 : Nat), rfl, Or.inr (Or.inr (Or.inl ⟨i_0, i_1, i_2, rfl⟩)), by rw [ht]; exact hP9, hD9⟩, hS.F ht⟩) hS.2.2 dX0_isThere_22
      · have i_2 : p1.toInt < f1.toInt := z_nle (rfl) (rfl) c_2
        refine lv_iconst (v := 1) hx hb dX0_isThere_17 (by decide) ?_
        refine lv_goto (tgt := 22) hx hb dX0_isThere_18 (by decide) ?_
        have hP9 := hP.sub (ws' := [(h0, .inr (0, [.ref h1, .int f0, .ref h2, .int f1, .ref h3, .ref h4, .ref h5, .ref h6, .ref h7, .ref h8, .int f2]))]) [0] rfl
        have hD9 := hD.sub (ws' := [(h0, .inr (0, [.ref h1, .int f0, .ref h2, .int f1, .ref h3, .ref h4, .ref h5, .ref h6, .ref h7, .ref h8, .int f2]))]) [0] (by decide) rfl
        exact W.zret (v := 1) hx hb hr (by decide) (fun t ht hW => ⟨⟨1, (0 : Nat), rfl, Or.inr (Or.inr (Or.inr (⟨i_0, i_1, i_2, rfl⟩))), by rw [ht]; exact hP9, hD9⟩, hS.F ht⟩) hS.2.2 dX0_isThere_22
set_option maxHeartbeats 8000000 in
set_option maxRecDepth 100000 in
theorem gX4_isKind (l : Launch) (g : zG) (sz : Nat) (p0 : Int32) : Met l yX4_isKind (.code yX4_isKind cX4_isKind 1 (some .boolean) :: zBig) ({ frames := 0, cells := 0, slots := 0, locals := 0 }) (va_Pc [.int p0] (zPre g [] sz)) (va_Qi (fun (r : Int32) (u : Nat) => (p0.toInt < 0 ∧ r = 0) ∨ (0 ≤ p0.toInt ∧ 4 ≤ p0.toInt ∧ r = 0) ∨ (0 ≤ p0.toInt ∧ p0.toInt < 4 ∧ r = 1)) (zPost g (fun u : Nat => []) (va_A [] sz)) (va_A [] sz)) 0 0 (va_A [] sz) := by
  refine zMetI rfl (Nat.le_of_ble_eq_true rfl) ?_
  intro p e s m args below meth c A ls hx hb hml hr hlocks hin hown hts hK hN hZ hP hD hA hS hAe hl
  have hown : s.vm.findClass RX4 = some m.cls := hown
  have hl : lv_has ls 1 [(0, .int p0)] := hl
  refine lv_iload_n hx hb dX4_isKind_0 rfl (lv_at hl 0 rfl) ?_
  refine lv_if_lt (tgt := 13) hx hb dX4_isKind_1 (by decide) (fun c_0 => ?_) (fun c_0 => ?_)
  · have i_0 : p0.toInt < 0 := z_lt (rfl) (rfl) c_0
    refine lv_iconst (v := 0) hx hb dX4_isKind_13 (by decide) ?_
    have hP9 := hP.sub (ws' := []) [] rfl
    have hD9 := hD.sub (ws' := []) [] (by decide) rfl
    exact W.zret (v := 0) hx hb hr (by decide) (fun t ht hW => ⟨⟨0, (0 : Nat), rfl, Or.inl ⟨i_0, rfl⟩, by rw [ht]; exact hP9, hD9⟩, hS.F ht⟩) hS.2.2 dX4_isKind_14
  · have i_0 : 0 ≤ p0.toInt := z_nlt (rfl) (rfl) c_0
    refine lv_iload_n hx hb dX4_isKind_4 rfl (lv_at hl 0 rfl) ?_
    refine lv_iconst (v := 4) hx hb dX4_isKind_5 (by decide) ?_
    refine lv_icmp_ge (tgt := 13) hx hb dX4_isKind_6 (by decide) (fun c_1 => ?_) (fun c_1 => ?_)
    · have i_1 : 4 ≤ p0.toInt := z_le (rfl) (rfl) c_1
      refine lv_iconst (v := 0) hx hb dX4_isKind_13 (by decide) ?_
      have hP9 := hP.sub (ws' := []) [] rfl
      have hD9 := hD.sub (ws' := []) [] (by decide) rfl
      exact W.zret (v := 0) hx hb hr (by decide) (fun t ht hW => ⟨⟨0, (0 : Nat), rfl, Or.inr (Or.inl ⟨i_0, i_1, rfl⟩), by rw [ht]; exact hP9, hD9⟩, hS.F ht⟩) hS.2.2 dX4_isKind_14
    · have i_1 : p0.toInt < 4 := z_nle (rfl) (rfl) c_1
      refine lv_iconst (v := 1) hx hb dX4_isKind_9 (by decide) ?_
      refine lv_goto (tgt := 14) hx hb dX4_isKind_10 (by decide) ?_
      have hP9 := hP.sub (ws' := []) [] rfl
      have hD9 := hD.sub (ws' := []) [] (by decide) rfl
      exact W.zret (v := 1) hx hb hr (by decide) (fun t ht hW => ⟨⟨1, (0 : Nat), rfl, Or.inr (Or.inr (⟨i_0, i_1, rfl⟩)), by rw [ht]; exact hP9, hD9⟩, hS.F ht⟩) hS.2.2 dX4_isKind_14
set_option maxHeartbeats 8000000 in
set_option maxRecDepth 100000 in
theorem gX0_worthOf (l : Launch) (g : zG) (h0 h1 h2 h3 h4 h5 h6 h7 h8 : Nat) (sz : Nat) (p1 : Int32) (p2 : Int32) (f0 : Int32) (f1 : Int32) (f2 : Int32) (Z5 : Nat → Int32) (hf_f0 : 0 ≤ f0.toInt ∧ f0.toInt ≤ 6) (hf_f1 : 0 ≤ f1.toInt ∧ f1.toInt ≤ 5) (hf_f2 : 0 ≤ f2.toInt ∧ f2.toInt ≤ 9999) (hF_Z5 : iWo Z5) : Met l yX0_worthOf (.code yX0_worthOf cX0_worthOf 3 (some .int) :: zBig) ({ frames := 1, cells := 0, slots := 0, locals := 21 }) (va_Pc [.ref h0, .int p1, .int p2] (zPre g [(h0, .inr (0, [.ref h1, .int f0, .ref h2, .int f1, .ref h3, .ref h4, .ref h5, .ref h6, .ref h7, .ref h8, .int f2])), (h6, .inl (zI g, 20, .inl Z5))] sz)) (va_Qi (fun (r : Int32) (u : Nat) => r.toInt = zWq f1.toInt Z5 p1.toInt p2.toInt ∧ 0 ≤ r.toInt ∧ r.toInt ≤ 99) (zPost g (fun u : Nat => [(h0, .inr (0, [.ref h1, .int f0, .ref h2, .int f1, .ref h3, .ref h4, .ref h5, .ref h6, .ref h7, .ref h8, .int f2])), (h6, .inl (zI g, 20, .inl Z5))]) (va_A [(h0, .inr (0, [.ref h1, .int f0, .ref h2, .int f1, .ref h3, .ref h4, .ref h5, .ref h6, .ref h7, .ref h8, .int f2])), (h6, .inl (zI g, 20, .inl Z5))] sz)) (va_A [(h0, .inr (0, [.ref h1, .int f0, .ref h2, .int f1, .ref h3, .ref h4, .ref h5, .ref h6, .ref h7, .ref h8, .int f2])), (h6, .inl (zI g, 20, .inl Z5))] sz)) 0 0 (va_A [(h0, .inr (0, [.ref h1, .int f0, .ref h2, .int f1, .ref h3, .ref h4, .ref h5, .ref h6, .ref h7, .ref h8, .int f2])), (h6, .inl (zI g, 20, .inl Z5))] sz) := by
  refine zMetI rfl (Nat.le_of_ble_eq_true rfl) ?_
  intro p e s m args below meth c A ls hx hb hml hr hlocks hin hown hts hK hN hZ hP hD hA hS hAe hl
  have hown : s.vm.findClass RX0 = some m.cls := hown
  have hl : lv_has ls 3 [(0, .ref h0), (1, .int p1), (2, .int p2)] := hl
  refine lv_aload_n hx hb dX0_worthOf_0 rfl (lv_at hl 0 rfl) ?_
  refine lv_iload_n hx hb dX0_worthOf_1 rfl (lv_at hl 1 rfl) ?_
  refine z_calli (wr := [(h6, .inl (zI g, 20, .inl Z5))]) hP hD hS hA [0] [1] (by decide) rfl rfl (by decide) (va_runV (As := [.int p1]) (rest := []) ⟨hx, hb, hml, hown, hts⟩ (gX0_isThere l g h0 h1 h2 h3 h4 h5 h6 h7 h8 s.heap.size p1 f0 f1 f2 (by constructor <;> omega) (by constructor <;> omega) (by constructor <;> omega)) ⟨callB_of 1 hts (zGood m_o_yX0_isThere) rfl rfl rfl (hts _ m_z_RX0) (hts _ m_m_RX0_66) ⟨by decide +kernel, by decide +kernel, by decide +kernel⟩ ⟨Nat.le_of_ble_eq_true rfl, Nat.le_of_ble_eq_true rfl⟩, hts _ m_i_yX0_isThere, hts _ m_e_yX0_isThere⟩ (zPreV hK hN hZ hP hD hS hA [0] (by decide) rfl rfl 0 0 rfl rfl) rfl rfl hl.1 rfl (lv_room (Nat.le_of_ble_eq_true rfl)) dX0_worthOf_2 ⟨Nat.le_of_ble_eq_true rfl, Nat.le_of_ble_eq_true rfl⟩) (fun r u H locs hw hP hD hS => ?_)
  rcases hw with ⟨i_0, rfl⟩ | ⟨i_1, i_2, rfl⟩ | ⟨i_3, i_4, i_5, rfl⟩ | ⟨i_6, i_7, i_8, rfl⟩
  · skip
    have i_0 : p1.toInt < 0 := i_0
    have hP : va_P g.1 vwCl [(h6, .inl (zI g, 20, .inl Z5)), (h0, .inr (0, [.ref h1, .int f0, .ref h2, .int f1, .ref h3, .ref h4, .ref h5, .ref h6, .ref h7, .ref h8, .int f2]))] H := hP
    have hD : va_D A [(h6, .inl (zI g, 20, .inl Z5)), (h0, .inr (0, [.ref h1, .int f0, .ref h2, .int f1, .ref h3, .ref h4, .ref h5, .ref h6, .ref h7, .ref h8, .int f2]))] := hD
    refine lv_if_eq (tgt := 15) hx hb dX0_worthOf_5 (by decide) (fun _ => ?_) (fun h => absurd h (by decide +kernel))
    refine lv_iconst (v := 0) hx hb dX0_worthOf_15 (by decide) ?_
    have hz : zWq f1.toInt Z5 p1.toInt p2.toInt = 0 := zWq_out (by omega)
    have : (0 : Int32).toInt = 0 := rfl
    have hP9 := hP.sub (ws' := [(h0, .inr (0, [.ref h1, .int f0, .ref h2, .int f1, .ref h3, .ref h4, .ref h5, .ref h6, .ref h7, .ref h8, .int f2])), (h6, .inl (zI g, 20, .inl Z5))]) [1, 0] rfl
    have hD9 := hD.sub (ws' := [(h0, .inr (0, [.ref h1, .int f0, .ref h2, .int f1, .ref h3, .ref h4, .ref h5, .ref h6, .ref h7, .ref h8, .int f2])), (h6, .inl (zI g, 20, .inl Z5))]) [1, 0] (by decide) rfl
    exact W.iret (v := 0) hx hb hr (fun t ht hW => ⟨⟨0, (0 : Nat), rfl, ⟨(by first | omega | decide), (by first | omega | decide), (by first | omega | decide)⟩, by rw [ht]; exact hP9, hD9⟩, hS.F ht⟩) hS.2.2 dX0_worthOf_16
  · skip
    have i_1 : 0 ≤ p1.toInt := i_1
    have i_2 : 5 ≤ p1.toInt := i_2
    have hP : va_P g.1 vwCl [(h6, .inl (zI g, 20, .inl Z5)), (h0, .inr (0, [.ref h1, .int f0, .ref h2, .int f1, .ref h3, .ref h4, .ref h5, .ref h6, .ref h7, .ref h8, .int f2]))] H := hP
    have hD : va_D A [(h6, .inl (zI g, 20, .inl Z5)), (h0, .inr (0, [.ref h1, .int f0, .ref h2, .int f1, .ref h3, .ref h4, .ref h5, .ref h6, .ref h7, .ref h8, .int f2]))] := hD
    refine lv_if_eq (tgt := 15) hx hb dX0_worthOf_5 (by decide) (fun _ => ?_) (fun h => absurd h (by decide +kernel))
    refine lv_iconst (v := 0) hx hb dX0_worthOf_15 (by decide) ?_
    have hz : zWq f1.toInt Z5 p1.toInt p2.toInt = 0 := zWq_out (by omega)
    have : (0 : Int32).toInt = 0 := rfl
    have hP9 := hP.sub (ws' := [(h0, .inr (0, [.ref h1, .int f0, .ref h2, .int f1, .ref h3, .ref h4, .ref h5, .ref h6, .ref h7, .ref h8, .int f2])), (h6, .inl (zI g, 20, .inl Z5))]) [1, 0] rfl
    have hD9 := hD.sub (ws' := [(h0, .inr (0, [.ref h1, .int f0, .ref h2, .int f1, .ref h3, .ref h4, .ref h5, .ref h6, .ref h7, .ref h8, .int f2])), (h6, .inl (zI g, 20, .inl Z5))]) [1, 0] (by decide) rfl
    exact W.iret (v := 0) hx hb hr (fun t ht hW => ⟨⟨0, (0 : Nat), rfl, ⟨(by first | omega | decide), (by first | omega | decide), (by first | omega | decide)⟩, by rw [ht]; exact hP9, hD9⟩, hS.F ht⟩) hS.2.2 dX0_worthOf_16
  · skip
    have i_3 : 0 ≤ p1.toInt := i_3
    have i_4 : p1.toInt < 5 := i_4
    have i_5 : f1.toInt ≤ p1.toInt := i_5
    have hP : va_P g.1 vwCl [(h6, .inl (zI g, 20, .inl Z5)), (h0, .inr (0, [.ref h1, .int f0, .ref h2, .int f1, .ref h3, .ref h4, .ref h5, .ref h6, .ref h7, .ref h8, .int f2]))] H := hP
    have hD : va_D A [(h6, .inl (zI g, 20, .inl Z5)), (h0, .inr (0, [.ref h1, .int f0, .ref h2, .int f1, .ref h3, .ref h4, .ref h5, .ref h6, .ref h7, .ref h8, .int f2]))] := hD
    refine lv_if_eq (tgt := 15) hx hb dX0_worthOf_5 (by decide) (fun _ => ?_) (fun h => absurd h (by decide +kernel))
    refine lv_iconst (v := 0) hx hb dX0_worthOf_15 (by decide) ?_
    have hz : zWq f1.toInt Z5 p1.toInt p2.toInt = 0 := zWq_out (by omega)
    have : (0 : Int32).toInt = 0 := rfl
    have hP9 := hP.sub (ws' := [(h0, .inr (0, [.ref h1, .int f0, .ref h2, .int f1, .ref h3, .ref h4, .ref h5, .ref h6, .ref h7, .ref h8, .int f2])), (h6, .inl (zI g, 20, .inl Z5))]) [1, 0] rfl
    have hD9 := hD.sub (ws' := [(h0, .inr (0, [.ref h1, .int f0, .ref h2, .int f1, .ref h3, .ref h4, .ref h5, .ref h6, .ref h7, .ref h8, .int f2])), (h6, .inl (zI g, 20, .inl Z5))]) [1, 0] (by decide) rfl
    exact W.iret (v := 0) hx hb hr (fun t ht hW => ⟨⟨0, (0 : Nat), rfl, ⟨(by first | omega | decide), (by first | omega | decide), (by first | omega | decide)⟩, by rw [ht]; exact hP9, hD9⟩, hS.F ht⟩) hS.2.2 dX0_worthOf_16
  · skip
    have i_6 : 0 ≤ p1.toInt := i_6
    have i_7 : p1.toInt < 5 := i_7
    have i_8 : p1.toInt < f1.toInt := i_8
    have hP : va_P g.1 vwCl [(h6, .inl (zI g, 20, .inl Z5)), (h0, .inr (0, [.ref h1, .int f0, .ref h2, .int f1, .ref h3, .ref h4, .ref h5, .ref h6, .ref h7, .ref h8, .int f2]))] H := hP
    have hD : va_D A [(h6, .inl (zI g, 20, .inl Z5)), (h0, .inr (0, [.ref h1, .int f0, .ref h2, .int f1, .ref h3, .ref h4, .ref h5, .ref h6, .ref h7, .ref h8, .int f2]))] := hD
    refine lv_if_eq (tgt := 15) hx hb dX0_worthOf_5 (by decide) (fun h => absurd h (by decide +kernel)) (fun _ => ?_)
    refine lv_iload_n hx hb dX0_worthOf_8 rfl (lv_at hl 2 rfl) ?_
    refine z_calli (wr := [(h6, .inl (zI g, 20, .inl Z5)), (h0, .inr (0, [.ref h1, .int f0, .ref h2, .int f1, .ref h3, .ref h4, .ref h5, .ref h6, .ref h7, .ref h8, .int f2]))]) hP hD hS hA [] [0, 1] (by decide) rfl rfl (by decide) (va_runSN (As := [.int p2]) (rest := []) ⟨hx, hb, hml, hown, hts⟩ (gX4_isKind l g  H.size p2) ⟨va_cnB 1 hts (zGood m_o_yX4_isKind) rfl rfl rfl (hN.m 6 (q := (RX0, 70, yX4_isKind)) rfl) (hts _ m_z_RX4) ⟨by decide +kernel, by decide +kernel, by decide +kernel⟩ ⟨Nat.le_of_ble_eq_true rfl, Nat.le_of_ble_eq_true rfl⟩, hts _ m_s_yX4_isKind, trivial⟩ (zPreS hK hN hZ hP hD hS hA [] (by decide) rfl rfl) rfl rfl hl.1 rfl (lv_room (Nat.le_of_ble_eq_true rfl)) dX0_worthOf_9 ⟨Nat.le_of_ble_eq_true rfl, Nat.le_of_ble_eq_true rfl⟩) (fun r u H locs hw hP hD hS => ?_)
    rcases hw with ⟨i_9, rfl⟩ | ⟨i_10, i_11, rfl⟩ | ⟨i_12, i_13, rfl⟩
    · skip
      have i_9 : p2.toInt < 0 := i_9
      have hP : va_P g.1 vwCl [(h6, .inl (zI g, 20, .inl Z5)), (h0, .inr (0, [.ref h1, .int f0, .ref h2, .int f1, .ref h3, .ref h4, .ref h5, .ref h6, .ref h7, .ref h8, .int f2]))] H := hP
      have hD : va_D A [(h6, .inl (zI g, 20, .inl Z5)), (h0, .inr (0, [.ref h1, .int f0, .ref h2, .int f1, .ref h3, .ref h4, .ref h5, .ref h6, .ref h7, .ref h8, .int f2]))] := hD
      refine lv_if_ne (tgt := 17) hx hb dX0_worthOf_12 (by decide) (fun h => absurd h (by decide +kernel)) (fun _ => ?_)
      refine lv_iconst (v := 0) hx hb dX0_worthOf_15 (by decide) ?_
      have hz : zWq f1.toInt Z5 p1.toInt p2.toInt = 0 := zWq_out (by omega)
      have : (0 : Int32).toInt = 0 := rfl
      have hP9 := hP.sub (ws' := [(h0, .inr (0, [.ref h1, .int f0, .ref h2, .int f1, .ref h3, .ref h4, .ref h5, .ref h6, .ref h7, .ref h8, .int f2])), (h6, .inl (zI g, 20, .inl Z5))]) [1, 0] rfl
      have hD9 := hD.sub (ws' := [(h0, .inr (0, [.ref h1, .int f0, .ref h2, .int f1, .ref h3, .ref h4, .ref h5, .ref h6, .ref h7, .ref h8, .int f2])), (h6, .inl (zI g, 20, .inl Z5))]) [1, 0] (by decide) rfl
      exact W.iret (v := 0) hx hb hr (fun t ht hW => ⟨⟨0, (0 : Nat), rfl, ⟨(by first | omega | decide), (by first | omega | decide), (by first | omega | decide)⟩, by rw [ht]; exact hP9, hD9⟩, hS.F ht⟩) hS.2.2 dX0_worthOf_16
    · skip
      have i_10 : 0 ≤ p2.toInt := i_10
      have i_11 : 4 ≤ p2.toInt := i_11
      have hP : va_P g.1 vwCl [(h6, .inl (zI g, 20, .inl Z5)), (h0, .inr (0, [.ref h1, .int f0, .ref h2, .int f1, .ref h3, .ref h4, .ref h5, .ref h6, .ref h7, .ref h8, .int f2]))] H := hP
      have hD : va_D A [(h6, .inl (zI g, 20, .inl Z5)), (h0, .inr (0, [.ref h1, .int f0, .ref h2, .int f1, .ref h3, .ref h4, .ref h5, .ref h6, .ref h7, .ref h8, .int f2]))] := hD
      refine lv_if_ne (tgt := 17) hx hb dX0_worthOf_12 (by decide) (fun h => absurd h (by decide +kernel)) (fun _ => ?_)
      refine lv_iconst (v := 0) hx hb dX0_worthOf_15 (by decide) ?_
      have hz : zWq f1.toInt Z5 p1.toInt p2.toInt = 0 := zWq_out (by omega)
      have : (0 : Int32).toInt = 0 := rfl
      have hP9 := hP.sub (ws' := [(h0, .inr (0, [.ref h1, .int f0, .ref h2, .int f1, .ref h3, .ref h4, .ref h5, .ref h6, .ref h7, .ref h8, .int f2])), (h6, .inl (zI g, 20, .inl Z5))]) [1, 0] rfl
      have hD9 := hD.sub (ws' := [(h0, .inr (0, [.ref h1, .int f0, .ref h2, .int f1, .ref h3, .ref h4, .ref h5, .ref h6, .ref h7, .ref h8, .int f2])), (h6, .inl (zI g, 20, .inl Z5))]) [1, 0] (by decide) rfl
      exact W.iret (v := 0) hx hb hr (fun t ht hW => ⟨⟨0, (0 : Nat), rfl, ⟨(by first | omega | decide), (by first | omega | decide), (by first | omega | decide)⟩, by rw [ht]; exact hP9, hD9⟩, hS.F ht⟩) hS.2.2 dX0_worthOf_16
    · skip
      have i_12 : 0 ≤ p2.toInt := i_12
      have i_13 : p2.toInt < 4 := i_13
      have hP : va_P g.1 vwCl [(h6, .inl (zI g, 20, .inl Z5)), (h0, .inr (0, [.ref h1, .int f0, .ref h2, .int f1, .ref h3, .ref h4, .ref h5, .ref h6, .ref h7, .ref h8, .int f2]))] H := hP
      have hD : va_D A [(h6, .inl (zI g, 20, .inl Z5)), (h0, .inr (0, [.ref h1, .int f0, .ref h2, .int f1, .ref h3, .ref h4, .ref h5, .ref h6, .ref h7, .ref h8, .int f2]))] := hD
      refine lv_if_ne (tgt := 17) hx hb dX0_worthOf_12 (by decide) (fun _ => ?_) (fun h => absurd h (by decide +kernel))
      refine lv_aload_n hx hb dX0_worthOf_17 rfl (lv_at hl 0 rfl) ?_
      refine va_get (D := g.1) (ci := 0) (v := .ref h6) (C := RX0) (T := TX0) (N := 11) hx hb hts zl_X0 hown hK hP 1 rfl rfl 7 (by decide) (hts _ m_f_RX0_42) (fun _ h => h) rfl dX0_worthOf_18 ?_
      refine lv_iload_n hx hb dX0_worthOf_21 rfl (lv_at hl 1 rfl) ?_
      refine lv_iconst (v := 4) hx hb dX0_worthOf_22 (by decide) ?_
      refine lv_imul hx hb dX0_worthOf_23 ?_
      refine lv_topi (fun y0 ey0 => ?_)
      have qy0_0 : y0.toInt = p1.toInt * 4 := zi_mul ey0 (rfl) (rfl) (by omega) (by omega)
      refine lv_iload_n hx hb dX0_worthOf_24 rfl (lv_at hl 2 rfl) ?_
      refine lv_iadd hx hb dX0_worthOf_25 ?_
      refine lv_topi (fun y1 ey1 => ?_)
      have qy1_0 : y1.toInt = y0.toInt + p2.toInt := zi_add ey1 (rfl) (rfl) (by omega) (by omega)
      refine va_iald (D := g.1) hx hb hK hP 0 0 rfl rfl (vp_in_iff.mpr ⟨by omega, by omega⟩) dX0_worthOf_26 ?_
      refine lv_topi (fun y2 ey2 => ?_)
      have qy2_0 : 0 ≤ y2.toInt := (i_at (N := 20) (lo := 0) (hi := 99) (i := y1) (a := y1.toInt) hF_Z5 (rfl) (by omega) (by omega) ey2).1
      have qy2_1 : y2.toInt ≤ 99 := (i_at (N := 20) (lo := 0) (hi := 99) (i := y1) (a := y1.toInt) hF_Z5 (rfl) (by omega) (by omega) ey2).2
      have qy2_2 : y2.toInt = (Z5 y1.toNatClampNeg).toInt := congrArg Int32.toInt ey2
      have hz : zWq f1.toInt Z5 p1.toInt p2.toInt = y2.toInt := (zWq_in (by omega) (by omega) (by omega) (by omega) (by omega)).trans (by rw [← z_tn (i := y1) (a := 4 * p1.toInt + p2.toInt) (by omega) (by omega)]; omega)
      have hP9 := hP.sub (ws' := [(h0, .inr (0, [.ref h1, .int f0, .ref h2, .int f1, .ref h3, .ref h4, .ref h5, .ref h6, .ref h7, .ref h8, .int f2])), (h6, .inl (zI g, 20, .inl Z5))]) [1, 0] rfl
      have hD9 := hD.sub (ws' := [(h0, .inr (0, [.ref h1, .int f0, .ref h2, .int f1, .ref h3, .ref h4, .ref h5, .ref h6, .ref h7, .ref h8, .int f2])), (h6, .inl (zI g, 20, .inl Z5))]) [1, 0] (by decide) rfl
      exact W.iret (v := y2) hx hb hr (fun t ht hW => ⟨⟨y2, (0 : Nat), rfl, ⟨(by first | omega | decide), (by first | omega | decide), (by first | omega | decide)⟩, by rw [ht]; exact hP9, hD9⟩, hS.F ht⟩) hS.2.2 dX0_worthOf_27
set_option maxHeartbeats 8000000 in
set_option maxRecDepth 100000 in
theorem gX2_charge (l : Launch) (g : zG) (h0 h1 h2 h3 h4 h5 h6 h7 h8 h9 h10 h11 h12 h13 h14 h15 h16 h17 h18 h19 : Nat) (sz : Nat) (p2 : Int32) (f0 : Int32) (f1 : Int32) (f2 : Int32) (f3 : Int32) (f4 : Int32) (Z0 : Nat → Int32) (Z12 : Nat → Int32) (hp0 : 0 ≤ p2.toInt) (hp1 : p2.toInt ≤ 4) (hf_f2 : 0 ≤ f2.toInt ∧ f2.toInt ≤ 6) (hf_f3 : 0 ≤ f3.toInt ∧ f3.toInt ≤ 5) (hf_f4 : 0 ≤ f4.toInt ∧ f4.toInt ≤ 9999) (hF_Z0 : iMa Z0) (hF_Z12 : iSo Z12) : Met l yX2_charge (.code yX2_charge cX2_charge 3 (some .int) :: zBig) ({ frames := 0, cells := 0, slots := 0, locals := 0 }) (va_Pc [.ref h0, .ref h1, .int p2] (zPre g [(h0, .inr (2, [.ref h2, .ref h3, .ref h4, .ref h5, .ref h6, .ref h7, .int f0, .int f1, .ref h8, .ref h9, .ref h10, .ref h11])), (h1, .inr (0, [.ref h12, .int f2, .ref h13, .int f3, .ref h14, .ref h15, .ref h16, .ref h17, .ref h18, .ref h19, .int f4])), (h2, .inl (zI g, 5, .inl Z0)), (h14, .inl (zI g, 5, .inl Z12))] sz)) (va_Qi (fun (r : Int32) (u : Nat) => r.toInt = zCh Z12 (zIv Z0) p2.toNatClampNeg ∧ 0 ≤ r.toInt ∧ r.toInt ≤ 40) (zPost g (fun u : Nat => [(h0, .inr (2, [.ref h2, .ref h3, .ref h4, .ref h5, .ref h6, .ref h7, .int f0, .int f1, .ref h8, .ref h9, .ref h10, .ref h11])), (h1, .inr (0, [.ref h12, .int f2, .ref h13, .int f3, .ref h14, .ref h15, .ref h16, .ref h17, .ref h18, .ref h19, .int f4])), (h2, .inl (zI g, 5, .inl Z0)), (h14, .inl (zI g, 5, .inl Z12))]) (va_A [(h0, .inr (2, [.ref h2, .ref h3, .ref h4, .ref h5, .ref h6, .ref h7, .int f0, .int f1, .ref h8, .ref h9, .ref h10, .ref h11])), (h1, .inr (0, [.ref h12, .int f2, .ref h13, .int f3, .ref h14, .ref h15, .ref h16, .ref h17, .ref h18, .ref h19, .int f4])), (h2, .inl (zI g, 5, .inl Z0)), (h14, .inl (zI g, 5, .inl Z12))] sz)) (va_A [(h0, .inr (2, [.ref h2, .ref h3, .ref h4, .ref h5, .ref h6, .ref h7, .int f0, .int f1, .ref h8, .ref h9, .ref h10, .ref h11])), (h1, .inr (0, [.ref h12, .int f2, .ref h13, .int f3, .ref h14, .ref h15, .ref h16, .ref h17, .ref h18, .ref h19, .int f4])), (h2, .inl (zI g, 5, .inl Z0)), (h14, .inl (zI g, 5, .inl Z12))] sz)) 0 0 (va_A [(h0, .inr (2, [.ref h2, .ref h3, .ref h4, .ref h5, .ref h6, .ref h7, .int f0, .int f1, .ref h8, .ref h9, .ref h10, .ref h11])), (h1, .inr (0, [.ref h12, .int f2, .ref h13, .int f3, .ref h14, .ref h15, .ref h16, .ref h17, .ref h18, .ref h19, .int f4])), (h2, .inl (zI g, 5, .inl Z0)), (h14, .inl (zI g, 5, .inl Z12))] sz) := by
  refine zMetI rfl (Nat.le_of_ble_eq_true rfl) ?_
  intro p e s m args below meth c A ls hx hb hml hr hlocks hin hown hts hK hN hZ hP hD hA hS hAe hl
  have hown : s.vm.findClass RX2 = some m.cls := hown
  have hl : lv_has ls 3 [(0, .ref h0), (1, .ref h1), (2, .int p2)] := hl
  refine lv_aload_n hx hb dX2_charge_0 rfl (lv_at hl 1 rfl) ?_
  refine va_getN (D := g.1) (ci := 0) (v := .ref h14) (C := RX0) (T := TX0) (N := 11) hx hb hts zl_X0 hown hK hP 1 rfl rfl 4 (by decide) (hN.f 10 (q := (RX2, 134, "FishSteps$Books", "sort", "[I")) rfl) (fun _ h => h) rfl dX2_charge_1 ?_
  refine lv_iload_n hx hb dX2_charge_4 rfl (lv_at hl 2 rfl) ?_
  refine va_iald (D := g.1) hx hb hK hP 3 0 rfl rfl (vp_in_iff.mpr ⟨by omega, by omega⟩) dX2_charge_5 ?_
  refine lv_topi (fun y0 ey0 => ?_)
  have qy0_0 : 0 ≤ y0.toInt := (i_at (N := 5) (lo := 0) (hi := 4) (i := p2) (a := p2.toInt) hF_Z12 (rfl) (by omega) (by omega) ey0).1
  have qy0_1 : y0.toInt ≤ 4 := (i_at (N := 5) (lo := 0) (hi := 4) (i := p2) (a := p2.toInt) hF_Z12 (rfl) (by omega) (by omega) ey0).2
  have qy0_2 : y0.toInt = (Z12 p2.toNatClampNeg).toInt := congrArg Int32.toInt ey0
  refine lv_iconst (v := 3) hx hb dX2_charge_6 (by decide) ?_
  refine lv_icmp_ne (tgt := 21) hx hb dX2_charge_7 (by decide) (fun c_0 => ?_) (fun c_0 => ?_)
  · have i_0 : y0.toInt ≠ 3 := z_ne (rfl) (rfl) c_0
    refine lv_aload_n hx hb dX2_charge_21 rfl (lv_at hl 0 rfl) ?_
    refine va_get (D := g.1) (ci := 2) (v := .ref h2) (C := RX2) (T := TX2) (N := 12) hx hb hts zl_X2 hown hK hP 0 rfl rfl 0 (by decide) (hts _ m_f_RX2_9) (fun _ h => h) rfl dX2_charge_22 ?_
    refine lv_iload_n hx hb dX2_charge_25 rfl (lv_at hl 2 rfl) ?_
    refine va_iald (D := g.1) hx hb hK hP 2 0 rfl rfl (vp_in_iff.mpr ⟨by omega, by omega⟩) dX2_charge_26 ?_
    refine lv_topi (fun y1 ey1 => ?_)
    have qy1_0 : 0 ≤ y1.toInt := (i_at (N := 5) (lo := 0) (hi := 40) (i := p2) (a := p2.toInt) hF_Z0 (rfl) (by omega) (by omega) ey1).1
    have qy1_1 : y1.toInt ≤ 40 := (i_at (N := 5) (lo := 0) (hi := 40) (i := p2) (a := p2.toInt) hF_Z0 (rfl) (by omega) (by omega) ey1).2
    have qy1_2 : y1.toInt = (Z0 p2.toNatClampNeg).toInt := congrArg Int32.toInt ey1
    have hz : zCh Z12 (zIv Z0) p2.toNatClampNeg = y1.toInt := by
      unfold zCh
      rw [if_neg (by omega)]
      show (Z0 p2.toNatClampNeg).toInt = y1.toInt
      omega
    have hP9 := hP.sub (ws' := [(h0, .inr (2, [.ref h2, .ref h3, .ref h4, .ref h5, .ref h6, .ref h7, .int f0, .int f1, .ref h8, .ref h9, .ref h10, .ref h11])), (h1, .inr (0, [.ref h12, .int f2, .ref h13, .int f3, .ref h14, .ref h15, .ref h16, .ref h17, .ref h18, .ref h19, .int f4])), (h2, .inl (zI g, 5, .inl Z0)), (h14, .inl (zI g, 5, .inl Z12))]) [0, 1, 2, 3] rfl
    have hD9 := hD.sub (ws' := [(h0, .inr (2, [.ref h2, .ref h3, .ref h4, .ref h5, .ref h6, .ref h7, .int f0, .int f1, .ref h8, .ref h9, .ref h10, .ref h11])), (h1, .inr (0, [.ref h12, .int f2, .ref h13, .int f3, .ref h14, .ref h15, .ref h16, .ref h17, .ref h18, .ref h19, .int f4])), (h2, .inl (zI g, 5, .inl Z0)), (h14, .inl (zI g, 5, .inl Z12))]) [0, 1, 2, 3] (by decide) rfl
    exact W.iret (v := y1) hx hb hr (fun t ht hW => ⟨⟨y1, (0 : Nat), rfl, ⟨(by first | omega | decide), (by first | omega | decide), (by first | omega | decide)⟩, by rw [ht]; exact hP9, hD9⟩, hS.F ht⟩) hS.2.2 dX2_charge_27
  · have i_0 : y0.toInt = 3 := z_eq (rfl) (rfl) c_0
    refine lv_aload_n hx hb dX2_charge_10 rfl (lv_at hl 0 rfl) ?_
    refine va_get (D := g.1) (ci := 2) (v := .ref h2) (C := RX2) (T := TX2) (N := 12) hx hb hts zl_X2 hown hK hP 0 rfl rfl 0 (by decide) (hts _ m_f_RX2_9) (fun _ h => h) rfl dX2_charge_11 ?_
    refine lv_iload_n hx hb dX2_charge_14 rfl (lv_at hl 2 rfl) ?_
    refine va_iald (D := g.1) hx hb hK hP 2 0 rfl rfl (vp_in_iff.mpr ⟨by omega, by omega⟩) dX2_charge_15 ?_
    refine lv_topi (fun y2 ey2 => ?_)
    have qy2_0 : 0 ≤ y2.toInt := (i_at (N := 5) (lo := 0) (hi := 40) (i := p2) (a := p2.toInt) hF_Z0 (rfl) (by omega) (by omega) ey2).1
    have qy2_1 : y2.toInt ≤ 40 := (i_at (N := 5) (lo := 0) (hi := 40) (i := p2) (a := p2.toInt) hF_Z0 (rfl) (by omega) (by omega) ey2).2
    have qy2_2 : y2.toInt = (Z0 p2.toNatClampNeg).toInt := congrArg Int32.toInt ey2
    refine lv_iconst (v := 2) hx hb dX2_charge_16 (by decide) ?_
    refine lv_idiv hx hb dX2_charge_17 (by decide) ?_
    have : (2 : Int32).toInt = 2 := rfl
    refine lv_topi (fun y3 ey3 => ?_)
    have qy3_0 : 0 ≤ y3.toInt := (zi_div0 ey3 (rfl) (rfl) (by omega) (by omega)).1
    have qy3_1 : y3.toInt ≤ y2.toInt := (zi_div0 ey3 (rfl) (rfl) (by omega) (by omega)).2
    have py3_0 : y3.toInt = y2.toInt / 2 := zi_div ey3 (rfl) (rfl) (by omega) (by omega)
    refine lv_goto (tgt := 27) hx hb dX2_charge_18 (by decide) ?_
    have hz : zCh Z12 (zIv Z0) p2.toNatClampNeg = y3.toInt := by
      unfold zCh
      rw [if_pos (by omega)]
      show (Z0 p2.toNatClampNeg).toInt / 2 = y3.toInt
      omega
    have hP9 := hP.sub (ws' := [(h0, .inr (2, [.ref h2, .ref h3, .ref h4, .ref h5, .ref h6, .ref h7, .int f0, .int f1, .ref h8, .ref h9, .ref h10, .ref h11])), (h1, .inr (0, [.ref h12, .int f2, .ref h13, .int f3, .ref h14, .ref h15, .ref h16, .ref h17, .ref h18, .ref h19, .int f4])), (h2, .inl (zI g, 5, .inl Z0)), (h14, .inl (zI g, 5, .inl Z12))]) [0, 1, 2, 3] rfl
    have hD9 := hD.sub (ws' := [(h0, .inr (2, [.ref h2, .ref h3, .ref h4, .ref h5, .ref h6, .ref h7, .int f0, .int f1, .ref h8, .ref h9, .ref h10, .ref h11])), (h1, .inr (0, [.ref h12, .int f2, .ref h13, .int f3, .ref h14, .ref h15, .ref h16, .ref h17, .ref h18, .ref h19, .int f4])), (h2, .inl (zI g, 5, .inl Z0)), (h14, .inl (zI g, 5, .inl Z12))]) [0, 1, 2, 3] (by decide) rfl
    exact W.iret (v := y3) hx hb hr (fun t ht hW => ⟨⟨y3, (0 : Nat), rfl, ⟨(by first | omega | decide), (by first | omega | decide), (by first | omega | decide)⟩, by rw [ht]; exact hP9, hD9⟩, hS.F ht⟩) hS.2.2 dX2_charge_27
set_option maxHeartbeats 8000000 in
set_option maxRecDepth 100000 in
theorem gX2_ready (l : Launch) (g : zG) (h0 h1 h2 h3 h4 h5 h6 h7 h8 h9 h10 h11 h12 h13 h14 h15 h16 h17 h18 h19 : Nat) (sz : Nat) (p2 : Int32) (f0 : Int32) (f1 : Int32) (f2 : Int32) (f3 : Int32) (f4 : Int32) (Z0 : Nat → Int32) (Z1 : Nat → Int32) (Z2 : Nat → Int32) (Z4 : Nat → Int32) (Z5 : Nat → Int32) (Z10 : Nat → Int32) (Z12 : Nat → Int32) (Z15 : Nat → Int32) (hf_f2 : 0 ≤ f2.toInt ∧ f2.toInt ≤ 6) (hf_f3 : 0 ≤ f3.toInt ∧ f3.toInt ≤ 5) (hf_f4 : 0 ≤ f4.toInt ∧ f4.toInt ≤ 9999) (hF_Z0 : iMa Z0) (hF_Z1 : iPu Z1) (hF_Z2 : iHd Z2) (hF_Z4 : iLm Z4) (hF_Z5 : iMo Z5) (hF_Z10 : iLaw Z10) (hF_Z12 : iSo Z12) (hF_Z15 : iWo Z15) : Met l yX2_ready (.code yX2_ready cX2_ready 5 none :: zBig) ({ frames := 2, cells := 0, slots := 0, locals := 43 }) (va_Pc [.ref h0, .ref h1, .int p2] (zPre g [(h0, .inr (2, [.ref h2, .ref h3, .ref h4, .ref h5, .ref h6, .ref h7, .int f0, .int f1, .ref h8, .ref h9, .ref h10, .ref h11])), (h1, .inr (0, [.ref h12, .int f2, .ref h13, .int f3, .ref h14, .ref h15, .ref h16, .ref h17, .ref h18, .ref h19, .int f4])), (h2, .inl (zI g, 5, .inl Z0)), (h3, .inl (zI g, 5, .inl Z1)), (h4, .inl (zI g, 5, .inl Z2)), (h6, .inl (zI g, 5, .inl Z4)), (h7, .inl (zI g, 5, .inl Z5)), (h12, .inl (zI g, 5, .inl Z10)), (h14, .inl (zI g, 5, .inl Z12)), (h17, .inl (zI g, 20, .inl Z15))] sz)) (va_Qv (fun u : Int32 × Int32 × (Nat → Int32) × (Nat → Int32) => (u.1.toInt = zS5 (zRm f3.toInt Z12 (zRw f3.toInt Z2))) ∧ zLmQ (zLim f3.toInt Z12 Z15 (zRw f3.toInt Z0) p2.toInt) f3.toInt u.2.2.1 ∧ zMoQ (zMon Z10 f3.toInt Z12 (zRw f3.toInt Z1)) f3.toInt u.2.2.2) (zPost g (fun u : Int32 × Int32 × (Nat → Int32) × (Nat → Int32) => [(h0, .inr (2, [.ref h2, .ref h3, .ref h4, .ref h5, .ref h6, .ref h7, .int u.1, .int u.2.1, .ref h8, .ref h9, .ref h10, .ref h11])), (h1, .inr (0, [.ref h12, .int f2, .ref h13, .int f3, .ref h14, .ref h15, .ref h16, .ref h17, .ref h18, .ref h19, .int f4])), (h2, .inl (zI g, 5, .inl Z0)), (h3, .inl (zI g, 5, .inl Z1)), (h4, .inl (zI g, 5, .inl Z2)), (h6, .inl (zI g, 5, .inl u.2.2.1)), (h7, .inl (zI g, 5, .inl u.2.2.2)), (h12, .inl (zI g, 5, .inl Z10)), (h14, .inl (zI g, 5, .inl Z12)), (h17, .inl (zI g, 20, .inl Z15))]) (va_A [(h0, .inr (2, [.ref h2, .ref h3, .ref h4, .ref h5, .ref h6, .ref h7, .int f0, .int f1, .ref h8, .ref h9, .ref h10, .ref h11])), (h1, .inr (0, [.ref h12, .int f2, .ref h13, .int f3, .ref h14, .ref h15, .ref h16, .ref h17, .ref h18, .ref h19, .int f4])), (h2, .inl (zI g, 5, .inl Z0)), (h3, .inl (zI g, 5, .inl Z1)), (h4, .inl (zI g, 5, .inl Z2)), (h6, .inl (zI g, 5, .inl Z4)), (h7, .inl (zI g, 5, .inl Z5)), (h12, .inl (zI g, 5, .inl Z10)), (h14, .inl (zI g, 5, .inl Z12)), (h17, .inl (zI g, 20, .inl Z15))] sz)) (va_A [(h0, .inr (2, [.ref h2, .ref h3, .ref h4, .ref h5, .ref h6, .ref h7, .int f0, .int f1, .ref h8, .ref h9, .ref h10, .ref h11])), (h1, .inr (0, [.ref h12, .int f2, .ref h13, .int f3, .ref h14, .ref h15, .ref h16, .ref h17, .ref h18, .ref h19, .int f4])), (h2, .inl (zI g, 5, .inl Z0)), (h3, .inl (zI g, 5, .inl Z1)), (h4, .inl (zI g, 5, .inl Z2)), (h6, .inl (zI g, 5, .inl Z4)), (h7, .inl (zI g, 5, .inl Z5)), (h12, .inl (zI g, 5, .inl Z10)), (h14, .inl (zI g, 5, .inl Z12)), (h17, .inl (zI g, 20, .inl Z15))] sz)) 0 0 (va_A [(h0, .inr (2, [.ref h2, .ref h3, .ref h4, .ref h5, .ref h6, .ref h7, .int f0, .int f1, .ref h8, .ref h9, .ref h10, .ref h11])), (h1, .inr (0, [.ref h12, .int f2, .ref h13, .int f3, .ref h14, .ref h15, .ref h16, .ref h17, .ref h18, .ref h19, .int f4])), (h2, .inl (zI g, 5, .inl Z0)), (h3, .inl (zI g, 5, .inl Z1)), (h4, .inl (zI g, 5, .inl Z2)), (h6, .inl (zI g, 5, .inl Z4)), (h7, .inl (zI g, 5, .inl Z5)), (h12, .inl (zI g, 5, .inl Z10)), (h14, .inl (zI g, 5, .inl Z12)), (h17, .inl (zI g, 20, .inl Z15))] sz) := by
  refine zMetV rfl (Nat.le_of_ble_eq_true rfl) ?_
  intro p e s m args below meth c A ls hx hb hml hr hlocks hin hown hts hK hN hZ hP hD hA hS hAe hl
  have hown : s.vm.findClass RX2 = some m.cls := hown
  have hl : lv_has ls 5 [(0, .ref h0), (1, .ref h1), (2, .int p2)] := hl
  refine lv_aload_n hx hb dX2_ready_0 rfl (lv_at hl 0 rfl) ?_
  refine lv_iconst (v := 0) hx hb dX2_ready_1 (by decide) ?_
  refine va_put (D := g.1) (ci := 2) (v := .int 0) (ty := .int) (C := RX2) (T := TX2) (N := 12) hx hb hts zl_X2 tyX2 tyX2_ok nmX2 hown hK hP hD hS 0 rfl rfl 6 (by decide) (hts _ m_f_RX2_30) (fun _ h => h) rfl (by decide +kernel) rfl rfl (Nat.le_of_ble_eq_true rfl) dX2_ready_2 (fun H locs hP hD hS => ?_)
  have hP : va_P g.1 vwCl [(h0, .inr (2, [.ref h2, .ref h3, .ref h4, .ref h5, .ref h6, .ref h7, .int 0, .int f1, .ref h8, .ref h9, .ref h10, .ref h11])), (h1, .inr (0, [.ref h12, .int f2, .ref h13, .int f3, .ref h14, .ref h15, .ref h16, .ref h17, .ref h18, .ref h19, .int f4])), (h2, .inl (zI g, 5, .inl Z0)), (h3, .inl (zI g, 5, .inl Z1)), (h4, .inl (zI g, 5, .inl Z2)), (h6, .inl (zI g, 5, .inl Z4)), (h7, .inl (zI g, 5, .inl Z5)), (h12, .inl (zI g, 5, .inl Z10)), (h14, .inl (zI g, 5, .inl Z12)), (h17, .inl (zI g, 20, .inl Z15))] H := hP
  have hD : va_D A [(h0, .inr (2, [.ref h2, .ref h3, .ref h4, .ref h5, .ref h6, .ref h7, .int 0, .int f1, .ref h8, .ref h9, .ref h10, .ref h11])), (h1, .inr (0, [.ref h12, .int f2, .ref h13, .int f3, .ref h14, .ref h15, .ref h16, .ref h17, .ref h18, .ref h19, .int f4])), (h2, .inl (zI g, 5, .inl Z0)), (h3, .inl (zI g, 5, .inl Z1)), (h4, .inl (zI g, 5, .inl Z2)), (h6, .inl (zI g, 5, .inl Z4)), (h7, .inl (zI g, 5, .inl Z5)), (h12, .inl (zI g, 5, .inl Z10)), (h14, .inl (zI g, 5, .inl Z12)), (h17, .inl (zI g, 20, .inl Z15))] := hD
  refine lv_aload_n hx hb dX2_ready_5 rfl (lv_at hl 0 rfl) ?_
  refine lv_iconst (v := 0) hx hb dX2_ready_6 (by decide) ?_
  refine va_put (D := g.1) (ci := 2) (v := .int 0) (ty := .int) (C := RX2) (T := TX2) (N := 12) hx hb hts zl_X2 tyX2 tyX2_ok nmX2 hown hK hP hD hS 0 rfl rfl 7 (by decide) (hts _ m_f_RX2_34) (fun _ h => h) rfl (by decide +kernel) rfl rfl (Nat.le_of_ble_eq_true rfl) dX2_ready_7 (fun H locs hP hD hS => ?_)
  have hP : va_P g.1 vwCl [(h0, .inr (2, [.ref h2, .ref h3, .ref h4, .ref h5, .ref h6, .ref h7, .int 0, .int 0, .ref h8, .ref h9, .ref h10, .ref h11])), (h1, .inr (0, [.ref h12, .int f2, .ref h13, .int f3, .ref h14, .ref h15, .ref h16, .ref h17, .ref h18, .ref h19, .int f4])), (h2, .inl (zI g, 5, .inl Z0)), (h3, .inl (zI g, 5, .inl Z1)), (h4, .inl (zI g, 5, .inl Z2)), (h6, .inl (zI g, 5, .inl Z4)), (h7, .inl (zI g, 5, .inl Z5)), (h12, .inl (zI g, 5, .inl Z10)), (h14, .inl (zI g, 5, .inl Z12)), (h17, .inl (zI g, 20, .inl Z15))] H := hP
  have hD : va_D A [(h0, .inr (2, [.ref h2, .ref h3, .ref h4, .ref h5, .ref h6, .ref h7, .int 0, .int 0, .ref h8, .ref h9, .ref h10, .ref h11])), (h1, .inr (0, [.ref h12, .int f2, .ref h13, .int f3, .ref h14, .ref h15, .ref h16, .ref h17, .ref h18, .ref h19, .int f4])), (h2, .inl (zI g, 5, .inl Z0)), (h3, .inl (zI g, 5, .inl Z1)), (h4, .inl (zI g, 5, .inl Z2)), (h6, .inl (zI g, 5, .inl Z4)), (h7, .inl (zI g, 5, .inl Z5)), (h12, .inl (zI g, 5, .inl Z10)), (h14, .inl (zI g, 5, .inl Z12)), (h17, .inl (zI g, 20, .inl Z15))] := hD
  have hsk0 : zSk (zRm f3.toInt Z12 (zRw f3.toInt Z2)) (0 : Int32).toInt = 0 := zSk_0
  have hI0 : zLmP (zLim f3.toInt Z12 Z15 (zRw f3.toInt Z0) p2.toInt) 0 Z4 := ⟨hF_Z4, zTo_0⟩
  have hI1 : zMoP (zMon Z10 f3.toInt Z12 (zRw f3.toInt Z1)) 0 Z5 := ⟨hF_Z5, zTo_0⟩
  refine lv_iconst (v := 0) hx hb dX2_ready_10 (by decide) ?_
  refine lv_istore_n (lv' := [(3, .int 0), (0, .ref h0), (1, .ref h1), (2, .int p2)]) hx hb dX2_ready_11 rfl hl (by decide) rfl (fun ls hl => ?_)
  have loop12_0 : ∀ (n1 : Nat) (v3_0 : Int32) (g0_0 : Int32) (G1_0 : Nat → Int32) (G2_0 : Nat → Int32) (hG1_0 : zLmP (zLim f3.toInt Z12 Z15 (zRw f3.toInt Z0) p2.toInt) (v3_0.toInt) G1_0) (hG2_0 : zMoP (zMon Z10 f3.toInt Z12 (zRw f3.toInt Z1)) (v3_0.toInt) G2_0) (n1_0 : 0 ≤ v3_0.toInt) (n1_1 : v3_0.toInt ≤ 5) (n1_2 : v3_0.toInt ≤ f3.toInt) (n1_3 : 0 ≤ g0_0.toInt) (n1_4 : g0_0.toInt ≤ 31) (n1_5 : g0_0.toInt = zSk (zRm f3.toInt Z12 (zRw f3.toInt Z2)) v3_0.toInt) (hm1 : 5 - v3_0.toInt < (n1 : Int)) (H : Heap) (locs : List Loc), va_P g.1 vwCl [(h0, .inr (2, [.ref h2, .ref h3, .ref h4, .ref h5, .ref h6, .ref h7, .int g0_0, .int 0, .ref h8, .ref h9, .ref h10, .ref h11])), (h1, .inr (0, [.ref h12, .int f2, .ref h13, .int f3, .ref h14, .ref h15, .ref h16, .ref h17, .ref h18, .ref h19, .int f4])), (h2, .inl (zI g, 5, .inl Z0)), (h3, .inl (zI g, 5, .inl Z1)), (h4, .inl (zI g, 5, .inl Z2)), (h6, .inl (zI g, 5, .inl G1_0)), (h7, .inl (zI g, 5, .inl G2_0)), (h12, .inl (zI g, 5, .inl Z10)), (h14, .inl (zI g, 5, .inl Z12)), (h17, .inl (zI g, 20, .inl Z15))] H → va_D A [(h0, .inr (2, [.ref h2, .ref h3, .ref h4, .ref h5, .ref h6, .ref h7, .int g0_0, .int 0, .ref h8, .ref h9, .ref h10, .ref h11])), (h1, .inr (0, [.ref h12, .int f2, .ref h13, .int f3, .ref h14, .ref h15, .ref h16, .ref h17, .ref h18, .ref h19, .int f4])), (h2, .inl (zI g, 5, .inl Z0)), (h3, .inl (zI g, 5, .inl Z1)), (h4, .inl (zI g, 5, .inl Z2)), (h6, .inl (zI g, 5, .inl G1_0)), (h7, .inl (zI g, 5, .inl G2_0)), (h12, .inl (zI g, 5, .inl Z10)), (h14, .inl (zI g, 5, .inl Z12)), (h17, .inl (zI g, 20, .inl Z15))] → va_S A s.heap H locs → ∀ (ls : Array Slot), lv_has ls 5 [(0, .ref h0), (1, .ref h1), (2, .int p2), (3, .int v3_0)] → W p l e ({ frames := 2, cells := 0, slots := 0, locals := 43 }) s m args below meth c H locs 0 0 (MQ below (va_Qv (fun u : Int32 × Int32 × (Nat → Int32) × (Nat → Int32) => (u.1.toInt = zS5 (zRm f3.toInt Z12 (zRw f3.toInt Z2))) ∧ zLmQ (zLim f3.toInt Z12 Z15 (zRw f3.toInt Z0) p2.toInt) f3.toInt u.2.2.1 ∧ zMoQ (zMon Z10 f3.toInt Z12 (zRw f3.toInt Z1)) f3.toInt u.2.2.2) (zPost g (fun u : Int32 × Int32 × (Nat → Int32) × (Nat → Int32) => [(h0, .inr (2, [.ref h2, .ref h3, .ref h4, .ref h5, .ref h6, .ref h7, .int u.1, .int u.2.1, .ref h8, .ref h9, .ref h10, .ref h11])), (h1, .inr (0, [.ref h12, .int f2, .ref h13, .int f3, .ref h14, .ref h15, .ref h16, .ref h17, .ref h18, .ref h19, .int f4])), (h2, .inl (zI g, 5, .inl Z0)), (h3, .inl (zI g, 5, .inl Z1)), (h4, .inl (zI g, 5, .inl Z2)), (h6, .inl (zI g, 5, .inl u.2.2.1)), (h7, .inl (zI g, 5, .inl u.2.2.2)), (h12, .inl (zI g, 5, .inl Z10)), (h14, .inl (zI g, 5, .inl Z12)), (h17, .inl (zI g, 20, .inl Z15))]) A) A) args s 0 0 A) (F0 m 12 ls []) := by
    intro n1
    induction n1 with
    | zero => intro v3_0 g0_0 G1_0 G2_0 hG1_0 hG2_0 n1_0 n1_1 n1_2 n1_3 n1_4 n1_5 hm1; exfalso; omega
    | succ n1 ih1 =>
      intro v3_0 g0_0 G1_0 G2_0 hG1_0 hG2_0 n1_0 n1_1 n1_2 n1_3 n1_4 n1_5 hm1 H locs hP hD hS ls hl
      refine lv_iload_n hx hb dX2_ready_12 rfl (lv_at hl 3 rfl) ?_
      refine lv_iconst (v := 5) hx hb dX2_ready_13 (by decide) ?_
      refine lv_icmp_ge (tgt := 119) hx hb dX2_ready_14 (by decide) (fun c_1 => ?_) (fun c_1 => ?_)
      · have i_1 : 5 ≤ v3_0.toInt := z_le (rfl) (rfl) c_1
        have hk9 : v3_0.toInt = f3.toInt := by omega
        have hs9 : zSk (zRm f3.toInt Z12 (zRw f3.toInt Z2)) v3_0.toInt = zS5 (zRm f3.toInt Z12 (zRw f3.toInt Z2)) := zSk_rm (by omega) (by omega)
        have hI2 : zLmQ (zLim f3.toInt Z12 Z15 (zRw f3.toInt Z0) p2.toInt) f3.toInt G1_0 := ⟨hG1_0.1, zTo_rw (zTo_eq hG1_0.2 hk9) (fun j h => zLim_out h)⟩
        have hI3 : zMoQ (zMon Z10 f3.toInt Z12 (zRw f3.toInt Z1)) f3.toInt G2_0 := ⟨hG2_0.1, zTo_rw (zTo_eq hG2_0.2 hk9) (fun j h => zMon_out h)⟩
        have hP9 := hP.sub (ws' := [(h0, .inr (2, [.ref h2, .ref h3, .ref h4, .ref h5, .ref h6, .ref h7, .int g0_0, .int 0, .ref h8, .ref h9, .ref h10, .ref h11])), (h1, .inr (0, [.ref h12, .int f2, .ref h13, .int f3, .ref h14, .ref h15, .ref h16, .ref h17, .ref h18, .ref h19, .int f4])), (h2, .inl (zI g, 5, .inl Z0)), (h3, .inl (zI g, 5, .inl Z1)), (h4, .inl (zI g, 5, .inl Z2)), (h6, .inl (zI g, 5, .inl G1_0)), (h7, .inl (zI g, 5, .inl G2_0)), (h12, .inl (zI g, 5, .inl Z10)), (h14, .inl (zI g, 5, .inl Z12)), (h17, .inl (zI g, 20, .inl Z15))]) [0, 1, 2, 3, 4, 5, 6, 7, 8, 9] rfl
        have hD9 := hD.sub (ws' := [(h0, .inr (2, [.ref h2, .ref h3, .ref h4, .ref h5, .ref h6, .ref h7, .int g0_0, .int 0, .ref h8, .ref h9, .ref h10, .ref h11])), (h1, .inr (0, [.ref h12, .int f2, .ref h13, .int f3, .ref h14, .ref h15, .ref h16, .ref h17, .ref h18, .ref h19, .int f4])), (h2, .inl (zI g, 5, .inl Z0)), (h3, .inl (zI g, 5, .inl Z1)), (h4, .inl (zI g, 5, .inl Z2)), (h6, .inl (zI g, 5, .inl G1_0)), (h7, .inl (zI g, 5, .inl G2_0)), (h12, .inl (zI g, 5, .inl Z10)), (h14, .inl (zI g, 5, .inl Z12)), (h17, .inl (zI g, 20, .inl Z15))]) [0, 1, 2, 3, 4, 5, 6, 7, 8, 9] (by decide) rfl
        exact W.vret hx hb hr (fun t ht hW => ⟨⟨⟨g0_0, 0, G1_0, G2_0⟩, rfl, ⟨(show g0_0.toInt = zS5 (zRm f3.toInt Z12 (zRw f3.toInt Z2)) from by first | omega | decide), hI2, hI3⟩, by rw [ht]; exact hP9, hD9⟩, hS.F ht⟩) hS.2.2 dX2_ready_119
      · have i_1 : v3_0.toInt < 5 := z_nle (rfl) (rfl) c_1
        refine lv_iload_n hx hb dX2_ready_17 rfl (lv_at hl 3 rfl) ?_
        refine lv_aload_n hx hb dX2_ready_18 rfl (lv_at hl 1 rfl) ?_
        refine va_getN (D := g.1) (ci := 0) (v := .int f3) (C := RX0) (T := TX0) (N := 11) hx hb hts zl_X0 hown hK hP 1 rfl rfl 3 (by decide) (hN.f 8 (q := (RX2, 140, "FishSteps$Books", "buyers", "I")) rfl) (fun _ h => h) rfl dX2_ready_19 ?_
        refine lv_icmp_ge (tgt := 119) hx hb dX2_ready_22 (by decide) (fun c_2 => ?_) (fun c_2 => ?_)
        · have i_2 : f3.toInt ≤ v3_0.toInt := z_le (rfl) (rfl) c_2
          have hk9 : v3_0.toInt = f3.toInt := by omega
          have hs9 : zSk (zRm f3.toInt Z12 (zRw f3.toInt Z2)) v3_0.toInt = zS5 (zRm f3.toInt Z12 (zRw f3.toInt Z2)) := zSk_rm (by omega) (by omega)
          have hI4 : zLmQ (zLim f3.toInt Z12 Z15 (zRw f3.toInt Z0) p2.toInt) f3.toInt G1_0 := ⟨hG1_0.1, zTo_rw (zTo_eq hG1_0.2 hk9) (fun j h => zLim_out h)⟩
          have hI5 : zMoQ (zMon Z10 f3.toInt Z12 (zRw f3.toInt Z1)) f3.toInt G2_0 := ⟨hG2_0.1, zTo_rw (zTo_eq hG2_0.2 hk9) (fun j h => zMon_out h)⟩
          have hP9 := hP.sub (ws' := [(h0, .inr (2, [.ref h2, .ref h3, .ref h4, .ref h5, .ref h6, .ref h7, .int g0_0, .int 0, .ref h8, .ref h9, .ref h10, .ref h11])), (h1, .inr (0, [.ref h12, .int f2, .ref h13, .int f3, .ref h14, .ref h15, .ref h16, .ref h17, .ref h18, .ref h19, .int f4])), (h2, .inl (zI g, 5, .inl Z0)), (h3, .inl (zI g, 5, .inl Z1)), (h4, .inl (zI g, 5, .inl Z2)), (h6, .inl (zI g, 5, .inl G1_0)), (h7, .inl (zI g, 5, .inl G2_0)), (h12, .inl (zI g, 5, .inl Z10)), (h14, .inl (zI g, 5, .inl Z12)), (h17, .inl (zI g, 20, .inl Z15))]) [0, 1, 2, 3, 4, 5, 6, 7, 8, 9] rfl
          have hD9 := hD.sub (ws' := [(h0, .inr (2, [.ref h2, .ref h3, .ref h4, .ref h5, .ref h6, .ref h7, .int g0_0, .int 0, .ref h8, .ref h9, .ref h10, .ref h11])), (h1, .inr (0, [.ref h12, .int f2, .ref h13, .int f3, .ref h14, .ref h15, .ref h16, .ref h17, .ref h18, .ref h19, .int f4])), (h2, .inl (zI g, 5, .inl Z0)), (h3, .inl (zI g, 5, .inl Z1)), (h4, .inl (zI g, 5, .inl Z2)), (h6, .inl (zI g, 5, .inl G1_0)), (h7, .inl (zI g, 5, .inl G2_0)), (h12, .inl (zI g, 5, .inl Z10)), (h14, .inl (zI g, 5, .inl Z12)), (h17, .inl (zI g, 20, .inl Z15))]) [0, 1, 2, 3, 4, 5, 6, 7, 8, 9] (by decide) rfl
          exact W.vret hx hb hr (fun t ht hW => ⟨⟨⟨g0_0, 0, G1_0, G2_0⟩, rfl, ⟨(show g0_0.toInt = zS5 (zRm f3.toInt Z12 (zRw f3.toInt Z2)) from by first | omega | decide), hI4, hI5⟩, by rw [ht]; exact hP9, hD9⟩, hS.F ht⟩) hS.2.2 dX2_ready_119
        · have i_2 : v3_0.toInt < f3.toInt := z_nle (rfl) (rfl) c_2
          refine lv_aload_n hx hb dX2_ready_25 rfl (lv_at hl 1 rfl) ?_
          refine va_getN (D := g.1) (ci := 0) (v := .ref h14) (C := RX0) (T := TX0) (N := 11) hx hb hts zl_X0 hown hK hP 1 rfl rfl 4 (by decide) (hN.f 10 (q := (RX2, 134, "FishSteps$Books", "sort", "[I")) rfl) (fun _ h => h) rfl dX2_ready_26 ?_
          refine lv_iload_n hx hb dX2_ready_29 rfl (lv_at hl 3 rfl) ?_
          refine va_iald (D := g.1) hx hb hK hP 8 0 rfl rfl (vp_in_iff.mpr ⟨by omega, by omega⟩) dX2_ready_30 ?_
          refine lv_topi (fun y6 ey6 => ?_)
          have qy6_0 : 0 ≤ y6.toInt := (i_at (N := 5) (lo := 0) (hi := 4) (i := v3_0) (a := v3_0.toInt) hF_Z12 (rfl) (by omega) (by omega) ey6).1
          have qy6_1 : y6.toInt ≤ 4 := (i_at (N := 5) (lo := 0) (hi := 4) (i := v3_0) (a := v3_0.toInt) hF_Z12 (rfl) (by omega) (by omega) ey6).2
          have qy6_2 : y6.toInt = (Z12 v3_0.toNatClampNeg).toInt := congrArg Int32.toInt ey6
          refine lv_istore (lv' := [(4, .int y6), (0, .ref h0), (1, .ref h1), (2, .int p2), (3, .int v3_0)]) hx hb dX2_ready_31 hl (by decide) rfl (fun ls hl => ?_)
          refine lv_aload_n hx hb dX2_ready_33 rfl (lv_at hl 1 rfl) ?_
          refine va_get (D := g.1) (ci := 2) (v := .ref h4) (C := RX2) (T := TX2) (N := 12) hx hb hts zl_X2 hown hK hP 0 rfl rfl 2 (by decide) (hts _ m_f_RX2_18) (fun _ h => h) rfl dX2_ready_34 ?_
          refine lv_iload_n hx hb dX2_ready_37 rfl (lv_at hl 4 rfl) ?_
          refine va_iald (D := g.1) hx hb hK hP 4 0 rfl rfl (vp_in_iff.mpr ⟨by omega, by omega⟩) dX2_ready_38 ?_
          refine lv_topi (fun y7 ey7 => ?_)
          have qy7_0 : 0 ≤ y7.toInt := (i_at (N := 5) (lo := 0) (hi := 10) (i := v3_0) (a := v3_0.toInt) hF_Z2 (rfl) (by omega) (by omega) ey7).1
          have qy7_1 : y7.toInt ≤ 10 := (i_at (N := 5) (lo := 0) (hi := 10) (i := v3_0) (a := v3_0.toInt) hF_Z2 (rfl) (by omega) (by omega) ey7).2
          have qy7_2 : y7.toInt = (Z2 v3_0.toNatClampNeg).toInt := congrArg Int32.toInt ey7
          refine lv_iload hx hb dX2_ready_39 (lv_at hl 0 rfl) ?_
          refine lv_iconst (v := 2) hx hb dX2_ready_41 (by decide) ?_
          refine lv_icmp_ne (tgt := 49) hx hb dX2_ready_42 (by decide) (fun c_3 => ?_) (fun c_3 => ?_)
          · have i_3 : y6.toInt ≠ 2 := z_ne (rfl) (rfl) c_3
            refine lv_iconst (v := 1) hx hb dX2_ready_49 (by decide) ?_
            refine lv_icmp_ge (tgt := 65) hx hb dX2_ready_50 (by decide) (fun c_4 => ?_) (fun c_4 => ?_)
            · have i_4 : 1 ≤ y7.toInt := z_le (rfl) (rfl) c_4
              have hcap : zCap Z12 v3_0.toNatClampNeg = 1 := zCap_1 (by omega)
              have hrm : (zRm f3.toInt Z12 (zRw f3.toInt Z2)) v3_0.toNatClampNeg = 0 := zRm_i0 (i := v3_0) (by omega) (by omega) hcap (by omega)
              have hsk : zSk (zRm f3.toInt Z12 (zRw f3.toInt Z2)) (v3_0.toInt + 1) = zSk (zRm f3.toInt Z12 (zRw f3.toInt Z2)) v3_0.toInt := zSk_n (by omega) (by omega) hrm
              refine lv_aload_n hx hb dX2_ready_65 rfl (lv_at hl 1 rfl) ?_
              refine va_get (D := g.1) (ci := 2) (v := .ref h6) (C := RX2) (T := TX2) (N := 12) hx hb hts zl_X2 hown hK hP 0 rfl rfl 4 (by decide) (hts _ m_f_RX2_24) (fun _ h => h) rfl dX2_ready_66 ?_
              refine lv_iload_n hx hb dX2_ready_69 rfl (lv_at hl 4 rfl) ?_
              refine lv_aload_n hx hb dX2_ready_70 rfl (lv_at hl 2 rfl) ?_
              refine lv_iload_n hx hb dX2_ready_71 rfl (lv_at hl 4 rfl) ?_
              refine lv_iload_n hx hb dX2_ready_72 rfl (lv_at hl 3 rfl) ?_
              refine z_calli (wr := [(h0, .inr (2, [.ref h2, .ref h3, .ref h4, .ref h5, .ref h6, .ref h7, .int g0_0, .int 0, .ref h8, .ref h9, .ref h10, .ref h11])), (h2, .inl (zI g, 5, .inl Z0)), (h3, .inl (zI g, 5, .inl Z1)), (h4, .inl (zI g, 5, .inl Z2)), (h6, .inl (zI g, 5, .inl G1_0)), (h7, .inl (zI g, 5, .inl G2_0)), (h12, .inl (zI g, 5, .inl Z10)), (h14, .inl (zI g, 5, .inl Z12))]) hP hD hS hA [1, 9] [0, 2, 3, 4, 5, 6, 7, 8] (by decide) rfl rfl (by decide) (va_runVN (As := [.int v3_0, .int p2]) (rest := [.int v3_0, .ref h6]) ⟨hx, hb, hml, hown, hts⟩ (gX0_worthOf l g h1 h12 h13 h14 h15 h16 h17 h18 h19 H.size v3_0 p2 f2 f3 f4 Z15 (by constructor <;> omega) (by constructor <;> omega) (by constructor <;> omega) hF_Z15) ⟨va_cnB 2 hts (zGood m_o_yX0_worthOf) rfl rfl rfl (hN.m 15 (q := (RX2, 137, yX0_worthOf)) rfl) (hts _ m_z_RX0) ⟨by decide +kernel, by decide +kernel, by decide +kernel⟩ ⟨Nat.le_of_ble_eq_true rfl, Nat.le_of_ble_eq_true rfl⟩, hts _ m_i_yX0_worthOf, hts _ m_e_yX0_worthOf⟩ (zPreV hK hN hZ hP hD hS hA [1, 9] (by decide) rfl rfl 0 1 rfl rfl) rfl rfl hl.1 rfl (lv_room (Nat.le_of_ble_eq_true rfl)) dX2_ready_73 ⟨Nat.le_of_ble_eq_true rfl, Nat.le_of_ble_eq_true rfl⟩) (fun r u H locs hw hP hD hS => ?_)
              obtain ⟨y8, rfl⟩ : ∃ z, z = r := ⟨_, rfl⟩
              obtain ⟨q9_0, q9_1, q9_2⟩ := hw
              have q9_0 : y8.toInt = zWq f3.toInt Z15 v3_0.toInt p2.toInt := q9_0
              have q9_1 : 0 ≤ y8.toInt := q9_1
              have q9_2 : y8.toInt ≤ 99 := q9_2
              have hP : va_P g.1 vwCl [(h0, .inr (2, [.ref h2, .ref h3, .ref h4, .ref h5, .ref h6, .ref h7, .int g0_0, .int 0, .ref h8, .ref h9, .ref h10, .ref h11])), (h2, .inl (zI g, 5, .inl Z0)), (h3, .inl (zI g, 5, .inl Z1)), (h4, .inl (zI g, 5, .inl Z2)), (h6, .inl (zI g, 5, .inl G1_0)), (h7, .inl (zI g, 5, .inl G2_0)), (h12, .inl (zI g, 5, .inl Z10)), (h14, .inl (zI g, 5, .inl Z12)), (h1, .inr (0, [.ref h12, .int f2, .ref h13, .int f3, .ref h14, .ref h15, .ref h16, .ref h17, .ref h18, .ref h19, .int f4])), (h17, .inl (zI g, 20, .inl Z15))] H := hP
              have hD : va_D A [(h0, .inr (2, [.ref h2, .ref h3, .ref h4, .ref h5, .ref h6, .ref h7, .int g0_0, .int 0, .ref h8, .ref h9, .ref h10, .ref h11])), (h2, .inl (zI g, 5, .inl Z0)), (h3, .inl (zI g, 5, .inl Z1)), (h4, .inl (zI g, 5, .inl Z2)), (h6, .inl (zI g, 5, .inl G1_0)), (h7, .inl (zI g, 5, .inl G2_0)), (h12, .inl (zI g, 5, .inl Z10)), (h14, .inl (zI g, 5, .inl Z12)), (h1, .inr (0, [.ref h12, .int f2, .ref h13, .int f3, .ref h14, .ref h15, .ref h16, .ref h17, .ref h18, .ref h19, .int f4])), (h17, .inl (zI g, 20, .inl Z15))] := hD
              refine lv_aload_n hx hb dX2_ready_76 rfl (lv_at hl 1 rfl) ?_
              refine lv_aload_n hx hb dX2_ready_77 rfl (lv_at hl 2 rfl) ?_
              refine lv_iload_n hx hb dX2_ready_78 rfl (lv_at hl 4 rfl) ?_
              have : (0 : Int32).toInt = 0 := rfl
              refine z_calli (wr := [(h3, .inl (zI g, 5, .inl Z1)), (h4, .inl (zI g, 5, .inl Z2)), (h6, .inl (zI g, 5, .inl G1_0)), (h7, .inl (zI g, 5, .inl G2_0)), (h12, .inl (zI g, 5, .inl Z10)), (h17, .inl (zI g, 20, .inl Z15))]) hP hD hS hA [0, 8, 1, 7] [2, 3, 4, 5, 6, 9] (by decide) rfl rfl (by decide) (va_runV (As := [.ref h1, .int v3_0]) (rest := [.int y8, .int v3_0, .ref h6]) ⟨hx, hb, hml, hown, hts⟩ (gX2_charge l g h0 h1 h2 h3 h4 h5 h6 h7 h8 h9 h10 h11 h12 h13 h14 h15 h16 h17 h18 h19 H.size v3_0 g0_0 (0 : Int32) f2 f3 f4 Z0 Z12 (by omega) (by omega) (by constructor <;> omega) (by constructor <;> omega) (by constructor <;> omega) hF_Z0 hF_Z12) ⟨callB_of 2 hts (zGood m_o_yX2_charge) rfl rfl rfl (hts _ m_z_RX2) (hts _ m_m_RX2_143) ⟨by decide +kernel, by decide +kernel, by decide +kernel⟩ ⟨Nat.le_of_ble_eq_true rfl, Nat.le_of_ble_eq_true rfl⟩, hts _ m_i_yX2_charge, hts _ m_e_yX2_charge⟩ (zPreV hK hN hZ hP hD hS hA [0, 8, 1, 7] (by decide) rfl rfl 2 0 rfl rfl) rfl rfl hl.1 rfl (lv_room (Nat.le_of_ble_eq_true rfl)) dX2_ready_79 ⟨Nat.le_of_ble_eq_true rfl, Nat.le_of_ble_eq_true rfl⟩) (fun r u H locs hw hP hD hS => ?_)
              obtain ⟨y10, rfl⟩ : ∃ z, z = r := ⟨_, rfl⟩
              obtain ⟨q11_0, q11_1, q11_2⟩ := hw
              have q11_0 : y10.toInt = zCh Z12 (zIv Z0) v3_0.toNatClampNeg := q11_0
              have q11_1 : 0 ≤ y10.toInt := q11_1
              have q11_2 : y10.toInt ≤ 40 := q11_2
              have hP : va_P g.1 vwCl [(h3, .inl (zI g, 5, .inl Z1)), (h4, .inl (zI g, 5, .inl Z2)), (h6, .inl (zI g, 5, .inl G1_0)), (h7, .inl (zI g, 5, .inl G2_0)), (h12, .inl (zI g, 5, .inl Z10)), (h17, .inl (zI g, 20, .inl Z15)), (h0, .inr (2, [.ref h2, .ref h3, .ref h4, .ref h5, .ref h6, .ref h7, .int g0_0, .int 0, .ref h8, .ref h9, .ref h10, .ref h11])), (h1, .inr (0, [.ref h12, .int f2, .ref h13, .int f3, .ref h14, .ref h15, .ref h16, .ref h17, .ref h18, .ref h19, .int f4])), (h2, .inl (zI g, 5, .inl Z0)), (h14, .inl (zI g, 5, .inl Z12))] H := hP
              have hD : va_D A [(h3, .inl (zI g, 5, .inl Z1)), (h4, .inl (zI g, 5, .inl Z2)), (h6, .inl (zI g, 5, .inl G1_0)), (h7, .inl (zI g, 5, .inl G2_0)), (h12, .inl (zI g, 5, .inl Z10)), (h17, .inl (zI g, 20, .inl Z15)), (h0, .inr (2, [.ref h2, .ref h3, .ref h4, .ref h5, .ref h6, .ref h7, .int g0_0, .int 0, .ref h8, .ref h9, .ref h10, .ref h11])), (h1, .inr (0, [.ref h12, .int f2, .ref h13, .int f3, .ref h14, .ref h15, .ref h16, .ref h17, .ref h18, .ref h19, .int f4])), (h2, .inl (zI g, 5, .inl Z0)), (h14, .inl (zI g, 5, .inl Z12))] := hD
              refine lv_isub hx hb dX2_ready_82 ?_
              refine lv_topi (fun y12 ey12 => ?_)
              have qy12_0 : y12.toInt = y8.toInt - y10.toInt := zi_sub ey12 (rfl) (rfl) (by omega) (by omega)
              refine va_iast (D := g.1) hx hb hK hP hD hS 2 0 rfl rfl (vp_in_iff.mpr ⟨by omega, by omega⟩) dX2_ready_83 (fun H locs hP hD hS => ?_)
              have hP : va_P g.1 vwCl [(h3, .inl (zI g, 5, .inl Z1)), (h4, .inl (zI g, 5, .inl Z2)), (h6, .inl (zI g, 5, .inl (upd G1_0 v3_0.toNatClampNeg y12))), (h7, .inl (zI g, 5, .inl G2_0)), (h12, .inl (zI g, 5, .inl Z10)), (h17, .inl (zI g, 20, .inl Z15)), (h0, .inr (2, [.ref h2, .ref h3, .ref h4, .ref h5, .ref h6, .ref h7, .int g0_0, .int 0, .ref h8, .ref h9, .ref h10, .ref h11])), (h1, .inr (0, [.ref h12, .int f2, .ref h13, .int f3, .ref h14, .ref h15, .ref h16, .ref h17, .ref h18, .ref h19, .int f4])), (h2, .inl (zI g, 5, .inl Z0)), (h14, .inl (zI g, 5, .inl Z12))] H := hP
              have hD : va_D A [(h3, .inl (zI g, 5, .inl Z1)), (h4, .inl (zI g, 5, .inl Z2)), (h6, .inl (zI g, 5, .inl (upd G1_0 v3_0.toNatClampNeg y12))), (h7, .inl (zI g, 5, .inl G2_0)), (h12, .inl (zI g, 5, .inl Z10)), (h17, .inl (zI g, 20, .inl Z15)), (h0, .inr (2, [.ref h2, .ref h3, .ref h4, .ref h5, .ref h6, .ref h7, .int g0_0, .int 0, .ref h8, .ref h9, .ref h10, .ref h11])), (h1, .inr (0, [.ref h12, .int f2, .ref h13, .int f3, .ref h14, .ref h15, .ref h16, .ref h17, .ref h18, .ref h19, .int f4])), (h2, .inl (zI g, 5, .inl Z0)), (h14, .inl (zI g, 5, .inl Z12))] := hD
              have hI13 : zLmP (zLim f3.toInt Z12 Z15 (zRw f3.toInt Z0) p2.toInt) (v3_0.toInt + 1) (upd G1_0 v3_0.toNatClampNeg y12) := zLmP_put (i := v3_0) hG1_0 rfl (by omega) (rfl) (by rw [zLim_i (by omega) (by omega), zCh_rw (by omega) (by omega)]; omega) (by omega) (by omega)
              obtain ⟨R14, eR14⟩ : ∃ z : Nat → Int32, z = (upd G1_0 v3_0.toNatClampNeg y12) := ⟨_, rfl⟩
              rw [← eR14] at hP hD hI13
              refine lv_aload_n hx hb dX2_ready_84 rfl (lv_at hl 1 rfl) ?_
              refine va_get (D := g.1) (ci := 2) (v := .ref h7) (C := RX2) (T := TX2) (N := 12) hx hb hts zl_X2 hown hK hP 6 rfl rfl 5 (by decide) (hts _ m_f_RX2_27) (fun _ h => h) rfl dX2_ready_85 ?_
              refine lv_iload_n hx hb dX2_ready_88 rfl (lv_at hl 4 rfl) ?_
              refine lv_aload_n hx hb dX2_ready_89 rfl (lv_at hl 1 rfl) ?_
              refine va_get (D := g.1) (ci := 2) (v := .ref h3) (C := RX2) (T := TX2) (N := 12) hx hb hts zl_X2 hown hK hP 6 rfl rfl 1 (by decide) (hts _ m_f_RX2_15) (fun _ h => h) rfl dX2_ready_90 ?_
              refine lv_iload_n hx hb dX2_ready_93 rfl (lv_at hl 4 rfl) ?_
              refine va_iald (D := g.1) hx hb hK hP 0 0 rfl rfl (vp_in_iff.mpr ⟨by omega, by omega⟩) dX2_ready_94 ?_
              refine lv_topi (fun y15 ey15 => ?_)
              have qy15_0 : (-99) ≤ y15.toInt := (i_at (N := 5) (lo := (-99)) (hi := 9999) (i := v3_0) (a := v3_0.toInt) hF_Z1 (rfl) (by omega) (by omega) ey15).1
              have qy15_1 : y15.toInt ≤ 9999 := (i_at (N := 5) (lo := (-99)) (hi := 9999) (i := v3_0) (a := v3_0.toInt) hF_Z1 (rfl) (by omega) (by omega) ey15).2
              have qy15_2 : y15.toInt = (Z1 v3_0.toNatClampNeg).toInt := congrArg Int32.toInt ey15
              refine lv_iload hx hb dX2_ready_95 (lv_at hl 0 rfl) ?_
              refine lv_iconst (v := 4) hx hb dX2_ready_97 (by decide) ?_
              refine lv_icmp_ne (tgt := 110) hx hb dX2_ready_98 (by decide) (fun c_5 => ?_) (fun c_5 => ?_)
              · have i_5 : y6.toInt ≠ 4 := z_ne (rfl) (rfl) c_5
                refine lv_iconst (v := 0) hx hb dX2_ready_110 (by decide) ?_
                refine lv_iadd hx hb dX2_ready_111 ?_
                refine lv_topi (fun y16 ey16 => ?_)
                have qy16_0 : y16.toInt = y15.toInt + 0 := zi_add ey16 (rfl) (rfl) (by omega) (by omega)
                refine va_iast (D := g.1) hx hb hK hP hD hS 3 0 rfl rfl (vp_in_iff.mpr ⟨by omega, by omega⟩) dX2_ready_112 (fun H locs hP hD hS => ?_)
                have hP : va_P g.1 vwCl [(h3, .inl (zI g, 5, .inl Z1)), (h4, .inl (zI g, 5, .inl Z2)), (h6, .inl (zI g, 5, .inl R14)), (h7, .inl (zI g, 5, .inl (upd G2_0 v3_0.toNatClampNeg y16))), (h12, .inl (zI g, 5, .inl Z10)), (h17, .inl (zI g, 20, .inl Z15)), (h0, .inr (2, [.ref h2, .ref h3, .ref h4, .ref h5, .ref h6, .ref h7, .int g0_0, .int 0, .ref h8, .ref h9, .ref h10, .ref h11])), (h1, .inr (0, [.ref h12, .int f2, .ref h13, .int f3, .ref h14, .ref h15, .ref h16, .ref h17, .ref h18, .ref h19, .int f4])), (h2, .inl (zI g, 5, .inl Z0)), (h14, .inl (zI g, 5, .inl Z12))] H := hP
                have hD : va_D A [(h3, .inl (zI g, 5, .inl Z1)), (h4, .inl (zI g, 5, .inl Z2)), (h6, .inl (zI g, 5, .inl R14)), (h7, .inl (zI g, 5, .inl (upd G2_0 v3_0.toNatClampNeg y16))), (h12, .inl (zI g, 5, .inl Z10)), (h17, .inl (zI g, 20, .inl Z15)), (h0, .inr (2, [.ref h2, .ref h3, .ref h4, .ref h5, .ref h6, .ref h7, .int g0_0, .int 0, .ref h8, .ref h9, .ref h10, .ref h11])), (h1, .inr (0, [.ref h12, .int f2, .ref h13, .int f3, .ref h14, .ref h15, .ref h16, .ref h17, .ref h18, .ref h19, .int f4])), (h2, .inl (zI g, 5, .inl Z0)), (h14, .inl (zI g, 5, .inl Z12))] := hD
                have hI17 : zMoP (zMon Z10 f3.toInt Z12 (zRw f3.toInt Z1)) (v3_0.toInt + 1) (upd G2_0 v3_0.toNatClampNeg y16) := zMoP_put (i := v3_0) hG2_0 rfl (by omega) (rfl) (by rw [zMon_i (by omega) (by omega), zRw_i (by omega) (by omega), if_neg (by omega)]; omega) (by omega) (by omega)
                obtain ⟨R18, eR18⟩ : ∃ z : Nat → Int32, z = (upd G2_0 v3_0.toNatClampNeg y16) := ⟨_, rfl⟩
                rw [← eR18] at hP hD hI17
                obtain ⟨y19, ey19⟩ : ∃ z : Int32, z = v3_0 + 1 := ⟨_, rfl⟩
                have qy19 : y19.toInt = v3_0.toInt + 1 := zi_add ey19 (rfl) rfl (by omega) (by omega)
                refine lv_iinc (v := y19) (lv' := [(3, .int y19), (4, .int y6), (0, .ref h0), (1, .ref h1), (2, .int p2)]) hx hb dX2_ready_113 hl (k := 4) rfl ey19.symm (by decide) rfl (fun ls hl => ?_)
                have hskb : zSk (zRm f3.toInt Z12 (zRw f3.toInt Z2)) y19.toInt = zSk (zRm f3.toInt Z12 (zRw f3.toInt Z2)) (v3_0.toInt + 1) := by rw [(by omega : y19.toInt = v3_0.toInt + 1)]
                refine lv_goto (tgt := 12) hx hb dX2_ready_116 (by decide) ?_
                have hP := hP.sub (ws' := [(h0, .inr (2, [.ref h2, .ref h3, .ref h4, .ref h5, .ref h6, .ref h7, .int g0_0, .int 0, .ref h8, .ref h9, .ref h10, .ref h11])), (h1, .inr (0, [.ref h12, .int f2, .ref h13, .int f3, .ref h14, .ref h15, .ref h16, .ref h17, .ref h18, .ref h19, .int f4])), (h2, .inl (zI g, 5, .inl Z0)), (h3, .inl (zI g, 5, .inl Z1)), (h4, .inl (zI g, 5, .inl Z2)), (h6, .inl (zI g, 5, .inl R14)), (h7, .inl (zI g, 5, .inl R18)), (h12, .inl (zI g, 5, .inl Z10)), (h14, .inl (zI g, 5, .inl Z12)), (h17, .inl (zI g, 20, .inl Z15))]) [6, 7, 8, 0, 1, 2, 3, 4, 9, 5] rfl
                have hD := hD.sub (ws' := [(h0, .inr (2, [.ref h2, .ref h3, .ref h4, .ref h5, .ref h6, .ref h7, .int g0_0, .int 0, .ref h8, .ref h9, .ref h10, .ref h11])), (h1, .inr (0, [.ref h12, .int f2, .ref h13, .int f3, .ref h14, .ref h15, .ref h16, .ref h17, .ref h18, .ref h19, .int f4])), (h2, .inl (zI g, 5, .inl Z0)), (h3, .inl (zI g, 5, .inl Z1)), (h4, .inl (zI g, 5, .inl Z2)), (h6, .inl (zI g, 5, .inl R14)), (h7, .inl (zI g, 5, .inl R18)), (h12, .inl (zI g, 5, .inl Z10)), (h14, .inl (zI g, 5, .inl Z12)), (h17, .inl (zI g, 20, .inl Z15))]) [6, 7, 8, 0, 1, 2, 3, 4, 9, 5] (by decide) rfl
                exact ih1 y19 g0_0 R14 R18 (zLmP_eq hI13 (by omega)) (zMoP_eq hI17 (by omega)) (by omega) (by omega) (by omega) (by omega) (by omega) (by omega) (by omega) _ _ hP hD hS ls (lv_sub hl [2, 3, 4, 0] rfl)
              · have i_5 : y6.toInt = 4 := z_eq (rfl) (rfl) c_5
                refine lv_aload_n hx hb dX2_ready_101 rfl (lv_at hl 2 rfl) ?_
                refine va_getN (D := g.1) (ci := 0) (v := .ref h12) (C := RX0) (T := TX0) (N := 11) hx hb hts zl_X0 hown hK hP 7 rfl rfl 0 (by decide) (hN.f 2 (q := (RX2, 107, "FishSteps$Books", "law", "[I")) rfl) (fun _ h => h) rfl dX2_ready_102 ?_
                refine lv_iconst (v := 4) hx hb dX2_ready_105 (by decide) ?_
                refine va_iald (D := g.1) hx hb hK hP 4 0 rfl rfl (vp_in_iff.mpr (by decide +kernel)) dX2_ready_106 ?_
                refine lv_topi (fun y20 ey20 => ?_)
                have qy20_0 : 0 ≤ y20.toInt := (iLaw_n (lo := 0) (hi := 99) (i := (4 : Int32)) (a := 4) hF_Z10 (rfl) (by omega) (by omega) ey20 (by decide) (by decide)).1
                have qy20_1 : y20.toInt ≤ 99 := (iLaw_n (lo := 0) (hi := 99) (i := (4 : Int32)) (a := 4) hF_Z10 (rfl) (by omega) (by omega) ey20 (by decide) (by decide)).2
                have qy20_2 : y20.toInt = (Z10 4).toInt := congrArg Int32.toInt ey20
                refine lv_goto (tgt := 111) hx hb dX2_ready_107 (by decide) ?_
                refine lv_iadd hx hb dX2_ready_111 ?_
                refine lv_topi (fun y21 ey21 => ?_)
                have qy21_0 : y21.toInt = y15.toInt + y20.toInt := zi_add ey21 (rfl) (rfl) (by omega) (by omega)
                refine va_iast (D := g.1) hx hb hK hP hD hS 3 0 rfl rfl (vp_in_iff.mpr ⟨by omega, by omega⟩) dX2_ready_112 (fun H locs hP hD hS => ?_)
                have hP : va_P g.1 vwCl [(h3, .inl (zI g, 5, .inl Z1)), (h4, .inl (zI g, 5, .inl Z2)), (h6, .inl (zI g, 5, .inl R14)), (h7, .inl (zI g, 5, .inl (upd G2_0 v3_0.toNatClampNeg y21))), (h12, .inl (zI g, 5, .inl Z10)), (h17, .inl (zI g, 20, .inl Z15)), (h0, .inr (2, [.ref h2, .ref h3, .ref h4, .ref h5, .ref h6, .ref h7, .int g0_0, .int 0, .ref h8, .ref h9, .ref h10, .ref h11])), (h1, .inr (0, [.ref h12, .int f2, .ref h13, .int f3, .ref h14, .ref h15, .ref h16, .ref h17, .ref h18, .ref h19, .int f4])), (h2, .inl (zI g, 5, .inl Z0)), (h14, .inl (zI g, 5, .inl Z12))] H := hP
                have hD : va_D A [(h3, .inl (zI g, 5, .inl Z1)), (h4, .inl (zI g, 5, .inl Z2)), (h6, .inl (zI g, 5, .inl R14)), (h7, .inl (zI g, 5, .inl (upd G2_0 v3_0.toNatClampNeg y21))), (h12, .inl (zI g, 5, .inl Z10)), (h17, .inl (zI g, 20, .inl Z15)), (h0, .inr (2, [.ref h2, .ref h3, .ref h4, .ref h5, .ref h6, .ref h7, .int g0_0, .int 0, .ref h8, .ref h9, .ref h10, .ref h11])), (h1, .inr (0, [.ref h12, .int f2, .ref h13, .int f3, .ref h14, .ref h15, .ref h16, .ref h17, .ref h18, .ref h19, .int f4])), (h2, .inl (zI g, 5, .inl Z0)), (h14, .inl (zI g, 5, .inl Z12))] := hD
                have hI22 : zMoP (zMon Z10 f3.toInt Z12 (zRw f3.toInt Z1)) (v3_0.toInt + 1) (upd G2_0 v3_0.toNatClampNeg y21) := zMoP_put (i := v3_0) hG2_0 rfl (by omega) (rfl) (by rw [zMon_i (by omega) (by omega), zRw_i (by omega) (by omega), if_pos (by omega)]; omega) (by omega) (by omega)
                obtain ⟨R23, eR23⟩ : ∃ z : Nat → Int32, z = (upd G2_0 v3_0.toNatClampNeg y21) := ⟨_, rfl⟩
                rw [← eR23] at hP hD hI22
                obtain ⟨y24, ey24⟩ : ∃ z : Int32, z = v3_0 + 1 := ⟨_, rfl⟩
                have qy24 : y24.toInt = v3_0.toInt + 1 := zi_add ey24 (rfl) rfl (by omega) (by omega)
                refine lv_iinc (v := y24) (lv' := [(3, .int y24), (4, .int y6), (0, .ref h0), (1, .ref h1), (2, .int p2)]) hx hb dX2_ready_113 hl (k := 4) rfl ey24.symm (by decide) rfl (fun ls hl => ?_)
                have hskb : zSk (zRm f3.toInt Z12 (zRw f3.toInt Z2)) y24.toInt = zSk (zRm f3.toInt Z12 (zRw f3.toInt Z2)) (v3_0.toInt + 1) := by rw [(by omega : y24.toInt = v3_0.toInt + 1)]
                refine lv_goto (tgt := 12) hx hb dX2_ready_116 (by decide) ?_
                have hP := hP.sub (ws' := [(h0, .inr (2, [.ref h2, .ref h3, .ref h4, .ref h5, .ref h6, .ref h7, .int g0_0, .int 0, .ref h8, .ref h9, .ref h10, .ref h11])), (h1, .inr (0, [.ref h12, .int f2, .ref h13, .int f3, .ref h14, .ref h15, .ref h16, .ref h17, .ref h18, .ref h19, .int f4])), (h2, .inl (zI g, 5, .inl Z0)), (h3, .inl (zI g, 5, .inl Z1)), (h4, .inl (zI g, 5, .inl Z2)), (h6, .inl (zI g, 5, .inl R14)), (h7, .inl (zI g, 5, .inl R23)), (h12, .inl (zI g, 5, .inl Z10)), (h14, .inl (zI g, 5, .inl Z12)), (h17, .inl (zI g, 20, .inl Z15))]) [6, 7, 8, 0, 1, 2, 3, 4, 9, 5] rfl
                have hD := hD.sub (ws' := [(h0, .inr (2, [.ref h2, .ref h3, .ref h4, .ref h5, .ref h6, .ref h7, .int g0_0, .int 0, .ref h8, .ref h9, .ref h10, .ref h11])), (h1, .inr (0, [.ref h12, .int f2, .ref h13, .int f3, .ref h14, .ref h15, .ref h16, .ref h17, .ref h18, .ref h19, .int f4])), (h2, .inl (zI g, 5, .inl Z0)), (h3, .inl (zI g, 5, .inl Z1)), (h4, .inl (zI g, 5, .inl Z2)), (h6, .inl (zI g, 5, .inl R14)), (h7, .inl (zI g, 5, .inl R23)), (h12, .inl (zI g, 5, .inl Z10)), (h14, .inl (zI g, 5, .inl Z12)), (h17, .inl (zI g, 20, .inl Z15))]) [6, 7, 8, 0, 1, 2, 3, 4, 9, 5] (by decide) rfl
                exact ih1 y24 g0_0 R14 R23 (zLmP_eq hI13 (by omega)) (zMoP_eq hI22 (by omega)) (by omega) (by omega) (by omega) (by omega) (by omega) (by omega) (by omega) _ _ hP hD hS ls (lv_sub hl [2, 3, 4, 0] rfl)
            · have i_4 : y7.toInt < 1 := z_nle (rfl) (rfl) c_4
              refine lv_aload_n hx hb dX2_ready_53 rfl (lv_at hl 1 rfl) ?_
              refine lv_dup hx hb dX2_ready_54 rfl ?_
              refine va_get (D := g.1) (ci := 2) (v := .int g0_0) (C := RX2) (T := TX2) (N := 12) hx hb hts zl_X2 hown hK hP 0 rfl rfl 6 (by decide) (hts _ m_f_RX2_30) (fun _ h => h) rfl dX2_ready_55 ?_
              refine lv_iconst (v := 1) hx hb dX2_ready_58 (by decide) ?_
              refine lv_iload_n hx hb dX2_ready_59 rfl (lv_at hl 4 rfl) ?_
              refine lv_ishl hx hb dX2_ready_60 ?_
              refine lv_topi (fun y25 ey25 => ?_)
              have qy25_0 : 1 ≤ y25.toInt := (zi_shl 4 ey25 (rfl) (by omega) (by omega) (by decide)).1
              have qy25_1 : y25.toInt ≤ 16 := (zi_shl 4 ey25 (rfl) (by omega) (by omega) (by decide)).2
              have hskr := zSk_r (f := (zRm f3.toInt Z12 (zRw f3.toInt Z2))) zRm_01 (k := v3_0.toInt) (by omega) (by omega)
              refine lv_ior hx hb dX2_ready_61 ?_
              refine lv_topi (fun y26 ey26 => ?_)
              have qy26_0 : g0_0.toInt ≤ y26.toInt := (zi_or ey26 (rfl) (rfl) (by omega) (by omega) (by omega) (by omega)).1
              have qy26_1 : y25.toInt ≤ y26.toInt := (zi_or ey26 (rfl) (rfl) (by omega) (by omega) (by omega) (by omega)).2.1
              have qy26_2 : y26.toInt ≤ 31 := (zi_or ey26 (rfl) (rfl) (by omega) (by omega) (by omega) (by omega)).2.2
              have py26_0 : y26.toInt = g0_0.toInt + zP2 v3_0.toInt := zor_bit ey26 ey25 rfl (by omega) (by omega) (by omega) (by omega)
              refine va_put (D := g.1) (ci := 2) (v := .int y26) (ty := .int) (C := RX2) (T := TX2) (N := 12) hx hb hts zl_X2 tyX2 tyX2_ok nmX2 hown hK hP hD hS 0 rfl rfl 6 (by decide) (hts _ m_f_RX2_30) (fun _ h => h) rfl (by decide +kernel) rfl rfl (Nat.le_of_ble_eq_true rfl) dX2_ready_62 (fun H locs hP hD hS => ?_)
              have hP : va_P g.1 vwCl [(h0, .inr (2, [.ref h2, .ref h3, .ref h4, .ref h5, .ref h6, .ref h7, .int y26, .int 0, .ref h8, .ref h9, .ref h10, .ref h11])), (h1, .inr (0, [.ref h12, .int f2, .ref h13, .int f3, .ref h14, .ref h15, .ref h16, .ref h17, .ref h18, .ref h19, .int f4])), (h2, .inl (zI g, 5, .inl Z0)), (h3, .inl (zI g, 5, .inl Z1)), (h4, .inl (zI g, 5, .inl Z2)), (h6, .inl (zI g, 5, .inl G1_0)), (h7, .inl (zI g, 5, .inl G2_0)), (h12, .inl (zI g, 5, .inl Z10)), (h14, .inl (zI g, 5, .inl Z12)), (h17, .inl (zI g, 20, .inl Z15))] H := hP
              have hD : va_D A [(h0, .inr (2, [.ref h2, .ref h3, .ref h4, .ref h5, .ref h6, .ref h7, .int y26, .int 0, .ref h8, .ref h9, .ref h10, .ref h11])), (h1, .inr (0, [.ref h12, .int f2, .ref h13, .int f3, .ref h14, .ref h15, .ref h16, .ref h17, .ref h18, .ref h19, .int f4])), (h2, .inl (zI g, 5, .inl Z0)), (h3, .inl (zI g, 5, .inl Z1)), (h4, .inl (zI g, 5, .inl Z2)), (h6, .inl (zI g, 5, .inl G1_0)), (h7, .inl (zI g, 5, .inl G2_0)), (h12, .inl (zI g, 5, .inl Z10)), (h14, .inl (zI g, 5, .inl Z12)), (h17, .inl (zI g, 20, .inl Z15))] := hD
              have hcap : zCap Z12 v3_0.toNatClampNeg = 1 := zCap_1 (by omega)
              have hrm : (zRm f3.toInt Z12 (zRw f3.toInt Z2)) v3_0.toNatClampNeg = 1 := zRm_i1 (i := v3_0) (by omega) (by omega) hcap (by omega)
              have hsk : zSk (zRm f3.toInt Z12 (zRw f3.toInt Z2)) (v3_0.toInt + 1) = zSk (zRm f3.toInt Z12 (zRw f3.toInt Z2)) v3_0.toInt + zP2 v3_0.toInt := zSk_1 (by omega) (by omega) hrm
              refine lv_aload_n hx hb dX2_ready_65 rfl (lv_at hl 1 rfl) ?_
              refine va_get (D := g.1) (ci := 2) (v := .ref h6) (C := RX2) (T := TX2) (N := 12) hx hb hts zl_X2 hown hK hP 0 rfl rfl 4 (by decide) (hts _ m_f_RX2_24) (fun _ h => h) rfl dX2_ready_66 ?_
              refine lv_iload_n hx hb dX2_ready_69 rfl (lv_at hl 4 rfl) ?_
              refine lv_aload_n hx hb dX2_ready_70 rfl (lv_at hl 2 rfl) ?_
              refine lv_iload_n hx hb dX2_ready_71 rfl (lv_at hl 4 rfl) ?_
              refine lv_iload_n hx hb dX2_ready_72 rfl (lv_at hl 3 rfl) ?_
              refine z_calli (wr := [(h0, .inr (2, [.ref h2, .ref h3, .ref h4, .ref h5, .ref h6, .ref h7, .int y26, .int 0, .ref h8, .ref h9, .ref h10, .ref h11])), (h2, .inl (zI g, 5, .inl Z0)), (h3, .inl (zI g, 5, .inl Z1)), (h4, .inl (zI g, 5, .inl Z2)), (h6, .inl (zI g, 5, .inl G1_0)), (h7, .inl (zI g, 5, .inl G2_0)), (h12, .inl (zI g, 5, .inl Z10)), (h14, .inl (zI g, 5, .inl Z12))]) hP hD hS hA [1, 9] [0, 2, 3, 4, 5, 6, 7, 8] (by decide) rfl rfl (by decide) (va_runVN (As := [.int v3_0, .int p2]) (rest := [.int v3_0, .ref h6]) ⟨hx, hb, hml, hown, hts⟩ (gX0_worthOf l g h1 h12 h13 h14 h15 h16 h17 h18 h19 H.size v3_0 p2 f2 f3 f4 Z15 (by constructor <;> omega) (by constructor <;> omega) (by constructor <;> omega) hF_Z15) ⟨va_cnB 2 hts (zGood m_o_yX0_worthOf) rfl rfl rfl (hN.m 15 (q := (RX2, 137, yX0_worthOf)) rfl) (hts _ m_z_RX0) ⟨by decide +kernel, by decide +kernel, by decide +kernel⟩ ⟨Nat.le_of_ble_eq_true rfl, Nat.le_of_ble_eq_true rfl⟩, hts _ m_i_yX0_worthOf, hts _ m_e_yX0_worthOf⟩ (zPreV hK hN hZ hP hD hS hA [1, 9] (by decide) rfl rfl 0 1 rfl rfl) rfl rfl hl.1 rfl (lv_room (Nat.le_of_ble_eq_true rfl)) dX2_ready_73 ⟨Nat.le_of_ble_eq_true rfl, Nat.le_of_ble_eq_true rfl⟩) (fun r u H locs hw hP hD hS => ?_)
              obtain ⟨y27, rfl⟩ : ∃ z, z = r := ⟨_, rfl⟩
              obtain ⟨q28_0, q28_1, q28_2⟩ := hw
              have q28_0 : y27.toInt = zWq f3.toInt Z15 v3_0.toInt p2.toInt := q28_0
              have q28_1 : 0 ≤ y27.toInt := q28_1
              have q28_2 : y27.toInt ≤ 99 := q28_2
              have hP : va_P g.1 vwCl [(h0, .inr (2, [.ref h2, .ref h3, .ref h4, .ref h5, .ref h6, .ref h7, .int y26, .int 0, .ref h8, .ref h9, .ref h10, .ref h11])), (h2, .inl (zI g, 5, .inl Z0)), (h3, .inl (zI g, 5, .inl Z1)), (h4, .inl (zI g, 5, .inl Z2)), (h6, .inl (zI g, 5, .inl G1_0)), (h7, .inl (zI g, 5, .inl G2_0)), (h12, .inl (zI g, 5, .inl Z10)), (h14, .inl (zI g, 5, .inl Z12)), (h1, .inr (0, [.ref h12, .int f2, .ref h13, .int f3, .ref h14, .ref h15, .ref h16, .ref h17, .ref h18, .ref h19, .int f4])), (h17, .inl (zI g, 20, .inl Z15))] H := hP
              have hD : va_D A [(h0, .inr (2, [.ref h2, .ref h3, .ref h4, .ref h5, .ref h6, .ref h7, .int y26, .int 0, .ref h8, .ref h9, .ref h10, .ref h11])), (h2, .inl (zI g, 5, .inl Z0)), (h3, .inl (zI g, 5, .inl Z1)), (h4, .inl (zI g, 5, .inl Z2)), (h6, .inl (zI g, 5, .inl G1_0)), (h7, .inl (zI g, 5, .inl G2_0)), (h12, .inl (zI g, 5, .inl Z10)), (h14, .inl (zI g, 5, .inl Z12)), (h1, .inr (0, [.ref h12, .int f2, .ref h13, .int f3, .ref h14, .ref h15, .ref h16, .ref h17, .ref h18, .ref h19, .int f4])), (h17, .inl (zI g, 20, .inl Z15))] := hD
              refine lv_aload_n hx hb dX2_ready_76 rfl (lv_at hl 1 rfl) ?_
              refine lv_aload_n hx hb dX2_ready_77 rfl (lv_at hl 2 rfl) ?_
              refine lv_iload_n hx hb dX2_ready_78 rfl (lv_at hl 4 rfl) ?_
              have : (0 : Int32).toInt = 0 := rfl
              refine z_calli (wr := [(h3, .inl (zI g, 5, .inl Z1)), (h4, .inl (zI g, 5, .inl Z2)), (h6, .inl (zI g, 5, .inl G1_0)), (h7, .inl (zI g, 5, .inl G2_0)), (h12, .inl (zI g, 5, .inl Z10)), (h17, .inl (zI g, 20, .inl Z15))]) hP hD hS hA [0, 8, 1, 7] [2, 3, 4, 5, 6, 9] (by decide) rfl rfl (by decide) (va_runV (As := [.ref h1, .int v3_0]) (rest := [.int y27, .int v3_0, .ref h6]) ⟨hx, hb, hml, hown, hts⟩ (gX2_charge l g h0 h1 h2 h3 h4 h5 h6 h7 h8 h9 h10 h11 h12 h13 h14 h15 h16 h17 h18 h19 H.size v3_0 y26 (0 : Int32) f2 f3 f4 Z0 Z12 (by omega) (by omega) (by constructor <;> omega) (by constructor <;> omega) (by constructor <;> omega) hF_Z0 hF_Z12) ⟨callB_of 2 hts (zGood m_o_yX2_charge) rfl rfl rfl (hts _ m_z_RX2) (hts _ m_m_RX2_143) ⟨by decide +kernel, by decide +kernel, by decide +kernel⟩ ⟨Nat.le_of_ble_eq_true rfl, Nat.le_of_ble_eq_true rfl⟩, hts _ m_i_yX2_charge, hts _ m_e_yX2_charge⟩ (zPreV hK hN hZ hP hD hS hA [0, 8, 1, 7] (by decide) rfl rfl 2 0 rfl rfl) rfl rfl hl.1 rfl (lv_room (Nat.le_of_ble_eq_true rfl)) dX2_ready_79 ⟨Nat.le_of_ble_eq_true rfl, Nat.le_of_ble_eq_true rfl⟩) (fun r u H locs hw hP hD hS => ?_)
              obtain ⟨y29, rfl⟩ : ∃ z, z = r := ⟨_, rfl⟩
              obtain ⟨q30_0, q30_1, q30_2⟩ := hw
              have q30_0 : y29.toInt = zCh Z12 (zIv Z0) v3_0.toNatClampNeg := q30_0
              have q30_1 : 0 ≤ y29.toInt := q30_1
              have q30_2 : y29.toInt ≤ 40 := q30_2
              have hP : va_P g.1 vwCl [(h3, .inl (zI g, 5, .inl Z1)), (h4, .inl (zI g, 5, .inl Z2)), (h6, .inl (zI g, 5, .inl G1_0)), (h7, .inl (zI g, 5, .inl G2_0)), (h12, .inl (zI g, 5, .inl Z10)), (h17, .inl (zI g, 20, .inl Z15)), (h0, .inr (2, [.ref h2, .ref h3, .ref h4, .ref h5, .ref h6, .ref h7, .int y26, .int 0, .ref h8, .ref h9, .ref h10, .ref h11])), (h1, .inr (0, [.ref h12, .int f2, .ref h13, .int f3, .ref h14, .ref h15, .ref h16, .ref h17, .ref h18, .ref h19, .int f4])), (h2, .inl (zI g, 5, .inl Z0)), (h14, .inl (zI g, 5, .inl Z12))] H := hP
              have hD : va_D A [(h3, .inl (zI g, 5, .inl Z1)), (h4, .inl (zI g, 5, .inl Z2)), (h6, .inl (zI g, 5, .inl G1_0)), (h7, .inl (zI g, 5, .inl G2_0)), (h12, .inl (zI g, 5, .inl Z10)), (h17, .inl (zI g, 20, .inl Z15)), (h0, .inr (2, [.ref h2, .ref h3, .ref h4, .ref h5, .ref h6, .ref h7, .int y26, .int 0, .ref h8, .ref h9, .ref h10, .ref h11])), (h1, .inr (0, [.ref h12, .int f2, .ref h13, .int f3, .ref h14, .ref h15, .ref h16, .ref h17, .ref h18, .ref h19, .int f4])), (h2, .inl (zI g, 5, .inl Z0)), (h14, .inl (zI g, 5, .inl Z12))] := hD
              refine lv_isub hx hb dX2_ready_82 ?_
              refine lv_topi (fun y31 ey31 => ?_)
              have qy31_0 : y31.toInt = y27.toInt - y29.toInt := zi_sub ey31 (rfl) (rfl) (by omega) (by omega)
              refine va_iast (D := g.1) hx hb hK hP hD hS 2 0 rfl rfl (vp_in_iff.mpr ⟨by omega, by omega⟩) dX2_ready_83 (fun H locs hP hD hS => ?_)
              have hP : va_P g.1 vwCl [(h3, .inl (zI g, 5, .inl Z1)), (h4, .inl (zI g, 5, .inl Z2)), (h6, .inl (zI g, 5, .inl (upd G1_0 v3_0.toNatClampNeg y31))), (h7, .inl (zI g, 5, .inl G2_0)), (h12, .inl (zI g, 5, .inl Z10)), (h17, .inl (zI g, 20, .inl Z15)), (h0, .inr (2, [.ref h2, .ref h3, .ref h4, .ref h5, .ref h6, .ref h7, .int y26, .int 0, .ref h8, .ref h9, .ref h10, .ref h11])), (h1, .inr (0, [.ref h12, .int f2, .ref h13, .int f3, .ref h14, .ref h15, .ref h16, .ref h17, .ref h18, .ref h19, .int f4])), (h2, .inl (zI g, 5, .inl Z0)), (h14, .inl (zI g, 5, .inl Z12))] H := hP
              have hD : va_D A [(h3, .inl (zI g, 5, .inl Z1)), (h4, .inl (zI g, 5, .inl Z2)), (h6, .inl (zI g, 5, .inl (upd G1_0 v3_0.toNatClampNeg y31))), (h7, .inl (zI g, 5, .inl G2_0)), (h12, .inl (zI g, 5, .inl Z10)), (h17, .inl (zI g, 20, .inl Z15)), (h0, .inr (2, [.ref h2, .ref h3, .ref h4, .ref h5, .ref h6, .ref h7, .int y26, .int 0, .ref h8, .ref h9, .ref h10, .ref h11])), (h1, .inr (0, [.ref h12, .int f2, .ref h13, .int f3, .ref h14, .ref h15, .ref h16, .ref h17, .ref h18, .ref h19, .int f4])), (h2, .inl (zI g, 5, .inl Z0)), (h14, .inl (zI g, 5, .inl Z12))] := hD
              have hI32 : zLmP (zLim f3.toInt Z12 Z15 (zRw f3.toInt Z0) p2.toInt) (v3_0.toInt + 1) (upd G1_0 v3_0.toNatClampNeg y31) := zLmP_put (i := v3_0) hG1_0 rfl (by omega) (rfl) (by rw [zLim_i (by omega) (by omega), zCh_rw (by omega) (by omega)]; omega) (by omega) (by omega)
              obtain ⟨R33, eR33⟩ : ∃ z : Nat → Int32, z = (upd G1_0 v3_0.toNatClampNeg y31) := ⟨_, rfl⟩
              rw [← eR33] at hP hD hI32
              refine lv_aload_n hx hb dX2_ready_84 rfl (lv_at hl 1 rfl) ?_
              refine va_get (D := g.1) (ci := 2) (v := .ref h7) (C := RX2) (T := TX2) (N := 12) hx hb hts zl_X2 hown hK hP 6 rfl rfl 5 (by decide) (hts _ m_f_RX2_27) (fun _ h => h) rfl dX2_ready_85 ?_
              refine lv_iload_n hx hb dX2_ready_88 rfl (lv_at hl 4 rfl) ?_
              refine lv_aload_n hx hb dX2_ready_89 rfl (lv_at hl 1 rfl) ?_
              refine va_get (D := g.1) (ci := 2) (v := .ref h3) (C := RX2) (T := TX2) (N := 12) hx hb hts zl_X2 hown hK hP 6 rfl rfl 1 (by decide) (hts _ m_f_RX2_15) (fun _ h => h) rfl dX2_ready_90 ?_
              refine lv_iload_n hx hb dX2_ready_93 rfl (lv_at hl 4 rfl) ?_
              refine va_iald (D := g.1) hx hb hK hP 0 0 rfl rfl (vp_in_iff.mpr ⟨by omega, by omega⟩) dX2_ready_94 ?_
              refine lv_topi (fun y34 ey34 => ?_)
              have qy34_0 : (-99) ≤ y34.toInt := (i_at (N := 5) (lo := (-99)) (hi := 9999) (i := v3_0) (a := v3_0.toInt) hF_Z1 (rfl) (by omega) (by omega) ey34).1
              have qy34_1 : y34.toInt ≤ 9999 := (i_at (N := 5) (lo := (-99)) (hi := 9999) (i := v3_0) (a := v3_0.toInt) hF_Z1 (rfl) (by omega) (by omega) ey34).2
              have qy34_2 : y34.toInt = (Z1 v3_0.toNatClampNeg).toInt := congrArg Int32.toInt ey34
              refine lv_iload hx hb dX2_ready_95 (lv_at hl 0 rfl) ?_
              refine lv_iconst (v := 4) hx hb dX2_ready_97 (by decide) ?_
              refine lv_icmp_ne (tgt := 110) hx hb dX2_ready_98 (by decide) (fun c_6 => ?_) (fun c_6 => ?_)
              · have i_6 : y6.toInt ≠ 4 := z_ne (rfl) (rfl) c_6
                refine lv_iconst (v := 0) hx hb dX2_ready_110 (by decide) ?_
                refine lv_iadd hx hb dX2_ready_111 ?_
                refine lv_topi (fun y35 ey35 => ?_)
                have qy35_0 : y35.toInt = y34.toInt + 0 := zi_add ey35 (rfl) (rfl) (by omega) (by omega)
                refine va_iast (D := g.1) hx hb hK hP hD hS 3 0 rfl rfl (vp_in_iff.mpr ⟨by omega, by omega⟩) dX2_ready_112 (fun H locs hP hD hS => ?_)
                have hP : va_P g.1 vwCl [(h3, .inl (zI g, 5, .inl Z1)), (h4, .inl (zI g, 5, .inl Z2)), (h6, .inl (zI g, 5, .inl R33)), (h7, .inl (zI g, 5, .inl (upd G2_0 v3_0.toNatClampNeg y35))), (h12, .inl (zI g, 5, .inl Z10)), (h17, .inl (zI g, 20, .inl Z15)), (h0, .inr (2, [.ref h2, .ref h3, .ref h4, .ref h5, .ref h6, .ref h7, .int y26, .int 0, .ref h8, .ref h9, .ref h10, .ref h11])), (h1, .inr (0, [.ref h12, .int f2, .ref h13, .int f3, .ref h14, .ref h15, .ref h16, .ref h17, .ref h18, .ref h19, .int f4])), (h2, .inl (zI g, 5, .inl Z0)), (h14, .inl (zI g, 5, .inl Z12))] H := hP
                have hD : va_D A [(h3, .inl (zI g, 5, .inl Z1)), (h4, .inl (zI g, 5, .inl Z2)), (h6, .inl (zI g, 5, .inl R33)), (h7, .inl (zI g, 5, .inl (upd G2_0 v3_0.toNatClampNeg y35))), (h12, .inl (zI g, 5, .inl Z10)), (h17, .inl (zI g, 20, .inl Z15)), (h0, .inr (2, [.ref h2, .ref h3, .ref h4, .ref h5, .ref h6, .ref h7, .int y26, .int 0, .ref h8, .ref h9, .ref h10, .ref h11])), (h1, .inr (0, [.ref h12, .int f2, .ref h13, .int f3, .ref h14, .ref h15, .ref h16, .ref h17, .ref h18, .ref h19, .int f4])), (h2, .inl (zI g, 5, .inl Z0)), (h14, .inl (zI g, 5, .inl Z12))] := hD
                have hI36 : zMoP (zMon Z10 f3.toInt Z12 (zRw f3.toInt Z1)) (v3_0.toInt + 1) (upd G2_0 v3_0.toNatClampNeg y35) := zMoP_put (i := v3_0) hG2_0 rfl (by omega) (rfl) (by rw [zMon_i (by omega) (by omega), zRw_i (by omega) (by omega), if_neg (by omega)]; omega) (by omega) (by omega)
                obtain ⟨R37, eR37⟩ : ∃ z : Nat → Int32, z = (upd G2_0 v3_0.toNatClampNeg y35) := ⟨_, rfl⟩
                rw [← eR37] at hP hD hI36
                obtain ⟨y38, ey38⟩ : ∃ z : Int32, z = v3_0 + 1 := ⟨_, rfl⟩
                have qy38 : y38.toInt = v3_0.toInt + 1 := zi_add ey38 (rfl) rfl (by omega) (by omega)
                refine lv_iinc (v := y38) (lv' := [(3, .int y38), (4, .int y6), (0, .ref h0), (1, .ref h1), (2, .int p2)]) hx hb dX2_ready_113 hl (k := 4) rfl ey38.symm (by decide) rfl (fun ls hl => ?_)
                have hskb : zSk (zRm f3.toInt Z12 (zRw f3.toInt Z2)) y38.toInt = zSk (zRm f3.toInt Z12 (zRw f3.toInt Z2)) (v3_0.toInt + 1) := by rw [(by omega : y38.toInt = v3_0.toInt + 1)]
                refine lv_goto (tgt := 12) hx hb dX2_ready_116 (by decide) ?_
                have hP := hP.sub (ws' := [(h0, .inr (2, [.ref h2, .ref h3, .ref h4, .ref h5, .ref h6, .ref h7, .int y26, .int 0, .ref h8, .ref h9, .ref h10, .ref h11])), (h1, .inr (0, [.ref h12, .int f2, .ref h13, .int f3, .ref h14, .ref h15, .ref h16, .ref h17, .ref h18, .ref h19, .int f4])), (h2, .inl (zI g, 5, .inl Z0)), (h3, .inl (zI g, 5, .inl Z1)), (h4, .inl (zI g, 5, .inl Z2)), (h6, .inl (zI g, 5, .inl R33)), (h7, .inl (zI g, 5, .inl R37)), (h12, .inl (zI g, 5, .inl Z10)), (h14, .inl (zI g, 5, .inl Z12)), (h17, .inl (zI g, 20, .inl Z15))]) [6, 7, 8, 0, 1, 2, 3, 4, 9, 5] rfl
                have hD := hD.sub (ws' := [(h0, .inr (2, [.ref h2, .ref h3, .ref h4, .ref h5, .ref h6, .ref h7, .int y26, .int 0, .ref h8, .ref h9, .ref h10, .ref h11])), (h1, .inr (0, [.ref h12, .int f2, .ref h13, .int f3, .ref h14, .ref h15, .ref h16, .ref h17, .ref h18, .ref h19, .int f4])), (h2, .inl (zI g, 5, .inl Z0)), (h3, .inl (zI g, 5, .inl Z1)), (h4, .inl (zI g, 5, .inl Z2)), (h6, .inl (zI g, 5, .inl R33)), (h7, .inl (zI g, 5, .inl R37)), (h12, .inl (zI g, 5, .inl Z10)), (h14, .inl (zI g, 5, .inl Z12)), (h17, .inl (zI g, 20, .inl Z15))]) [6, 7, 8, 0, 1, 2, 3, 4, 9, 5] (by decide) rfl
                exact ih1 y38 y26 R33 R37 (zLmP_eq hI32 (by omega)) (zMoP_eq hI36 (by omega)) (by omega) (by omega) (by omega) (by omega) (by omega) (by omega) (by omega) _ _ hP hD hS ls (lv_sub hl [2, 3, 4, 0] rfl)
              · have i_6 : y6.toInt = 4 := z_eq (rfl) (rfl) c_6
                refine lv_aload_n hx hb dX2_ready_101 rfl (lv_at hl 2 rfl) ?_
                refine va_getN (D := g.1) (ci := 0) (v := .ref h12) (C := RX0) (T := TX0) (N := 11) hx hb hts zl_X0 hown hK hP 7 rfl rfl 0 (by decide) (hN.f 2 (q := (RX2, 107, "FishSteps$Books", "law", "[I")) rfl) (fun _ h => h) rfl dX2_ready_102 ?_
                refine lv_iconst (v := 4) hx hb dX2_ready_105 (by decide) ?_
                refine va_iald (D := g.1) hx hb hK hP 4 0 rfl rfl (vp_in_iff.mpr (by decide +kernel)) dX2_ready_106 ?_
                refine lv_topi (fun y39 ey39 => ?_)
                have qy39_0 : 0 ≤ y39.toInt := (iLaw_n (lo := 0) (hi := 99) (i := (4 : Int32)) (a := 4) hF_Z10 (rfl) (by omega) (by omega) ey39 (by decide) (by decide)).1
                have qy39_1 : y39.toInt ≤ 99 := (iLaw_n (lo := 0) (hi := 99) (i := (4 : Int32)) (a := 4) hF_Z10 (rfl) (by omega) (by omega) ey39 (by decide) (by decide)).2
                have qy39_2 : y39.toInt = (Z10 4).toInt := congrArg Int32.toInt ey39
                refine lv_goto (tgt := 111) hx hb dX2_ready_107 (by decide) ?_
                refine lv_iadd hx hb dX2_ready_111 ?_
                refine lv_topi (fun y40 ey40 => ?_)
                have qy40_0 : y40.toInt = y34.toInt + y39.toInt := zi_add ey40 (rfl) (rfl) (by omega) (by omega)
                refine va_iast (D := g.1) hx hb hK hP hD hS 3 0 rfl rfl (vp_in_iff.mpr ⟨by omega, by omega⟩) dX2_ready_112 (fun H locs hP hD hS => ?_)
                have hP : va_P g.1 vwCl [(h3, .inl (zI g, 5, .inl Z1)), (h4, .inl (zI g, 5, .inl Z2)), (h6, .inl (zI g, 5, .inl R33)), (h7, .inl (zI g, 5, .inl (upd G2_0 v3_0.toNatClampNeg y40))), (h12, .inl (zI g, 5, .inl Z10)), (h17, .inl (zI g, 20, .inl Z15)), (h0, .inr (2, [.ref h2, .ref h3, .ref h4, .ref h5, .ref h6, .ref h7, .int y26, .int 0, .ref h8, .ref h9, .ref h10, .ref h11])), (h1, .inr (0, [.ref h12, .int f2, .ref h13, .int f3, .ref h14, .ref h15, .ref h16, .ref h17, .ref h18, .ref h19, .int f4])), (h2, .inl (zI g, 5, .inl Z0)), (h14, .inl (zI g, 5, .inl Z12))] H := hP
                have hD : va_D A [(h3, .inl (zI g, 5, .inl Z1)), (h4, .inl (zI g, 5, .inl Z2)), (h6, .inl (zI g, 5, .inl R33)), (h7, .inl (zI g, 5, .inl (upd G2_0 v3_0.toNatClampNeg y40))), (h12, .inl (zI g, 5, .inl Z10)), (h17, .inl (zI g, 20, .inl Z15)), (h0, .inr (2, [.ref h2, .ref h3, .ref h4, .ref h5, .ref h6, .ref h7, .int y26, .int 0, .ref h8, .ref h9, .ref h10, .ref h11])), (h1, .inr (0, [.ref h12, .int f2, .ref h13, .int f3, .ref h14, .ref h15, .ref h16, .ref h17, .ref h18, .ref h19, .int f4])), (h2, .inl (zI g, 5, .inl Z0)), (h14, .inl (zI g, 5, .inl Z12))] := hD
                have hI41 : zMoP (zMon Z10 f3.toInt Z12 (zRw f3.toInt Z1)) (v3_0.toInt + 1) (upd G2_0 v3_0.toNatClampNeg y40) := zMoP_put (i := v3_0) hG2_0 rfl (by omega) (rfl) (by rw [zMon_i (by omega) (by omega), zRw_i (by omega) (by omega), if_pos (by omega)]; omega) (by omega) (by omega)
                obtain ⟨R42, eR42⟩ : ∃ z : Nat → Int32, z = (upd G2_0 v3_0.toNatClampNeg y40) := ⟨_, rfl⟩
                rw [← eR42] at hP hD hI41
                obtain ⟨y43, ey43⟩ : ∃ z : Int32, z = v3_0 + 1 := ⟨_, rfl⟩
                have qy43 : y43.toInt = v3_0.toInt + 1 := zi_add ey43 (rfl) rfl (by omega) (by omega)
                refine lv_iinc (v := y43) (lv' := [(3, .int y43), (4, .int y6), (0, .ref h0), (1, .ref h1), (2, .int p2)]) hx hb dX2_ready_113 hl (k := 4) rfl ey43.symm (by decide) rfl (fun ls hl => ?_)
                have hskb : zSk (zRm f3.toInt Z12 (zRw f3.toInt Z2)) y43.toInt = zSk (zRm f3.toInt Z12 (zRw f3.toInt Z2)) (v3_0.toInt + 1) := by rw [(by omega : y43.toInt = v3_0.toInt + 1)]
                refine lv_goto (tgt := 12) hx hb dX2_ready_116 (by decide) ?_
                have hP := hP.sub (ws' := [(h0, .inr (2, [.ref h2, .ref h3, .ref h4, .ref h5, .ref h6, .ref h7, .int y26, .int 0, .ref h8, .ref h9, .ref h10, .ref h11])), (h1, .inr (0, [.ref h12, .int f2, .ref h13, .int f3, .ref h14, .ref h15, .ref h16, .ref h17, .ref h18, .ref h19, .int f4])), (h2, .inl (zI g, 5, .inl Z0)), (h3, .inl (zI g, 5, .inl Z1)), (h4, .inl (zI g, 5, .inl Z2)), (h6, .inl (zI g, 5, .inl R33)), (h7, .inl (zI g, 5, .inl R42)), (h12, .inl (zI g, 5, .inl Z10)), (h14, .inl (zI g, 5, .inl Z12)), (h17, .inl (zI g, 20, .inl Z15))]) [6, 7, 8, 0, 1, 2, 3, 4, 9, 5] rfl
                have hD := hD.sub (ws' := [(h0, .inr (2, [.ref h2, .ref h3, .ref h4, .ref h5, .ref h6, .ref h7, .int y26, .int 0, .ref h8, .ref h9, .ref h10, .ref h11])), (h1, .inr (0, [.ref h12, .int f2, .ref h13, .int f3, .ref h14, .ref h15, .ref h16, .ref h17, .ref h18, .ref h19, .int f4])), (h2, .inl (zI g, 5, .inl Z0)), (h3, .inl (zI g, 5, .inl Z1)), (h4, .inl (zI g, 5, .inl Z2)), (h6, .inl (zI g, 5, .inl R33)), (h7, .inl (zI g, 5, .inl R42)), (h12, .inl (zI g, 5, .inl Z10)), (h14, .inl (zI g, 5, .inl Z12)), (h17, .inl (zI g, 20, .inl Z15))]) [6, 7, 8, 0, 1, 2, 3, 4, 9, 5] (by decide) rfl
                exact ih1 y43 y26 R33 R42 (zLmP_eq hI32 (by omega)) (zMoP_eq hI41 (by omega)) (by omega) (by omega) (by omega) (by omega) (by omega) (by omega) (by omega) _ _ hP hD hS ls (lv_sub hl [2, 3, 4, 0] rfl)
          · have i_3 : y6.toInt = 2 := z_eq (rfl) (rfl) c_3
            refine lv_iconst (v := 2) hx hb dX2_ready_45 (by decide) ?_
            refine lv_goto (tgt := 50) hx hb dX2_ready_46 (by decide) ?_
            refine lv_icmp_ge (tgt := 65) hx hb dX2_ready_50 (by decide) (fun c_7 => ?_) (fun c_7 => ?_)
            · have i_7 : 2 ≤ y7.toInt := z_le (rfl) (rfl) c_7
              have hcap : zCap Z12 v3_0.toNatClampNeg = 2 := zCap_2 (by omega)
              have hrm : (zRm f3.toInt Z12 (zRw f3.toInt Z2)) v3_0.toNatClampNeg = 0 := zRm_i0 (i := v3_0) (by omega) (by omega) hcap (by omega)
              have hsk : zSk (zRm f3.toInt Z12 (zRw f3.toInt Z2)) (v3_0.toInt + 1) = zSk (zRm f3.toInt Z12 (zRw f3.toInt Z2)) v3_0.toInt := zSk_n (by omega) (by omega) hrm
              refine lv_aload_n hx hb dX2_ready_65 rfl (lv_at hl 1 rfl) ?_
              refine va_get (D := g.1) (ci := 2) (v := .ref h6) (C := RX2) (T := TX2) (N := 12) hx hb hts zl_X2 hown hK hP 0 rfl rfl 4 (by decide) (hts _ m_f_RX2_24) (fun _ h => h) rfl dX2_ready_66 ?_
              refine lv_iload_n hx hb dX2_ready_69 rfl (lv_at hl 4 rfl) ?_
              refine lv_aload_n hx hb dX2_ready_70 rfl (lv_at hl 2 rfl) ?_
              refine lv_iload_n hx hb dX2_ready_71 rfl (lv_at hl 4 rfl) ?_
              refine lv_iload_n hx hb dX2_ready_72 rfl (lv_at hl 3 rfl) ?_
              refine z_calli (wr := [(h0, .inr (2, [.ref h2, .ref h3, .ref h4, .ref h5, .ref h6, .ref h7, .int g0_0, .int 0, .ref h8, .ref h9, .ref h10, .ref h11])), (h2, .inl (zI g, 5, .inl Z0)), (h3, .inl (zI g, 5, .inl Z1)), (h4, .inl (zI g, 5, .inl Z2)), (h6, .inl (zI g, 5, .inl G1_0)), (h7, .inl (zI g, 5, .inl G2_0)), (h12, .inl (zI g, 5, .inl Z10)), (h14, .inl (zI g, 5, .inl Z12))]) hP hD hS hA [1, 9] [0, 2, 3, 4, 5, 6, 7, 8] (by decide) rfl rfl (by decide) (va_runVN (As := [.int v3_0, .int p2]) (rest := [.int v3_0, .ref h6]) ⟨hx, hb, hml, hown, hts⟩ (gX0_worthOf l g h1 h12 h13 h14 h15 h16 h17 h18 h19 H.size v3_0 p2 f2 f3 f4 Z15 (by constructor <;> omega) (by constructor <;> omega) (by constructor <;> omega) hF_Z15) ⟨va_cnB 2 hts (zGood m_o_yX0_worthOf) rfl rfl rfl (hN.m 15 (q := (RX2, 137, yX0_worthOf)) rfl) (hts _ m_z_RX0) ⟨by decide +kernel, by decide +kernel, by decide +kernel⟩ ⟨Nat.le_of_ble_eq_true rfl, Nat.le_of_ble_eq_true rfl⟩, hts _ m_i_yX0_worthOf, hts _ m_e_yX0_worthOf⟩ (zPreV hK hN hZ hP hD hS hA [1, 9] (by decide) rfl rfl 0 1 rfl rfl) rfl rfl hl.1 rfl (lv_room (Nat.le_of_ble_eq_true rfl)) dX2_ready_73 ⟨Nat.le_of_ble_eq_true rfl, Nat.le_of_ble_eq_true rfl⟩) (fun r u H locs hw hP hD hS => ?_)
              obtain ⟨y44, rfl⟩ : ∃ z, z = r := ⟨_, rfl⟩
              obtain ⟨q45_0, q45_1, q45_2⟩ := hw
              have q45_0 : y44.toInt = zWq f3.toInt Z15 v3_0.toInt p2.toInt := q45_0
              have q45_1 : 0 ≤ y44.toInt := q45_1
              have q45_2 : y44.toInt ≤ 99 := q45_2
              have hP : va_P g.1 vwCl [(h0, .inr (2, [.ref h2, .ref h3, .ref h4, .ref h5, .ref h6, .ref h7, .int g0_0, .int 0, .ref h8, .ref h9, .ref h10, .ref h11])), (h2, .inl (zI g, 5, .inl Z0)), (h3, .inl (zI g, 5, .inl Z1)), (h4, .inl (zI g, 5, .inl Z2)), (h6, .inl (zI g, 5, .inl G1_0)), (h7, .inl (zI g, 5, .inl G2_0)), (h12, .inl (zI g, 5, .inl Z10)), (h14, .inl (zI g, 5, .inl Z12)), (h1, .inr (0, [.ref h12, .int f2, .ref h13, .int f3, .ref h14, .ref h15, .ref h16, .ref h17, .ref h18, .ref h19, .int f4])), (h17, .inl (zI g, 20, .inl Z15))] H := hP
              have hD : va_D A [(h0, .inr (2, [.ref h2, .ref h3, .ref h4, .ref h5, .ref h6, .ref h7, .int g0_0, .int 0, .ref h8, .ref h9, .ref h10, .ref h11])), (h2, .inl (zI g, 5, .inl Z0)), (h3, .inl (zI g, 5, .inl Z1)), (h4, .inl (zI g, 5, .inl Z2)), (h6, .inl (zI g, 5, .inl G1_0)), (h7, .inl (zI g, 5, .inl G2_0)), (h12, .inl (zI g, 5, .inl Z10)), (h14, .inl (zI g, 5, .inl Z12)), (h1, .inr (0, [.ref h12, .int f2, .ref h13, .int f3, .ref h14, .ref h15, .ref h16, .ref h17, .ref h18, .ref h19, .int f4])), (h17, .inl (zI g, 20, .inl Z15))] := hD
              refine lv_aload_n hx hb dX2_ready_76 rfl (lv_at hl 1 rfl) ?_
              refine lv_aload_n hx hb dX2_ready_77 rfl (lv_at hl 2 rfl) ?_
              refine lv_iload_n hx hb dX2_ready_78 rfl (lv_at hl 4 rfl) ?_
              have : (0 : Int32).toInt = 0 := rfl
              refine z_calli (wr := [(h3, .inl (zI g, 5, .inl Z1)), (h4, .inl (zI g, 5, .inl Z2)), (h6, .inl (zI g, 5, .inl G1_0)), (h7, .inl (zI g, 5, .inl G2_0)), (h12, .inl (zI g, 5, .inl Z10)), (h17, .inl (zI g, 20, .inl Z15))]) hP hD hS hA [0, 8, 1, 7] [2, 3, 4, 5, 6, 9] (by decide) rfl rfl (by decide) (va_runV (As := [.ref h1, .int v3_0]) (rest := [.int y44, .int v3_0, .ref h6]) ⟨hx, hb, hml, hown, hts⟩ (gX2_charge l g h0 h1 h2 h3 h4 h5 h6 h7 h8 h9 h10 h11 h12 h13 h14 h15 h16 h17 h18 h19 H.size v3_0 g0_0 (0 : Int32) f2 f3 f4 Z0 Z12 (by omega) (by omega) (by constructor <;> omega) (by constructor <;> omega) (by constructor <;> omega) hF_Z0 hF_Z12) ⟨callB_of 2 hts (zGood m_o_yX2_charge) rfl rfl rfl (hts _ m_z_RX2) (hts _ m_m_RX2_143) ⟨by decide +kernel, by decide +kernel, by decide +kernel⟩ ⟨Nat.le_of_ble_eq_true rfl, Nat.le_of_ble_eq_true rfl⟩, hts _ m_i_yX2_charge, hts _ m_e_yX2_charge⟩ (zPreV hK hN hZ hP hD hS hA [0, 8, 1, 7] (by decide) rfl rfl 2 0 rfl rfl) rfl rfl hl.1 rfl (lv_room (Nat.le_of_ble_eq_true rfl)) dX2_ready_79 ⟨Nat.le_of_ble_eq_true rfl, Nat.le_of_ble_eq_true rfl⟩) (fun r u H locs hw hP hD hS => ?_)
              obtain ⟨y46, rfl⟩ : ∃ z, z = r := ⟨_, rfl⟩
              obtain ⟨q47_0, q47_1, q47_2⟩ := hw
              have q47_0 : y46.toInt = zCh Z12 (zIv Z0) v3_0.toNatClampNeg := q47_0
              have q47_1 : 0 ≤ y46.toInt := q47_1
              have q47_2 : y46.toInt ≤ 40 := q47_2
              have hP : va_P g.1 vwCl [(h3, .inl (zI g, 5, .inl Z1)), (h4, .inl (zI g, 5, .inl Z2)), (h6, .inl (zI g, 5, .inl G1_0)), (h7, .inl (zI g, 5, .inl G2_0)), (h12, .inl (zI g, 5, .inl Z10)), (h17, .inl (zI g, 20, .inl Z15)), (h0, .inr (2, [.ref h2, .ref h3, .ref h4, .ref h5, .ref h6, .ref h7, .int g0_0, .int 0, .ref h8, .ref h9, .ref h10, .ref h11])), (h1, .inr (0, [.ref h12, .int f2, .ref h13, .int f3, .ref h14, .ref h15, .ref h16, .ref h17, .ref h18, .ref h19, .int f4])), (h2, .inl (zI g, 5, .inl Z0)), (h14, .inl (zI g, 5, .inl Z12))] H := hP
              have hD : va_D A [(h3, .inl (zI g, 5, .inl Z1)), (h4, .inl (zI g, 5, .inl Z2)), (h6, .inl (zI g, 5, .inl G1_0)), (h7, .inl (zI g, 5, .inl G2_0)), (h12, .inl (zI g, 5, .inl Z10)), (h17, .inl (zI g, 20, .inl Z15)), (h0, .inr (2, [.ref h2, .ref h3, .ref h4, .ref h5, .ref h6, .ref h7, .int g0_0, .int 0, .ref h8, .ref h9, .ref h10, .ref h11])), (h1, .inr (0, [.ref h12, .int f2, .ref h13, .int f3, .ref h14, .ref h15, .ref h16, .ref h17, .ref h18, .ref h19, .int f4])), (h2, .inl (zI g, 5, .inl Z0)), (h14, .inl (zI g, 5, .inl Z12))] := hD
              refine lv_isub hx hb dX2_ready_82 ?_
              refine lv_topi (fun y48 ey48 => ?_)
              have qy48_0 : y48.toInt = y44.toInt - y46.toInt := zi_sub ey48 (rfl) (rfl) (by omega) (by omega)
              refine va_iast (D := g.1) hx hb hK hP hD hS 2 0 rfl rfl (vp_in_iff.mpr ⟨by omega, by omega⟩) dX2_ready_83 (fun H locs hP hD hS => ?_)
              have hP : va_P g.1 vwCl [(h3, .inl (zI g, 5, .inl Z1)), (h4, .inl (zI g, 5, .inl Z2)), (h6, .inl (zI g, 5, .inl (upd G1_0 v3_0.toNatClampNeg y48))), (h7, .inl (zI g, 5, .inl G2_0)), (h12, .inl (zI g, 5, .inl Z10)), (h17, .inl (zI g, 20, .inl Z15)), (h0, .inr (2, [.ref h2, .ref h3, .ref h4, .ref h5, .ref h6, .ref h7, .int g0_0, .int 0, .ref h8, .ref h9, .ref h10, .ref h11])), (h1, .inr (0, [.ref h12, .int f2, .ref h13, .int f3, .ref h14, .ref h15, .ref h16, .ref h17, .ref h18, .ref h19, .int f4])), (h2, .inl (zI g, 5, .inl Z0)), (h14, .inl (zI g, 5, .inl Z12))] H := hP
              have hD : va_D A [(h3, .inl (zI g, 5, .inl Z1)), (h4, .inl (zI g, 5, .inl Z2)), (h6, .inl (zI g, 5, .inl (upd G1_0 v3_0.toNatClampNeg y48))), (h7, .inl (zI g, 5, .inl G2_0)), (h12, .inl (zI g, 5, .inl Z10)), (h17, .inl (zI g, 20, .inl Z15)), (h0, .inr (2, [.ref h2, .ref h3, .ref h4, .ref h5, .ref h6, .ref h7, .int g0_0, .int 0, .ref h8, .ref h9, .ref h10, .ref h11])), (h1, .inr (0, [.ref h12, .int f2, .ref h13, .int f3, .ref h14, .ref h15, .ref h16, .ref h17, .ref h18, .ref h19, .int f4])), (h2, .inl (zI g, 5, .inl Z0)), (h14, .inl (zI g, 5, .inl Z12))] := hD
              have hI49 : zLmP (zLim f3.toInt Z12 Z15 (zRw f3.toInt Z0) p2.toInt) (v3_0.toInt + 1) (upd G1_0 v3_0.toNatClampNeg y48) := zLmP_put (i := v3_0) hG1_0 rfl (by omega) (rfl) (by rw [zLim_i (by omega) (by omega), zCh_rw (by omega) (by omega)]; omega) (by omega) (by omega)
              obtain ⟨R50, eR50⟩ : ∃ z : Nat → Int32, z = (upd G1_0 v3_0.toNatClampNeg y48) := ⟨_, rfl⟩
              rw [← eR50] at hP hD hI49
              refine lv_aload_n hx hb dX2_ready_84 rfl (lv_at hl 1 rfl) ?_
              refine va_get (D := g.1) (ci := 2) (v := .ref h7) (C := RX2) (T := TX2) (N := 12) hx hb hts zl_X2 hown hK hP 6 rfl rfl 5 (by decide) (hts _ m_f_RX2_27) (fun _ h => h) rfl dX2_ready_85 ?_
              refine lv_iload_n hx hb dX2_ready_88 rfl (lv_at hl 4 rfl) ?_
              refine lv_aload_n hx hb dX2_ready_89 rfl (lv_at hl 1 rfl) ?_
              refine va_get (D := g.1) (ci := 2) (v := .ref h3) (C := RX2) (T := TX2) (N := 12) hx hb hts zl_X2 hown hK hP 6 rfl rfl 1 (by decide) (hts _ m_f_RX2_15) (fun _ h => h) rfl dX2_ready_90 ?_
              refine lv_iload_n hx hb dX2_ready_93 rfl (lv_at hl 4 rfl) ?_
              refine va_iald (D := g.1) hx hb hK hP 0 0 rfl rfl (vp_in_iff.mpr ⟨by omega, by omega⟩) dX2_ready_94 ?_
              refine lv_topi (fun y51 ey51 => ?_)
              have qy51_0 : (-99) ≤ y51.toInt := (i_at (N := 5) (lo := (-99)) (hi := 9999) (i := v3_0) (a := v3_0.toInt) hF_Z1 (rfl) (by omega) (by omega) ey51).1
              have qy51_1 : y51.toInt ≤ 9999 := (i_at (N := 5) (lo := (-99)) (hi := 9999) (i := v3_0) (a := v3_0.toInt) hF_Z1 (rfl) (by omega) (by omega) ey51).2
              have qy51_2 : y51.toInt = (Z1 v3_0.toNatClampNeg).toInt := congrArg Int32.toInt ey51
              refine lv_iload hx hb dX2_ready_95 (lv_at hl 0 rfl) ?_
              refine lv_iconst (v := 4) hx hb dX2_ready_97 (by decide) ?_
              refine lv_icmp_ne (tgt := 110) hx hb dX2_ready_98 (by decide) (fun c_8 => ?_) (fun c_8 => absurd (show y6.toInt = 4 from z_eq (rfl) (rfl) c_8) (by omega))
              have i_8 : y6.toInt ≠ 4 := z_ne (rfl) (rfl) c_8
              refine lv_iconst (v := 0) hx hb dX2_ready_110 (by decide) ?_
              refine lv_iadd hx hb dX2_ready_111 ?_
              refine lv_topi (fun y52 ey52 => ?_)
              have qy52_0 : y52.toInt = y51.toInt + 0 := zi_add ey52 (rfl) (rfl) (by omega) (by omega)
              refine va_iast (D := g.1) hx hb hK hP hD hS 3 0 rfl rfl (vp_in_iff.mpr ⟨by omega, by omega⟩) dX2_ready_112 (fun H locs hP hD hS => ?_)
              have hP : va_P g.1 vwCl [(h3, .inl (zI g, 5, .inl Z1)), (h4, .inl (zI g, 5, .inl Z2)), (h6, .inl (zI g, 5, .inl R50)), (h7, .inl (zI g, 5, .inl (upd G2_0 v3_0.toNatClampNeg y52))), (h12, .inl (zI g, 5, .inl Z10)), (h17, .inl (zI g, 20, .inl Z15)), (h0, .inr (2, [.ref h2, .ref h3, .ref h4, .ref h5, .ref h6, .ref h7, .int g0_0, .int 0, .ref h8, .ref h9, .ref h10, .ref h11])), (h1, .inr (0, [.ref h12, .int f2, .ref h13, .int f3, .ref h14, .ref h15, .ref h16, .ref h17, .ref h18, .ref h19, .int f4])), (h2, .inl (zI g, 5, .inl Z0)), (h14, .inl (zI g, 5, .inl Z12))] H := hP
              have hD : va_D A [(h3, .inl (zI g, 5, .inl Z1)), (h4, .inl (zI g, 5, .inl Z2)), (h6, .inl (zI g, 5, .inl R50)), (h7, .inl (zI g, 5, .inl (upd G2_0 v3_0.toNatClampNeg y52))), (h12, .inl (zI g, 5, .inl Z10)), (h17, .inl (zI g, 20, .inl Z15)), (h0, .inr (2, [.ref h2, .ref h3, .ref h4, .ref h5, .ref h6, .ref h7, .int g0_0, .int 0, .ref h8, .ref h9, .ref h10, .ref h11])), (h1, .inr (0, [.ref h12, .int f2, .ref h13, .int f3, .ref h14, .ref h15, .ref h16, .ref h17, .ref h18, .ref h19, .int f4])), (h2, .inl (zI g, 5, .inl Z0)), (h14, .inl (zI g, 5, .inl Z12))] := hD
              have hI53 : zMoP (zMon Z10 f3.toInt Z12 (zRw f3.toInt Z1)) (v3_0.toInt + 1) (upd G2_0 v3_0.toNatClampNeg y52) := zMoP_put (i := v3_0) hG2_0 rfl (by omega) (rfl) (by rw [zMon_i (by omega) (by omega), zRw_i (by omega) (by omega), if_neg (by omega)]; omega) (by omega) (by omega)
              obtain ⟨R54, eR54⟩ : ∃ z : Nat → Int32, z = (upd G2_0 v3_0.toNatClampNeg y52) := ⟨_, rfl⟩
              rw [← eR54] at hP hD hI53
              obtain ⟨y55, ey55⟩ : ∃ z : Int32, z = v3_0 + 1 := ⟨_, rfl⟩
              have qy55 : y55.toInt = v3_0.toInt + 1 := zi_add ey55 (rfl) rfl (by omega) (by omega)
              refine lv_iinc (v := y55) (lv' := [(3, .int y55), (4, .int y6), (0, .ref h0), (1, .ref h1), (2, .int p2)]) hx hb dX2_ready_113 hl (k := 4) rfl ey55.symm (by decide) rfl (fun ls hl => ?_)
              have hskb : zSk (zRm f3.toInt Z12 (zRw f3.toInt Z2)) y55.toInt = zSk (zRm f3.toInt Z12 (zRw f3.toInt Z2)) (v3_0.toInt + 1) := by rw [(by omega : y55.toInt = v3_0.toInt + 1)]
              refine lv_goto (tgt := 12) hx hb dX2_ready_116 (by decide) ?_
              have hP := hP.sub (ws' := [(h0, .inr (2, [.ref h2, .ref h3, .ref h4, .ref h5, .ref h6, .ref h7, .int g0_0, .int 0, .ref h8, .ref h9, .ref h10, .ref h11])), (h1, .inr (0, [.ref h12, .int f2, .ref h13, .int f3, .ref h14, .ref h15, .ref h16, .ref h17, .ref h18, .ref h19, .int f4])), (h2, .inl (zI g, 5, .inl Z0)), (h3, .inl (zI g, 5, .inl Z1)), (h4, .inl (zI g, 5, .inl Z2)), (h6, .inl (zI g, 5, .inl R50)), (h7, .inl (zI g, 5, .inl R54)), (h12, .inl (zI g, 5, .inl Z10)), (h14, .inl (zI g, 5, .inl Z12)), (h17, .inl (zI g, 20, .inl Z15))]) [6, 7, 8, 0, 1, 2, 3, 4, 9, 5] rfl
              have hD := hD.sub (ws' := [(h0, .inr (2, [.ref h2, .ref h3, .ref h4, .ref h5, .ref h6, .ref h7, .int g0_0, .int 0, .ref h8, .ref h9, .ref h10, .ref h11])), (h1, .inr (0, [.ref h12, .int f2, .ref h13, .int f3, .ref h14, .ref h15, .ref h16, .ref h17, .ref h18, .ref h19, .int f4])), (h2, .inl (zI g, 5, .inl Z0)), (h3, .inl (zI g, 5, .inl Z1)), (h4, .inl (zI g, 5, .inl Z2)), (h6, .inl (zI g, 5, .inl R50)), (h7, .inl (zI g, 5, .inl R54)), (h12, .inl (zI g, 5, .inl Z10)), (h14, .inl (zI g, 5, .inl Z12)), (h17, .inl (zI g, 20, .inl Z15))]) [6, 7, 8, 0, 1, 2, 3, 4, 9, 5] (by decide) rfl
              exact ih1 y55 g0_0 R50 R54 (zLmP_eq hI49 (by omega)) (zMoP_eq hI53 (by omega)) (by omega) (by omega) (by omega) (by omega) (by omega) (by omega) (by omega) _ _ hP hD hS ls (lv_sub hl [2, 3, 4, 0] rfl)
            · have i_7 : y7.toInt < 2 := z_nle (rfl) (rfl) c_7
              refine lv_aload_n hx hb dX2_ready_53 rfl (lv_at hl 1 rfl) ?_
              refine lv_dup hx hb dX2_ready_54 rfl ?_
              refine va_get (D := g.1) (ci := 2) (v := .int g0_0) (C := RX2) (T := TX2) (N := 12) hx hb hts zl_X2 hown hK hP 0 rfl rfl 6 (by decide) (hts _ m_f_RX2_30) (fun _ h => h) rfl dX2_ready_55 ?_
              refine lv_iconst (v := 1) hx hb dX2_ready_58 (by decide) ?_
              refine lv_iload_n hx hb dX2_ready_59 rfl (lv_at hl 4 rfl) ?_
              refine lv_ishl hx hb dX2_ready_60 ?_
              refine lv_topi (fun y56 ey56 => ?_)
              have qy56_0 : 1 ≤ y56.toInt := (zi_shl 4 ey56 (rfl) (by omega) (by omega) (by decide)).1
              have qy56_1 : y56.toInt ≤ 16 := (zi_shl 4 ey56 (rfl) (by omega) (by omega) (by decide)).2
              have hskr := zSk_r (f := (zRm f3.toInt Z12 (zRw f3.toInt Z2))) zRm_01 (k := v3_0.toInt) (by omega) (by omega)
              refine lv_ior hx hb dX2_ready_61 ?_
              refine lv_topi (fun y57 ey57 => ?_)
              have qy57_0 : g0_0.toInt ≤ y57.toInt := (zi_or ey57 (rfl) (rfl) (by omega) (by omega) (by omega) (by omega)).1
              have qy57_1 : y56.toInt ≤ y57.toInt := (zi_or ey57 (rfl) (rfl) (by omega) (by omega) (by omega) (by omega)).2.1
              have qy57_2 : y57.toInt ≤ 31 := (zi_or ey57 (rfl) (rfl) (by omega) (by omega) (by omega) (by omega)).2.2
              have py57_0 : y57.toInt = g0_0.toInt + zP2 v3_0.toInt := zor_bit ey57 ey56 rfl (by omega) (by omega) (by omega) (by omega)
              refine va_put (D := g.1) (ci := 2) (v := .int y57) (ty := .int) (C := RX2) (T := TX2) (N := 12) hx hb hts zl_X2 tyX2 tyX2_ok nmX2 hown hK hP hD hS 0 rfl rfl 6 (by decide) (hts _ m_f_RX2_30) (fun _ h => h) rfl (by decide +kernel) rfl rfl (Nat.le_of_ble_eq_true rfl) dX2_ready_62 (fun H locs hP hD hS => ?_)
              have hP : va_P g.1 vwCl [(h0, .inr (2, [.ref h2, .ref h3, .ref h4, .ref h5, .ref h6, .ref h7, .int y57, .int 0, .ref h8, .ref h9, .ref h10, .ref h11])), (h1, .inr (0, [.ref h12, .int f2, .ref h13, .int f3, .ref h14, .ref h15, .ref h16, .ref h17, .ref h18, .ref h19, .int f4])), (h2, .inl (zI g, 5, .inl Z0)), (h3, .inl (zI g, 5, .inl Z1)), (h4, .inl (zI g, 5, .inl Z2)), (h6, .inl (zI g, 5, .inl G1_0)), (h7, .inl (zI g, 5, .inl G2_0)), (h12, .inl (zI g, 5, .inl Z10)), (h14, .inl (zI g, 5, .inl Z12)), (h17, .inl (zI g, 20, .inl Z15))] H := hP
              have hD : va_D A [(h0, .inr (2, [.ref h2, .ref h3, .ref h4, .ref h5, .ref h6, .ref h7, .int y57, .int 0, .ref h8, .ref h9, .ref h10, .ref h11])), (h1, .inr (0, [.ref h12, .int f2, .ref h13, .int f3, .ref h14, .ref h15, .ref h16, .ref h17, .ref h18, .ref h19, .int f4])), (h2, .inl (zI g, 5, .inl Z0)), (h3, .inl (zI g, 5, .inl Z1)), (h4, .inl (zI g, 5, .inl Z2)), (h6, .inl (zI g, 5, .inl G1_0)), (h7, .inl (zI g, 5, .inl G2_0)), (h12, .inl (zI g, 5, .inl Z10)), (h14, .inl (zI g, 5, .inl Z12)), (h17, .inl (zI g, 20, .inl Z15))] := hD
              have hcap : zCap Z12 v3_0.toNatClampNeg = 2 := zCap_2 (by omega)
              have hrm : (zRm f3.toInt Z12 (zRw f3.toInt Z2)) v3_0.toNatClampNeg = 1 := zRm_i1 (i := v3_0) (by omega) (by omega) hcap (by omega)
              have hsk : zSk (zRm f3.toInt Z12 (zRw f3.toInt Z2)) (v3_0.toInt + 1) = zSk (zRm f3.toInt Z12 (zRw f3.toInt Z2)) v3_0.toInt + zP2 v3_0.toInt := zSk_1 (by omega) (by omega) hrm
              refine lv_aload_n hx hb dX2_ready_65 rfl (lv_at hl 1 rfl) ?_
              refine va_get (D := g.1) (ci := 2) (v := .ref h6) (C := RX2) (T := TX2) (N := 12) hx hb hts zl_X2 hown hK hP 0 rfl rfl 4 (by decide) (hts _ m_f_RX2_24) (fun _ h => h) rfl dX2_ready_66 ?_
              refine lv_iload_n hx hb dX2_ready_69 rfl (lv_at hl 4 rfl) ?_
              refine lv_aload_n hx hb dX2_ready_70 rfl (lv_at hl 2 rfl) ?_
              refine lv_iload_n hx hb dX2_ready_71 rfl (lv_at hl 4 rfl) ?_
              refine lv_iload_n hx hb dX2_ready_72 rfl (lv_at hl 3 rfl) ?_
              refine z_calli (wr := [(h0, .inr (2, [.ref h2, .ref h3, .ref h4, .ref h5, .ref h6, .ref h7, .int y57, .int 0, .ref h8, .ref h9, .ref h10, .ref h11])), (h2, .inl (zI g, 5, .inl Z0)), (h3, .inl (zI g, 5, .inl Z1)), (h4, .inl (zI g, 5, .inl Z2)), (h6, .inl (zI g, 5, .inl G1_0)), (h7, .inl (zI g, 5, .inl G2_0)), (h12, .inl (zI g, 5, .inl Z10)), (h14, .inl (zI g, 5, .inl Z12))]) hP hD hS hA [1, 9] [0, 2, 3, 4, 5, 6, 7, 8] (by decide) rfl rfl (by decide) (va_runVN (As := [.int v3_0, .int p2]) (rest := [.int v3_0, .ref h6]) ⟨hx, hb, hml, hown, hts⟩ (gX0_worthOf l g h1 h12 h13 h14 h15 h16 h17 h18 h19 H.size v3_0 p2 f2 f3 f4 Z15 (by constructor <;> omega) (by constructor <;> omega) (by constructor <;> omega) hF_Z15) ⟨va_cnB 2 hts (zGood m_o_yX0_worthOf) rfl rfl rfl (hN.m 15 (q := (RX2, 137, yX0_worthOf)) rfl) (hts _ m_z_RX0) ⟨by decide +kernel, by decide +kernel, by decide +kernel⟩ ⟨Nat.le_of_ble_eq_true rfl, Nat.le_of_ble_eq_true rfl⟩, hts _ m_i_yX0_worthOf, hts _ m_e_yX0_worthOf⟩ (zPreV hK hN hZ hP hD hS hA [1, 9] (by decide) rfl rfl 0 1 rfl rfl) rfl rfl hl.1 rfl (lv_room (Nat.le_of_ble_eq_true rfl)) dX2_ready_73 ⟨Nat.le_of_ble_eq_true rfl, Nat.le_of_ble_eq_true rfl⟩) (fun r u H locs hw hP hD hS => ?_)
              obtain ⟨y58, rfl⟩ : ∃ z, z = r := ⟨_, rfl⟩
              obtain ⟨q59_0, q59_1, q59_2⟩ := hw
              have q59_0 : y58.toInt = zWq f3.toInt Z15 v3_0.toInt p2.toInt := q59_0
              have q59_1 : 0 ≤ y58.toInt := q59_1
              have q59_2 : y58.toInt ≤ 99 := q59_2
              have hP : va_P g.1 vwCl [(h0, .inr (2, [.ref h2, .ref h3, .ref h4, .ref h5, .ref h6, .ref h7, .int y57, .int 0, .ref h8, .ref h9, .ref h10, .ref h11])), (h2, .inl (zI g, 5, .inl Z0)), (h3, .inl (zI g, 5, .inl Z1)), (h4, .inl (zI g, 5, .inl Z2)), (h6, .inl (zI g, 5, .inl G1_0)), (h7, .inl (zI g, 5, .inl G2_0)), (h12, .inl (zI g, 5, .inl Z10)), (h14, .inl (zI g, 5, .inl Z12)), (h1, .inr (0, [.ref h12, .int f2, .ref h13, .int f3, .ref h14, .ref h15, .ref h16, .ref h17, .ref h18, .ref h19, .int f4])), (h17, .inl (zI g, 20, .inl Z15))] H := hP
              have hD : va_D A [(h0, .inr (2, [.ref h2, .ref h3, .ref h4, .ref h5, .ref h6, .ref h7, .int y57, .int 0, .ref h8, .ref h9, .ref h10, .ref h11])), (h2, .inl (zI g, 5, .inl Z0)), (h3, .inl (zI g, 5, .inl Z1)), (h4, .inl (zI g, 5, .inl Z2)), (h6, .inl (zI g, 5, .inl G1_0)), (h7, .inl (zI g, 5, .inl G2_0)), (h12, .inl (zI g, 5, .inl Z10)), (h14, .inl (zI g, 5, .inl Z12)), (h1, .inr (0, [.ref h12, .int f2, .ref h13, .int f3, .ref h14, .ref h15, .ref h16, .ref h17, .ref h18, .ref h19, .int f4])), (h17, .inl (zI g, 20, .inl Z15))] := hD
              refine lv_aload_n hx hb dX2_ready_76 rfl (lv_at hl 1 rfl) ?_
              refine lv_aload_n hx hb dX2_ready_77 rfl (lv_at hl 2 rfl) ?_
              refine lv_iload_n hx hb dX2_ready_78 rfl (lv_at hl 4 rfl) ?_
              have : (0 : Int32).toInt = 0 := rfl
              refine z_calli (wr := [(h3, .inl (zI g, 5, .inl Z1)), (h4, .inl (zI g, 5, .inl Z2)), (h6, .inl (zI g, 5, .inl G1_0)), (h7, .inl (zI g, 5, .inl G2_0)), (h12, .inl (zI g, 5, .inl Z10)), (h17, .inl (zI g, 20, .inl Z15))]) hP hD hS hA [0, 8, 1, 7] [2, 3, 4, 5, 6, 9] (by decide) rfl rfl (by decide) (va_runV (As := [.ref h1, .int v3_0]) (rest := [.int y58, .int v3_0, .ref h6]) ⟨hx, hb, hml, hown, hts⟩ (gX2_charge l g h0 h1 h2 h3 h4 h5 h6 h7 h8 h9 h10 h11 h12 h13 h14 h15 h16 h17 h18 h19 H.size v3_0 y57 (0 : Int32) f2 f3 f4 Z0 Z12 (by omega) (by omega) (by constructor <;> omega) (by constructor <;> omega) (by constructor <;> omega) hF_Z0 hF_Z12) ⟨callB_of 2 hts (zGood m_o_yX2_charge) rfl rfl rfl (hts _ m_z_RX2) (hts _ m_m_RX2_143) ⟨by decide +kernel, by decide +kernel, by decide +kernel⟩ ⟨Nat.le_of_ble_eq_true rfl, Nat.le_of_ble_eq_true rfl⟩, hts _ m_i_yX2_charge, hts _ m_e_yX2_charge⟩ (zPreV hK hN hZ hP hD hS hA [0, 8, 1, 7] (by decide) rfl rfl 2 0 rfl rfl) rfl rfl hl.1 rfl (lv_room (Nat.le_of_ble_eq_true rfl)) dX2_ready_79 ⟨Nat.le_of_ble_eq_true rfl, Nat.le_of_ble_eq_true rfl⟩) (fun r u H locs hw hP hD hS => ?_)
              obtain ⟨y60, rfl⟩ : ∃ z, z = r := ⟨_, rfl⟩
              obtain ⟨q61_0, q61_1, q61_2⟩ := hw
              have q61_0 : y60.toInt = zCh Z12 (zIv Z0) v3_0.toNatClampNeg := q61_0
              have q61_1 : 0 ≤ y60.toInt := q61_1
              have q61_2 : y60.toInt ≤ 40 := q61_2
              have hP : va_P g.1 vwCl [(h3, .inl (zI g, 5, .inl Z1)), (h4, .inl (zI g, 5, .inl Z2)), (h6, .inl (zI g, 5, .inl G1_0)), (h7, .inl (zI g, 5, .inl G2_0)), (h12, .inl (zI g, 5, .inl Z10)), (h17, .inl (zI g, 20, .inl Z15)), (h0, .inr (2, [.ref h2, .ref h3, .ref h4, .ref h5, .ref h6, .ref h7, .int y57, .int 0, .ref h8, .ref h9, .ref h10, .ref h11])), (h1, .inr (0, [.ref h12, .int f2, .ref h13, .int f3, .ref h14, .ref h15, .ref h16, .ref h17, .ref h18, .ref h19, .int f4])), (h2, .inl (zI g, 5, .inl Z0)), (h14, .inl (zI g, 5, .inl Z12))] H := hP
              have hD : va_D A [(h3, .inl (zI g, 5, .inl Z1)), (h4, .inl (zI g, 5, .inl Z2)), (h6, .inl (zI g, 5, .inl G1_0)), (h7, .inl (zI g, 5, .inl G2_0)), (h12, .inl (zI g, 5, .inl Z10)), (h17, .inl (zI g, 20, .inl Z15)), (h0, .inr (2, [.ref h2, .ref h3, .ref h4, .ref h5, .ref h6, .ref h7, .int y57, .int 0, .ref h8, .ref h9, .ref h10, .ref h11])), (h1, .inr (0, [.ref h12, .int f2, .ref h13, .int f3, .ref h14, .ref h15, .ref h16, .ref h17, .ref h18, .ref h19, .int f4])), (h2, .inl (zI g, 5, .inl Z0)), (h14, .inl (zI g, 5, .inl Z12))] := hD
              refine lv_isub hx hb dX2_ready_82 ?_
              refine lv_topi (fun y62 ey62 => ?_)
              have qy62_0 : y62.toInt = y58.toInt - y60.toInt := zi_sub ey62 (rfl) (rfl) (by omega) (by omega)
              refine va_iast (D := g.1) hx hb hK hP hD hS 2 0 rfl rfl (vp_in_iff.mpr ⟨by omega, by omega⟩) dX2_ready_83 (fun H locs hP hD hS => ?_)
              have hP : va_P g.1 vwCl [(h3, .inl (zI g, 5, .inl Z1)), (h4, .inl (zI g, 5, .inl Z2)), (h6, .inl (zI g, 5, .inl (upd G1_0 v3_0.toNatClampNeg y62))), (h7, .inl (zI g, 5, .inl G2_0)), (h12, .inl (zI g, 5, .inl Z10)), (h17, .inl (zI g, 20, .inl Z15)), (h0, .inr (2, [.ref h2, .ref h3, .ref h4, .ref h5, .ref h6, .ref h7, .int y57, .int 0, .ref h8, .ref h9, .ref h10, .ref h11])), (h1, .inr (0, [.ref h12, .int f2, .ref h13, .int f3, .ref h14, .ref h15, .ref h16, .ref h17, .ref h18, .ref h19, .int f4])), (h2, .inl (zI g, 5, .inl Z0)), (h14, .inl (zI g, 5, .inl Z12))] H := hP
              have hD : va_D A [(h3, .inl (zI g, 5, .inl Z1)), (h4, .inl (zI g, 5, .inl Z2)), (h6, .inl (zI g, 5, .inl (upd G1_0 v3_0.toNatClampNeg y62))), (h7, .inl (zI g, 5, .inl G2_0)), (h12, .inl (zI g, 5, .inl Z10)), (h17, .inl (zI g, 20, .inl Z15)), (h0, .inr (2, [.ref h2, .ref h3, .ref h4, .ref h5, .ref h6, .ref h7, .int y57, .int 0, .ref h8, .ref h9, .ref h10, .ref h11])), (h1, .inr (0, [.ref h12, .int f2, .ref h13, .int f3, .ref h14, .ref h15, .ref h16, .ref h17, .ref h18, .ref h19, .int f4])), (h2, .inl (zI g, 5, .inl Z0)), (h14, .inl (zI g, 5, .inl Z12))] := hD
              have hI63 : zLmP (zLim f3.toInt Z12 Z15 (zRw f3.toInt Z0) p2.toInt) (v3_0.toInt + 1) (upd G1_0 v3_0.toNatClampNeg y62) := zLmP_put (i := v3_0) hG1_0 rfl (by omega) (rfl) (by rw [zLim_i (by omega) (by omega), zCh_rw (by omega) (by omega)]; omega) (by omega) (by omega)
              obtain ⟨R64, eR64⟩ : ∃ z : Nat → Int32, z = (upd G1_0 v3_0.toNatClampNeg y62) := ⟨_, rfl⟩
              rw [← eR64] at hP hD hI63
              refine lv_aload_n hx hb dX2_ready_84 rfl (lv_at hl 1 rfl) ?_
              refine va_get (D := g.1) (ci := 2) (v := .ref h7) (C := RX2) (T := TX2) (N := 12) hx hb hts zl_X2 hown hK hP 6 rfl rfl 5 (by decide) (hts _ m_f_RX2_27) (fun _ h => h) rfl dX2_ready_85 ?_
              refine lv_iload_n hx hb dX2_ready_88 rfl (lv_at hl 4 rfl) ?_
              refine lv_aload_n hx hb dX2_ready_89 rfl (lv_at hl 1 rfl) ?_
              refine va_get (D := g.1) (ci := 2) (v := .ref h3) (C := RX2) (T := TX2) (N := 12) hx hb hts zl_X2 hown hK hP 6 rfl rfl 1 (by decide) (hts _ m_f_RX2_15) (fun _ h => h) rfl dX2_ready_90 ?_
              refine lv_iload_n hx hb dX2_ready_93 rfl (lv_at hl 4 rfl) ?_
              refine va_iald (D := g.1) hx hb hK hP 0 0 rfl rfl (vp_in_iff.mpr ⟨by omega, by omega⟩) dX2_ready_94 ?_
              refine lv_topi (fun y65 ey65 => ?_)
              have qy65_0 : (-99) ≤ y65.toInt := (i_at (N := 5) (lo := (-99)) (hi := 9999) (i := v3_0) (a := v3_0.toInt) hF_Z1 (rfl) (by omega) (by omega) ey65).1
              have qy65_1 : y65.toInt ≤ 9999 := (i_at (N := 5) (lo := (-99)) (hi := 9999) (i := v3_0) (a := v3_0.toInt) hF_Z1 (rfl) (by omega) (by omega) ey65).2
              have qy65_2 : y65.toInt = (Z1 v3_0.toNatClampNeg).toInt := congrArg Int32.toInt ey65
              refine lv_iload hx hb dX2_ready_95 (lv_at hl 0 rfl) ?_
              refine lv_iconst (v := 4) hx hb dX2_ready_97 (by decide) ?_
              refine lv_icmp_ne (tgt := 110) hx hb dX2_ready_98 (by decide) (fun c_9 => ?_) (fun c_9 => absurd (show y6.toInt = 4 from z_eq (rfl) (rfl) c_9) (by omega))
              have i_9 : y6.toInt ≠ 4 := z_ne (rfl) (rfl) c_9
              refine lv_iconst (v := 0) hx hb dX2_ready_110 (by decide) ?_
              refine lv_iadd hx hb dX2_ready_111 ?_
              refine lv_topi (fun y66 ey66 => ?_)
              have qy66_0 : y66.toInt = y65.toInt + 0 := zi_add ey66 (rfl) (rfl) (by omega) (by omega)
              refine va_iast (D := g.1) hx hb hK hP hD hS 3 0 rfl rfl (vp_in_iff.mpr ⟨by omega, by omega⟩) dX2_ready_112 (fun H locs hP hD hS => ?_)
              have hP : va_P g.1 vwCl [(h3, .inl (zI g, 5, .inl Z1)), (h4, .inl (zI g, 5, .inl Z2)), (h6, .inl (zI g, 5, .inl R64)), (h7, .inl (zI g, 5, .inl (upd G2_0 v3_0.toNatClampNeg y66))), (h12, .inl (zI g, 5, .inl Z10)), (h17, .inl (zI g, 20, .inl Z15)), (h0, .inr (2, [.ref h2, .ref h3, .ref h4, .ref h5, .ref h6, .ref h7, .int y57, .int 0, .ref h8, .ref h9, .ref h10, .ref h11])), (h1, .inr (0, [.ref h12, .int f2, .ref h13, .int f3, .ref h14, .ref h15, .ref h16, .ref h17, .ref h18, .ref h19, .int f4])), (h2, .inl (zI g, 5, .inl Z0)), (h14, .inl (zI g, 5, .inl Z12))] H := hP
              have hD : va_D A [(h3, .inl (zI g, 5, .inl Z1)), (h4, .inl (zI g, 5, .inl Z2)), (h6, .inl (zI g, 5, .inl R64)), (h7, .inl (zI g, 5, .inl (upd G2_0 v3_0.toNatClampNeg y66))), (h12, .inl (zI g, 5, .inl Z10)), (h17, .inl (zI g, 20, .inl Z15)), (h0, .inr (2, [.ref h2, .ref h3, .ref h4, .ref h5, .ref h6, .ref h7, .int y57, .int 0, .ref h8, .ref h9, .ref h10, .ref h11])), (h1, .inr (0, [.ref h12, .int f2, .ref h13, .int f3, .ref h14, .ref h15, .ref h16, .ref h17, .ref h18, .ref h19, .int f4])), (h2, .inl (zI g, 5, .inl Z0)), (h14, .inl (zI g, 5, .inl Z12))] := hD
              have hI67 : zMoP (zMon Z10 f3.toInt Z12 (zRw f3.toInt Z1)) (v3_0.toInt + 1) (upd G2_0 v3_0.toNatClampNeg y66) := zMoP_put (i := v3_0) hG2_0 rfl (by omega) (rfl) (by rw [zMon_i (by omega) (by omega), zRw_i (by omega) (by omega), if_neg (by omega)]; omega) (by omega) (by omega)
              obtain ⟨R68, eR68⟩ : ∃ z : Nat → Int32, z = (upd G2_0 v3_0.toNatClampNeg y66) := ⟨_, rfl⟩
              rw [← eR68] at hP hD hI67
              obtain ⟨y69, ey69⟩ : ∃ z : Int32, z = v3_0 + 1 := ⟨_, rfl⟩
              have qy69 : y69.toInt = v3_0.toInt + 1 := zi_add ey69 (rfl) rfl (by omega) (by omega)
              refine lv_iinc (v := y69) (lv' := [(3, .int y69), (4, .int y6), (0, .ref h0), (1, .ref h1), (2, .int p2)]) hx hb dX2_ready_113 hl (k := 4) rfl ey69.symm (by decide) rfl (fun ls hl => ?_)
              have hskb : zSk (zRm f3.toInt Z12 (zRw f3.toInt Z2)) y69.toInt = zSk (zRm f3.toInt Z12 (zRw f3.toInt Z2)) (v3_0.toInt + 1) := by rw [(by omega : y69.toInt = v3_0.toInt + 1)]
              refine lv_goto (tgt := 12) hx hb dX2_ready_116 (by decide) ?_
              have hP := hP.sub (ws' := [(h0, .inr (2, [.ref h2, .ref h3, .ref h4, .ref h5, .ref h6, .ref h7, .int y57, .int 0, .ref h8, .ref h9, .ref h10, .ref h11])), (h1, .inr (0, [.ref h12, .int f2, .ref h13, .int f3, .ref h14, .ref h15, .ref h16, .ref h17, .ref h18, .ref h19, .int f4])), (h2, .inl (zI g, 5, .inl Z0)), (h3, .inl (zI g, 5, .inl Z1)), (h4, .inl (zI g, 5, .inl Z2)), (h6, .inl (zI g, 5, .inl R64)), (h7, .inl (zI g, 5, .inl R68)), (h12, .inl (zI g, 5, .inl Z10)), (h14, .inl (zI g, 5, .inl Z12)), (h17, .inl (zI g, 20, .inl Z15))]) [6, 7, 8, 0, 1, 2, 3, 4, 9, 5] rfl
              have hD := hD.sub (ws' := [(h0, .inr (2, [.ref h2, .ref h3, .ref h4, .ref h5, .ref h6, .ref h7, .int y57, .int 0, .ref h8, .ref h9, .ref h10, .ref h11])), (h1, .inr (0, [.ref h12, .int f2, .ref h13, .int f3, .ref h14, .ref h15, .ref h16, .ref h17, .ref h18, .ref h19, .int f4])), (h2, .inl (zI g, 5, .inl Z0)), (h3, .inl (zI g, 5, .inl Z1)), (h4, .inl (zI g, 5, .inl Z2)), (h6, .inl (zI g, 5, .inl R64)), (h7, .inl (zI g, 5, .inl R68)), (h12, .inl (zI g, 5, .inl Z10)), (h14, .inl (zI g, 5, .inl Z12)), (h17, .inl (zI g, 20, .inl Z15))]) [6, 7, 8, 0, 1, 2, 3, 4, 9, 5] (by decide) rfl
              exact ih1 y69 y57 R64 R68 (zLmP_eq hI63 (by omega)) (zMoP_eq hI67 (by omega)) (by omega) (by omega) (by omega) (by omega) (by omega) (by omega) (by omega) _ _ hP hD hS ls (lv_sub hl [2, 3, 4, 0] rfl)
  have : (0 : Int32).toInt = 0 := rfl
  exact loop12_0 ((5 - 0 : Int).toNat + 1) (0 : Int32) (0 : Int32) Z4 Z5 (zLmP_eq hI0 (by omega)) (zMoP_eq hI1 (by omega)) (by omega) (by omega) (by omega) (by omega) (by omega) (by omega) (by omega) _ _ hP hD hS ls (lv_sub hl [1, 2, 3, 0] rfl)
set_option maxHeartbeats 8000000 in
set_option maxRecDepth 100000 in
theorem gX2_isIn (l : Launch) (g : zG) (sz : Nat) (p0 : Int32) (p1 : Int32) : Met l yX2_isIn (.code yX2_isIn cX2_isIn 2 (some .boolean) :: zBig) ({ frames := 0, cells := 0, slots := 0, locals := 0 }) (va_Pc [.int p0, .int p1] (zPre g [] sz)) (va_Qi (fun (r : Int32) (u : Nat) => (zbit p0 p1 = 1 ∧ r = 1) ∨ (zbit p0 p1 = 0 ∧ r = 0)) (zPost g (fun u : Nat => []) (va_A [] sz)) (va_A [] sz)) 0 0 (va_A [] sz) := by
  refine zMetI rfl (Nat.le_of_ble_eq_true rfl) ?_
  intro p e s m args below meth c A ls hx hb hml hr hlocks hin hown hts hK hN hZ hP hD hA hS hAe hl
  have hown : s.vm.findClass RX2 = some m.cls := hown
  have hl : lv_has ls 2 [(0, .int p0), (1, .int p1)] := hl
  refine lv_iload_n hx hb dX2_isIn_0 rfl (lv_at hl 0 rfl) ?_
  refine lv_iload_n hx hb dX2_isIn_1 rfl (lv_at hl 1 rfl) ?_
  refine lv_ishr hx hb dX2_isIn_2 ?_
  refine lv_topi (fun y0 ey0 => ?_)
  refine lv_iconst (v := 1) hx hb dX2_isIn_3 (by decide) ?_
  refine lv_iand hx hb dX2_isIn_4 ?_
  refine lv_topi (fun y1 ey1 => ?_)
  have qy1_0 : 0 ≤ y1.toInt := (zi_and1 ey1).1
  have qy1_1 : y1.toInt ≤ 1 := (zi_and1 ey1).2
  have py1_0 : zbit p0 p1 = y1.toInt := zbit_eq ey0 ey1
  refine lv_iconst (v := 1) hx hb dX2_isIn_5 (by decide) ?_
  refine lv_icmp_ne (tgt := 13) hx hb dX2_isIn_6 (by decide) (fun c_0 => ?_) (fun c_0 => ?_)
  · have i_0 : y1.toInt ≠ 1 := z_ne (rfl) (rfl) c_0
    refine lv_iconst (v := 0) hx hb dX2_isIn_13 (by decide) ?_
    have hP9 := hP.sub (ws' := []) [] rfl
    have hD9 := hD.sub (ws' := []) [] (by decide) rfl
    exact W.zret (v := 0) hx hb hr (by decide) (fun t ht hW => ⟨⟨0, (0 : Nat), rfl, Or.inr (⟨(by first | omega | decide), rfl⟩), by rw [ht]; exact hP9, hD9⟩, hS.F ht⟩) hS.2.2 dX2_isIn_14
  · have i_0 : y1.toInt = 1 := z_eq (rfl) (rfl) c_0
    refine lv_iconst (v := 1) hx hb dX2_isIn_9 (by decide) ?_
    refine lv_goto (tgt := 14) hx hb dX2_isIn_10 (by decide) ?_
    have hP9 := hP.sub (ws' := []) [] rfl
    have hD9 := hD.sub (ws' := []) [] (by decide) rfl
    exact W.zret (v := 1) hx hb hr (by decide) (fun t ht hW => ⟨⟨1, (0 : Nat), rfl, Or.inl ⟨(by first | omega | decide), rfl⟩, by rw [ht]; exact hP9, hD9⟩, hS.F ht⟩) hS.2.2 dX2_isIn_14
set_option maxHeartbeats 8000000 in
set_option maxRecDepth 100000 in
theorem gX2_silentOf (l : Launch) (g : zG) (h0 h1 h2 h3 h4 h5 h6 h7 h8 h9 h10 h11 h12 h13 h14 h15 h16 h17 h18 h19 : Nat) (sz : Nat) (p2 : Int32) (p3 : Int32) (f0 : Int32) (f1 : Int32) (f2 : Int32) (f3 : Int32) (f4 : Int32) (Z15 : Nat → Int32) (hp0 : 0 ≤ p3.toInt) (hp1 : p3.toInt ≤ 31) (hf_f2 : 0 ≤ f2.toInt ∧ f2.toInt ≤ 6) (hf_f3 : 0 ≤ f3.toInt ∧ f3.toInt ≤ 5) (hf_f4 : 0 ≤ f4.toInt ∧ f4.toInt ≤ 9999) (hF_Z15 : iWo Z15) : Met l yX2_silentOf (.code yX2_silentOf cX2_silentOf 7 (some .int) :: zBig) ({ frames := 2, cells := 0, slots := 0, locals := 43 }) (va_Pc [.ref h0, .ref h1, .int p2, .int p3] (zPre g [(h0, .inr (2, [.ref h2, .ref h3, .ref h4, .ref h5, .ref h6, .ref h7, .int f0, .int f1, .ref h8, .ref h9, .ref h10, .ref h11])), (h1, .inr (0, [.ref h12, .int f2, .ref h13, .int f3, .ref h14, .ref h15, .ref h16, .ref h17, .ref h18, .ref h19, .int f4])), (h17, .inl (zI g, 20, .inl Z15))] sz)) (va_Qi (fun (r : Int32) (u : Nat) => r.toInt = zS5 (zSil p3 (zVo p3 (zWf f3.toInt Z15 p2.toInt) (zib f0) 5)) ∧ 0 ≤ r.toInt ∧ r.toInt ≤ 31) (zPost g (fun u : Nat => [(h0, .inr (2, [.ref h2, .ref h3, .ref h4, .ref h5, .ref h6, .ref h7, .int f0, .int f1, .ref h8, .ref h9, .ref h10, .ref h11])), (h1, .inr (0, [.ref h12, .int f2, .ref h13, .int f3, .ref h14, .ref h15, .ref h16, .ref h17, .ref h18, .ref h19, .int f4])), (h17, .inl (zI g, 20, .inl Z15))]) (va_A [(h0, .inr (2, [.ref h2, .ref h3, .ref h4, .ref h5, .ref h6, .ref h7, .int f0, .int f1, .ref h8, .ref h9, .ref h10, .ref h11])), (h1, .inr (0, [.ref h12, .int f2, .ref h13, .int f3, .ref h14, .ref h15, .ref h16, .ref h17, .ref h18, .ref h19, .int f4])), (h17, .inl (zI g, 20, .inl Z15))] sz)) (va_A [(h0, .inr (2, [.ref h2, .ref h3, .ref h4, .ref h5, .ref h6, .ref h7, .int f0, .int f1, .ref h8, .ref h9, .ref h10, .ref h11])), (h1, .inr (0, [.ref h12, .int f2, .ref h13, .int f3, .ref h14, .ref h15, .ref h16, .ref h17, .ref h18, .ref h19, .int f4])), (h17, .inl (zI g, 20, .inl Z15))] sz)) 0 0 (va_A [(h0, .inr (2, [.ref h2, .ref h3, .ref h4, .ref h5, .ref h6, .ref h7, .int f0, .int f1, .ref h8, .ref h9, .ref h10, .ref h11])), (h1, .inr (0, [.ref h12, .int f2, .ref h13, .int f3, .ref h14, .ref h15, .ref h16, .ref h17, .ref h18, .ref h19, .int f4])), (h17, .inl (zI g, 20, .inl Z15))] sz) := by
  refine zMetI rfl (Nat.le_of_ble_eq_true rfl) ?_
  intro p e s m args below meth c A ls hx hb hml hr hlocks hin hown hts hK hN hZ hP hD hA hS hAe hl
  have hown : s.vm.findClass RX2 = some m.cls := hown
  have hl : lv_has ls 7 [(0, .ref h0), (1, .ref h1), (2, .int p2), (3, .int p3)] := hl
  have hv0 : zVo p3 (zWf f3.toInt Z15 p2.toInt) (zib f0) (0 : Int32).toInt.toNat = -1 := rfl
  have hv00 : (-1 : Int32).toInt = -1 := rfl
  refine lv_iconst (v := (-1)) hx hb dX2_silentOf_0 (by decide) ?_
  refine lv_istore (lv' := [(4, .int (-1)), (0, .ref h0), (1, .ref h1), (2, .int p2), (3, .int p3)]) hx hb dX2_silentOf_1 hl (by decide) rfl (fun ls hl => ?_)
  refine lv_iconst (v := (-1)) hx hb dX2_silentOf_3 (by decide) ?_
  refine lv_istore (lv' := [(5, .int (-1)), (4, .int (-1)), (0, .ref h0), (1, .ref h1), (2, .int p2), (3, .int p3)]) hx hb dX2_silentOf_4 hl (by decide) rfl (fun ls hl => ?_)
  refine lv_iconst (v := 0) hx hb dX2_silentOf_6 (by decide) ?_
  refine lv_istore (lv' := [(6, .int 0), (5, .int (-1)), (4, .int (-1)), (0, .ref h0), (1, .ref h1), (2, .int p2), (3, .int p3)]) hx hb dX2_silentOf_7 hl (by decide) rfl (fun ls hl => ?_)
  have loop9_0 : ∀ (n1 : Nat) (v4_0 : Int32) (v5_0 : Int32) (v6_0 : Int32) (n1_0 : 0 ≤ v6_0.toInt) (n1_1 : v6_0.toInt ≤ 5) (n1_2 : -1 ≤ v4_0.toInt) (n1_3 : v4_0.toInt ≤ 4) (n1_4 : -1 ≤ v5_0.toInt) (n1_5 : v5_0.toInt ≤ 99) (n1_6 : v4_0.toInt = zVo p3 (zWf f3.toInt Z15 p2.toInt) (zib f0) v6_0.toInt.toNat) (n1_7 : (v4_0.toInt < 0 → v5_0.toInt = -1)) (n1_8 : (0 ≤ v4_0.toInt → v5_0.toInt = (zWf f3.toInt Z15 p2.toInt) v4_0.toInt.toNat)) (hm1 : 5 - v6_0.toInt < (n1 : Int)) (H : Heap) (locs : List Loc), va_P g.1 vwCl [(h0, .inr (2, [.ref h2, .ref h3, .ref h4, .ref h5, .ref h6, .ref h7, .int f0, .int f1, .ref h8, .ref h9, .ref h10, .ref h11])), (h1, .inr (0, [.ref h12, .int f2, .ref h13, .int f3, .ref h14, .ref h15, .ref h16, .ref h17, .ref h18, .ref h19, .int f4])), (h17, .inl (zI g, 20, .inl Z15))] H → va_D A [(h0, .inr (2, [.ref h2, .ref h3, .ref h4, .ref h5, .ref h6, .ref h7, .int f0, .int f1, .ref h8, .ref h9, .ref h10, .ref h11])), (h1, .inr (0, [.ref h12, .int f2, .ref h13, .int f3, .ref h14, .ref h15, .ref h16, .ref h17, .ref h18, .ref h19, .int f4])), (h17, .inl (zI g, 20, .inl Z15))] → va_S A s.heap H locs → ∀ (ls : Array Slot), lv_has ls 7 [(0, .ref h0), (1, .ref h1), (2, .int p2), (3, .int p3), (4, .int v4_0), (5, .int v5_0), (6, .int v6_0)] → W p l e ({ frames := 2, cells := 0, slots := 0, locals := 43 }) s m args below meth c H locs 0 0 (MQ below (va_Qi (fun (r : Int32) (u : Nat) => r.toInt = zS5 (zSil p3 (zVo p3 (zWf f3.toInt Z15 p2.toInt) (zib f0) 5)) ∧ 0 ≤ r.toInt ∧ r.toInt ≤ 31) (zPost g (fun u : Nat => [(h0, .inr (2, [.ref h2, .ref h3, .ref h4, .ref h5, .ref h6, .ref h7, .int f0, .int f1, .ref h8, .ref h9, .ref h10, .ref h11])), (h1, .inr (0, [.ref h12, .int f2, .ref h13, .int f3, .ref h14, .ref h15, .ref h16, .ref h17, .ref h18, .ref h19, .int f4])), (h17, .inl (zI g, 20, .inl Z15))]) A) A) args s 0 0 A) (F0 m 9 ls []) := by
    intro n1
    induction n1 with
    | zero => intro v4_0 v5_0 v6_0 n1_0 n1_1 n1_2 n1_3 n1_4 n1_5 n1_6 n1_7 n1_8 hm1; exfalso; omega
    | succ n1 ih1 =>
      intro v4_0 v5_0 v6_0 n1_0 n1_1 n1_2 n1_3 n1_4 n1_5 n1_6 n1_7 n1_8 hm1 H locs hP hD hS ls hl
      refine lv_iload_n hx hb dX2_silentOf_9 rfl (lv_at hl 3 rfl) ?_
      refine lv_if_eq (tgt := 71) hx hb dX2_silentOf_10 (by decide) (fun c_1 => ?_) (fun c_1 => ?_)
      · have i_1 : p3.toInt = 0 := z_eq (rfl) (rfl) c_1
        have hv5 : zVo p3 (zWf f3.toInt Z15 p2.toInt) (zib f0) 5 = -1 := zVo_z (by omega) 5 (by omega)
        have hvb : zVo p3 (zWf f3.toInt Z15 p2.toInt) (zib f0) v6_0.toInt.toNat = -1 := zVo_z (by omega) _ (by omega)
        have hv4 : v4_0.toInt = -1 := by omega
        refine lv_iload hx hb dX2_silentOf_71 (lv_at hl 4 rfl) ?_
        refine lv_if_ge (tgt := 80) hx hb dX2_silentOf_73 (by decide) (fun c_2 => absurd (show 0 ≤ v4_0.toInt from z_le (rfl) (rfl) c_2) (by omega)) (fun c_2 => ?_)
        have i_2 : v4_0.toInt < 0 := z_nle (rfl) (rfl) c_2
        refine lv_iload_n hx hb dX2_silentOf_76 rfl (lv_at hl 3 rfl) ?_
        refine lv_goto (tgt := 88) hx hb dX2_silentOf_77 (by decide) ?_
        have hvv : v4_0.toInt = zVo p3 (zWf f3.toInt Z15 p2.toInt) (zib f0) 5 := by omega
        have hz : p3.toInt = zS5 (zSil p3 (zVo p3 (zWf f3.toInt Z15 p2.toInt) (zib f0) 5)) := by
          rw [zIb_S (s := p3) (by omega) (by omega)]
          exact (zS5_ext (f := zIb p3) (g := zSil p3 (zVo p3 (zWf f3.toInt Z15 p2.toInt) (zib f0) 5)) fun b hb => zSil_neg (by omega) (by omega) (by omega) hb).1
        have hzr := zS5_r (zSil_01 p3 (zVo p3 (zWf f3.toInt Z15 p2.toInt) (zib f0) 5))
        have hP9 := hP.sub (ws' := [(h0, .inr (2, [.ref h2, .ref h3, .ref h4, .ref h5, .ref h6, .ref h7, .int f0, .int f1, .ref h8, .ref h9, .ref h10, .ref h11])), (h1, .inr (0, [.ref h12, .int f2, .ref h13, .int f3, .ref h14, .ref h15, .ref h16, .ref h17, .ref h18, .ref h19, .int f4])), (h17, .inl (zI g, 20, .inl Z15))]) [0, 1, 2] rfl
        have hD9 := hD.sub (ws' := [(h0, .inr (2, [.ref h2, .ref h3, .ref h4, .ref h5, .ref h6, .ref h7, .int f0, .int f1, .ref h8, .ref h9, .ref h10, .ref h11])), (h1, .inr (0, [.ref h12, .int f2, .ref h13, .int f3, .ref h14, .ref h15, .ref h16, .ref h17, .ref h18, .ref h19, .int f4])), (h17, .inl (zI g, 20, .inl Z15))]) [0, 1, 2] (by decide) rfl
        exact W.iret (v := p3) hx hb hr (fun t ht hW => ⟨⟨p3, (0 : Nat), rfl, ⟨(by first | omega | decide), (by first | omega | decide), (by first | omega | decide)⟩, by rw [ht]; exact hP9, hD9⟩, hS.F ht⟩) hS.2.2 dX2_silentOf_88
      · have i_1 : p3.toInt ≠ 0 := z_ne (rfl) (rfl) c_1
        refine lv_iload hx hb dX2_silentOf_13 (lv_at hl 6 rfl) ?_
        refine lv_iconst (v := 5) hx hb dX2_silentOf_15 (by decide) ?_
        refine lv_icmp_ge (tgt := 71) hx hb dX2_silentOf_16 (by decide) (fun c_3 => ?_) (fun c_3 => ?_)
        · have i_3 : 5 ≤ v6_0.toInt := z_le (rfl) (rfl) c_3
          have hv5 : zVo p3 (zWf f3.toInt Z15 p2.toInt) (zib f0) 5 = zVo p3 (zWf f3.toInt Z15 p2.toInt) (zib f0) v6_0.toInt.toNat := by rw [(by omega : v6_0.toInt.toNat = 5)]
          refine lv_iload hx hb dX2_silentOf_71 (lv_at hl 4 rfl) ?_
          refine lv_if_ge (tgt := 80) hx hb dX2_silentOf_73 (by decide) (fun c_4 => ?_) (fun c_4 => ?_)
          · have i_4 : 0 ≤ v4_0.toInt := z_le (rfl) (rfl) c_4
            refine lv_iload_n hx hb dX2_silentOf_80 rfl (lv_at hl 3 rfl) ?_
            refine lv_iconst (v := 1) hx hb dX2_silentOf_81 (by decide) ?_
            refine lv_iload hx hb dX2_silentOf_82 (lv_at hl 4 rfl) ?_
            refine lv_ishl hx hb dX2_silentOf_84 ?_
            refine lv_topi (fun y0 ey0 => ?_)
            have qy0_0 : 1 ≤ y0.toInt := (zi_shl 4 ey0 (rfl) (by omega) (by omega) (by decide)).1
            have qy0_1 : y0.toInt ≤ 16 := (zi_shl 4 ey0 (rfl) (by omega) (by omega) (by decide)).2
            refine lv_iconst (v := (-1)) hx hb dX2_silentOf_85 (by decide) ?_
            refine lv_ixor hx hb dX2_silentOf_86 ?_
            refine lv_topi (fun y1 ey1 => ?_)
            refine lv_iand hx hb dX2_silentOf_87 ?_
            refine lv_topi (fun y2 ey2 => ?_)
            have hvv : v4_0.toInt = zVo p3 (zWf f3.toInt Z15 p2.toInt) (zib f0) 5 := by omega
            have hz : y2.toInt = zS5 (zSil p3 (zVo p3 (zWf f3.toInt Z15 p2.toInt) (zib f0) 5)) := by
              rw [← hvv]
              exact z_andn (s := y0) (by rw [ey2, ey1]) (zIb_01 (by omega) (by omega)) (zJu_01 _) (zIb_S (by omega) (by omega)) (z_one ey0 rfl (by omega) (by omega)).2
            have hzr := zS5_r (zSil_01 p3 (zVo p3 (zWf f3.toInt Z15 p2.toInt) (zib f0) 5))
            have hP9 := hP.sub (ws' := [(h0, .inr (2, [.ref h2, .ref h3, .ref h4, .ref h5, .ref h6, .ref h7, .int f0, .int f1, .ref h8, .ref h9, .ref h10, .ref h11])), (h1, .inr (0, [.ref h12, .int f2, .ref h13, .int f3, .ref h14, .ref h15, .ref h16, .ref h17, .ref h18, .ref h19, .int f4])), (h17, .inl (zI g, 20, .inl Z15))]) [0, 1, 2] rfl
            have hD9 := hD.sub (ws' := [(h0, .inr (2, [.ref h2, .ref h3, .ref h4, .ref h5, .ref h6, .ref h7, .int f0, .int f1, .ref h8, .ref h9, .ref h10, .ref h11])), (h1, .inr (0, [.ref h12, .int f2, .ref h13, .int f3, .ref h14, .ref h15, .ref h16, .ref h17, .ref h18, .ref h19, .int f4])), (h17, .inl (zI g, 20, .inl Z15))]) [0, 1, 2] (by decide) rfl
            exact W.iret (v := y2) hx hb hr (fun t ht hW => ⟨⟨y2, (0 : Nat), rfl, ⟨(by first | omega | decide), (by first | omega | decide), (by first | omega | decide)⟩, by rw [ht]; exact hP9, hD9⟩, hS.F ht⟩) hS.2.2 dX2_silentOf_88
          · have i_4 : v4_0.toInt < 0 := z_nle (rfl) (rfl) c_4
            refine lv_iload_n hx hb dX2_silentOf_76 rfl (lv_at hl 3 rfl) ?_
            refine lv_goto (tgt := 88) hx hb dX2_silentOf_77 (by decide) ?_
            have hvv : v4_0.toInt = zVo p3 (zWf f3.toInt Z15 p2.toInt) (zib f0) 5 := by omega
            have hz : p3.toInt = zS5 (zSil p3 (zVo p3 (zWf f3.toInt Z15 p2.toInt) (zib f0) 5)) := by
              rw [zIb_S (s := p3) (by omega) (by omega)]
              exact (zS5_ext (f := zIb p3) (g := zSil p3 (zVo p3 (zWf f3.toInt Z15 p2.toInt) (zib f0) 5)) fun b hb => zSil_neg (by omega) (by omega) (by omega) hb).1
            have hzr := zS5_r (zSil_01 p3 (zVo p3 (zWf f3.toInt Z15 p2.toInt) (zib f0) 5))
            have hP9 := hP.sub (ws' := [(h0, .inr (2, [.ref h2, .ref h3, .ref h4, .ref h5, .ref h6, .ref h7, .int f0, .int f1, .ref h8, .ref h9, .ref h10, .ref h11])), (h1, .inr (0, [.ref h12, .int f2, .ref h13, .int f3, .ref h14, .ref h15, .ref h16, .ref h17, .ref h18, .ref h19, .int f4])), (h17, .inl (zI g, 20, .inl Z15))]) [0, 1, 2] rfl
            have hD9 := hD.sub (ws' := [(h0, .inr (2, [.ref h2, .ref h3, .ref h4, .ref h5, .ref h6, .ref h7, .int f0, .int f1, .ref h8, .ref h9, .ref h10, .ref h11])), (h1, .inr (0, [.ref h12, .int f2, .ref h13, .int f3, .ref h14, .ref h15, .ref h16, .ref h17, .ref h18, .ref h19, .int f4])), (h17, .inl (zI g, 20, .inl Z15))]) [0, 1, 2] (by decide) rfl
            exact W.iret (v := p3) hx hb hr (fun t ht hW => ⟨⟨p3, (0 : Nat), rfl, ⟨(by first | omega | decide), (by first | omega | decide), (by first | omega | decide)⟩, by rw [ht]; exact hP9, hD9⟩, hS.F ht⟩) hS.2.2 dX2_silentOf_88
        · have i_3 : v6_0.toInt < 5 := z_nle (rfl) (rfl) c_3
          refine lv_iload_n hx hb dX2_silentOf_19 rfl (lv_at hl 3 rfl) ?_
          refine lv_iload hx hb dX2_silentOf_20 (lv_at hl 6 rfl) ?_
          refine z_calli (wr := [(h0, .inr (2, [.ref h2, .ref h3, .ref h4, .ref h5, .ref h6, .ref h7, .int f0, .int f1, .ref h8, .ref h9, .ref h10, .ref h11])), (h1, .inr (0, [.ref h12, .int f2, .ref h13, .int f3, .ref h14, .ref h15, .ref h16, .ref h17, .ref h18, .ref h19, .int f4])), (h17, .inl (zI g, 20, .inl Z15))]) hP hD hS hA [] [0, 1, 2] (by decide) rfl rfl (by decide) (va_runS (As := [.int p3, .int v6_0]) (rest := []) ⟨hx, hb, hml, hown, hts⟩ (gX2_isIn l g  H.size p3 v6_0) ⟨callB_of 2 hts (zGood m_o_yX2_isIn) rfl rfl rfl (hts _ m_z_RX2) (hts _ m_m_RX2_93) ⟨by decide +kernel, by decide +kernel, by decide +kernel⟩ ⟨Nat.le_of_ble_eq_true rfl, Nat.le_of_ble_eq_true rfl⟩, hts _ m_s_yX2_isIn⟩ (zPreS hK hN hZ hP hD hS hA [] (by decide) rfl rfl) rfl rfl hl.1 rfl (lv_room (Nat.le_of_ble_eq_true rfl)) dX2_silentOf_22 ⟨Nat.le_of_ble_eq_true rfl, Nat.le_of_ble_eq_true rfl⟩) (fun r u H locs hw hP hD hS => ?_)
          rcases hw with ⟨i_5, rfl⟩ | ⟨i_6, rfl⟩
          · skip
            have i_5 : zbit p3 v6_0 = 1 := i_5
            have hP : va_P g.1 vwCl [(h0, .inr (2, [.ref h2, .ref h3, .ref h4, .ref h5, .ref h6, .ref h7, .int f0, .int f1, .ref h8, .ref h9, .ref h10, .ref h11])), (h1, .inr (0, [.ref h12, .int f2, .ref h13, .int f3, .ref h14, .ref h15, .ref h16, .ref h17, .ref h18, .ref h19, .int f4])), (h17, .inl (zI g, 20, .inl Z15))] H := hP
            have hD : va_D A [(h0, .inr (2, [.ref h2, .ref h3, .ref h4, .ref h5, .ref h6, .ref h7, .int f0, .int f1, .ref h8, .ref h9, .ref h10, .ref h11])), (h1, .inr (0, [.ref h12, .int f2, .ref h13, .int f3, .ref h14, .ref h15, .ref h16, .ref h17, .ref h18, .ref h19, .int f4])), (h17, .inl (zI g, 20, .inl Z15))] := hD
            refine lv_if_eq (tgt := 65) hx hb dX2_silentOf_25 (by decide) (fun h => absurd h (by decide +kernel)) (fun _ => ?_)
            refine lv_aload_n hx hb dX2_silentOf_28 rfl (lv_at hl 0 rfl) ?_
            refine va_get (D := g.1) (ci := 2) (v := .int f0) (C := RX2) (T := TX2) (N := 12) hx hb hts zl_X2 hown hK hP 0 rfl rfl 6 (by decide) (hts _ m_f_RX2_30) (fun _ h => h) rfl dX2_silentOf_29 ?_
            refine lv_iload hx hb dX2_silentOf_32 (lv_at hl 6 rfl) ?_
            refine z_calli (wr := [(h0, .inr (2, [.ref h2, .ref h3, .ref h4, .ref h5, .ref h6, .ref h7, .int f0, .int f1, .ref h8, .ref h9, .ref h10, .ref h11])), (h1, .inr (0, [.ref h12, .int f2, .ref h13, .int f3, .ref h14, .ref h15, .ref h16, .ref h17, .ref h18, .ref h19, .int f4])), (h17, .inl (zI g, 20, .inl Z15))]) hP hD hS hA [] [0, 1, 2] (by decide) rfl rfl (by decide) (va_runS (As := [.int f0, .int v6_0]) (rest := []) ⟨hx, hb, hml, hown, hts⟩ (gX2_isIn l g  H.size f0 v6_0) ⟨callB_of 2 hts (zGood m_o_yX2_isIn) rfl rfl rfl (hts _ m_z_RX2) (hts _ m_m_RX2_93) ⟨by decide +kernel, by decide +kernel, by decide +kernel⟩ ⟨Nat.le_of_ble_eq_true rfl, Nat.le_of_ble_eq_true rfl⟩, hts _ m_s_yX2_isIn⟩ (zPreS hK hN hZ hP hD hS hA [] (by decide) rfl rfl) rfl rfl hl.1 rfl (lv_room (Nat.le_of_ble_eq_true rfl)) dX2_silentOf_34 ⟨Nat.le_of_ble_eq_true rfl, Nat.le_of_ble_eq_true rfl⟩) (fun r u H locs hw hP hD hS => ?_)
            rcases hw with ⟨i_7, rfl⟩ | ⟨i_8, rfl⟩
            · skip
              have i_7 : zbit f0 v6_0 = 1 := i_7
              have hP : va_P g.1 vwCl [(h0, .inr (2, [.ref h2, .ref h3, .ref h4, .ref h5, .ref h6, .ref h7, .int f0, .int f1, .ref h8, .ref h9, .ref h10, .ref h11])), (h1, .inr (0, [.ref h12, .int f2, .ref h13, .int f3, .ref h14, .ref h15, .ref h16, .ref h17, .ref h18, .ref h19, .int f4])), (h17, .inl (zI g, 20, .inl Z15))] H := hP
              have hD : va_D A [(h0, .inr (2, [.ref h2, .ref h3, .ref h4, .ref h5, .ref h6, .ref h7, .int f0, .int f1, .ref h8, .ref h9, .ref h10, .ref h11])), (h1, .inr (0, [.ref h12, .int f2, .ref h13, .int f3, .ref h14, .ref h15, .ref h16, .ref h17, .ref h18, .ref h19, .int f4])), (h17, .inl (zI g, 20, .inl Z15))] := hD
              refine lv_if_eq (tgt := 65) hx hb dX2_silentOf_37 (by decide) (fun h => absurd h (by decide +kernel)) (fun _ => ?_)
              refine lv_aload_n hx hb dX2_silentOf_40 rfl (lv_at hl 1 rfl) ?_
              refine lv_iload hx hb dX2_silentOf_41 (lv_at hl 6 rfl) ?_
              refine lv_iload_n hx hb dX2_silentOf_43 rfl (lv_at hl 2 rfl) ?_
              refine z_calli (wr := [(h0, .inr (2, [.ref h2, .ref h3, .ref h4, .ref h5, .ref h6, .ref h7, .int f0, .int f1, .ref h8, .ref h9, .ref h10, .ref h11]))]) hP hD hS hA [1, 2] [0] (by decide) rfl rfl (by decide) (va_runVN (As := [.int v6_0, .int p2]) (rest := []) ⟨hx, hb, hml, hown, hts⟩ (gX0_worthOf l g h1 h12 h13 h14 h15 h16 h17 h18 h19 H.size v6_0 p2 f2 f3 f4 Z15 (by constructor <;> omega) (by constructor <;> omega) (by constructor <;> omega) hF_Z15) ⟨va_cnB 2 hts (zGood m_o_yX0_worthOf) rfl rfl rfl (hN.m 15 (q := (RX2, 137, yX0_worthOf)) rfl) (hts _ m_z_RX0) ⟨by decide +kernel, by decide +kernel, by decide +kernel⟩ ⟨Nat.le_of_ble_eq_true rfl, Nat.le_of_ble_eq_true rfl⟩, hts _ m_i_yX0_worthOf, hts _ m_e_yX0_worthOf⟩ (zPreV hK hN hZ hP hD hS hA [1, 2] (by decide) rfl rfl 0 1 rfl rfl) rfl rfl hl.1 rfl (lv_room (Nat.le_of_ble_eq_true rfl)) dX2_silentOf_44 ⟨Nat.le_of_ble_eq_true rfl, Nat.le_of_ble_eq_true rfl⟩) (fun r u H locs hw hP hD hS => ?_)
              obtain ⟨y3, rfl⟩ : ∃ z, z = r := ⟨_, rfl⟩
              obtain ⟨q4_0, q4_1, q4_2⟩ := hw
              have q4_0 : y3.toInt = zWq f3.toInt Z15 v6_0.toInt p2.toInt := q4_0
              have q4_1 : 0 ≤ y3.toInt := q4_1
              have q4_2 : y3.toInt ≤ 99 := q4_2
              have hP : va_P g.1 vwCl [(h0, .inr (2, [.ref h2, .ref h3, .ref h4, .ref h5, .ref h6, .ref h7, .int f0, .int f1, .ref h8, .ref h9, .ref h10, .ref h11])), (h1, .inr (0, [.ref h12, .int f2, .ref h13, .int f3, .ref h14, .ref h15, .ref h16, .ref h17, .ref h18, .ref h19, .int f4])), (h17, .inl (zI g, 20, .inl Z15))] H := hP
              have hD : va_D A [(h0, .inr (2, [.ref h2, .ref h3, .ref h4, .ref h5, .ref h6, .ref h7, .int f0, .int f1, .ref h8, .ref h9, .ref h10, .ref h11])), (h1, .inr (0, [.ref h12, .int f2, .ref h13, .int f3, .ref h14, .ref h15, .ref h16, .ref h17, .ref h18, .ref h19, .int f4])), (h17, .inl (zI g, 20, .inl Z15))] := hD
              have hwb : (zWf f3.toInt Z15 p2.toInt) v6_0.toInt.toNat = y3.toInt := (zWf_i (i := v6_0) (by omega)).trans (by omega)
              refine lv_iload hx hb dX2_silentOf_47 (lv_at hl 5 rfl) ?_
              refine lv_icmp_le (tgt := 65) hx hb dX2_silentOf_49 (by decide) (fun c_9 => ?_) (fun c_9 => ?_)
              · have i_9 : y3.toInt ≤ v5_0.toInt := z_le (rfl) (rfl) c_9
                have hvs : zVo p3 (zWf f3.toInt Z15 p2.toInt) (zib f0) (v6_0.toInt.toNat + 1) = zVo p3 (zWf f3.toInt Z15 p2.toInt) (zib f0) v6_0.toInt.toNat := zVo_n (Or.inr (Or.inr (by rw [← (by omega : v4_0.toInt = zVo p3 (zWf f3.toInt Z15 p2.toInt) (zib f0) v6_0.toInt.toNat)]; omega)))
                obtain ⟨y5, ey5⟩ : ∃ z : Int32, z = v6_0 + 1 := ⟨_, rfl⟩
                have qy5 : y5.toInt = v6_0.toInt + 1 := zi_add ey5 (rfl) rfl (by omega) (by omega)
                refine lv_iinc (v := y5) (lv' := [(6, .int y5), (0, .ref h0), (1, .ref h1), (2, .int p2), (3, .int p3), (4, .int v4_0), (5, .int v5_0)]) hx hb dX2_silentOf_65 hl (k := 6) rfl ey5.symm (by decide) rfl (fun ls hl => ?_)
                have hvt : zVo p3 (zWf f3.toInt Z15 p2.toInt) (zib f0) y5.toInt.toNat = zVo p3 (zWf f3.toInt Z15 p2.toInt) (zib f0) (v6_0.toInt.toNat + 1) := by rw [(by omega : y5.toInt.toNat = v6_0.toInt.toNat + 1)]
                refine lv_goto (tgt := 9) hx hb dX2_silentOf_68 (by decide) ?_
                exact ih1 v4_0 v5_0 y5 (by omega) (by omega) (by omega) (by omega) (by omega) (by omega) (by omega) (by omega) (by omega) (by omega) _ _ hP hD hS ls (lv_sub hl [1, 2, 3, 4, 5, 6, 0] rfl)
              · have i_9 : v5_0.toInt < y3.toInt := z_nle (rfl) (rfl) c_9
                refine lv_iload hx hb dX2_silentOf_52 (lv_at hl 6 rfl) ?_
                refine lv_istore (lv' := [(4, .int v6_0), (0, .ref h0), (1, .ref h1), (2, .int p2), (3, .int p3), (5, .int v5_0), (6, .int v6_0)]) hx hb dX2_silentOf_54 hl (by decide) rfl (fun ls hl => ?_)
                refine lv_aload_n hx hb dX2_silentOf_56 rfl (lv_at hl 2 rfl) ?_
                refine lv_iload hx hb dX2_silentOf_57 (lv_at hl 6 rfl) ?_
                refine lv_iload_n hx hb dX2_silentOf_59 rfl (lv_at hl 3 rfl) ?_
                refine z_calli (wr := [(h0, .inr (2, [.ref h2, .ref h3, .ref h4, .ref h5, .ref h6, .ref h7, .int f0, .int f1, .ref h8, .ref h9, .ref h10, .ref h11]))]) hP hD hS hA [1, 2] [0] (by decide) rfl rfl (by decide) (va_runVN (As := [.int v6_0, .int p2]) (rest := []) ⟨hx, hb, hml, hown, hts⟩ (gX0_worthOf l g h1 h12 h13 h14 h15 h16 h17 h18 h19 H.size v6_0 p2 f2 f3 f4 Z15 (by constructor <;> omega) (by constructor <;> omega) (by constructor <;> omega) hF_Z15) ⟨va_cnB 2 hts (zGood m_o_yX0_worthOf) rfl rfl rfl (hN.m 15 (q := (RX2, 137, yX0_worthOf)) rfl) (hts _ m_z_RX0) ⟨by decide +kernel, by decide +kernel, by decide +kernel⟩ ⟨Nat.le_of_ble_eq_true rfl, Nat.le_of_ble_eq_true rfl⟩, hts _ m_i_yX0_worthOf, hts _ m_e_yX0_worthOf⟩ (zPreV hK hN hZ hP hD hS hA [1, 2] (by decide) rfl rfl 0 1 rfl rfl) rfl rfl hl.1 rfl (lv_room (Nat.le_of_ble_eq_true rfl)) dX2_silentOf_60 ⟨Nat.le_of_ble_eq_true rfl, Nat.le_of_ble_eq_true rfl⟩) (fun r u H locs hw hP hD hS => ?_)
                obtain ⟨y6, rfl⟩ : ∃ z, z = r := ⟨_, rfl⟩
                obtain ⟨q7_0, q7_1, q7_2⟩ := hw
                have q7_0 : y6.toInt = zWq f3.toInt Z15 v6_0.toInt p2.toInt := q7_0
                have q7_1 : 0 ≤ y6.toInt := q7_1
                have q7_2 : y6.toInt ≤ 99 := q7_2
                have hP : va_P g.1 vwCl [(h0, .inr (2, [.ref h2, .ref h3, .ref h4, .ref h5, .ref h6, .ref h7, .int f0, .int f1, .ref h8, .ref h9, .ref h10, .ref h11])), (h1, .inr (0, [.ref h12, .int f2, .ref h13, .int f3, .ref h14, .ref h15, .ref h16, .ref h17, .ref h18, .ref h19, .int f4])), (h17, .inl (zI g, 20, .inl Z15))] H := hP
                have hD : va_D A [(h0, .inr (2, [.ref h2, .ref h3, .ref h4, .ref h5, .ref h6, .ref h7, .int f0, .int f1, .ref h8, .ref h9, .ref h10, .ref h11])), (h1, .inr (0, [.ref h12, .int f2, .ref h13, .int f3, .ref h14, .ref h15, .ref h16, .ref h17, .ref h18, .ref h19, .int f4])), (h17, .inl (zI g, 20, .inl Z15))] := hD
                refine lv_istore (lv' := [(5, .int y6), (4, .int v6_0), (0, .ref h0), (1, .ref h1), (2, .int p2), (3, .int p3), (6, .int v6_0)]) hx hb dX2_silentOf_63 hl (by decide) rfl (fun ls hl => ?_)
                have hvs : zVo p3 (zWf f3.toInt Z15 p2.toInt) (zib f0) (v6_0.toInt.toNat + 1) = ((v6_0.toInt.toNat : Nat) : Int) := zVo_1 ((zib_i (i := v6_0) rfl (by omega)).trans (by omega)) ((zib_i (i := v6_0) rfl (by omega)).trans (by omega)) (by rw [← (by omega : v4_0.toInt = zVo p3 (zWf f3.toInt Z15 p2.toInt) (zib f0) v6_0.toInt.toNat)]; omega)
                obtain ⟨y8, ey8⟩ : ∃ z : Int32, z = v6_0 + 1 := ⟨_, rfl⟩
                have qy8 : y8.toInt = v6_0.toInt + 1 := zi_add ey8 (rfl) rfl (by omega) (by omega)
                refine lv_iinc (v := y8) (lv' := [(6, .int y8), (5, .int y6), (4, .int v6_0), (0, .ref h0), (1, .ref h1), (2, .int p2), (3, .int p3)]) hx hb dX2_silentOf_65 hl (k := 6) rfl ey8.symm (by decide) rfl (fun ls hl => ?_)
                have hvt : zVo p3 (zWf f3.toInt Z15 p2.toInt) (zib f0) y8.toInt.toNat = zVo p3 (zWf f3.toInt Z15 p2.toInt) (zib f0) (v6_0.toInt.toNat + 1) := by rw [(by omega : y8.toInt.toNat = v6_0.toInt.toNat + 1)]
                refine lv_goto (tgt := 9) hx hb dX2_silentOf_68 (by decide) ?_
                exact ih1 v6_0 y6 y8 (by omega) (by omega) (by omega) (by omega) (by omega) (by omega) (by omega) (by omega) (by omega) (by omega) _ _ hP hD hS ls (lv_sub hl [3, 4, 5, 6, 2, 1, 0] rfl)
            · skip
              have i_8 : zbit f0 v6_0 = 0 := i_8
              have hP : va_P g.1 vwCl [(h0, .inr (2, [.ref h2, .ref h3, .ref h4, .ref h5, .ref h6, .ref h7, .int f0, .int f1, .ref h8, .ref h9, .ref h10, .ref h11])), (h1, .inr (0, [.ref h12, .int f2, .ref h13, .int f3, .ref h14, .ref h15, .ref h16, .ref h17, .ref h18, .ref h19, .int f4])), (h17, .inl (zI g, 20, .inl Z15))] H := hP
              have hD : va_D A [(h0, .inr (2, [.ref h2, .ref h3, .ref h4, .ref h5, .ref h6, .ref h7, .int f0, .int f1, .ref h8, .ref h9, .ref h10, .ref h11])), (h1, .inr (0, [.ref h12, .int f2, .ref h13, .int f3, .ref h14, .ref h15, .ref h16, .ref h17, .ref h18, .ref h19, .int f4])), (h17, .inl (zI g, 20, .inl Z15))] := hD
              refine lv_if_eq (tgt := 65) hx hb dX2_silentOf_37 (by decide) (fun _ => ?_) (fun h => absurd h (by decide +kernel))
              have hvs : zVo p3 (zWf f3.toInt Z15 p2.toInt) (zib f0) (v6_0.toInt.toNat + 1) = zVo p3 (zWf f3.toInt Z15 p2.toInt) (zib f0) v6_0.toInt.toNat := zVo_n (Or.inr (Or.inl (by rw [show (zib f0) v6_0.toInt.toNat = zbit f0 v6_0 from zib_i (i := v6_0) rfl (by omega)]; omega)))
              obtain ⟨y9, ey9⟩ : ∃ z : Int32, z = v6_0 + 1 := ⟨_, rfl⟩
              have qy9 : y9.toInt = v6_0.toInt + 1 := zi_add ey9 (rfl) rfl (by omega) (by omega)
              refine lv_iinc (v := y9) (lv' := [(6, .int y9), (0, .ref h0), (1, .ref h1), (2, .int p2), (3, .int p3), (4, .int v4_0), (5, .int v5_0)]) hx hb dX2_silentOf_65 hl (k := 6) rfl ey9.symm (by decide) rfl (fun ls hl => ?_)
              have hvt : zVo p3 (zWf f3.toInt Z15 p2.toInt) (zib f0) y9.toInt.toNat = zVo p3 (zWf f3.toInt Z15 p2.toInt) (zib f0) (v6_0.toInt.toNat + 1) := by rw [(by omega : y9.toInt.toNat = v6_0.toInt.toNat + 1)]
              refine lv_goto (tgt := 9) hx hb dX2_silentOf_68 (by decide) ?_
              exact ih1 v4_0 v5_0 y9 (by omega) (by omega) (by omega) (by omega) (by omega) (by omega) (by omega) (by omega) (by omega) (by omega) _ _ hP hD hS ls (lv_sub hl [1, 2, 3, 4, 5, 6, 0] rfl)
          · skip
            have i_6 : zbit p3 v6_0 = 0 := i_6
            have hP : va_P g.1 vwCl [(h0, .inr (2, [.ref h2, .ref h3, .ref h4, .ref h5, .ref h6, .ref h7, .int f0, .int f1, .ref h8, .ref h9, .ref h10, .ref h11])), (h1, .inr (0, [.ref h12, .int f2, .ref h13, .int f3, .ref h14, .ref h15, .ref h16, .ref h17, .ref h18, .ref h19, .int f4])), (h17, .inl (zI g, 20, .inl Z15))] H := hP
            have hD : va_D A [(h0, .inr (2, [.ref h2, .ref h3, .ref h4, .ref h5, .ref h6, .ref h7, .int f0, .int f1, .ref h8, .ref h9, .ref h10, .ref h11])), (h1, .inr (0, [.ref h12, .int f2, .ref h13, .int f3, .ref h14, .ref h15, .ref h16, .ref h17, .ref h18, .ref h19, .int f4])), (h17, .inl (zI g, 20, .inl Z15))] := hD
            refine lv_if_eq (tgt := 65) hx hb dX2_silentOf_25 (by decide) (fun _ => ?_) (fun h => absurd h (by decide +kernel))
            have hvs : zVo p3 (zWf f3.toInt Z15 p2.toInt) (zib f0) (v6_0.toInt.toNat + 1) = zVo p3 (zWf f3.toInt Z15 p2.toInt) (zib f0) v6_0.toInt.toNat := zVo_n (Or.inl (by rw [show zib p3 v6_0.toInt.toNat = zbit p3 v6_0 from zib_i (i := v6_0) rfl (by omega)]; omega))
            obtain ⟨y10, ey10⟩ : ∃ z : Int32, z = v6_0 + 1 := ⟨_, rfl⟩
            have qy10 : y10.toInt = v6_0.toInt + 1 := zi_add ey10 (rfl) rfl (by omega) (by omega)
            refine lv_iinc (v := y10) (lv' := [(6, .int y10), (0, .ref h0), (1, .ref h1), (2, .int p2), (3, .int p3), (4, .int v4_0), (5, .int v5_0)]) hx hb dX2_silentOf_65 hl (k := 6) rfl ey10.symm (by decide) rfl (fun ls hl => ?_)
            have hvt : zVo p3 (zWf f3.toInt Z15 p2.toInt) (zib f0) y10.toInt.toNat = zVo p3 (zWf f3.toInt Z15 p2.toInt) (zib f0) (v6_0.toInt.toNat + 1) := by rw [(by omega : y10.toInt.toNat = v6_0.toInt.toNat + 1)]
            refine lv_goto (tgt := 9) hx hb dX2_silentOf_68 (by decide) ?_
            exact ih1 v4_0 v5_0 y10 (by omega) (by omega) (by omega) (by omega) (by omega) (by omega) (by omega) (by omega) (by omega) (by omega) _ _ hP hD hS ls (lv_sub hl [1, 2, 3, 4, 5, 6, 0] rfl)
  have : ((-1) : Int32).toInt = (-1) := rfl
  have : (0 : Int32).toInt = 0 := rfl
  exact loop9_0 ((5 - 0 : Int).toNat + 1) ((-1) : Int32) ((-1) : Int32) (0 : Int32) (by omega) (by omega) (by omega) (by omega) (by omega) (by omega) (by omega) (by omega) (by omega) (by omega) _ _ hP hD hS ls (lv_sub hl [3, 4, 5, 6, 2, 1, 0] rfl)
set_option maxHeartbeats 8000000 in
set_option maxRecDepth 100000 in
theorem gX2_coughsAt (l : Launch) (g : zG) (h0 h1 h2 h3 h4 h5 h6 h7 h8 h9 h10 h11 h12 h13 h14 h15 h16 h17 h18 h19 : Nat) (sz : Nat) (p2 : Int32) (p3 : Int32) (f0 : Int32) (f1 : Int32) (f2 : Int32) (f3 : Int32) (f4 : Int32) (Z4 : Nat → Int32) (Z5 : Nat → Int32) (Z12 : Nat → Int32) (hf_f2 : 0 ≤ f2.toInt ∧ f2.toInt ≤ 6) (hf_f3 : 0 ≤ f3.toInt ∧ f3.toInt ≤ 5) (hf_f4 : 0 ≤ f4.toInt ∧ f4.toInt ≤ 9999) (hF_Z4 : iLm Z4) (hF_Z5 : iMo Z5) (hF_Z12 : iSo Z12) : Met l yX2_coughsAt (.code yX2_coughsAt cX2_coughsAt 7 (some .int) :: zBig) ({ frames := 1, cells := 0, slots := 0, locals := 21 }) (va_Pc [.ref h0, .ref h1, .int p2, .int p3] (zPre g [(h0, .inr (2, [.ref h2, .ref h3, .ref h4, .ref h5, .ref h6, .ref h7, .int f0, .int f1, .ref h8, .ref h9, .ref h10, .ref h11])), (h1, .inr (0, [.ref h12, .int f2, .ref h13, .int f3, .ref h14, .ref h15, .ref h16, .ref h17, .ref h18, .ref h19, .int f4])), (h6, .inl (zI g, 5, .inl Z4)), (h7, .inl (zI g, 5, .inl Z5)), (h14, .inl (zI g, 5, .inl Z12))] sz)) (va_Qi (fun (r : Int32) (u : Nat) => r.toInt = zS5 (zCg (zib f0) Z12 (zIv Z4) (zIv Z5) p2.toInt p3.toInt) ∧ 0 ≤ r.toInt ∧ r.toInt ≤ 31) (zPost g (fun u : Nat => [(h0, .inr (2, [.ref h2, .ref h3, .ref h4, .ref h5, .ref h6, .ref h7, .int f0, .int f1, .ref h8, .ref h9, .ref h10, .ref h11])), (h1, .inr (0, [.ref h12, .int f2, .ref h13, .int f3, .ref h14, .ref h15, .ref h16, .ref h17, .ref h18, .ref h19, .int f4])), (h6, .inl (zI g, 5, .inl Z4)), (h7, .inl (zI g, 5, .inl Z5)), (h14, .inl (zI g, 5, .inl Z12))]) (va_A [(h0, .inr (2, [.ref h2, .ref h3, .ref h4, .ref h5, .ref h6, .ref h7, .int f0, .int f1, .ref h8, .ref h9, .ref h10, .ref h11])), (h1, .inr (0, [.ref h12, .int f2, .ref h13, .int f3, .ref h14, .ref h15, .ref h16, .ref h17, .ref h18, .ref h19, .int f4])), (h6, .inl (zI g, 5, .inl Z4)), (h7, .inl (zI g, 5, .inl Z5)), (h14, .inl (zI g, 5, .inl Z12))] sz)) (va_A [(h0, .inr (2, [.ref h2, .ref h3, .ref h4, .ref h5, .ref h6, .ref h7, .int f0, .int f1, .ref h8, .ref h9, .ref h10, .ref h11])), (h1, .inr (0, [.ref h12, .int f2, .ref h13, .int f3, .ref h14, .ref h15, .ref h16, .ref h17, .ref h18, .ref h19, .int f4])), (h6, .inl (zI g, 5, .inl Z4)), (h7, .inl (zI g, 5, .inl Z5)), (h14, .inl (zI g, 5, .inl Z12))] sz)) 0 0 (va_A [(h0, .inr (2, [.ref h2, .ref h3, .ref h4, .ref h5, .ref h6, .ref h7, .int f0, .int f1, .ref h8, .ref h9, .ref h10, .ref h11])), (h1, .inr (0, [.ref h12, .int f2, .ref h13, .int f3, .ref h14, .ref h15, .ref h16, .ref h17, .ref h18, .ref h19, .int f4])), (h6, .inl (zI g, 5, .inl Z4)), (h7, .inl (zI g, 5, .inl Z5)), (h14, .inl (zI g, 5, .inl Z12))] sz) := by
  refine zMetI rfl (Nat.le_of_ble_eq_true rfl) ?_
  intro p e s m args below meth c A ls hx hb hml hr hlocks hin hown hts hK hN hZ hP hD hA hS hAe hl
  have hown : s.vm.findClass RX2 = some m.cls := hown
  have hl : lv_has ls 7 [(0, .ref h0), (1, .ref h1), (2, .int p2), (3, .int p3)] := hl
  have hsk0 : zSk (zCg (zib f0) Z12 (zIv Z4) (zIv Z5) p2.toInt p3.toInt) (0 : Int32).toInt = 0 := zSk_0
  refine lv_iconst (v := 0) hx hb dX2_coughsAt_0 (by decide) ?_
  refine lv_istore (lv' := [(4, .int 0), (0, .ref h0), (1, .ref h1), (2, .int p2), (3, .int p3)]) hx hb dX2_coughsAt_1 hl (by decide) rfl (fun ls hl => ?_)
  refine lv_iconst (v := 0) hx hb dX2_coughsAt_3 (by decide) ?_
  refine lv_istore (lv' := [(5, .int 0), (4, .int 0), (0, .ref h0), (1, .ref h1), (2, .int p2), (3, .int p3)]) hx hb dX2_coughsAt_4 hl (by decide) rfl (fun ls hl => ?_)
  have loop6_0 : ∀ (n1 : Nat) (v4_0 : Int32) (v5_0 : Int32) (n1_0 : 0 ≤ v5_0.toInt) (n1_1 : v5_0.toInt ≤ 5) (n1_2 : 0 ≤ v4_0.toInt) (n1_3 : v4_0.toInt ≤ 31) (n1_4 : v4_0.toInt = zSk (zCg (zib f0) Z12 (zIv Z4) (zIv Z5) p2.toInt p3.toInt) v5_0.toInt) (hm1 : 5 - v5_0.toInt < (n1 : Int)) (H : Heap) (locs : List Loc), va_P g.1 vwCl [(h0, .inr (2, [.ref h2, .ref h3, .ref h4, .ref h5, .ref h6, .ref h7, .int f0, .int f1, .ref h8, .ref h9, .ref h10, .ref h11])), (h1, .inr (0, [.ref h12, .int f2, .ref h13, .int f3, .ref h14, .ref h15, .ref h16, .ref h17, .ref h18, .ref h19, .int f4])), (h6, .inl (zI g, 5, .inl Z4)), (h7, .inl (zI g, 5, .inl Z5)), (h14, .inl (zI g, 5, .inl Z12))] H → va_D A [(h0, .inr (2, [.ref h2, .ref h3, .ref h4, .ref h5, .ref h6, .ref h7, .int f0, .int f1, .ref h8, .ref h9, .ref h10, .ref h11])), (h1, .inr (0, [.ref h12, .int f2, .ref h13, .int f3, .ref h14, .ref h15, .ref h16, .ref h17, .ref h18, .ref h19, .int f4])), (h6, .inl (zI g, 5, .inl Z4)), (h7, .inl (zI g, 5, .inl Z5)), (h14, .inl (zI g, 5, .inl Z12))] → va_S A s.heap H locs → ∀ (ls : Array Slot), lv_has ls 7 [(0, .ref h0), (1, .ref h1), (2, .int p2), (3, .int p3), (4, .int v4_0), (5, .int v5_0)] → W p l e ({ frames := 1, cells := 0, slots := 0, locals := 21 }) s m args below meth c H locs 0 0 (MQ below (va_Qi (fun (r : Int32) (u : Nat) => r.toInt = zS5 (zCg (zib f0) Z12 (zIv Z4) (zIv Z5) p2.toInt p3.toInt) ∧ 0 ≤ r.toInt ∧ r.toInt ≤ 31) (zPost g (fun u : Nat => [(h0, .inr (2, [.ref h2, .ref h3, .ref h4, .ref h5, .ref h6, .ref h7, .int f0, .int f1, .ref h8, .ref h9, .ref h10, .ref h11])), (h1, .inr (0, [.ref h12, .int f2, .ref h13, .int f3, .ref h14, .ref h15, .ref h16, .ref h17, .ref h18, .ref h19, .int f4])), (h6, .inl (zI g, 5, .inl Z4)), (h7, .inl (zI g, 5, .inl Z5)), (h14, .inl (zI g, 5, .inl Z12))]) A) A) args s 0 0 A) (F0 m 6 ls []) := by
    intro n1
    induction n1 with
    | zero => intro v4_0 v5_0 n1_0 n1_1 n1_2 n1_3 n1_4 hm1; exfalso; omega
    | succ n1 ih1 =>
      intro v4_0 v5_0 n1_0 n1_1 n1_2 n1_3 n1_4 hm1 H locs hP hD hS ls hl
      refine lv_iload hx hb dX2_coughsAt_6 (lv_at hl 5 rfl) ?_
      refine lv_iconst (v := 5) hx hb dX2_coughsAt_8 (by decide) ?_
      refine lv_icmp_ge (tgt := 80) hx hb dX2_coughsAt_9 (by decide) (fun c_1 => ?_) (fun c_1 => ?_)
      · have i_1 : 5 ≤ v5_0.toInt := z_le (rfl) (rfl) c_1
        have hs9 : zSk (zCg (zib f0) Z12 (zIv Z4) (zIv Z5) p2.toInt p3.toInt) v5_0.toInt = zS5 (zCg (zib f0) Z12 (zIv Z4) (zIv Z5) p2.toInt p3.toInt) := zSk_5 (by omega)
        refine lv_iload hx hb dX2_coughsAt_80 (lv_at hl 4 rfl) ?_
        have hP9 := hP.sub (ws' := [(h0, .inr (2, [.ref h2, .ref h3, .ref h4, .ref h5, .ref h6, .ref h7, .int f0, .int f1, .ref h8, .ref h9, .ref h10, .ref h11])), (h1, .inr (0, [.ref h12, .int f2, .ref h13, .int f3, .ref h14, .ref h15, .ref h16, .ref h17, .ref h18, .ref h19, .int f4])), (h6, .inl (zI g, 5, .inl Z4)), (h7, .inl (zI g, 5, .inl Z5)), (h14, .inl (zI g, 5, .inl Z12))]) [0, 1, 2, 3, 4] rfl
        have hD9 := hD.sub (ws' := [(h0, .inr (2, [.ref h2, .ref h3, .ref h4, .ref h5, .ref h6, .ref h7, .int f0, .int f1, .ref h8, .ref h9, .ref h10, .ref h11])), (h1, .inr (0, [.ref h12, .int f2, .ref h13, .int f3, .ref h14, .ref h15, .ref h16, .ref h17, .ref h18, .ref h19, .int f4])), (h6, .inl (zI g, 5, .inl Z4)), (h7, .inl (zI g, 5, .inl Z5)), (h14, .inl (zI g, 5, .inl Z12))]) [0, 1, 2, 3, 4] (by decide) rfl
        exact W.iret (v := v4_0) hx hb hr (fun t ht hW => ⟨⟨v4_0, (0 : Nat), rfl, ⟨(by first | omega | decide), (by first | omega | decide), (by first | omega | decide)⟩, by rw [ht]; exact hP9, hD9⟩, hS.F ht⟩) hS.2.2 dX2_coughsAt_82
      · have i_1 : v5_0.toInt < 5 := z_nle (rfl) (rfl) c_1
        refine lv_aload_n hx hb dX2_coughsAt_12 rfl (lv_at hl 1 rfl) ?_
        refine va_getN (D := g.1) (ci := 0) (v := .ref h14) (C := RX0) (T := TX0) (N := 11) hx hb hts zl_X0 hown hK hP 1 rfl rfl 4 (by decide) (hN.f 10 (q := (RX2, 134, "FishSteps$Books", "sort", "[I")) rfl) (fun _ h => h) rfl dX2_coughsAt_13 ?_
        refine lv_iload hx hb dX2_coughsAt_16 (lv_at hl 5 rfl) ?_
        refine va_iald (D := g.1) hx hb hK hP 4 0 rfl rfl (vp_in_iff.mpr ⟨by omega, by omega⟩) dX2_coughsAt_18 ?_
        refine lv_topi (fun y0 ey0 => ?_)
        have qy0_0 : 0 ≤ y0.toInt := (i_at (N := 5) (lo := 0) (hi := 4) (i := v5_0) (a := v5_0.toInt) hF_Z12 (rfl) (by omega) (by omega) ey0).1
        have qy0_1 : y0.toInt ≤ 4 := (i_at (N := 5) (lo := 0) (hi := 4) (i := v5_0) (a := v5_0.toInt) hF_Z12 (rfl) (by omega) (by omega) ey0).2
        have qy0_2 : y0.toInt = (Z12 v5_0.toNatClampNeg).toInt := congrArg Int32.toInt ey0
        refine lv_iconst (v := 1) hx hb dX2_coughsAt_19 (by decide) ?_
        refine lv_icmp_ne (tgt := 27) hx hb dX2_coughsAt_20 (by decide) (fun c_2 => ?_) (fun c_2 => ?_)
        · have i_2 : y0.toInt ≠ 1 := z_ne (rfl) (rfl) c_2
          refine lv_iload_n hx hb dX2_coughsAt_27 rfl (lv_at hl 2 rfl) ?_
          refine lv_istore (lv' := [(6, .int p2), (0, .ref h0), (1, .ref h1), (2, .int p2), (3, .int p3), (4, .int v4_0), (5, .int v5_0)]) hx hb dX2_coughsAt_28 hl (by decide) rfl (fun ls hl => ?_)
          refine lv_aload_n hx hb dX2_coughsAt_30 rfl (lv_at hl 1 rfl) ?_
          refine va_get (D := g.1) (ci := 2) (v := .int f0) (C := RX2) (T := TX2) (N := 12) hx hb hts zl_X2 hown hK hP 0 rfl rfl 6 (by decide) (hts _ m_f_RX2_30) (fun _ h => h) rfl dX2_coughsAt_31 ?_
          refine lv_iload hx hb dX2_coughsAt_34 (lv_at hl 6 rfl) ?_
          refine z_calli (wr := [(h0, .inr (2, [.ref h2, .ref h3, .ref h4, .ref h5, .ref h6, .ref h7, .int f0, .int f1, .ref h8, .ref h9, .ref h10, .ref h11])), (h1, .inr (0, [.ref h12, .int f2, .ref h13, .int f3, .ref h14, .ref h15, .ref h16, .ref h17, .ref h18, .ref h19, .int f4])), (h6, .inl (zI g, 5, .inl Z4)), (h7, .inl (zI g, 5, .inl Z5)), (h14, .inl (zI g, 5, .inl Z12))]) hP hD hS hA [] [0, 1, 2, 3, 4] (by decide) rfl rfl (by decide) (va_runS (As := [.int f0, .int v5_0]) (rest := []) ⟨hx, hb, hml, hown, hts⟩ (gX2_isIn l g  H.size f0 v5_0) ⟨callB_of 2 hts (zGood m_o_yX2_isIn) rfl rfl rfl (hts _ m_z_RX2) (hts _ m_m_RX2_93) ⟨by decide +kernel, by decide +kernel, by decide +kernel⟩ ⟨Nat.le_of_ble_eq_true rfl, Nat.le_of_ble_eq_true rfl⟩, hts _ m_s_yX2_isIn⟩ (zPreS hK hN hZ hP hD hS hA [] (by decide) rfl rfl) rfl rfl hl.1 rfl (lv_room (Nat.le_of_ble_eq_true rfl)) dX2_coughsAt_36 ⟨Nat.le_of_ble_eq_true rfl, Nat.le_of_ble_eq_true rfl⟩) (fun r u H locs hw hP hD hS => ?_)
          rcases hw with ⟨i_3, rfl⟩ | ⟨i_4, rfl⟩
          · skip
            have i_3 : zbit f0 v5_0 = 1 := i_3
            have hP : va_P g.1 vwCl [(h0, .inr (2, [.ref h2, .ref h3, .ref h4, .ref h5, .ref h6, .ref h7, .int f0, .int f1, .ref h8, .ref h9, .ref h10, .ref h11])), (h1, .inr (0, [.ref h12, .int f2, .ref h13, .int f3, .ref h14, .ref h15, .ref h16, .ref h17, .ref h18, .ref h19, .int f4])), (h6, .inl (zI g, 5, .inl Z4)), (h7, .inl (zI g, 5, .inl Z5)), (h14, .inl (zI g, 5, .inl Z12))] H := hP
            have hD : va_D A [(h0, .inr (2, [.ref h2, .ref h3, .ref h4, .ref h5, .ref h6, .ref h7, .int f0, .int f1, .ref h8, .ref h9, .ref h10, .ref h11])), (h1, .inr (0, [.ref h12, .int f2, .ref h13, .int f3, .ref h14, .ref h15, .ref h16, .ref h17, .ref h18, .ref h19, .int f4])), (h6, .inl (zI g, 5, .inl Z4)), (h7, .inl (zI g, 5, .inl Z5)), (h14, .inl (zI g, 5, .inl Z12))] := hD
            refine lv_if_eq (tgt := 74) hx hb dX2_coughsAt_39 (by decide) (fun h => absurd h (by decide +kernel)) (fun _ => ?_)
            refine lv_iload_n hx hb dX2_coughsAt_42 rfl (lv_at hl 3 rfl) ?_
            refine lv_aload_n hx hb dX2_coughsAt_43 rfl (lv_at hl 1 rfl) ?_
            refine va_get (D := g.1) (ci := 2) (v := .ref h7) (C := RX2) (T := TX2) (N := 12) hx hb hts zl_X2 hown hK hP 0 rfl rfl 5 (by decide) (hts _ m_f_RX2_27) (fun _ h => h) rfl dX2_coughsAt_44 ?_
            refine lv_iload hx hb dX2_coughsAt_47 (lv_at hl 6 rfl) ?_
            refine va_iald (D := g.1) hx hb hK hP 3 0 rfl rfl (vp_in_iff.mpr ⟨by omega, by omega⟩) dX2_coughsAt_49 ?_
            refine lv_topi (fun y1 ey1 => ?_)
            have qy1_0 : (-99) ≤ y1.toInt := (i_at (N := 5) (lo := (-99)) (hi := 10098) (i := v5_0) (a := v5_0.toInt) hF_Z5 (rfl) (by omega) (by omega) ey1).1
            have qy1_1 : y1.toInt ≤ 10098 := (i_at (N := 5) (lo := (-99)) (hi := 10098) (i := v5_0) (a := v5_0.toInt) hF_Z5 (rfl) (by omega) (by omega) ey1).2
            have qy1_2 : y1.toInt = (Z5 v5_0.toNatClampNeg).toInt := congrArg Int32.toInt ey1
            refine lv_icmp_gt (tgt := 74) hx hb dX2_coughsAt_50 (by decide) (fun c_5 => ?_) (fun c_5 => ?_)
            · have i_5 : y1.toInt < p2.toInt := z_lt (rfl) (rfl) c_5
              have hcg : (zCg (zib f0) Z12 (zIv Z4) (zIv Z5) p2.toInt p3.toInt) v5_0.toNatClampNeg = 0 := zCg_i0 (i := v5_0) (h := p2.toInt) (by omega) (by omega) (by omega)
              have hsk : zSk (zCg (zib f0) Z12 (zIv Z4) (zIv Z5) p2.toInt p3.toInt) (v5_0.toInt + 1) = zSk (zCg (zib f0) Z12 (zIv Z4) (zIv Z5) p2.toInt p3.toInt) v5_0.toInt := zSk_n (by omega) (by omega) hcg
              obtain ⟨y2, ey2⟩ : ∃ z : Int32, z = v5_0 + 1 := ⟨_, rfl⟩
              have qy2 : y2.toInt = v5_0.toInt + 1 := zi_add ey2 (rfl) rfl (by omega) (by omega)
              refine lv_iinc (v := y2) (lv' := [(5, .int y2), (6, .int p2), (0, .ref h0), (1, .ref h1), (2, .int p2), (3, .int p3), (4, .int v4_0)]) hx hb dX2_coughsAt_74 hl (k := 6) rfl ey2.symm (by decide) rfl (fun ls hl => ?_)
              have hskb : zSk (zCg (zib f0) Z12 (zIv Z4) (zIv Z5) p2.toInt p3.toInt) y2.toInt = zSk (zCg (zib f0) Z12 (zIv Z4) (zIv Z5) p2.toInt p3.toInt) (v5_0.toInt + 1) := by rw [(by omega : y2.toInt = v5_0.toInt + 1)]
              refine lv_goto (tgt := 6) hx hb dX2_coughsAt_77 (by decide) ?_
              exact ih1 v4_0 y2 (by omega) (by omega) (by omega) (by omega) (by omega) (by omega) _ _ hP hD hS ls (lv_sub hl [2, 3, 4, 5, 6, 0] rfl)
            · have i_5 : p2.toInt ≤ y1.toInt := z_nlt (rfl) (rfl) c_5
              refine lv_iload hx hb dX2_coughsAt_53 (lv_at hl 0 rfl) ?_
              refine lv_aload_n hx hb dX2_coughsAt_55 rfl (lv_at hl 1 rfl) ?_
              refine va_get (D := g.1) (ci := 2) (v := .ref h6) (C := RX2) (T := TX2) (N := 12) hx hb hts zl_X2 hown hK hP 0 rfl rfl 4 (by decide) (hts _ m_f_RX2_24) (fun _ h => h) rfl dX2_coughsAt_56 ?_
              refine lv_iload hx hb dX2_coughsAt_59 (lv_at hl 6 rfl) ?_
              refine va_iald (D := g.1) hx hb hK hP 2 0 rfl rfl (vp_in_iff.mpr ⟨by omega, by omega⟩) dX2_coughsAt_61 ?_
              refine lv_topi (fun y3 ey3 => ?_)
              have qy3_0 : (-40) ≤ y3.toInt := (i_at (N := 5) (lo := (-40)) (hi := 99) (i := v5_0) (a := v5_0.toInt) hF_Z4 (rfl) (by omega) (by omega) ey3).1
              have qy3_1 : y3.toInt ≤ 99 := (i_at (N := 5) (lo := (-40)) (hi := 99) (i := v5_0) (a := v5_0.toInt) hF_Z4 (rfl) (by omega) (by omega) ey3).2
              have qy3_2 : y3.toInt = (Z4 v5_0.toNatClampNeg).toInt := congrArg Int32.toInt ey3
              refine lv_icmp_gt (tgt := 74) hx hb dX2_coughsAt_62 (by decide) (fun c_6 => ?_) (fun c_6 => ?_)
              · have i_6 : y3.toInt < p2.toInt := z_lt (rfl) (rfl) c_6
                have hcg : (zCg (zib f0) Z12 (zIv Z4) (zIv Z5) p2.toInt p3.toInt) v5_0.toNatClampNeg = 0 := zCg_i0 (i := v5_0) (h := p2.toInt) (by omega) (by omega) (by omega)
                have hsk : zSk (zCg (zib f0) Z12 (zIv Z4) (zIv Z5) p2.toInt p3.toInt) (v5_0.toInt + 1) = zSk (zCg (zib f0) Z12 (zIv Z4) (zIv Z5) p2.toInt p3.toInt) v5_0.toInt := zSk_n (by omega) (by omega) hcg
                obtain ⟨y4, ey4⟩ : ∃ z : Int32, z = v5_0 + 1 := ⟨_, rfl⟩
                have qy4 : y4.toInt = v5_0.toInt + 1 := zi_add ey4 (rfl) rfl (by omega) (by omega)
                refine lv_iinc (v := y4) (lv' := [(5, .int y4), (6, .int p2), (0, .ref h0), (1, .ref h1), (2, .int p2), (3, .int p3), (4, .int v4_0)]) hx hb dX2_coughsAt_74 hl (k := 6) rfl ey4.symm (by decide) rfl (fun ls hl => ?_)
                have hskb : zSk (zCg (zib f0) Z12 (zIv Z4) (zIv Z5) p2.toInt p3.toInt) y4.toInt = zSk (zCg (zib f0) Z12 (zIv Z4) (zIv Z5) p2.toInt p3.toInt) (v5_0.toInt + 1) := by rw [(by omega : y4.toInt = v5_0.toInt + 1)]
                refine lv_goto (tgt := 6) hx hb dX2_coughsAt_77 (by decide) ?_
                exact ih1 v4_0 y4 (by omega) (by omega) (by omega) (by omega) (by omega) (by omega) _ _ hP hD hS ls (lv_sub hl [2, 3, 4, 5, 6, 0] rfl)
              · have i_6 : p2.toInt ≤ y3.toInt := z_nlt (rfl) (rfl) c_6
                refine lv_iload hx hb dX2_coughsAt_65 (lv_at hl 5 rfl) ?_
                refine lv_iconst (v := 1) hx hb dX2_coughsAt_67 (by decide) ?_
                refine lv_iload hx hb dX2_coughsAt_68 (lv_at hl 6 rfl) ?_
                refine lv_ishl hx hb dX2_coughsAt_70 ?_
                refine lv_topi (fun y5 ey5 => ?_)
                have qy5_0 : 1 ≤ y5.toInt := (zi_shl 4 ey5 (rfl) (by omega) (by omega) (by decide)).1
                have qy5_1 : y5.toInt ≤ 16 := (zi_shl 4 ey5 (rfl) (by omega) (by omega) (by decide)).2
                have hskr := zSk_r (f := (zCg (zib f0) Z12 (zIv Z4) (zIv Z5) p2.toInt p3.toInt)) zCg_01 (k := v5_0.toInt) (by omega) (by omega)
                refine lv_ior hx hb dX2_coughsAt_71 ?_
                refine lv_topi (fun y6 ey6 => ?_)
                have qy6_0 : v4_0.toInt ≤ y6.toInt := (zi_or ey6 (rfl) (rfl) (by omega) (by omega) (by omega) (by omega)).1
                have qy6_1 : y5.toInt ≤ y6.toInt := (zi_or ey6 (rfl) (rfl) (by omega) (by omega) (by omega) (by omega)).2.1
                have qy6_2 : y6.toInt ≤ 31 := (zi_or ey6 (rfl) (rfl) (by omega) (by omega) (by omega) (by omega)).2.2
                have py6_0 : y6.toInt = v4_0.toInt + zP2 v5_0.toInt := zor_bit ey6 ey5 rfl (by omega) (by omega) (by omega) (by omega)
                refine lv_istore (lv' := [(4, .int y6), (6, .int p2), (0, .ref h0), (1, .ref h1), (2, .int p2), (3, .int p3), (5, .int v5_0)]) hx hb dX2_coughsAt_72 hl (by decide) rfl (fun ls hl => ?_)
                have hcg : (zCg (zib f0) Z12 (zIv Z4) (zIv Z5) p2.toInt p3.toInt) v5_0.toNatClampNeg = 1 := zCg_i1 (i := v5_0) (h := p2.toInt) (by omega) (by omega) (by omega) (by omega) (by omega)
                have hsk : zSk (zCg (zib f0) Z12 (zIv Z4) (zIv Z5) p2.toInt p3.toInt) (v5_0.toInt + 1) = zSk (zCg (zib f0) Z12 (zIv Z4) (zIv Z5) p2.toInt p3.toInt) v5_0.toInt + zP2 v5_0.toInt := zSk_1 (by omega) (by omega) hcg
                obtain ⟨y7, ey7⟩ : ∃ z : Int32, z = v5_0 + 1 := ⟨_, rfl⟩
                have qy7 : y7.toInt = v5_0.toInt + 1 := zi_add ey7 (rfl) rfl (by omega) (by omega)
                refine lv_iinc (v := y7) (lv' := [(5, .int y7), (4, .int y6), (6, .int p2), (0, .ref h0), (1, .ref h1), (2, .int p2), (3, .int p3)]) hx hb dX2_coughsAt_74 hl (k := 6) rfl ey7.symm (by decide) rfl (fun ls hl => ?_)
                have hskb : zSk (zCg (zib f0) Z12 (zIv Z4) (zIv Z5) p2.toInt p3.toInt) y7.toInt = zSk (zCg (zib f0) Z12 (zIv Z4) (zIv Z5) p2.toInt p3.toInt) (v5_0.toInt + 1) := by rw [(by omega : y7.toInt = v5_0.toInt + 1)]
                refine lv_goto (tgt := 6) hx hb dX2_coughsAt_77 (by decide) ?_
                exact ih1 y6 y7 (by omega) (by omega) (by omega) (by omega) (by omega) (by omega) _ _ hP hD hS ls (lv_sub hl [3, 4, 5, 6, 1, 0] rfl)
          · skip
            have i_4 : zbit f0 v5_0 = 0 := i_4
            have hP : va_P g.1 vwCl [(h0, .inr (2, [.ref h2, .ref h3, .ref h4, .ref h5, .ref h6, .ref h7, .int f0, .int f1, .ref h8, .ref h9, .ref h10, .ref h11])), (h1, .inr (0, [.ref h12, .int f2, .ref h13, .int f3, .ref h14, .ref h15, .ref h16, .ref h17, .ref h18, .ref h19, .int f4])), (h6, .inl (zI g, 5, .inl Z4)), (h7, .inl (zI g, 5, .inl Z5)), (h14, .inl (zI g, 5, .inl Z12))] H := hP
            have hD : va_D A [(h0, .inr (2, [.ref h2, .ref h3, .ref h4, .ref h5, .ref h6, .ref h7, .int f0, .int f1, .ref h8, .ref h9, .ref h10, .ref h11])), (h1, .inr (0, [.ref h12, .int f2, .ref h13, .int f3, .ref h14, .ref h15, .ref h16, .ref h17, .ref h18, .ref h19, .int f4])), (h6, .inl (zI g, 5, .inl Z4)), (h7, .inl (zI g, 5, .inl Z5)), (h14, .inl (zI g, 5, .inl Z12))] := hD
            refine lv_if_eq (tgt := 74) hx hb dX2_coughsAt_39 (by decide) (fun _ => ?_) (fun h => absurd h (by decide +kernel))
            have hcg : (zCg (zib f0) Z12 (zIv Z4) (zIv Z5) p2.toInt p3.toInt) v5_0.toNatClampNeg = 0 := zCg_i0 (i := v5_0) (h := p2.toInt) (by omega) (by omega) (by omega)
            have hsk : zSk (zCg (zib f0) Z12 (zIv Z4) (zIv Z5) p2.toInt p3.toInt) (v5_0.toInt + 1) = zSk (zCg (zib f0) Z12 (zIv Z4) (zIv Z5) p2.toInt p3.toInt) v5_0.toInt := zSk_n (by omega) (by omega) hcg
            obtain ⟨y8, ey8⟩ : ∃ z : Int32, z = v5_0 + 1 := ⟨_, rfl⟩
            have qy8 : y8.toInt = v5_0.toInt + 1 := zi_add ey8 (rfl) rfl (by omega) (by omega)
            refine lv_iinc (v := y8) (lv' := [(5, .int y8), (6, .int p2), (0, .ref h0), (1, .ref h1), (2, .int p2), (3, .int p3), (4, .int v4_0)]) hx hb dX2_coughsAt_74 hl (k := 6) rfl ey8.symm (by decide) rfl (fun ls hl => ?_)
            have hskb : zSk (zCg (zib f0) Z12 (zIv Z4) (zIv Z5) p2.toInt p3.toInt) y8.toInt = zSk (zCg (zib f0) Z12 (zIv Z4) (zIv Z5) p2.toInt p3.toInt) (v5_0.toInt + 1) := by rw [(by omega : y8.toInt = v5_0.toInt + 1)]
            refine lv_goto (tgt := 6) hx hb dX2_coughsAt_77 (by decide) ?_
            exact ih1 v4_0 y8 (by omega) (by omega) (by omega) (by omega) (by omega) (by omega) _ _ hP hD hS ls (lv_sub hl [2, 3, 4, 5, 6, 0] rfl)
        · have i_2 : y0.toInt = 1 := z_eq (rfl) (rfl) c_2
          refine lv_iload_n hx hb dX2_coughsAt_23 rfl (lv_at hl 3 rfl) ?_
          refine lv_goto (tgt := 28) hx hb dX2_coughsAt_24 (by decide) ?_
          refine lv_istore (lv' := [(6, .int p3), (0, .ref h0), (1, .ref h1), (2, .int p2), (3, .int p3), (4, .int v4_0), (5, .int v5_0)]) hx hb dX2_coughsAt_28 hl (by decide) rfl (fun ls hl => ?_)
          refine lv_aload_n hx hb dX2_coughsAt_30 rfl (lv_at hl 1 rfl) ?_
          refine va_get (D := g.1) (ci := 2) (v := .int f0) (C := RX2) (T := TX2) (N := 12) hx hb hts zl_X2 hown hK hP 0 rfl rfl 6 (by decide) (hts _ m_f_RX2_30) (fun _ h => h) rfl dX2_coughsAt_31 ?_
          refine lv_iload hx hb dX2_coughsAt_34 (lv_at hl 6 rfl) ?_
          refine z_calli (wr := [(h0, .inr (2, [.ref h2, .ref h3, .ref h4, .ref h5, .ref h6, .ref h7, .int f0, .int f1, .ref h8, .ref h9, .ref h10, .ref h11])), (h1, .inr (0, [.ref h12, .int f2, .ref h13, .int f3, .ref h14, .ref h15, .ref h16, .ref h17, .ref h18, .ref h19, .int f4])), (h6, .inl (zI g, 5, .inl Z4)), (h7, .inl (zI g, 5, .inl Z5)), (h14, .inl (zI g, 5, .inl Z12))]) hP hD hS hA [] [0, 1, 2, 3, 4] (by decide) rfl rfl (by decide) (va_runS (As := [.int f0, .int v5_0]) (rest := []) ⟨hx, hb, hml, hown, hts⟩ (gX2_isIn l g  H.size f0 v5_0) ⟨callB_of 2 hts (zGood m_o_yX2_isIn) rfl rfl rfl (hts _ m_z_RX2) (hts _ m_m_RX2_93) ⟨by decide +kernel, by decide +kernel, by decide +kernel⟩ ⟨Nat.le_of_ble_eq_true rfl, Nat.le_of_ble_eq_true rfl⟩, hts _ m_s_yX2_isIn⟩ (zPreS hK hN hZ hP hD hS hA [] (by decide) rfl rfl) rfl rfl hl.1 rfl (lv_room (Nat.le_of_ble_eq_true rfl)) dX2_coughsAt_36 ⟨Nat.le_of_ble_eq_true rfl, Nat.le_of_ble_eq_true rfl⟩) (fun r u H locs hw hP hD hS => ?_)
          rcases hw with ⟨i_7, rfl⟩ | ⟨i_8, rfl⟩
          · skip
            have i_7 : zbit f0 v5_0 = 1 := i_7
            have hP : va_P g.1 vwCl [(h0, .inr (2, [.ref h2, .ref h3, .ref h4, .ref h5, .ref h6, .ref h7, .int f0, .int f1, .ref h8, .ref h9, .ref h10, .ref h11])), (h1, .inr (0, [.ref h12, .int f2, .ref h13, .int f3, .ref h14, .ref h15, .ref h16, .ref h17, .ref h18, .ref h19, .int f4])), (h6, .inl (zI g, 5, .inl Z4)), (h7, .inl (zI g, 5, .inl Z5)), (h14, .inl (zI g, 5, .inl Z12))] H := hP
            have hD : va_D A [(h0, .inr (2, [.ref h2, .ref h3, .ref h4, .ref h5, .ref h6, .ref h7, .int f0, .int f1, .ref h8, .ref h9, .ref h10, .ref h11])), (h1, .inr (0, [.ref h12, .int f2, .ref h13, .int f3, .ref h14, .ref h15, .ref h16, .ref h17, .ref h18, .ref h19, .int f4])), (h6, .inl (zI g, 5, .inl Z4)), (h7, .inl (zI g, 5, .inl Z5)), (h14, .inl (zI g, 5, .inl Z12))] := hD
            refine lv_if_eq (tgt := 74) hx hb dX2_coughsAt_39 (by decide) (fun h => absurd h (by decide +kernel)) (fun _ => ?_)
            refine lv_iload_n hx hb dX2_coughsAt_42 rfl (lv_at hl 3 rfl) ?_
            refine lv_aload_n hx hb dX2_coughsAt_43 rfl (lv_at hl 1 rfl) ?_
            refine va_get (D := g.1) (ci := 2) (v := .ref h7) (C := RX2) (T := TX2) (N := 12) hx hb hts zl_X2 hown hK hP 0 rfl rfl 5 (by decide) (hts _ m_f_RX2_27) (fun _ h => h) rfl dX2_coughsAt_44 ?_
            refine lv_iload hx hb dX2_coughsAt_47 (lv_at hl 6 rfl) ?_
            refine va_iald (D := g.1) hx hb hK hP 3 0 rfl rfl (vp_in_iff.mpr ⟨by omega, by omega⟩) dX2_coughsAt_49 ?_
            refine lv_topi (fun y9 ey9 => ?_)
            have qy9_0 : (-99) ≤ y9.toInt := (i_at (N := 5) (lo := (-99)) (hi := 10098) (i := v5_0) (a := v5_0.toInt) hF_Z5 (rfl) (by omega) (by omega) ey9).1
            have qy9_1 : y9.toInt ≤ 10098 := (i_at (N := 5) (lo := (-99)) (hi := 10098) (i := v5_0) (a := v5_0.toInt) hF_Z5 (rfl) (by omega) (by omega) ey9).2
            have qy9_2 : y9.toInt = (Z5 v5_0.toNatClampNeg).toInt := congrArg Int32.toInt ey9
            refine lv_icmp_gt (tgt := 74) hx hb dX2_coughsAt_50 (by decide) (fun c_9 => ?_) (fun c_9 => ?_)
            · have i_9 : y9.toInt < p2.toInt := z_lt (rfl) (rfl) c_9
              have hcg : (zCg (zib f0) Z12 (zIv Z4) (zIv Z5) p2.toInt p3.toInt) v5_0.toNatClampNeg = 0 := zCg_i0 (i := v5_0) (h := p3.toInt) (by omega) (by omega) (by omega)
              have hsk : zSk (zCg (zib f0) Z12 (zIv Z4) (zIv Z5) p2.toInt p3.toInt) (v5_0.toInt + 1) = zSk (zCg (zib f0) Z12 (zIv Z4) (zIv Z5) p2.toInt p3.toInt) v5_0.toInt := zSk_n (by omega) (by omega) hcg
              obtain ⟨y10, ey10⟩ : ∃ z : Int32, z = v5_0 + 1 := ⟨_, rfl⟩
              have qy10 : y10.toInt = v5_0.toInt + 1 := zi_add ey10 (rfl) rfl (by omega) (by omega)
              refine lv_iinc (v := y10) (lv' := [(5, .int y10), (6, .int p3), (0, .ref h0), (1, .ref h1), (2, .int p2), (3, .int p3), (4, .int v4_0)]) hx hb dX2_coughsAt_74 hl (k := 6) rfl ey10.symm (by decide) rfl (fun ls hl => ?_)
              have hskb : zSk (zCg (zib f0) Z12 (zIv Z4) (zIv Z5) p2.toInt p3.toInt) y10.toInt = zSk (zCg (zib f0) Z12 (zIv Z4) (zIv Z5) p2.toInt p3.toInt) (v5_0.toInt + 1) := by rw [(by omega : y10.toInt = v5_0.toInt + 1)]
              refine lv_goto (tgt := 6) hx hb dX2_coughsAt_77 (by decide) ?_
              exact ih1 v4_0 y10 (by omega) (by omega) (by omega) (by omega) (by omega) (by omega) _ _ hP hD hS ls (lv_sub hl [2, 3, 4, 5, 6, 0] rfl)
            · have i_9 : p2.toInt ≤ y9.toInt := z_nlt (rfl) (rfl) c_9
              refine lv_iload hx hb dX2_coughsAt_53 (lv_at hl 0 rfl) ?_
              refine lv_aload_n hx hb dX2_coughsAt_55 rfl (lv_at hl 1 rfl) ?_
              refine va_get (D := g.1) (ci := 2) (v := .ref h6) (C := RX2) (T := TX2) (N := 12) hx hb hts zl_X2 hown hK hP 0 rfl rfl 4 (by decide) (hts _ m_f_RX2_24) (fun _ h => h) rfl dX2_coughsAt_56 ?_
              refine lv_iload hx hb dX2_coughsAt_59 (lv_at hl 6 rfl) ?_
              refine va_iald (D := g.1) hx hb hK hP 2 0 rfl rfl (vp_in_iff.mpr ⟨by omega, by omega⟩) dX2_coughsAt_61 ?_
              refine lv_topi (fun y11 ey11 => ?_)
              have qy11_0 : (-40) ≤ y11.toInt := (i_at (N := 5) (lo := (-40)) (hi := 99) (i := v5_0) (a := v5_0.toInt) hF_Z4 (rfl) (by omega) (by omega) ey11).1
              have qy11_1 : y11.toInt ≤ 99 := (i_at (N := 5) (lo := (-40)) (hi := 99) (i := v5_0) (a := v5_0.toInt) hF_Z4 (rfl) (by omega) (by omega) ey11).2
              have qy11_2 : y11.toInt = (Z4 v5_0.toNatClampNeg).toInt := congrArg Int32.toInt ey11
              refine lv_icmp_gt (tgt := 74) hx hb dX2_coughsAt_62 (by decide) (fun c_10 => ?_) (fun c_10 => ?_)
              · have i_10 : y11.toInt < p3.toInt := z_lt (rfl) (rfl) c_10
                have hcg : (zCg (zib f0) Z12 (zIv Z4) (zIv Z5) p2.toInt p3.toInt) v5_0.toNatClampNeg = 0 := zCg_i0 (i := v5_0) (h := p3.toInt) (by omega) (by omega) (by omega)
                have hsk : zSk (zCg (zib f0) Z12 (zIv Z4) (zIv Z5) p2.toInt p3.toInt) (v5_0.toInt + 1) = zSk (zCg (zib f0) Z12 (zIv Z4) (zIv Z5) p2.toInt p3.toInt) v5_0.toInt := zSk_n (by omega) (by omega) hcg
                obtain ⟨y12, ey12⟩ : ∃ z : Int32, z = v5_0 + 1 := ⟨_, rfl⟩
                have qy12 : y12.toInt = v5_0.toInt + 1 := zi_add ey12 (rfl) rfl (by omega) (by omega)
                refine lv_iinc (v := y12) (lv' := [(5, .int y12), (6, .int p3), (0, .ref h0), (1, .ref h1), (2, .int p2), (3, .int p3), (4, .int v4_0)]) hx hb dX2_coughsAt_74 hl (k := 6) rfl ey12.symm (by decide) rfl (fun ls hl => ?_)
                have hskb : zSk (zCg (zib f0) Z12 (zIv Z4) (zIv Z5) p2.toInt p3.toInt) y12.toInt = zSk (zCg (zib f0) Z12 (zIv Z4) (zIv Z5) p2.toInt p3.toInt) (v5_0.toInt + 1) := by rw [(by omega : y12.toInt = v5_0.toInt + 1)]
                refine lv_goto (tgt := 6) hx hb dX2_coughsAt_77 (by decide) ?_
                exact ih1 v4_0 y12 (by omega) (by omega) (by omega) (by omega) (by omega) (by omega) _ _ hP hD hS ls (lv_sub hl [2, 3, 4, 5, 6, 0] rfl)
              · have i_10 : p3.toInt ≤ y11.toInt := z_nlt (rfl) (rfl) c_10
                refine lv_iload hx hb dX2_coughsAt_65 (lv_at hl 5 rfl) ?_
                refine lv_iconst (v := 1) hx hb dX2_coughsAt_67 (by decide) ?_
                refine lv_iload hx hb dX2_coughsAt_68 (lv_at hl 6 rfl) ?_
                refine lv_ishl hx hb dX2_coughsAt_70 ?_
                refine lv_topi (fun y13 ey13 => ?_)
                have qy13_0 : 1 ≤ y13.toInt := (zi_shl 4 ey13 (rfl) (by omega) (by omega) (by decide)).1
                have qy13_1 : y13.toInt ≤ 16 := (zi_shl 4 ey13 (rfl) (by omega) (by omega) (by decide)).2
                have hskr := zSk_r (f := (zCg (zib f0) Z12 (zIv Z4) (zIv Z5) p2.toInt p3.toInt)) zCg_01 (k := v5_0.toInt) (by omega) (by omega)
                refine lv_ior hx hb dX2_coughsAt_71 ?_
                refine lv_topi (fun y14 ey14 => ?_)
                have qy14_0 : v4_0.toInt ≤ y14.toInt := (zi_or ey14 (rfl) (rfl) (by omega) (by omega) (by omega) (by omega)).1
                have qy14_1 : y13.toInt ≤ y14.toInt := (zi_or ey14 (rfl) (rfl) (by omega) (by omega) (by omega) (by omega)).2.1
                have qy14_2 : y14.toInt ≤ 31 := (zi_or ey14 (rfl) (rfl) (by omega) (by omega) (by omega) (by omega)).2.2
                have py14_0 : y14.toInt = v4_0.toInt + zP2 v5_0.toInt := zor_bit ey14 ey13 rfl (by omega) (by omega) (by omega) (by omega)
                refine lv_istore (lv' := [(4, .int y14), (6, .int p3), (0, .ref h0), (1, .ref h1), (2, .int p2), (3, .int p3), (5, .int v5_0)]) hx hb dX2_coughsAt_72 hl (by decide) rfl (fun ls hl => ?_)
                have hcg : (zCg (zib f0) Z12 (zIv Z4) (zIv Z5) p2.toInt p3.toInt) v5_0.toNatClampNeg = 1 := zCg_i1 (i := v5_0) (h := p3.toInt) (by omega) (by omega) (by omega) (by omega) (by omega)
                have hsk : zSk (zCg (zib f0) Z12 (zIv Z4) (zIv Z5) p2.toInt p3.toInt) (v5_0.toInt + 1) = zSk (zCg (zib f0) Z12 (zIv Z4) (zIv Z5) p2.toInt p3.toInt) v5_0.toInt + zP2 v5_0.toInt := zSk_1 (by omega) (by omega) hcg
                obtain ⟨y15, ey15⟩ : ∃ z : Int32, z = v5_0 + 1 := ⟨_, rfl⟩
                have qy15 : y15.toInt = v5_0.toInt + 1 := zi_add ey15 (rfl) rfl (by omega) (by omega)
                refine lv_iinc (v := y15) (lv' := [(5, .int y15), (4, .int y14), (6, .int p3), (0, .ref h0), (1, .ref h1), (2, .int p2), (3, .int p3)]) hx hb dX2_coughsAt_74 hl (k := 6) rfl ey15.symm (by decide) rfl (fun ls hl => ?_)
                have hskb : zSk (zCg (zib f0) Z12 (zIv Z4) (zIv Z5) p2.toInt p3.toInt) y15.toInt = zSk (zCg (zib f0) Z12 (zIv Z4) (zIv Z5) p2.toInt p3.toInt) (v5_0.toInt + 1) := by rw [(by omega : y15.toInt = v5_0.toInt + 1)]
                refine lv_goto (tgt := 6) hx hb dX2_coughsAt_77 (by decide) ?_
                exact ih1 y14 y15 (by omega) (by omega) (by omega) (by omega) (by omega) (by omega) _ _ hP hD hS ls (lv_sub hl [3, 4, 5, 6, 1, 0] rfl)
          · skip
            have i_8 : zbit f0 v5_0 = 0 := i_8
            have hP : va_P g.1 vwCl [(h0, .inr (2, [.ref h2, .ref h3, .ref h4, .ref h5, .ref h6, .ref h7, .int f0, .int f1, .ref h8, .ref h9, .ref h10, .ref h11])), (h1, .inr (0, [.ref h12, .int f2, .ref h13, .int f3, .ref h14, .ref h15, .ref h16, .ref h17, .ref h18, .ref h19, .int f4])), (h6, .inl (zI g, 5, .inl Z4)), (h7, .inl (zI g, 5, .inl Z5)), (h14, .inl (zI g, 5, .inl Z12))] H := hP
            have hD : va_D A [(h0, .inr (2, [.ref h2, .ref h3, .ref h4, .ref h5, .ref h6, .ref h7, .int f0, .int f1, .ref h8, .ref h9, .ref h10, .ref h11])), (h1, .inr (0, [.ref h12, .int f2, .ref h13, .int f3, .ref h14, .ref h15, .ref h16, .ref h17, .ref h18, .ref h19, .int f4])), (h6, .inl (zI g, 5, .inl Z4)), (h7, .inl (zI g, 5, .inl Z5)), (h14, .inl (zI g, 5, .inl Z12))] := hD
            refine lv_if_eq (tgt := 74) hx hb dX2_coughsAt_39 (by decide) (fun _ => ?_) (fun h => absurd h (by decide +kernel))
            have hcg : (zCg (zib f0) Z12 (zIv Z4) (zIv Z5) p2.toInt p3.toInt) v5_0.toNatClampNeg = 0 := zCg_i0 (i := v5_0) (h := p3.toInt) (by omega) (by omega) (by omega)
            have hsk : zSk (zCg (zib f0) Z12 (zIv Z4) (zIv Z5) p2.toInt p3.toInt) (v5_0.toInt + 1) = zSk (zCg (zib f0) Z12 (zIv Z4) (zIv Z5) p2.toInt p3.toInt) v5_0.toInt := zSk_n (by omega) (by omega) hcg
            obtain ⟨y16, ey16⟩ : ∃ z : Int32, z = v5_0 + 1 := ⟨_, rfl⟩
            have qy16 : y16.toInt = v5_0.toInt + 1 := zi_add ey16 (rfl) rfl (by omega) (by omega)
            refine lv_iinc (v := y16) (lv' := [(5, .int y16), (6, .int p3), (0, .ref h0), (1, .ref h1), (2, .int p2), (3, .int p3), (4, .int v4_0)]) hx hb dX2_coughsAt_74 hl (k := 6) rfl ey16.symm (by decide) rfl (fun ls hl => ?_)
            have hskb : zSk (zCg (zib f0) Z12 (zIv Z4) (zIv Z5) p2.toInt p3.toInt) y16.toInt = zSk (zCg (zib f0) Z12 (zIv Z4) (zIv Z5) p2.toInt p3.toInt) (v5_0.toInt + 1) := by rw [(by omega : y16.toInt = v5_0.toInt + 1)]
            refine lv_goto (tgt := 6) hx hb dX2_coughsAt_77 (by decide) ?_
            exact ih1 v4_0 y16 (by omega) (by omega) (by omega) (by omega) (by omega) (by omega) _ _ hP hD hS ls (lv_sub hl [2, 3, 4, 5, 6, 0] rfl)
  have : (0 : Int32).toInt = 0 := rfl
  exact loop6_0 ((5 - 0 : Int).toNat + 1) (0 : Int32) (0 : Int32) (by omega) (by omega) (by omega) (by omega) (by omega) (by omega) _ _ hP hD hS ls (lv_sub hl [2, 3, 4, 5, 1, 0] rfl)
set_option maxHeartbeats 8000000 in
set_option maxRecDepth 100000 in
theorem gX2_nextCough (l : Launch) (g : zG) (h0 h1 h2 h3 h4 h5 h6 h7 h8 h9 h10 h11 h12 h13 h14 h15 h16 h17 h18 h19 : Nat) (sz : Nat) (p2 : Int32) (f0 : Int32) (f1 : Int32) (f2 : Int32) (f3 : Int32) (f4 : Int32) (Z4 : Nat → Int32) (Z5 : Nat → Int32) (Z12 : Nat → Int32) (hp0 : 1 ≤ p2.toInt) (hp1 : p2.toInt ≤ 9) (hf_f2 : 0 ≤ f2.toInt ∧ f2.toInt ≤ 6) (hf_f3 : 0 ≤ f3.toInt ∧ f3.toInt ≤ 5) (hf_f4 : 0 ≤ f4.toInt ∧ f4.toInt ≤ 9999) (hF_Z4 : iLm Z4) (hF_Z5 : iMo Z5) (hF_Z12 : iSo Z12) : Met l yX2_nextCough (.code yX2_nextCough cX2_nextCough 6 (some .int) :: zBig) ({ frames := 1, cells := 0, slots := 0, locals := 21 }) (va_Pc [.ref h0, .ref h1, .int p2] (zPre g [(h0, .inr (2, [.ref h2, .ref h3, .ref h4, .ref h5, .ref h6, .ref h7, .int f0, .int f1, .ref h8, .ref h9, .ref h10, .ref h11])), (h1, .inr (0, [.ref h12, .int f2, .ref h13, .int f3, .ref h14, .ref h15, .ref h16, .ref h17, .ref h18, .ref h19, .int f4])), (h6, .inl (zI g, 5, .inl Z4)), (h7, .inl (zI g, 5, .inl Z5)), (h14, .inl (zI g, 5, .inl Z12))] sz)) (va_Qi (fun (r : Int32) (u : Nat) => r.toInt = zTk (zib f0) (zTp Z12 (zIv Z4) (zIv Z5) p2.toInt) 5 ∧ -1 ≤ r.toInt ∧ r.toInt ≤ 99) (zPost g (fun u : Nat => [(h0, .inr (2, [.ref h2, .ref h3, .ref h4, .ref h5, .ref h6, .ref h7, .int f0, .int f1, .ref h8, .ref h9, .ref h10, .ref h11])), (h1, .inr (0, [.ref h12, .int f2, .ref h13, .int f3, .ref h14, .ref h15, .ref h16, .ref h17, .ref h18, .ref h19, .int f4])), (h6, .inl (zI g, 5, .inl Z4)), (h7, .inl (zI g, 5, .inl Z5)), (h14, .inl (zI g, 5, .inl Z12))]) (va_A [(h0, .inr (2, [.ref h2, .ref h3, .ref h4, .ref h5, .ref h6, .ref h7, .int f0, .int f1, .ref h8, .ref h9, .ref h10, .ref h11])), (h1, .inr (0, [.ref h12, .int f2, .ref h13, .int f3, .ref h14, .ref h15, .ref h16, .ref h17, .ref h18, .ref h19, .int f4])), (h6, .inl (zI g, 5, .inl Z4)), (h7, .inl (zI g, 5, .inl Z5)), (h14, .inl (zI g, 5, .inl Z12))] sz)) (va_A [(h0, .inr (2, [.ref h2, .ref h3, .ref h4, .ref h5, .ref h6, .ref h7, .int f0, .int f1, .ref h8, .ref h9, .ref h10, .ref h11])), (h1, .inr (0, [.ref h12, .int f2, .ref h13, .int f3, .ref h14, .ref h15, .ref h16, .ref h17, .ref h18, .ref h19, .int f4])), (h6, .inl (zI g, 5, .inl Z4)), (h7, .inl (zI g, 5, .inl Z5)), (h14, .inl (zI g, 5, .inl Z12))] sz)) 0 0 (va_A [(h0, .inr (2, [.ref h2, .ref h3, .ref h4, .ref h5, .ref h6, .ref h7, .int f0, .int f1, .ref h8, .ref h9, .ref h10, .ref h11])), (h1, .inr (0, [.ref h12, .int f2, .ref h13, .int f3, .ref h14, .ref h15, .ref h16, .ref h17, .ref h18, .ref h19, .int f4])), (h6, .inl (zI g, 5, .inl Z4)), (h7, .inl (zI g, 5, .inl Z5)), (h14, .inl (zI g, 5, .inl Z12))] sz) := by
  refine zMetI rfl (Nat.le_of_ble_eq_true rfl) ?_
  intro p e s m args below meth c A ls hx hb hml hr hlocks hin hown hts hK hN hZ hP hD hA hS hAe hl
  have hown : s.vm.findClass RX2 = some m.cls := hown
  have hl : lv_has ls 6 [(0, .ref h0), (1, .ref h1), (2, .int p2)] := hl
  have hk0 : zTk (zib f0) (zTp Z12 (zIv Z4) (zIv Z5) p2.toInt) (0 : Int32).toInt.toNat = -1 := rfl
  have hk00 : (-1 : Int32).toInt = -1 := rfl
  refine lv_iconst (v := (-1)) hx hb dX2_nextCough_0 (by decide) ?_
  refine lv_istore_n (lv' := [(3, .int (-1)), (0, .ref h0), (1, .ref h1), (2, .int p2)]) hx hb dX2_nextCough_1 rfl hl (by decide) rfl (fun ls hl => ?_)
  refine lv_iconst (v := 0) hx hb dX2_nextCough_2 (by decide) ?_
  refine lv_istore (lv' := [(4, .int 0), (3, .int (-1)), (0, .ref h0), (1, .ref h1), (2, .int p2)]) hx hb dX2_nextCough_3 hl (by decide) rfl (fun ls hl => ?_)
  have loop5_0 : ∀ (n1 : Nat) (v3_0 : Int32) (v4_0 : Int32) (n1_0 : 0 ≤ v4_0.toInt) (n1_1 : v4_0.toInt ≤ 5) (n1_2 : -1 ≤ v3_0.toInt) (n1_3 : v3_0.toInt ≤ 99) (n1_4 : v3_0.toInt = zTk (zib f0) (zTp Z12 (zIv Z4) (zIv Z5) p2.toInt) v4_0.toInt.toNat) (hm1 : 5 - v4_0.toInt < (n1 : Int)) (H : Heap) (locs : List Loc), va_P g.1 vwCl [(h0, .inr (2, [.ref h2, .ref h3, .ref h4, .ref h5, .ref h6, .ref h7, .int f0, .int f1, .ref h8, .ref h9, .ref h10, .ref h11])), (h1, .inr (0, [.ref h12, .int f2, .ref h13, .int f3, .ref h14, .ref h15, .ref h16, .ref h17, .ref h18, .ref h19, .int f4])), (h6, .inl (zI g, 5, .inl Z4)), (h7, .inl (zI g, 5, .inl Z5)), (h14, .inl (zI g, 5, .inl Z12))] H → va_D A [(h0, .inr (2, [.ref h2, .ref h3, .ref h4, .ref h5, .ref h6, .ref h7, .int f0, .int f1, .ref h8, .ref h9, .ref h10, .ref h11])), (h1, .inr (0, [.ref h12, .int f2, .ref h13, .int f3, .ref h14, .ref h15, .ref h16, .ref h17, .ref h18, .ref h19, .int f4])), (h6, .inl (zI g, 5, .inl Z4)), (h7, .inl (zI g, 5, .inl Z5)), (h14, .inl (zI g, 5, .inl Z12))] → va_S A s.heap H locs → ∀ (ls : Array Slot), lv_has ls 6 [(0, .ref h0), (1, .ref h1), (2, .int p2), (3, .int v3_0), (4, .int v4_0)] → W p l e ({ frames := 1, cells := 0, slots := 0, locals := 21 }) s m args below meth c H locs 0 0 (MQ below (va_Qi (fun (r : Int32) (u : Nat) => r.toInt = zTk (zib f0) (zTp Z12 (zIv Z4) (zIv Z5) p2.toInt) 5 ∧ -1 ≤ r.toInt ∧ r.toInt ≤ 99) (zPost g (fun u : Nat => [(h0, .inr (2, [.ref h2, .ref h3, .ref h4, .ref h5, .ref h6, .ref h7, .int f0, .int f1, .ref h8, .ref h9, .ref h10, .ref h11])), (h1, .inr (0, [.ref h12, .int f2, .ref h13, .int f3, .ref h14, .ref h15, .ref h16, .ref h17, .ref h18, .ref h19, .int f4])), (h6, .inl (zI g, 5, .inl Z4)), (h7, .inl (zI g, 5, .inl Z5)), (h14, .inl (zI g, 5, .inl Z12))]) A) A) args s 0 0 A) (F0 m 5 ls []) := by
    intro n1
    induction n1 with
    | zero => intro v3_0 v4_0 n1_0 n1_1 n1_2 n1_3 n1_4 hm1; exfalso; omega
    | succ n1 ih1 =>
      intro v3_0 v4_0 n1_0 n1_1 n1_2 n1_3 n1_4 hm1 H locs hP hD hS ls hl
      refine lv_iload hx hb dX2_nextCough_5 (lv_at hl 4 rfl) ?_
      refine lv_iconst (v := 5) hx hb dX2_nextCough_7 (by decide) ?_
      refine lv_icmp_ge (tgt := 72) hx hb dX2_nextCough_8 (by decide) (fun c_1 => ?_) (fun c_1 => ?_)
      · have i_1 : 5 ≤ v4_0.toInt := z_le (rfl) (rfl) c_1
        have hk5 : zTk (zib f0) (zTp Z12 (zIv Z4) (zIv Z5) p2.toInt) 5 = zTk (zib f0) (zTp Z12 (zIv Z4) (zIv Z5) p2.toInt) v4_0.toInt.toNat := by rw [(by omega : v4_0.toInt.toNat = 5)]
        refine lv_iload_n hx hb dX2_nextCough_72 rfl (lv_at hl 3 rfl) ?_
        have hP9 := hP.sub (ws' := [(h0, .inr (2, [.ref h2, .ref h3, .ref h4, .ref h5, .ref h6, .ref h7, .int f0, .int f1, .ref h8, .ref h9, .ref h10, .ref h11])), (h1, .inr (0, [.ref h12, .int f2, .ref h13, .int f3, .ref h14, .ref h15, .ref h16, .ref h17, .ref h18, .ref h19, .int f4])), (h6, .inl (zI g, 5, .inl Z4)), (h7, .inl (zI g, 5, .inl Z5)), (h14, .inl (zI g, 5, .inl Z12))]) [0, 1, 2, 3, 4] rfl
        have hD9 := hD.sub (ws' := [(h0, .inr (2, [.ref h2, .ref h3, .ref h4, .ref h5, .ref h6, .ref h7, .int f0, .int f1, .ref h8, .ref h9, .ref h10, .ref h11])), (h1, .inr (0, [.ref h12, .int f2, .ref h13, .int f3, .ref h14, .ref h15, .ref h16, .ref h17, .ref h18, .ref h19, .int f4])), (h6, .inl (zI g, 5, .inl Z4)), (h7, .inl (zI g, 5, .inl Z5)), (h14, .inl (zI g, 5, .inl Z12))]) [0, 1, 2, 3, 4] (by decide) rfl
        exact W.iret (v := v3_0) hx hb hr (fun t ht hW => ⟨⟨v3_0, (0 : Nat), rfl, ⟨(by first | omega | decide), (by first | omega | decide), (by first | omega | decide)⟩, by rw [ht]; exact hP9, hD9⟩, hS.F ht⟩) hS.2.2 dX2_nextCough_73
      · have i_1 : v4_0.toInt < 5 := z_nle (rfl) (rfl) c_1
        refine lv_aload_n hx hb dX2_nextCough_11 rfl (lv_at hl 0 rfl) ?_
        refine va_get (D := g.1) (ci := 2) (v := .int f0) (C := RX2) (T := TX2) (N := 12) hx hb hts zl_X2 hown hK hP 0 rfl rfl 6 (by decide) (hts _ m_f_RX2_30) (fun _ h => h) rfl dX2_nextCough_12 ?_
        refine lv_iload hx hb dX2_nextCough_15 (lv_at hl 4 rfl) ?_
        refine z_calli (wr := [(h0, .inr (2, [.ref h2, .ref h3, .ref h4, .ref h5, .ref h6, .ref h7, .int f0, .int f1, .ref h8, .ref h9, .ref h10, .ref h11])), (h1, .inr (0, [.ref h12, .int f2, .ref h13, .int f3, .ref h14, .ref h15, .ref h16, .ref h17, .ref h18, .ref h19, .int f4])), (h6, .inl (zI g, 5, .inl Z4)), (h7, .inl (zI g, 5, .inl Z5)), (h14, .inl (zI g, 5, .inl Z12))]) hP hD hS hA [] [0, 1, 2, 3, 4] (by decide) rfl rfl (by decide) (va_runS (As := [.int f0, .int v4_0]) (rest := []) ⟨hx, hb, hml, hown, hts⟩ (gX2_isIn l g  H.size f0 v4_0) ⟨callB_of 2 hts (zGood m_o_yX2_isIn) rfl rfl rfl (hts _ m_z_RX2) (hts _ m_m_RX2_93) ⟨by decide +kernel, by decide +kernel, by decide +kernel⟩ ⟨Nat.le_of_ble_eq_true rfl, Nat.le_of_ble_eq_true rfl⟩, hts _ m_s_yX2_isIn⟩ (zPreS hK hN hZ hP hD hS hA [] (by decide) rfl rfl) rfl rfl hl.1 rfl (lv_room (Nat.le_of_ble_eq_true rfl)) dX2_nextCough_17 ⟨Nat.le_of_ble_eq_true rfl, Nat.le_of_ble_eq_true rfl⟩) (fun r u H locs hw hP hD hS => ?_)
        rcases hw with ⟨i_2, rfl⟩ | ⟨i_3, rfl⟩
        · skip
          have i_2 : zbit f0 v4_0 = 1 := i_2
          have hP : va_P g.1 vwCl [(h0, .inr (2, [.ref h2, .ref h3, .ref h4, .ref h5, .ref h6, .ref h7, .int f0, .int f1, .ref h8, .ref h9, .ref h10, .ref h11])), (h1, .inr (0, [.ref h12, .int f2, .ref h13, .int f3, .ref h14, .ref h15, .ref h16, .ref h17, .ref h18, .ref h19, .int f4])), (h6, .inl (zI g, 5, .inl Z4)), (h7, .inl (zI g, 5, .inl Z5)), (h14, .inl (zI g, 5, .inl Z12))] H := hP
          have hD : va_D A [(h0, .inr (2, [.ref h2, .ref h3, .ref h4, .ref h5, .ref h6, .ref h7, .int f0, .int f1, .ref h8, .ref h9, .ref h10, .ref h11])), (h1, .inr (0, [.ref h12, .int f2, .ref h13, .int f3, .ref h14, .ref h15, .ref h16, .ref h17, .ref h18, .ref h19, .int f4])), (h6, .inl (zI g, 5, .inl Z4)), (h7, .inl (zI g, 5, .inl Z5)), (h14, .inl (zI g, 5, .inl Z12))] := hD
          refine lv_if_eq (tgt := 66) hx hb dX2_nextCough_20 (by decide) (fun h => absurd h (by decide +kernel)) (fun _ => ?_)
          refine lv_aload_n hx hb dX2_nextCough_23 rfl (lv_at hl 1 rfl) ?_
          refine va_getN (D := g.1) (ci := 0) (v := .ref h14) (C := RX0) (T := TX0) (N := 11) hx hb hts zl_X0 hown hK hP 1 rfl rfl 4 (by decide) (hN.f 10 (q := (RX2, 134, "FishSteps$Books", "sort", "[I")) rfl) (fun _ h => h) rfl dX2_nextCough_24 ?_
          refine lv_iload hx hb dX2_nextCough_27 (lv_at hl 4 rfl) ?_
          refine va_iald (D := g.1) hx hb hK hP 4 0 rfl rfl (vp_in_iff.mpr ⟨by omega, by omega⟩) dX2_nextCough_29 ?_
          refine lv_topi (fun y0 ey0 => ?_)
          have qy0_0 : 0 ≤ y0.toInt := (i_at (N := 5) (lo := 0) (hi := 4) (i := v4_0) (a := v4_0.toInt) hF_Z12 (rfl) (by omega) (by omega) ey0).1
          have qy0_1 : y0.toInt ≤ 4 := (i_at (N := 5) (lo := 0) (hi := 4) (i := v4_0) (a := v4_0.toInt) hF_Z12 (rfl) (by omega) (by omega) ey0).2
          have qy0_2 : y0.toInt = (Z12 v4_0.toNatClampNeg).toInt := congrArg Int32.toInt ey0
          refine lv_iconst (v := 1) hx hb dX2_nextCough_30 (by decide) ?_
          refine lv_icmp_ne (tgt := 38) hx hb dX2_nextCough_31 (by decide) (fun c_4 => ?_) (fun c_4 => ?_)
          · have i_4 : y0.toInt ≠ 1 := z_ne (rfl) (rfl) c_4
            refine lv_iconst (v := 0) hx hb dX2_nextCough_38 (by decide) ?_
            refine lv_istore (lv' := [(5, .int 0), (0, .ref h0), (1, .ref h1), (2, .int p2), (3, .int v3_0), (4, .int v4_0)]) hx hb dX2_nextCough_39 hl (by decide) rfl (fun ls hl => ?_)
            refine lv_iload_n hx hb dX2_nextCough_41 rfl (lv_at hl 4 rfl) ?_
            refine lv_aload_n hx hb dX2_nextCough_42 rfl (lv_at hl 1 rfl) ?_
            refine va_get (D := g.1) (ci := 2) (v := .ref h7) (C := RX2) (T := TX2) (N := 12) hx hb hts zl_X2 hown hK hP 0 rfl rfl 5 (by decide) (hts _ m_f_RX2_27) (fun _ h => h) rfl dX2_nextCough_43 ?_
            refine lv_iload hx hb dX2_nextCough_46 (lv_at hl 5 rfl) ?_
            refine va_iald (D := g.1) hx hb hK hP 3 0 rfl rfl (vp_in_iff.mpr ⟨by omega, by omega⟩) dX2_nextCough_48 ?_
            refine lv_topi (fun y1 ey1 => ?_)
            have qy1_0 : (-99) ≤ y1.toInt := (i_at (N := 5) (lo := (-99)) (hi := 10098) (i := v4_0) (a := v4_0.toInt) hF_Z5 (rfl) (by omega) (by omega) ey1).1
            have qy1_1 : y1.toInt ≤ 10098 := (i_at (N := 5) (lo := (-99)) (hi := 10098) (i := v4_0) (a := v4_0.toInt) hF_Z5 (rfl) (by omega) (by omega) ey1).2
            have qy1_2 : y1.toInt = (Z5 v4_0.toNatClampNeg).toInt := congrArg Int32.toInt ey1
            refine lv_aload_n hx hb dX2_nextCough_49 rfl (lv_at hl 1 rfl) ?_
            refine va_get (D := g.1) (ci := 2) (v := .ref h6) (C := RX2) (T := TX2) (N := 12) hx hb hts zl_X2 hown hK hP 0 rfl rfl 4 (by decide) (hts _ m_f_RX2_24) (fun _ h => h) rfl dX2_nextCough_50 ?_
            refine lv_iload hx hb dX2_nextCough_53 (lv_at hl 5 rfl) ?_
            refine va_iald (D := g.1) hx hb hK hP 2 0 rfl rfl (vp_in_iff.mpr ⟨by omega, by omega⟩) dX2_nextCough_55 ?_
            refine lv_topi (fun y2 ey2 => ?_)
            have qy2_0 : (-40) ≤ y2.toInt := (i_at (N := 5) (lo := (-40)) (hi := 99) (i := v4_0) (a := v4_0.toInt) hF_Z4 (rfl) (by omega) (by omega) ey2).1
            have qy2_1 : y2.toInt ≤ 99 := (i_at (N := 5) (lo := (-40)) (hi := 99) (i := v4_0) (a := v4_0.toInt) hF_Z4 (rfl) (by omega) (by omega) ey2).2
            have qy2_2 : y2.toInt = (Z4 v4_0.toNatClampNeg).toInt := congrArg Int32.toInt ey2
            refine lv_iload hx hb dX2_nextCough_56 (lv_at hl 0 rfl) ?_
            refine lv_isub hx hb dX2_nextCough_58 ?_
            refine lv_topi (fun y3 ey3 => ?_)
            have qy3_0 : y3.toInt = y2.toInt - 0 := zi_sub ey3 (rfl) (rfl) (by omega) (by omega)
            refine va_mmin hx hb (hml.trans hl.1.symm) hown (hts _ m_m_RX2_131) (hts _ m_s_Lib_Math_min_name) (hts _ m_z_RJ9) (hts _ m_o_Lib_Math_min_name) (Nat.le_of_ble_eq_true rfl) (Nat.le_of_ble_eq_true rfl) (Nat.le_of_ble_eq_true rfl) (Nat.le_of_ble_eq_true rfl) dX2_nextCough_59 ?_
            refine lv_topi (fun y4 ey4 => ?_)
            have qy4_0 : y4.toInt ≤ y1.toInt := (zi_min ey4 (rfl) (rfl)).1
            have qy4_1 : y4.toInt ≤ y3.toInt := (zi_min ey4 (rfl) (rfl)).2.1
            have qy4_2 : y4.toInt = y1.toInt ∨ y4.toInt = y3.toInt := (zi_min ey4 (rfl) (rfl)).2.2
            refine va_mmax hx hb (hml.trans hl.1.symm) hown (hts _ m_m_RX2_116) (hts _ m_s_Lib_Math_max_name) (hts _ m_z_RJ9) (hts _ m_o_Lib_Math_max_name) (Nat.le_of_ble_eq_true rfl) (Nat.le_of_ble_eq_true rfl) (Nat.le_of_ble_eq_true rfl) (Nat.le_of_ble_eq_true rfl) dX2_nextCough_62 ?_
            refine lv_topi (fun y5 ey5 => ?_)
            have qy5_0 : v3_0.toInt ≤ y5.toInt := (zi_max ey5 (rfl) (rfl)).1
            have qy5_1 : y4.toInt ≤ y5.toInt := (zi_max ey5 (rfl) (rfl)).2.1
            have qy5_2 : y5.toInt = v3_0.toInt ∨ y5.toInt = y4.toInt := (zi_max ey5 (rfl) (rfl)).2.2
            refine lv_istore_n (lv' := [(3, .int y5), (5, .int 0), (0, .ref h0), (1, .ref h1), (2, .int p2), (4, .int v4_0)]) hx hb dX2_nextCough_65 rfl hl (by decide) rfl (fun ls hl => ?_)
            have htp : (zTp Z12 (zIv Z4) (zIv Z5) p2.toInt) v4_0.toNatClampNeg = min (Z5 v4_0.toNatClampNeg).toInt ((Z4 v4_0.toNatClampNeg).toInt - 0) := zTp_i (i := v4_0) (by omega)
            have hks : zTk (zib f0) (zTp Z12 (zIv Z4) (zIv Z5) p2.toInt) (v4_0.toInt.toNat + 1) = max (zTk (zib f0) (zTp Z12 (zIv Z4) (zIv Z5) p2.toInt) v4_0.toInt.toNat) ((zTp Z12 (zIv Z4) (zIv Z5) p2.toInt) v4_0.toNatClampNeg) := zTk_i1 (i := v4_0) (by omega) (by omega)
            obtain ⟨y6, ey6⟩ : ∃ z : Int32, z = v4_0 + 1 := ⟨_, rfl⟩
            have qy6 : y6.toInt = v4_0.toInt + 1 := zi_add ey6 (rfl) rfl (by omega) (by omega)
            refine lv_iinc (v := y6) (lv' := [(4, .int y6), (3, .int y5), (5, .int 0), (0, .ref h0), (1, .ref h1), (2, .int p2)]) hx hb dX2_nextCough_66 hl (k := 5) rfl ey6.symm (by decide) rfl (fun ls hl => ?_)
            have hkt : zTk (zib f0) (zTp Z12 (zIv Z4) (zIv Z5) p2.toInt) y6.toInt.toNat = zTk (zib f0) (zTp Z12 (zIv Z4) (zIv Z5) p2.toInt) (v4_0.toInt.toNat + 1) := by rw [(by omega : y6.toInt.toNat = v4_0.toInt.toNat + 1)]
            refine lv_goto (tgt := 5) hx hb dX2_nextCough_69 (by decide) ?_
            exact ih1 y5 y6 (by omega) (by omega) (by omega) (by omega) (by omega) (by omega) _ _ hP hD hS ls (lv_sub hl [3, 4, 5, 1, 0] rfl)
          · have i_4 : y0.toInt = 1 := z_eq (rfl) (rfl) c_4
            refine lv_iload_n hx hb dX2_nextCough_34 rfl (lv_at hl 2 rfl) ?_
            refine lv_goto (tgt := 39) hx hb dX2_nextCough_35 (by decide) ?_
            refine lv_istore (lv' := [(5, .int p2), (0, .ref h0), (1, .ref h1), (2, .int p2), (3, .int v3_0), (4, .int v4_0)]) hx hb dX2_nextCough_39 hl (by decide) rfl (fun ls hl => ?_)
            refine lv_iload_n hx hb dX2_nextCough_41 rfl (lv_at hl 4 rfl) ?_
            refine lv_aload_n hx hb dX2_nextCough_42 rfl (lv_at hl 1 rfl) ?_
            refine va_get (D := g.1) (ci := 2) (v := .ref h7) (C := RX2) (T := TX2) (N := 12) hx hb hts zl_X2 hown hK hP 0 rfl rfl 5 (by decide) (hts _ m_f_RX2_27) (fun _ h => h) rfl dX2_nextCough_43 ?_
            refine lv_iload hx hb dX2_nextCough_46 (lv_at hl 5 rfl) ?_
            refine va_iald (D := g.1) hx hb hK hP 3 0 rfl rfl (vp_in_iff.mpr ⟨by omega, by omega⟩) dX2_nextCough_48 ?_
            refine lv_topi (fun y7 ey7 => ?_)
            have qy7_0 : (-99) ≤ y7.toInt := (i_at (N := 5) (lo := (-99)) (hi := 10098) (i := v4_0) (a := v4_0.toInt) hF_Z5 (rfl) (by omega) (by omega) ey7).1
            have qy7_1 : y7.toInt ≤ 10098 := (i_at (N := 5) (lo := (-99)) (hi := 10098) (i := v4_0) (a := v4_0.toInt) hF_Z5 (rfl) (by omega) (by omega) ey7).2
            have qy7_2 : y7.toInt = (Z5 v4_0.toNatClampNeg).toInt := congrArg Int32.toInt ey7
            refine lv_aload_n hx hb dX2_nextCough_49 rfl (lv_at hl 1 rfl) ?_
            refine va_get (D := g.1) (ci := 2) (v := .ref h6) (C := RX2) (T := TX2) (N := 12) hx hb hts zl_X2 hown hK hP 0 rfl rfl 4 (by decide) (hts _ m_f_RX2_24) (fun _ h => h) rfl dX2_nextCough_50 ?_
            refine lv_iload hx hb dX2_nextCough_53 (lv_at hl 5 rfl) ?_
            refine va_iald (D := g.1) hx hb hK hP 2 0 rfl rfl (vp_in_iff.mpr ⟨by omega, by omega⟩) dX2_nextCough_55 ?_
            refine lv_topi (fun y8 ey8 => ?_)
            have qy8_0 : (-40) ≤ y8.toInt := (i_at (N := 5) (lo := (-40)) (hi := 99) (i := v4_0) (a := v4_0.toInt) hF_Z4 (rfl) (by omega) (by omega) ey8).1
            have qy8_1 : y8.toInt ≤ 99 := (i_at (N := 5) (lo := (-40)) (hi := 99) (i := v4_0) (a := v4_0.toInt) hF_Z4 (rfl) (by omega) (by omega) ey8).2
            have qy8_2 : y8.toInt = (Z4 v4_0.toNatClampNeg).toInt := congrArg Int32.toInt ey8
            refine lv_iload hx hb dX2_nextCough_56 (lv_at hl 0 rfl) ?_
            refine lv_isub hx hb dX2_nextCough_58 ?_
            refine lv_topi (fun y9 ey9 => ?_)
            have qy9_0 : y9.toInt = y8.toInt - p2.toInt := zi_sub ey9 (rfl) (rfl) (by omega) (by omega)
            refine va_mmin hx hb (hml.trans hl.1.symm) hown (hts _ m_m_RX2_131) (hts _ m_s_Lib_Math_min_name) (hts _ m_z_RJ9) (hts _ m_o_Lib_Math_min_name) (Nat.le_of_ble_eq_true rfl) (Nat.le_of_ble_eq_true rfl) (Nat.le_of_ble_eq_true rfl) (Nat.le_of_ble_eq_true rfl) dX2_nextCough_59 ?_
            refine lv_topi (fun y10 ey10 => ?_)
            have qy10_0 : y10.toInt ≤ y7.toInt := (zi_min ey10 (rfl) (rfl)).1
            have qy10_1 : y10.toInt ≤ y9.toInt := (zi_min ey10 (rfl) (rfl)).2.1
            have qy10_2 : y10.toInt = y7.toInt ∨ y10.toInt = y9.toInt := (zi_min ey10 (rfl) (rfl)).2.2
            refine va_mmax hx hb (hml.trans hl.1.symm) hown (hts _ m_m_RX2_116) (hts _ m_s_Lib_Math_max_name) (hts _ m_z_RJ9) (hts _ m_o_Lib_Math_max_name) (Nat.le_of_ble_eq_true rfl) (Nat.le_of_ble_eq_true rfl) (Nat.le_of_ble_eq_true rfl) (Nat.le_of_ble_eq_true rfl) dX2_nextCough_62 ?_
            refine lv_topi (fun y11 ey11 => ?_)
            have qy11_0 : v3_0.toInt ≤ y11.toInt := (zi_max ey11 (rfl) (rfl)).1
            have qy11_1 : y10.toInt ≤ y11.toInt := (zi_max ey11 (rfl) (rfl)).2.1
            have qy11_2 : y11.toInt = v3_0.toInt ∨ y11.toInt = y10.toInt := (zi_max ey11 (rfl) (rfl)).2.2
            refine lv_istore_n (lv' := [(3, .int y11), (5, .int p2), (0, .ref h0), (1, .ref h1), (2, .int p2), (4, .int v4_0)]) hx hb dX2_nextCough_65 rfl hl (by decide) rfl (fun ls hl => ?_)
            have htp : (zTp Z12 (zIv Z4) (zIv Z5) p2.toInt) v4_0.toNatClampNeg = min (Z5 v4_0.toNatClampNeg).toInt ((Z4 v4_0.toNatClampNeg).toInt - p2.toInt) := zTp_i (i := v4_0) (by omega)
            have hks : zTk (zib f0) (zTp Z12 (zIv Z4) (zIv Z5) p2.toInt) (v4_0.toInt.toNat + 1) = max (zTk (zib f0) (zTp Z12 (zIv Z4) (zIv Z5) p2.toInt) v4_0.toInt.toNat) ((zTp Z12 (zIv Z4) (zIv Z5) p2.toInt) v4_0.toNatClampNeg) := zTk_i1 (i := v4_0) (by omega) (by omega)
            obtain ⟨y12, ey12⟩ : ∃ z : Int32, z = v4_0 + 1 := ⟨_, rfl⟩
            have qy12 : y12.toInt = v4_0.toInt + 1 := zi_add ey12 (rfl) rfl (by omega) (by omega)
            refine lv_iinc (v := y12) (lv' := [(4, .int y12), (3, .int y11), (5, .int p2), (0, .ref h0), (1, .ref h1), (2, .int p2)]) hx hb dX2_nextCough_66 hl (k := 5) rfl ey12.symm (by decide) rfl (fun ls hl => ?_)
            have hkt : zTk (zib f0) (zTp Z12 (zIv Z4) (zIv Z5) p2.toInt) y12.toInt.toNat = zTk (zib f0) (zTp Z12 (zIv Z4) (zIv Z5) p2.toInt) (v4_0.toInt.toNat + 1) := by rw [(by omega : y12.toInt.toNat = v4_0.toInt.toNat + 1)]
            refine lv_goto (tgt := 5) hx hb dX2_nextCough_69 (by decide) ?_
            exact ih1 y11 y12 (by omega) (by omega) (by omega) (by omega) (by omega) (by omega) _ _ hP hD hS ls (lv_sub hl [3, 4, 5, 1, 0] rfl)
        · skip
          have i_3 : zbit f0 v4_0 = 0 := i_3
          have hP : va_P g.1 vwCl [(h0, .inr (2, [.ref h2, .ref h3, .ref h4, .ref h5, .ref h6, .ref h7, .int f0, .int f1, .ref h8, .ref h9, .ref h10, .ref h11])), (h1, .inr (0, [.ref h12, .int f2, .ref h13, .int f3, .ref h14, .ref h15, .ref h16, .ref h17, .ref h18, .ref h19, .int f4])), (h6, .inl (zI g, 5, .inl Z4)), (h7, .inl (zI g, 5, .inl Z5)), (h14, .inl (zI g, 5, .inl Z12))] H := hP
          have hD : va_D A [(h0, .inr (2, [.ref h2, .ref h3, .ref h4, .ref h5, .ref h6, .ref h7, .int f0, .int f1, .ref h8, .ref h9, .ref h10, .ref h11])), (h1, .inr (0, [.ref h12, .int f2, .ref h13, .int f3, .ref h14, .ref h15, .ref h16, .ref h17, .ref h18, .ref h19, .int f4])), (h6, .inl (zI g, 5, .inl Z4)), (h7, .inl (zI g, 5, .inl Z5)), (h14, .inl (zI g, 5, .inl Z12))] := hD
          refine lv_if_eq (tgt := 66) hx hb dX2_nextCough_20 (by decide) (fun _ => ?_) (fun h => absurd h (by decide +kernel))
          have hks : zTk (zib f0) (zTp Z12 (zIv Z4) (zIv Z5) p2.toInt) (v4_0.toInt.toNat + 1) = zTk (zib f0) (zTp Z12 (zIv Z4) (zIv Z5) p2.toInt) v4_0.toInt.toNat := zTk_i0 (i := v4_0) (by omega) (by omega)
          obtain ⟨y13, ey13⟩ : ∃ z : Int32, z = v4_0 + 1 := ⟨_, rfl⟩
          have qy13 : y13.toInt = v4_0.toInt + 1 := zi_add ey13 (rfl) rfl (by omega) (by omega)
          refine lv_iinc (v := y13) (lv' := [(4, .int y13), (0, .ref h0), (1, .ref h1), (2, .int p2), (3, .int v3_0)]) hx hb dX2_nextCough_66 hl (k := 4) rfl ey13.symm (by decide) rfl (fun ls hl => ?_)
          have hkt : zTk (zib f0) (zTp Z12 (zIv Z4) (zIv Z5) p2.toInt) y13.toInt.toNat = zTk (zib f0) (zTp Z12 (zIv Z4) (zIv Z5) p2.toInt) (v4_0.toInt.toNat + 1) := by rw [(by omega : y13.toInt.toNat = v4_0.toInt.toNat + 1)]
          refine lv_goto (tgt := 5) hx hb dX2_nextCough_69 (by decide) ?_
          exact ih1 v3_0 y13 (by omega) (by omega) (by omega) (by omega) (by omega) (by omega) _ _ hP hD hS ls (lv_sub hl [1, 2, 3, 4, 0] rfl)
  have : ((-1) : Int32).toInt = (-1) := rfl
  have : (0 : Int32).toInt = 0 := rfl
  exact loop5_0 ((5 - 0 : Int).toNat + 1) ((-1) : Int32) (0 : Int32) (by omega) (by omega) (by omega) (by omega) (by omega) (by omega) _ _ hP hD hS ls (lv_sub hl [2, 3, 4, 1, 0] rfl)
set_option maxHeartbeats 8000000 in
set_option maxRecDepth 100000 in
theorem gX2_firstOf (l : Launch) (g : zG) (sz : Nat) (p0 : Int32) : Met l yX2_firstOf (.code yX2_firstOf cX2_firstOf 2 (some .int) :: zBig) ({ frames := 1, cells := 0, slots := 0, locals := 21 }) (va_Pc [.int p0] (zPre g [] sz)) (va_Qi (fun (r : Int32) (u : Nat) => r.toInt = zF5 (zib p0) ∧ -1 ≤ r.toInt ∧ r.toInt ≤ 4) (zPost g (fun u : Nat => []) (va_A [] sz)) (va_A [] sz)) 0 0 (va_A [] sz) := by
  refine zMetI rfl (Nat.le_of_ble_eq_true rfl) ?_
  intro p e s m args below meth c A ls hx hb hml hr hlocks hin hown hts hK hN hZ hP hD hA hS hAe hl
  have hown : s.vm.findClass RX2 = some m.cls := hown
  have hl : lv_has ls 2 [(0, .int p0)] := hl
  have hf0 : zFk (zib p0) (0 : Int32).toInt = zF5 (zib p0) := zFk_0
  refine lv_iconst (v := 0) hx hb dX2_firstOf_0 (by decide) ?_
  refine lv_istore_n (lv' := [(1, .int 0), (0, .int p0)]) hx hb dX2_firstOf_1 rfl hl (by decide) rfl (fun ls hl => ?_)
  have loop2_0 : ∀ (n1 : Nat) (v1_0 : Int32) (n1_0 : 0 ≤ v1_0.toInt) (n1_1 : v1_0.toInt ≤ 5) (n1_2 : zFk (zib p0) v1_0.toInt = zF5 (zib p0)) (hm1 : 5 - v1_0.toInt < (n1 : Int)) (H : Heap) (locs : List Loc), va_P g.1 vwCl [] H → va_D A [] → va_S A s.heap H locs → ∀ (ls : Array Slot), lv_has ls 2 [(0, .int p0), (1, .int v1_0)] → W p l e ({ frames := 1, cells := 0, slots := 0, locals := 21 }) s m args below meth c H locs 0 0 (MQ below (va_Qi (fun (r : Int32) (u : Nat) => r.toInt = zF5 (zib p0) ∧ -1 ≤ r.toInt ∧ r.toInt ≤ 4) (zPost g (fun u : Nat => []) A) A) args s 0 0 A) (F0 m 2 ls []) := by
    intro n1
    induction n1 with
    | zero => intro v1_0 n1_0 n1_1 n1_2 hm1; exfalso; omega
    | succ n1 ih1 =>
      intro v1_0 n1_0 n1_1 n1_2 hm1 H locs hP hD hS ls hl
      refine lv_iload_n hx hb dX2_firstOf_2 rfl (lv_at hl 1 rfl) ?_
      refine lv_iconst (v := 5) hx hb dX2_firstOf_3 (by decide) ?_
      refine lv_icmp_ge (tgt := 23) hx hb dX2_firstOf_4 (by decide) (fun c_1 => ?_) (fun c_1 => ?_)
      · have i_1 : 5 ≤ v1_0.toInt := z_le (rfl) (rfl) c_1
        have hfe : zFk (zib p0) v1_0.toInt = -1 := zFk_end (by omega)
        have : (-1 : Int32).toInt = -1 := rfl
        refine lv_iconst (v := (-1)) hx hb dX2_firstOf_23 (by decide) ?_
        have hP9 := hP.sub (ws' := []) [] rfl
        have hD9 := hD.sub (ws' := []) [] (by decide) rfl
        exact W.iret (v := (-1)) hx hb hr (fun t ht hW => ⟨⟨(-1), (0 : Nat), rfl, ⟨(by first | omega | decide), (by first | omega | decide), (by first | omega | decide)⟩, by rw [ht]; exact hP9, hD9⟩, hS.F ht⟩) hS.2.2 dX2_firstOf_24
      · have i_1 : v1_0.toInt < 5 := z_nle (rfl) (rfl) c_1
        refine lv_iload_n hx hb dX2_firstOf_7 rfl (lv_at hl 0 rfl) ?_
        refine lv_iload_n hx hb dX2_firstOf_8 rfl (lv_at hl 1 rfl) ?_
        refine z_calli (wr := []) hP hD hS hA [] [] (by decide) rfl rfl (by decide) (va_runS (As := [.int p0, .int v1_0]) (rest := []) ⟨hx, hb, hml, hown, hts⟩ (gX2_isIn l g  H.size p0 v1_0) ⟨callB_of 2 hts (zGood m_o_yX2_isIn) rfl rfl rfl (hts _ m_z_RX2) (hts _ m_m_RX2_93) ⟨by decide +kernel, by decide +kernel, by decide +kernel⟩ ⟨Nat.le_of_ble_eq_true rfl, Nat.le_of_ble_eq_true rfl⟩, hts _ m_s_yX2_isIn⟩ (zPreS hK hN hZ hP hD hS hA [] (by decide) rfl rfl) rfl rfl hl.1 rfl (lv_room (Nat.le_of_ble_eq_true rfl)) dX2_firstOf_9 ⟨Nat.le_of_ble_eq_true rfl, Nat.le_of_ble_eq_true rfl⟩) (fun r u H locs hw hP hD hS => ?_)
        rcases hw with ⟨i_2, rfl⟩ | ⟨i_3, rfl⟩
        · skip
          have i_2 : zbit p0 v1_0 = 1 := i_2
          have hP : va_P g.1 vwCl [] H := hP
          have hD : va_D A [] := hD
          refine lv_if_eq (tgt := 17) hx hb dX2_firstOf_12 (by decide) (fun h => absurd h (by decide +kernel)) (fun _ => ?_)
          have hfy : zFk (zib p0) v1_0.toInt = v1_0.toInt := zFk_yes (by omega) (by omega) ((zib_i (i := v1_0) rfl (by omega)).trans (by omega))
          refine lv_iload_n hx hb dX2_firstOf_15 rfl (lv_at hl 1 rfl) ?_
          have hP9 := hP.sub (ws' := []) [] rfl
          have hD9 := hD.sub (ws' := []) [] (by decide) rfl
          exact W.iret (v := v1_0) hx hb hr (fun t ht hW => ⟨⟨v1_0, (0 : Nat), rfl, ⟨(by first | omega | decide), (by first | omega | decide), (by first | omega | decide)⟩, by rw [ht]; exact hP9, hD9⟩, hS.F ht⟩) hS.2.2 dX2_firstOf_16
        · skip
          have i_3 : zbit p0 v1_0 = 0 := i_3
          have hP : va_P g.1 vwCl [] H := hP
          have hD : va_D A [] := hD
          refine lv_if_eq (tgt := 17) hx hb dX2_firstOf_12 (by decide) (fun _ => ?_) (fun h => absurd h (by decide +kernel))
          have hfn : zFk (zib p0) (v1_0.toInt + 1) = zFk (zib p0) v1_0.toInt := zFk_no (by omega) (by omega) (by rw [show zib p0 v1_0.toInt.toNat = zbit p0 v1_0 from zib_i (i := v1_0) rfl (by omega)]; omega)
          obtain ⟨y0, ey0⟩ : ∃ z : Int32, z = v1_0 + 1 := ⟨_, rfl⟩
          have qy0 : y0.toInt = v1_0.toInt + 1 := zi_add ey0 (rfl) rfl (by omega) (by omega)
          refine lv_iinc (v := y0) (lv' := [(1, .int y0), (0, .int p0)]) hx hb dX2_firstOf_17 hl (k := 1) rfl ey0.symm (by decide) rfl (fun ls hl => ?_)
          have hfb : zFk (zib p0) y0.toInt = zFk (zib p0) (v1_0.toInt + 1) := by rw [(by omega : y0.toInt = v1_0.toInt + 1)]
          refine lv_goto (tgt := 2) hx hb dX2_firstOf_20 (by decide) ?_
          exact ih1 y0 (by omega) (by omega) (by omega) (by omega) _ _ hP hD hS ls (lv_sub hl [1, 0] rfl)
  have : (0 : Int32).toInt = 0 := rfl
  exact loop2_0 ((5 - 0 : Int).toNat + 1) (0 : Int32) (by omega) (by omega) (by omega) (by omega) _ _ hP hD hS ls (lv_sub hl [1, 0] rfl)
set_option maxHeartbeats 8000000 in
set_option maxRecDepth 100000 in
theorem gX2_fallLot (l : Launch) (g : zG) (h0 h1 h2 h3 h4 h5 h6 h7 h8 h9 h10 h11 h12 h13 h14 h15 h16 h17 h18 h19 : Nat) (sz : Nat) (p2 : Int32) (p3 : Int32) (f0 : Int32) (f1 : Int32) (f2 : Int32) (f3 : Int32) (f4 : Int32) (Z0 : Nat → Int32) (Z1 : Nat → Int32) (Z2 : Nat → Int32) (Z4 : Nat → Int32) (Z5 : Nat → Int32) (Z6 : Nat → Int32) (Z7 : Nat → Int32) (Z8 : Nat → Int32) (Z9 : Nat → Int32) (Z10 : Nat → Int32) (Z11 : Nat → Int32) (Z12 : Nat → Int32) (Z15 : Nat → Int32) (hp0 : 0 ≤ p2.toInt) (hp1 : p2.toInt ≤ 5) (hp2 : 0 ≤ p3.toInt) (hp3 : p3.toInt ≤ 31) (hf_f2 : 0 ≤ f2.toInt ∧ f2.toInt ≤ 6) (hf_f3 : 0 ≤ f3.toInt ∧ f3.toInt ≤ 5) (hf_f4 : 0 ≤ f4.toInt ∧ f4.toInt ≤ 9999) (hF_Z0 : iMa Z0) (hF_Z1 : iPu Z1) (hF_Z2 : iHd Z2) (hF_Z4 : iLm Z4) (hF_Z5 : iMo Z5) (hF_Z10 : iLaw Z10) (hF_Z11 : iKd Z11) (hF_Z12 : iSo Z12) (hF_Z15 : iWo Z15) : Met l yX2_fallLot (.code yX2_fallLot cX2_fallLot 12 none :: zBig) ({ frames := 3, cells := 0, slots := 0, locals := 69 }) (va_Pc [.ref h0, .ref h1, .int p2, .int p3] (zPre g [(h0, .inr (2, [.ref h2, .ref h3, .ref h4, .ref h5, .ref h6, .ref h7, .int f0, .int f1, .ref h8, .ref h9, .ref h10, .ref h11])), (h1, .inr (0, [.ref h12, .int f2, .ref h13, .int f3, .ref h14, .ref h15, .ref h16, .ref h17, .ref h18, .ref h19, .int f4])), (h2, .inl (zI g, 5, .inl Z0)), (h3, .inl (zI g, 5, .inl Z1)), (h4, .inl (zI g, 5, .inl Z2)), (h6, .inl (zI g, 5, .inl Z4)), (h7, .inl (zI g, 5, .inl Z5)), (h8, .inl (zI g, 6, .inl Z6)), (h9, .inl (zI g, 6, .inl Z7)), (h10, .inl (zI g, 6, .inl Z8)), (h11, .inl (zI g, 6, .inl Z9)), (h12, .inl (zI g, 5, .inl Z10)), (h13, .inl (zI g, 6, .inl Z11)), (h14, .inl (zI g, 5, .inl Z12)), (h17, .inl (zI g, 20, .inl Z15))] sz)) (va_Qv (fun u : Int32 × Int32 × (Nat → Int32) × (Nat → Int32) × (Nat → Int32) × (Nat → Int32) × (Nat → Int32) × (Nat → Int32) => ((u.2.2.2.2.1 p2.toNatClampNeg).toInt = (zLot Z10 f3.toInt Z12 Z15 (zRw f3.toInt Z0) p3 ((Z11 p2.toNatClampNeg).toInt) (zRw f3.toInt Z1) (zRw f3.toInt Z2)).1 ∧ (0 ≤ (zLot Z10 f3.toInt Z12 Z15 (zRw f3.toInt Z0) p3 ((Z11 p2.toNatClampNeg).toInt) (zRw f3.toInt Z1) (zRw f3.toInt Z2)).1 → (u.2.2.2.2.2.1 p2.toNatClampNeg).toInt = (zLot Z10 f3.toInt Z12 Z15 (zRw f3.toInt Z0) p3 ((Z11 p2.toNatClampNeg).toInt) (zRw f3.toInt Z1) (zRw f3.toInt Z2)).2.1) ∧ (u.2.2.2.2.2.2.1 p2.toNatClampNeg).toInt = (zLot Z10 f3.toInt Z12 Z15 (zRw f3.toInt Z0) p3 ((Z11 p2.toNatClampNeg).toInt) (zRw f3.toInt Z1) (zRw f3.toInt Z2)).2.2.1 ∧ (u.2.2.2.2.2.2.2 p2.toNatClampNeg).toInt = (zLot Z10 f3.toInt Z12 Z15 (zRw f3.toInt Z0) p3 ((Z11 p2.toNatClampNeg).toInt) (zRw f3.toInt Z1) (zRw f3.toInt Z2)).2.2.2) ∧ iLm u.2.2.1 ∧ iMo u.2.2.2.1 ∧ zNr p2.toInt Z6 u.2.2.2.2.1 ∧ zNr p2.toInt Z7 u.2.2.2.2.2.1 ∧ zNr p2.toInt Z8 u.2.2.2.2.2.2.1 ∧ zNr p2.toInt Z9 u.2.2.2.2.2.2.2) (zPost g (fun u : Int32 × Int32 × (Nat → Int32) × (Nat → Int32) × (Nat → Int32) × (Nat → Int32) × (Nat → Int32) × (Nat → Int32) => [(h0, .inr (2, [.ref h2, .ref h3, .ref h4, .ref h5, .ref h6, .ref h7, .int u.1, .int u.2.1, .ref h8, .ref h9, .ref h10, .ref h11])), (h1, .inr (0, [.ref h12, .int f2, .ref h13, .int f3, .ref h14, .ref h15, .ref h16, .ref h17, .ref h18, .ref h19, .int f4])), (h2, .inl (zI g, 5, .inl Z0)), (h3, .inl (zI g, 5, .inl Z1)), (h4, .inl (zI g, 5, .inl Z2)), (h6, .inl (zI g, 5, .inl u.2.2.1)), (h7, .inl (zI g, 5, .inl u.2.2.2.1)), (h8, .inl (zI g, 6, .inl u.2.2.2.2.1)), (h9, .inl (zI g, 6, .inl u.2.2.2.2.2.1)), (h10, .inl (zI g, 6, .inl u.2.2.2.2.2.2.1)), (h11, .inl (zI g, 6, .inl u.2.2.2.2.2.2.2)), (h12, .inl (zI g, 5, .inl Z10)), (h13, .inl (zI g, 6, .inl Z11)), (h14, .inl (zI g, 5, .inl Z12)), (h17, .inl (zI g, 20, .inl Z15))]) (va_A [(h0, .inr (2, [.ref h2, .ref h3, .ref h4, .ref h5, .ref h6, .ref h7, .int f0, .int f1, .ref h8, .ref h9, .ref h10, .ref h11])), (h1, .inr (0, [.ref h12, .int f2, .ref h13, .int f3, .ref h14, .ref h15, .ref h16, .ref h17, .ref h18, .ref h19, .int f4])), (h2, .inl (zI g, 5, .inl Z0)), (h3, .inl (zI g, 5, .inl Z1)), (h4, .inl (zI g, 5, .inl Z2)), (h6, .inl (zI g, 5, .inl Z4)), (h7, .inl (zI g, 5, .inl Z5)), (h8, .inl (zI g, 6, .inl Z6)), (h9, .inl (zI g, 6, .inl Z7)), (h10, .inl (zI g, 6, .inl Z8)), (h11, .inl (zI g, 6, .inl Z9)), (h12, .inl (zI g, 5, .inl Z10)), (h13, .inl (zI g, 6, .inl Z11)), (h14, .inl (zI g, 5, .inl Z12)), (h17, .inl (zI g, 20, .inl Z15))] sz)) (va_A [(h0, .inr (2, [.ref h2, .ref h3, .ref h4, .ref h5, .ref h6, .ref h7, .int f0, .int f1, .ref h8, .ref h9, .ref h10, .ref h11])), (h1, .inr (0, [.ref h12, .int f2, .ref h13, .int f3, .ref h14, .ref h15, .ref h16, .ref h17, .ref h18, .ref h19, .int f4])), (h2, .inl (zI g, 5, .inl Z0)), (h3, .inl (zI g, 5, .inl Z1)), (h4, .inl (zI g, 5, .inl Z2)), (h6, .inl (zI g, 5, .inl Z4)), (h7, .inl (zI g, 5, .inl Z5)), (h8, .inl (zI g, 6, .inl Z6)), (h9, .inl (zI g, 6, .inl Z7)), (h10, .inl (zI g, 6, .inl Z8)), (h11, .inl (zI g, 6, .inl Z9)), (h12, .inl (zI g, 5, .inl Z10)), (h13, .inl (zI g, 6, .inl Z11)), (h14, .inl (zI g, 5, .inl Z12)), (h17, .inl (zI g, 20, .inl Z15))] sz)) 0 0 (va_A [(h0, .inr (2, [.ref h2, .ref h3, .ref h4, .ref h5, .ref h6, .ref h7, .int f0, .int f1, .ref h8, .ref h9, .ref h10, .ref h11])), (h1, .inr (0, [.ref h12, .int f2, .ref h13, .int f3, .ref h14, .ref h15, .ref h16, .ref h17, .ref h18, .ref h19, .int f4])), (h2, .inl (zI g, 5, .inl Z0)), (h3, .inl (zI g, 5, .inl Z1)), (h4, .inl (zI g, 5, .inl Z2)), (h6, .inl (zI g, 5, .inl Z4)), (h7, .inl (zI g, 5, .inl Z5)), (h8, .inl (zI g, 6, .inl Z6)), (h9, .inl (zI g, 6, .inl Z7)), (h10, .inl (zI g, 6, .inl Z8)), (h11, .inl (zI g, 6, .inl Z9)), (h12, .inl (zI g, 5, .inl Z10)), (h13, .inl (zI g, 6, .inl Z11)), (h14, .inl (zI g, 5, .inl Z12)), (h17, .inl (zI g, 20, .inl Z15))] sz) := by
  refine zMetV rfl (Nat.le_of_ble_eq_true rfl) ?_
  intro p e s m args below meth c A ls hx hb hml hr hlocks hin hown hts hK hN hZ hP hD hA hS hAe hl
  have hown : s.vm.findClass RX2 = some m.cls := hown
  have hl : lv_has ls 12 [(0, .ref h0), (1, .ref h1), (2, .int p2), (3, .int p3)] := hl
  have hI0 : zNr p2.toInt Z6 Z6 := zNr_0
  have hI1 : zNr p2.toInt Z7 Z7 := zNr_0
  have hI2 : zNr p2.toInt Z8 Z8 := zNr_0
  have hI3 : zNr p2.toInt Z9 Z9 := zNr_0
  refine lv_iload_n hx hb dX2_fallLot_0 rfl (lv_at hl 2 rfl) ?_
  refine lv_if_lt (tgt := 10) hx hb dX2_fallLot_1 (by decide) (fun c_0 => absurd (show p2.toInt < 0 from z_lt (rfl) (rfl) c_0) (by omega)) (fun c_0 => ?_)
  have i_0 : 0 ≤ p2.toInt := z_nlt (rfl) (rfl) c_0
  refine lv_iload_n hx hb dX2_fallLot_4 rfl (lv_at hl 2 rfl) ?_
  refine lv_bipush (v := 6) hx hb dX2_fallLot_5 (by decide) ?_
  refine lv_icmp_lt (tgt := 11) hx hb dX2_fallLot_7 (by decide) (fun c_1 => ?_) (fun c_1 => absurd (show 6 ≤ p2.toInt from z_nlt (rfl) (rfl) c_1) (by omega))
  have i_1 : p2.toInt < 6 := z_lt (rfl) (rfl) c_1
  refine lv_aload_n hx hb dX2_fallLot_11 rfl (lv_at hl 0 rfl) ?_
  refine lv_aload_n hx hb dX2_fallLot_12 rfl (lv_at hl 1 rfl) ?_
  refine lv_aload_n hx hb dX2_fallLot_13 rfl (lv_at hl 1 rfl) ?_
  refine va_getN (D := g.1) (ci := 0) (v := .ref h13) (C := RX0) (T := TX0) (N := 11) hx hb hts zl_X0 hown hK hP 1 rfl rfl 2 (by decide) (hN.f 5 (q := (RX2, 97, "FishSteps$Books", "kind", "[I")) rfl) (fun _ h => h) rfl dX2_fallLot_14 ?_
  refine lv_iload_n hx hb dX2_fallLot_17 rfl (lv_at hl 2 rfl) ?_
  refine va_iald (D := g.1) hx hb hK hP 12 0 rfl rfl (vp_in_iff.mpr ⟨by omega, by omega⟩) dX2_fallLot_18 ?_
  refine lv_topi (fun y4 ey4 => ?_)
  have qy4_0 : 0 ≤ y4.toInt := (iKd_at (i := p2) (a := p2.toInt) hF_Z11 (rfl) (by omega) (by omega) ey4).1
  have qy4_1 : y4.toInt ≤ 3 := (iKd_at (i := p2) (a := p2.toInt) hF_Z11 (rfl) (by omega) (by omega) ey4).2
  have qy4_2 : y4.toInt = (Z11 p2.toNatClampNeg).toInt := congrArg Int32.toInt ey4
  refine z_callv (wr := [(h8, .inl (zI g, 6, .inl Z6)), (h9, .inl (zI g, 6, .inl Z7)), (h10, .inl (zI g, 6, .inl Z8)), (h11, .inl (zI g, 6, .inl Z9)), (h13, .inl (zI g, 6, .inl Z11))]) hP hD hS hA [0, 1, 2, 3, 4, 5, 6, 11, 13, 14] [7, 8, 9, 10, 12] (by decide) rfl rfl (by decide) (va_runV (As := [.ref h1, .int y4]) (rest := []) ⟨hx, hb, hml, hown, hts⟩ (gX2_ready l g h0 h1 h2 h3 h4 h5 h6 h7 h8 h9 h10 h11 h12 h13 h14 h15 h16 h17 h18 h19 s.heap.size y4 f0 f1 f2 f3 f4 Z0 Z1 Z2 Z4 Z5 Z10 Z12 Z15 (by constructor <;> omega) (by constructor <;> omega) (by constructor <;> omega) hF_Z0 hF_Z1 hF_Z2 hF_Z4 hF_Z5 hF_Z10 hF_Z12 hF_Z15) ⟨callB_of 2 hts (zGood m_o_yX2_ready) rfl rfl rfl (hts _ m_z_RX2) (hts _ m_m_RX2_100) ⟨by decide +kernel, by decide +kernel, by decide +kernel⟩ ⟨Nat.le_of_ble_eq_true rfl, Nat.le_of_ble_eq_true rfl⟩, hts _ m_i_yX2_ready, hts _ m_e_yX2_ready⟩ (zPreV hK hN hZ hP hD hS hA [0, 1, 2, 3, 4, 5, 6, 11, 13, 14] (by decide) rfl rfl 2 0 rfl rfl) rfl rfl hl.1 rfl (lv_room (Nat.le_of_ble_eq_true rfl)) dX2_fallLot_19 ⟨Nat.le_of_ble_eq_true rfl, Nat.le_of_ble_eq_true rfl⟩) (fun u H locs hw hP hD hS => ?_)
  obtain ⟨w5, w6, R7, R8⟩ := u
  obtain ⟨hw, hI9, hI10⟩ := hw
  have q11_0 := hw
  have q11_0 : w5.toInt = zS5 (zRm f3.toInt Z12 (zRw f3.toInt Z2)) := q11_0
  have hP : va_P g.1 vwCl [(h8, .inl (zI g, 6, .inl Z6)), (h9, .inl (zI g, 6, .inl Z7)), (h10, .inl (zI g, 6, .inl Z8)), (h11, .inl (zI g, 6, .inl Z9)), (h13, .inl (zI g, 6, .inl Z11)), (h0, .inr (2, [.ref h2, .ref h3, .ref h4, .ref h5, .ref h6, .ref h7, .int w5, .int w6, .ref h8, .ref h9, .ref h10, .ref h11])), (h1, .inr (0, [.ref h12, .int f2, .ref h13, .int f3, .ref h14, .ref h15, .ref h16, .ref h17, .ref h18, .ref h19, .int f4])), (h2, .inl (zI g, 5, .inl Z0)), (h3, .inl (zI g, 5, .inl Z1)), (h4, .inl (zI g, 5, .inl Z2)), (h6, .inl (zI g, 5, .inl R7)), (h7, .inl (zI g, 5, .inl R8)), (h12, .inl (zI g, 5, .inl Z10)), (h14, .inl (zI g, 5, .inl Z12)), (h17, .inl (zI g, 20, .inl Z15))] H := hP
  have hD : va_D A [(h8, .inl (zI g, 6, .inl Z6)), (h9, .inl (zI g, 6, .inl Z7)), (h10, .inl (zI g, 6, .inl Z8)), (h11, .inl (zI g, 6, .inl Z9)), (h13, .inl (zI g, 6, .inl Z11)), (h0, .inr (2, [.ref h2, .ref h3, .ref h4, .ref h5, .ref h6, .ref h7, .int w5, .int w6, .ref h8, .ref h9, .ref h10, .ref h11])), (h1, .inr (0, [.ref h12, .int f2, .ref h13, .int f3, .ref h14, .ref h15, .ref h16, .ref h17, .ref h18, .ref h19, .int f4])), (h2, .inl (zI g, 5, .inl Z0)), (h3, .inl (zI g, 5, .inl Z1)), (h4, .inl (zI g, 5, .inl Z2)), (h6, .inl (zI g, 5, .inl R7)), (h7, .inl (zI g, 5, .inl R8)), (h12, .inl (zI g, 5, .inl Z10)), (h14, .inl (zI g, 5, .inl Z12)), (h17, .inl (zI g, 20, .inl Z15))] := hD
  refine lv_aload_n hx hb dX2_fallLot_22 rfl (lv_at hl 0 rfl) ?_
  refine lv_dup hx hb dX2_fallLot_23 rfl ?_
  refine va_get (D := g.1) (ci := 2) (v := .int w5) (C := RX2) (T := TX2) (N := 12) hx hb hts zl_X2 hown hK hP 5 rfl rfl 6 (by decide) (hts _ m_f_RX2_30) (fun _ h => h) rfl dX2_fallLot_24 ?_
  refine lv_aload_n hx hb dX2_fallLot_27 rfl (lv_at hl 0 rfl) ?_
  refine lv_aload_n hx hb dX2_fallLot_28 rfl (lv_at hl 1 rfl) ?_
  refine lv_aload_n hx hb dX2_fallLot_29 rfl (lv_at hl 1 rfl) ?_
  refine va_getN (D := g.1) (ci := 0) (v := .ref h13) (C := RX0) (T := TX0) (N := 11) hx hb hts zl_X0 hown hK hP 6 rfl rfl 2 (by decide) (hN.f 5 (q := (RX2, 97, "FishSteps$Books", "kind", "[I")) rfl) (fun _ h => h) rfl dX2_fallLot_30 ?_
  refine lv_iload_n hx hb dX2_fallLot_33 rfl (lv_at hl 2 rfl) ?_
  refine va_iald (D := g.1) hx hb hK hP 4 0 rfl rfl (vp_in_iff.mpr ⟨by omega, by omega⟩) dX2_fallLot_34 ?_
  refine lv_topi (fun y12 ey12 => ?_)
  have qy12_0 : 0 ≤ y12.toInt := (iKd_at (i := p2) (a := p2.toInt) hF_Z11 (rfl) (by omega) (by omega) ey12).1
  have qy12_1 : y12.toInt ≤ 3 := (iKd_at (i := p2) (a := p2.toInt) hF_Z11 (rfl) (by omega) (by omega) ey12).2
  have qy12_2 : y12.toInt = (Z11 p2.toNatClampNeg).toInt := congrArg Int32.toInt ey12
  refine lv_iload_n hx hb dX2_fallLot_35 rfl (lv_at hl 3 rfl) ?_
  refine z_calli (wr := [(h8, .inl (zI g, 6, .inl Z6)), (h9, .inl (zI g, 6, .inl Z7)), (h10, .inl (zI g, 6, .inl Z8)), (h11, .inl (zI g, 6, .inl Z9)), (h13, .inl (zI g, 6, .inl Z11)), (h2, .inl (zI g, 5, .inl Z0)), (h3, .inl (zI g, 5, .inl Z1)), (h4, .inl (zI g, 5, .inl Z2)), (h6, .inl (zI g, 5, .inl R7)), (h7, .inl (zI g, 5, .inl R8)), (h12, .inl (zI g, 5, .inl Z10)), (h14, .inl (zI g, 5, .inl Z12))]) hP hD hS hA [5, 6, 14] [0, 1, 2, 3, 4, 7, 8, 9, 10, 11, 12, 13] (by decide) rfl rfl (by decide) (va_runV (As := [.ref h1, .int y12, .int p3]) (rest := [.int w5, .ref h0]) ⟨hx, hb, hml, hown, hts⟩ (gX2_silentOf l g h0 h1 h2 h3 h4 h5 h6 h7 h8 h9 h10 h11 h12 h13 h14 h15 h16 h17 h18 h19 H.size y12 p3 w5 w6 f2 f3 f4 Z15 (by omega) (by omega) (by constructor <;> omega) (by constructor <;> omega) (by constructor <;> omega) hF_Z15) ⟨callB_of 3 hts (zGood m_o_yX2_silentOf) rfl rfl rfl (hts _ m_z_RX2) (hts _ m_m_RX2_103) ⟨by decide +kernel, by decide +kernel, by decide +kernel⟩ ⟨Nat.le_of_ble_eq_true rfl, Nat.le_of_ble_eq_true rfl⟩, hts _ m_i_yX2_silentOf, hts _ m_e_yX2_silentOf⟩ (zPreV hK hN hZ hP hD hS hA [5, 6, 14] (by decide) rfl rfl 2 5 rfl rfl) rfl rfl hl.1 rfl (lv_room (Nat.le_of_ble_eq_true rfl)) dX2_fallLot_36 ⟨Nat.le_of_ble_eq_true rfl, Nat.le_of_ble_eq_true rfl⟩) (fun r u H locs hw hP hD hS => ?_)
  obtain ⟨y13, rfl⟩ : ∃ z, z = r := ⟨_, rfl⟩
  obtain ⟨q14_0, q14_1, q14_2⟩ := hw
  have q14_0 : y13.toInt = zS5 (zSil p3 (zVo p3 (zWf f3.toInt Z15 y12.toInt) (zib w5) 5)) := q14_0
  have q14_1 : 0 ≤ y13.toInt := q14_1
  have q14_2 : y13.toInt ≤ 31 := q14_2
  have hP : va_P g.1 vwCl [(h8, .inl (zI g, 6, .inl Z6)), (h9, .inl (zI g, 6, .inl Z7)), (h10, .inl (zI g, 6, .inl Z8)), (h11, .inl (zI g, 6, .inl Z9)), (h13, .inl (zI g, 6, .inl Z11)), (h2, .inl (zI g, 5, .inl Z0)), (h3, .inl (zI g, 5, .inl Z1)), (h4, .inl (zI g, 5, .inl Z2)), (h6, .inl (zI g, 5, .inl R7)), (h7, .inl (zI g, 5, .inl R8)), (h12, .inl (zI g, 5, .inl Z10)), (h14, .inl (zI g, 5, .inl Z12)), (h0, .inr (2, [.ref h2, .ref h3, .ref h4, .ref h5, .ref h6, .ref h7, .int w5, .int w6, .ref h8, .ref h9, .ref h10, .ref h11])), (h1, .inr (0, [.ref h12, .int f2, .ref h13, .int f3, .ref h14, .ref h15, .ref h16, .ref h17, .ref h18, .ref h19, .int f4])), (h17, .inl (zI g, 20, .inl Z15))] H := hP
  have hD : va_D A [(h8, .inl (zI g, 6, .inl Z6)), (h9, .inl (zI g, 6, .inl Z7)), (h10, .inl (zI g, 6, .inl Z8)), (h11, .inl (zI g, 6, .inl Z9)), (h13, .inl (zI g, 6, .inl Z11)), (h2, .inl (zI g, 5, .inl Z0)), (h3, .inl (zI g, 5, .inl Z1)), (h4, .inl (zI g, 5, .inl Z2)), (h6, .inl (zI g, 5, .inl R7)), (h7, .inl (zI g, 5, .inl R8)), (h12, .inl (zI g, 5, .inl Z10)), (h14, .inl (zI g, 5, .inl Z12)), (h0, .inr (2, [.ref h2, .ref h3, .ref h4, .ref h5, .ref h6, .ref h7, .int w5, .int w6, .ref h8, .ref h9, .ref h10, .ref h11])), (h1, .inr (0, [.ref h12, .int f2, .ref h13, .int f3, .ref h14, .ref h15, .ref h16, .ref h17, .ref h18, .ref h19, .int f4])), (h17, .inl (zI g, 20, .inl Z15))] := hD
  refine lv_iconst (v := (-1)) hx hb dX2_fallLot_39 (by decide) ?_
  refine lv_ixor hx hb dX2_fallLot_40 ?_
  refine lv_topi (fun y15 ey15 => ?_)
  refine lv_iand hx hb dX2_fallLot_41 ?_
  refine lv_topi (fun y16 ey16 => ?_)
  have hkk1 : y4.toInt = ((Z11 p2.toNatClampNeg).toInt) := by omega
  have hkk2 : y12.toInt = ((Z11 p2.toNatClampNeg).toInt) := by omega
  have hopn : w5.toInt = zS5 (zRm f3.toInt Z12 (zRw f3.toInt Z2)) := by omega
  have hvx : zVo p3 (zWf f3.toInt Z15 ((Z11 p2.toNatClampNeg).toInt)) (zib w5) 5 = zVo p3 (zWf f3.toInt Z15 ((Z11 p2.toNatClampNeg).toInt)) (zRm f3.toInt Z12 (zRw f3.toInt Z2)) 5 := zVo_ext (fun b hb => zib_of hopn zRm_01 hb) 5 (by omega)
  have hsl : y13.toInt = zS5 (zSil p3 (zVo p3 (zWf f3.toInt Z15 y12.toInt) (zib w5) 5)) := by omega
  rw [hkk2, hvx] at hsl
  have hop : y16.toInt = zS5 (zOp f3.toInt Z12 Z15 p3 ((Z11 p2.toNatClampNeg).toInt) (zRw f3.toInt Z2)) := z_andn (o := w5) (s := y13) (by rw [ey16, ey15]) zRm_01 (zSil_01 _ _) hopn hsl
  have hlm : zRw f3.toInt R7 = (zLim f3.toInt Z12 Z15 (zRw f3.toInt Z0) ((Z11 p2.toNatClampNeg).toInt)) := by
    rw [← hkk1]
    exact hI9.2
  have hmn : zRw f3.toInt R8 = zMon Z10 f3.toInt Z12 (zRw f3.toInt Z1) := hI10.2
  refine va_put (D := g.1) (ci := 2) (v := .int y16) (ty := .int) (C := RX2) (T := TX2) (N := 12) hx hb hts zl_X2 tyX2 tyX2_ok nmX2 hown hK hP hD hS 12 rfl rfl 6 (by decide) (hts _ m_f_RX2_30) (fun _ h => h) rfl (by decide +kernel) rfl rfl (Nat.le_of_ble_eq_true rfl) dX2_fallLot_42 (fun H locs hP hD hS => ?_)
  have hP : va_P g.1 vwCl [(h8, .inl (zI g, 6, .inl Z6)), (h9, .inl (zI g, 6, .inl Z7)), (h10, .inl (zI g, 6, .inl Z8)), (h11, .inl (zI g, 6, .inl Z9)), (h13, .inl (zI g, 6, .inl Z11)), (h2, .inl (zI g, 5, .inl Z0)), (h3, .inl (zI g, 5, .inl Z1)), (h4, .inl (zI g, 5, .inl Z2)), (h6, .inl (zI g, 5, .inl R7)), (h7, .inl (zI g, 5, .inl R8)), (h12, .inl (zI g, 5, .inl Z10)), (h14, .inl (zI g, 5, .inl Z12)), (h0, .inr (2, [.ref h2, .ref h3, .ref h4, .ref h5, .ref h6, .ref h7, .int y16, .int w6, .ref h8, .ref h9, .ref h10, .ref h11])), (h1, .inr (0, [.ref h12, .int f2, .ref h13, .int f3, .ref h14, .ref h15, .ref h16, .ref h17, .ref h18, .ref h19, .int f4])), (h17, .inl (zI g, 20, .inl Z15))] H := hP
  have hD : va_D A [(h8, .inl (zI g, 6, .inl Z6)), (h9, .inl (zI g, 6, .inl Z7)), (h10, .inl (zI g, 6, .inl Z8)), (h11, .inl (zI g, 6, .inl Z9)), (h13, .inl (zI g, 6, .inl Z11)), (h2, .inl (zI g, 5, .inl Z0)), (h3, .inl (zI g, 5, .inl Z1)), (h4, .inl (zI g, 5, .inl Z2)), (h6, .inl (zI g, 5, .inl R7)), (h7, .inl (zI g, 5, .inl R8)), (h12, .inl (zI g, 5, .inl Z10)), (h14, .inl (zI g, 5, .inl Z12)), (h0, .inr (2, [.ref h2, .ref h3, .ref h4, .ref h5, .ref h6, .ref h7, .int y16, .int w6, .ref h8, .ref h9, .ref h10, .ref h11])), (h1, .inr (0, [.ref h12, .int f2, .ref h13, .int f3, .ref h14, .ref h15, .ref h16, .ref h17, .ref h18, .ref h19, .int f4])), (h17, .inl (zI g, 20, .inl Z15))] := hD
  have hRR0 : (zLot Z10 f3.toInt Z12 Z15 (zRw f3.toInt Z0) p3 ((Z11 p2.toNatClampNeg).toInt) (zRw f3.toInt Z1) (zRw f3.toInt Z2)) = zRun (Z10 0).toInt (Z10 2).toInt (Z10 1).toInt (Z10 3).toInt (zCg (zib y16) Z12 (zIv R7) (zIv R8)) (Z10 0).toInt 1000 0 0 := zLot_of hop hlm hmn
  refine lv_aload_n hx hb dX2_fallLot_45 rfl (lv_at hl 1 rfl) ?_
  refine va_getN (D := g.1) (ci := 0) (v := .ref h12) (C := RX0) (T := TX0) (N := 11) hx hb hts zl_X0 hown hK hP 13 rfl rfl 0 (by decide) (hN.f 2 (q := (RX2, 107, "FishSteps$Books", "law", "[I")) rfl) (fun _ h => h) rfl dX2_fallLot_46 ?_
  refine lv_iconst (v := 0) hx hb dX2_fallLot_49 (by decide) ?_
  refine va_iald (D := g.1) hx hb hK hP 10 0 rfl rfl (vp_in_iff.mpr (by decide +kernel)) dX2_fallLot_50 ?_
  refine lv_topi (fun y17 ey17 => ?_)
  have qy17_0 : 1 ≤ y17.toInt := (iLaw_n (lo := 1) (hi := 99) (i := (0 : Int32)) (a := 0) hF_Z10 (rfl) (by omega) (by omega) ey17 (by decide) (by decide)).1
  have qy17_1 : y17.toInt ≤ 99 := (iLaw_n (lo := 1) (hi := 99) (i := (0 : Int32)) (a := 0) hF_Z10 (rfl) (by omega) (by omega) ey17 (by decide) (by decide)).2
  have qy17_2 : y17.toInt = (Z10 0).toInt := congrArg Int32.toInt ey17
  refine lv_istore (lv' := [(4, .int y17), (0, .ref h0), (1, .ref h1), (2, .int p2), (3, .int p3)]) hx hb dX2_fallLot_51 hl (by decide) rfl (fun ls hl => ?_)
  refine lv_aload_n hx hb dX2_fallLot_53 rfl (lv_at hl 2 rfl) ?_
  refine va_getN (D := g.1) (ci := 0) (v := .ref h12) (C := RX0) (T := TX0) (N := 11) hx hb hts zl_X0 hown hK hP 13 rfl rfl 0 (by decide) (hN.f 2 (q := (RX2, 107, "FishSteps$Books", "law", "[I")) rfl) (fun _ h => h) rfl dX2_fallLot_54 ?_
  refine lv_iconst (v := 2) hx hb dX2_fallLot_57 (by decide) ?_
  refine va_iald (D := g.1) hx hb hK hP 10 0 rfl rfl (vp_in_iff.mpr (by decide +kernel)) dX2_fallLot_58 ?_
  refine lv_topi (fun y18 ey18 => ?_)
  have qy18_0 : 0 ≤ y18.toInt := (iLaw_n (lo := 0) (hi := 99) (i := (2 : Int32)) (a := 2) hF_Z10 (rfl) (by omega) (by omega) ey18 (by decide) (by decide)).1
  have qy18_1 : y18.toInt ≤ 99 := (iLaw_n (lo := 0) (hi := 99) (i := (2 : Int32)) (a := 2) hF_Z10 (rfl) (by omega) (by omega) ey18 (by decide) (by decide)).2
  have qy18_2 : y18.toInt = (Z10 2).toInt := congrArg Int32.toInt ey18
  refine lv_istore (lv' := [(5, .int y18), (4, .int y17), (0, .ref h0), (1, .ref h1), (2, .int p2), (3, .int p3)]) hx hb dX2_fallLot_59 hl (by decide) rfl (fun ls hl => ?_)
  refine lv_aload_n hx hb dX2_fallLot_61 rfl (lv_at hl 3 rfl) ?_
  refine va_getN (D := g.1) (ci := 0) (v := .ref h12) (C := RX0) (T := TX0) (N := 11) hx hb hts zl_X0 hown hK hP 13 rfl rfl 0 (by decide) (hN.f 2 (q := (RX2, 107, "FishSteps$Books", "law", "[I")) rfl) (fun _ h => h) rfl dX2_fallLot_62 ?_
  refine lv_iconst (v := 1) hx hb dX2_fallLot_65 (by decide) ?_
  refine va_iald (D := g.1) hx hb hK hP 10 0 rfl rfl (vp_in_iff.mpr (by decide +kernel)) dX2_fallLot_66 ?_
  refine lv_topi (fun y19 ey19 => ?_)
  have qy19_0 : 1 ≤ y19.toInt := (iLaw_n (lo := 1) (hi := 9) (i := (1 : Int32)) (a := 1) hF_Z10 (rfl) (by omega) (by omega) ey19 (by decide) (by decide)).1
  have qy19_1 : y19.toInt ≤ 9 := (iLaw_n (lo := 1) (hi := 9) (i := (1 : Int32)) (a := 1) hF_Z10 (rfl) (by omega) (by omega) ey19 (by decide) (by decide)).2
  have qy19_2 : y19.toInt = (Z10 1).toInt := congrArg Int32.toInt ey19
  refine lv_istore (lv' := [(6, .int y19), (5, .int y18), (4, .int y17), (0, .ref h0), (1, .ref h1), (2, .int p2), (3, .int p3)]) hx hb dX2_fallLot_67 hl (by decide) rfl (fun ls hl => ?_)
  refine lv_aload_n hx hb dX2_fallLot_69 rfl (lv_at hl 3 rfl) ?_
  refine va_get (D := g.1) (ci := 2) (v := .ref h8) (C := RX2) (T := TX2) (N := 12) hx hb hts zl_X2 hown hK hP 12 rfl rfl 8 (by decide) (hts _ m_f_RX2_37) (fun _ h => h) rfl dX2_fallLot_70 ?_
  refine lv_iload_n hx hb dX2_fallLot_73 rfl (lv_at hl 5 rfl) ?_
  refine lv_iconst (v := (-1)) hx hb dX2_fallLot_74 (by decide) ?_
  refine va_iast (D := g.1) hx hb hK hP hD hS 0 0 rfl rfl (vp_in_iff.mpr ⟨by omega, by omega⟩) dX2_fallLot_75 (fun H locs hP hD hS => ?_)
  have hP : va_P g.1 vwCl [(h8, .inl (zI g, 6, .inl (upd Z6 p2.toNatClampNeg (-1)))), (h9, .inl (zI g, 6, .inl Z7)), (h10, .inl (zI g, 6, .inl Z8)), (h11, .inl (zI g, 6, .inl Z9)), (h13, .inl (zI g, 6, .inl Z11)), (h2, .inl (zI g, 5, .inl Z0)), (h3, .inl (zI g, 5, .inl Z1)), (h4, .inl (zI g, 5, .inl Z2)), (h6, .inl (zI g, 5, .inl R7)), (h7, .inl (zI g, 5, .inl R8)), (h12, .inl (zI g, 5, .inl Z10)), (h14, .inl (zI g, 5, .inl Z12)), (h0, .inr (2, [.ref h2, .ref h3, .ref h4, .ref h5, .ref h6, .ref h7, .int y16, .int w6, .ref h8, .ref h9, .ref h10, .ref h11])), (h1, .inr (0, [.ref h12, .int f2, .ref h13, .int f3, .ref h14, .ref h15, .ref h16, .ref h17, .ref h18, .ref h19, .int f4])), (h17, .inl (zI g, 20, .inl Z15))] H := hP
  have hD : va_D A [(h8, .inl (zI g, 6, .inl (upd Z6 p2.toNatClampNeg (-1)))), (h9, .inl (zI g, 6, .inl Z7)), (h10, .inl (zI g, 6, .inl Z8)), (h11, .inl (zI g, 6, .inl Z9)), (h13, .inl (zI g, 6, .inl Z11)), (h2, .inl (zI g, 5, .inl Z0)), (h3, .inl (zI g, 5, .inl Z1)), (h4, .inl (zI g, 5, .inl Z2)), (h6, .inl (zI g, 5, .inl R7)), (h7, .inl (zI g, 5, .inl R8)), (h12, .inl (zI g, 5, .inl Z10)), (h14, .inl (zI g, 5, .inl Z12)), (h0, .inr (2, [.ref h2, .ref h3, .ref h4, .ref h5, .ref h6, .ref h7, .int y16, .int w6, .ref h8, .ref h9, .ref h10, .ref h11])), (h1, .inr (0, [.ref h12, .int f2, .ref h13, .int f3, .ref h14, .ref h15, .ref h16, .ref h17, .ref h18, .ref h19, .int f4])), (h17, .inl (zI g, 20, .inl Z15))] := hD
  have hI20 : zNr p2.toInt Z6 (upd Z6 p2.toNatClampNeg (-1)) := zNr_put (i := p2) hI0 (rfl) (by omega)
  obtain ⟨R21, eR21⟩ : ∃ z : Nat → Int32, z = (upd Z6 p2.toNatClampNeg (-1)) := ⟨_, rfl⟩
  rw [← eR21] at hP hD hI20
  have : ((-1) : Int32).toInt = (-1) := rfl
  have qR21 : (R21 p2.toNatClampNeg).toInt = (-1) := z_put eR21 (rfl)
  refine lv_aload_n hx hb dX2_fallLot_76 rfl (lv_at hl 3 rfl) ?_
  refine va_get (D := g.1) (ci := 2) (v := .ref h9) (C := RX2) (T := TX2) (N := 12) hx hb hts zl_X2 hown hK hP 12 rfl rfl 9 (by decide) (hts _ m_f_RX2_40) (fun _ h => h) rfl dX2_fallLot_77 ?_
  refine lv_iload_n hx hb dX2_fallLot_80 rfl (lv_at hl 5 rfl) ?_
  refine lv_iload hx hb dX2_fallLot_81 (lv_at hl 2 rfl) ?_
  refine va_iast (D := g.1) hx hb hK hP hD hS 1 0 rfl rfl (vp_in_iff.mpr ⟨by omega, by omega⟩) dX2_fallLot_83 (fun H locs hP hD hS => ?_)
  have hP : va_P g.1 vwCl [(h8, .inl (zI g, 6, .inl R21)), (h9, .inl (zI g, 6, .inl (upd Z7 p2.toNatClampNeg y17))), (h10, .inl (zI g, 6, .inl Z8)), (h11, .inl (zI g, 6, .inl Z9)), (h13, .inl (zI g, 6, .inl Z11)), (h2, .inl (zI g, 5, .inl Z0)), (h3, .inl (zI g, 5, .inl Z1)), (h4, .inl (zI g, 5, .inl Z2)), (h6, .inl (zI g, 5, .inl R7)), (h7, .inl (zI g, 5, .inl R8)), (h12, .inl (zI g, 5, .inl Z10)), (h14, .inl (zI g, 5, .inl Z12)), (h0, .inr (2, [.ref h2, .ref h3, .ref h4, .ref h5, .ref h6, .ref h7, .int y16, .int w6, .ref h8, .ref h9, .ref h10, .ref h11])), (h1, .inr (0, [.ref h12, .int f2, .ref h13, .int f3, .ref h14, .ref h15, .ref h16, .ref h17, .ref h18, .ref h19, .int f4])), (h17, .inl (zI g, 20, .inl Z15))] H := hP
  have hD : va_D A [(h8, .inl (zI g, 6, .inl R21)), (h9, .inl (zI g, 6, .inl (upd Z7 p2.toNatClampNeg y17))), (h10, .inl (zI g, 6, .inl Z8)), (h11, .inl (zI g, 6, .inl Z9)), (h13, .inl (zI g, 6, .inl Z11)), (h2, .inl (zI g, 5, .inl Z0)), (h3, .inl (zI g, 5, .inl Z1)), (h4, .inl (zI g, 5, .inl Z2)), (h6, .inl (zI g, 5, .inl R7)), (h7, .inl (zI g, 5, .inl R8)), (h12, .inl (zI g, 5, .inl Z10)), (h14, .inl (zI g, 5, .inl Z12)), (h0, .inr (2, [.ref h2, .ref h3, .ref h4, .ref h5, .ref h6, .ref h7, .int y16, .int w6, .ref h8, .ref h9, .ref h10, .ref h11])), (h1, .inr (0, [.ref h12, .int f2, .ref h13, .int f3, .ref h14, .ref h15, .ref h16, .ref h17, .ref h18, .ref h19, .int f4])), (h17, .inl (zI g, 20, .inl Z15))] := hD
  have hI22 : zNr p2.toInt Z7 (upd Z7 p2.toNatClampNeg y17) := zNr_put (i := p2) hI1 (rfl) (by omega)
  obtain ⟨R23, eR23⟩ : ∃ z : Nat → Int32, z = (upd Z7 p2.toNatClampNeg y17) := ⟨_, rfl⟩
  rw [← eR23] at hP hD hI22
  have qR23 : (R23 p2.toNatClampNeg).toInt = y17.toInt := z_put eR23 (rfl)
  refine lv_aload_n hx hb dX2_fallLot_84 rfl (lv_at hl 3 rfl) ?_
  refine va_get (D := g.1) (ci := 2) (v := .ref h10) (C := RX2) (T := TX2) (N := 12) hx hb hts zl_X2 hown hK hP 12 rfl rfl 10 (by decide) (hts _ m_f_RX2_43) (fun _ h => h) rfl dX2_fallLot_85 ?_
  refine lv_iload_n hx hb dX2_fallLot_88 rfl (lv_at hl 5 rfl) ?_
  refine lv_iconst (v := (-1)) hx hb dX2_fallLot_89 (by decide) ?_
  refine va_iast (D := g.1) hx hb hK hP hD hS 2 0 rfl rfl (vp_in_iff.mpr ⟨by omega, by omega⟩) dX2_fallLot_90 (fun H locs hP hD hS => ?_)
  have hP : va_P g.1 vwCl [(h8, .inl (zI g, 6, .inl R21)), (h9, .inl (zI g, 6, .inl R23)), (h10, .inl (zI g, 6, .inl (upd Z8 p2.toNatClampNeg (-1)))), (h11, .inl (zI g, 6, .inl Z9)), (h13, .inl (zI g, 6, .inl Z11)), (h2, .inl (zI g, 5, .inl Z0)), (h3, .inl (zI g, 5, .inl Z1)), (h4, .inl (zI g, 5, .inl Z2)), (h6, .inl (zI g, 5, .inl R7)), (h7, .inl (zI g, 5, .inl R8)), (h12, .inl (zI g, 5, .inl Z10)), (h14, .inl (zI g, 5, .inl Z12)), (h0, .inr (2, [.ref h2, .ref h3, .ref h4, .ref h5, .ref h6, .ref h7, .int y16, .int w6, .ref h8, .ref h9, .ref h10, .ref h11])), (h1, .inr (0, [.ref h12, .int f2, .ref h13, .int f3, .ref h14, .ref h15, .ref h16, .ref h17, .ref h18, .ref h19, .int f4])), (h17, .inl (zI g, 20, .inl Z15))] H := hP
  have hD : va_D A [(h8, .inl (zI g, 6, .inl R21)), (h9, .inl (zI g, 6, .inl R23)), (h10, .inl (zI g, 6, .inl (upd Z8 p2.toNatClampNeg (-1)))), (h11, .inl (zI g, 6, .inl Z9)), (h13, .inl (zI g, 6, .inl Z11)), (h2, .inl (zI g, 5, .inl Z0)), (h3, .inl (zI g, 5, .inl Z1)), (h4, .inl (zI g, 5, .inl Z2)), (h6, .inl (zI g, 5, .inl R7)), (h7, .inl (zI g, 5, .inl R8)), (h12, .inl (zI g, 5, .inl Z10)), (h14, .inl (zI g, 5, .inl Z12)), (h0, .inr (2, [.ref h2, .ref h3, .ref h4, .ref h5, .ref h6, .ref h7, .int y16, .int w6, .ref h8, .ref h9, .ref h10, .ref h11])), (h1, .inr (0, [.ref h12, .int f2, .ref h13, .int f3, .ref h14, .ref h15, .ref h16, .ref h17, .ref h18, .ref h19, .int f4])), (h17, .inl (zI g, 20, .inl Z15))] := hD
  have hI24 : zNr p2.toInt Z8 (upd Z8 p2.toNatClampNeg (-1)) := zNr_put (i := p2) hI2 (rfl) (by omega)
  obtain ⟨R25, eR25⟩ : ∃ z : Nat → Int32, z = (upd Z8 p2.toNatClampNeg (-1)) := ⟨_, rfl⟩
  rw [← eR25] at hP hD hI24
  have : ((-1) : Int32).toInt = (-1) := rfl
  have qR25 : (R25 p2.toNatClampNeg).toInt = (-1) := z_put eR25 (rfl)
  refine lv_aload_n hx hb dX2_fallLot_91 rfl (lv_at hl 3 rfl) ?_
  refine va_get (D := g.1) (ci := 2) (v := .ref h11) (C := RX2) (T := TX2) (N := 12) hx hb hts zl_X2 hown hK hP 12 rfl rfl 11 (by decide) (hts _ m_f_RX2_46) (fun _ h => h) rfl dX2_fallLot_92 ?_
  refine lv_iload_n hx hb dX2_fallLot_95 rfl (lv_at hl 5 rfl) ?_
  refine lv_iconst (v := 0) hx hb dX2_fallLot_96 (by decide) ?_
  refine va_iast (D := g.1) hx hb hK hP hD hS 3 0 rfl rfl (vp_in_iff.mpr ⟨by omega, by omega⟩) dX2_fallLot_97 (fun H locs hP hD hS => ?_)
  have hP : va_P g.1 vwCl [(h8, .inl (zI g, 6, .inl R21)), (h9, .inl (zI g, 6, .inl R23)), (h10, .inl (zI g, 6, .inl R25)), (h11, .inl (zI g, 6, .inl (upd Z9 p2.toNatClampNeg 0))), (h13, .inl (zI g, 6, .inl Z11)), (h2, .inl (zI g, 5, .inl Z0)), (h3, .inl (zI g, 5, .inl Z1)), (h4, .inl (zI g, 5, .inl Z2)), (h6, .inl (zI g, 5, .inl R7)), (h7, .inl (zI g, 5, .inl R8)), (h12, .inl (zI g, 5, .inl Z10)), (h14, .inl (zI g, 5, .inl Z12)), (h0, .inr (2, [.ref h2, .ref h3, .ref h4, .ref h5, .ref h6, .ref h7, .int y16, .int w6, .ref h8, .ref h9, .ref h10, .ref h11])), (h1, .inr (0, [.ref h12, .int f2, .ref h13, .int f3, .ref h14, .ref h15, .ref h16, .ref h17, .ref h18, .ref h19, .int f4])), (h17, .inl (zI g, 20, .inl Z15))] H := hP
  have hD : va_D A [(h8, .inl (zI g, 6, .inl R21)), (h9, .inl (zI g, 6, .inl R23)), (h10, .inl (zI g, 6, .inl R25)), (h11, .inl (zI g, 6, .inl (upd Z9 p2.toNatClampNeg 0))), (h13, .inl (zI g, 6, .inl Z11)), (h2, .inl (zI g, 5, .inl Z0)), (h3, .inl (zI g, 5, .inl Z1)), (h4, .inl (zI g, 5, .inl Z2)), (h6, .inl (zI g, 5, .inl R7)), (h7, .inl (zI g, 5, .inl R8)), (h12, .inl (zI g, 5, .inl Z10)), (h14, .inl (zI g, 5, .inl Z12)), (h0, .inr (2, [.ref h2, .ref h3, .ref h4, .ref h5, .ref h6, .ref h7, .int y16, .int w6, .ref h8, .ref h9, .ref h10, .ref h11])), (h1, .inr (0, [.ref h12, .int f2, .ref h13, .int f3, .ref h14, .ref h15, .ref h16, .ref h17, .ref h18, .ref h19, .int f4])), (h17, .inl (zI g, 20, .inl Z15))] := hD
  have hI26 : zNr p2.toInt Z9 (upd Z9 p2.toNatClampNeg 0) := zNr_put (i := p2) hI3 (rfl) (by omega)
  obtain ⟨R27, eR27⟩ : ∃ z : Nat → Int32, z = (upd Z9 p2.toNatClampNeg 0) := ⟨_, rfl⟩
  rw [← eR27] at hP hD hI26
  have : (0 : Int32).toInt = 0 := rfl
  have qR27 : (R27 p2.toNatClampNeg).toInt = 0 := z_put eR27 (rfl)
  have hRR : (zLot Z10 f3.toInt Z12 Z15 (zRw f3.toInt Z0) p3 ((Z11 p2.toNatClampNeg).toInt) (zRw f3.toInt Z1) (zRw f3.toInt Z2)) = zRun y17.toInt y18.toInt y19.toInt (Z10 3).toInt (zCg (zib y16) Z12 (zIv R7) (zIv R8)) y17.toInt 1000 0 0 := by
    rw [(by omega : y17.toInt = (Z10 0).toInt), (by omega : y18.toInt = (Z10 2).toInt), (by omega : y19.toInt = (Z10 1).toInt)]
    exact hRR0
  refine lv_iload hx hb dX2_fallLot_98 (lv_at hl 2 rfl) ?_
  refine lv_iload hx hb dX2_fallLot_100 (lv_at hl 1 rfl) ?_
  refine lv_icmp_lt (tgt := 110) hx hb dX2_fallLot_102 (by decide) (fun c_2 => ?_) (fun c_2 => ?_)
  · have i_2 : y17.toInt < y18.toInt := z_lt (rfl) (rfl) c_2
    have hO : (zLot Z10 f3.toInt Z12 Z15 (zRw f3.toInt Z0) p3 ((Z11 p2.toNatClampNeg).toInt) (zRw f3.toInt Z1) (zRw f3.toInt Z2)) = (-1, 0, 0 - 1, 0) := by
      rw [hRR]
      exact zRun_out (by omega)
    have ho1 : (zLot Z10 f3.toInt Z12 Z15 (zRw f3.toInt Z0) p3 ((Z11 p2.toNatClampNeg).toInt) (zRw f3.toInt Z1) (zRw f3.toInt Z2)).1 = -1 := by rw [hO]
    have ho2 : (zLot Z10 f3.toInt Z12 Z15 (zRw f3.toInt Z0) p3 ((Z11 p2.toNatClampNeg).toInt) (zRw f3.toInt Z1) (zRw f3.toInt Z2)).2.1 = 0 := by rw [hO]
    have ho3 : (zLot Z10 f3.toInt Z12 Z15 (zRw f3.toInt Z0) p3 ((Z11 p2.toNatClampNeg).toInt) (zRw f3.toInt Z1) (zRw f3.toInt Z2)).2.2.1 = 0 - 1 := by rw [hO]
    have ho4 : (zLot Z10 f3.toInt Z12 Z15 (zRw f3.toInt Z0) p3 ((Z11 p2.toNatClampNeg).toInt) (zRw f3.toInt Z1) (zRw f3.toInt Z2)).2.2.2 = 0 := by rw [hO]
    have hP9 := hP.sub (ws' := [(h0, .inr (2, [.ref h2, .ref h3, .ref h4, .ref h5, .ref h6, .ref h7, .int y16, .int w6, .ref h8, .ref h9, .ref h10, .ref h11])), (h1, .inr (0, [.ref h12, .int f2, .ref h13, .int f3, .ref h14, .ref h15, .ref h16, .ref h17, .ref h18, .ref h19, .int f4])), (h2, .inl (zI g, 5, .inl Z0)), (h3, .inl (zI g, 5, .inl Z1)), (h4, .inl (zI g, 5, .inl Z2)), (h6, .inl (zI g, 5, .inl R7)), (h7, .inl (zI g, 5, .inl R8)), (h8, .inl (zI g, 6, .inl R21)), (h9, .inl (zI g, 6, .inl R23)), (h10, .inl (zI g, 6, .inl R25)), (h11, .inl (zI g, 6, .inl R27)), (h12, .inl (zI g, 5, .inl Z10)), (h13, .inl (zI g, 6, .inl Z11)), (h14, .inl (zI g, 5, .inl Z12)), (h17, .inl (zI g, 20, .inl Z15))]) [12, 13, 5, 6, 7, 8, 9, 0, 1, 2, 3, 10, 4, 11, 14] rfl
    have hD9 := hD.sub (ws' := [(h0, .inr (2, [.ref h2, .ref h3, .ref h4, .ref h5, .ref h6, .ref h7, .int y16, .int w6, .ref h8, .ref h9, .ref h10, .ref h11])), (h1, .inr (0, [.ref h12, .int f2, .ref h13, .int f3, .ref h14, .ref h15, .ref h16, .ref h17, .ref h18, .ref h19, .int f4])), (h2, .inl (zI g, 5, .inl Z0)), (h3, .inl (zI g, 5, .inl Z1)), (h4, .inl (zI g, 5, .inl Z2)), (h6, .inl (zI g, 5, .inl R7)), (h7, .inl (zI g, 5, .inl R8)), (h8, .inl (zI g, 6, .inl R21)), (h9, .inl (zI g, 6, .inl R23)), (h10, .inl (zI g, 6, .inl R25)), (h11, .inl (zI g, 6, .inl R27)), (h12, .inl (zI g, 5, .inl Z10)), (h13, .inl (zI g, 6, .inl Z11)), (h14, .inl (zI g, 5, .inl Z12)), (h17, .inl (zI g, 20, .inl Z15))]) [12, 13, 5, 6, 7, 8, 9, 0, 1, 2, 3, 10, 4, 11, 14] (by decide) rfl
    exact W.vret hx hb hr (fun t ht hW => ⟨⟨⟨y16, w6, R7, R8, R21, R23, R25, R27⟩, rfl, ⟨⟨(show (R21 p2.toNatClampNeg).toInt = (zLot Z10 f3.toInt Z12 Z15 (zRw f3.toInt Z0) p3 ((Z11 p2.toNatClampNeg).toInt) (zRw f3.toInt Z1) (zRw f3.toInt Z2)).1 from by first | omega | decide), (show (0 ≤ (zLot Z10 f3.toInt Z12 Z15 (zRw f3.toInt Z0) p3 ((Z11 p2.toNatClampNeg).toInt) (zRw f3.toInt Z1) (zRw f3.toInt Z2)).1 → (R23 p2.toNatClampNeg).toInt = (zLot Z10 f3.toInt Z12 Z15 (zRw f3.toInt Z0) p3 ((Z11 p2.toNatClampNeg).toInt) (zRw f3.toInt Z1) (zRw f3.toInt Z2)).2.1) from by first | omega | decide), (show (R25 p2.toNatClampNeg).toInt = (zLot Z10 f3.toInt Z12 Z15 (zRw f3.toInt Z0) p3 ((Z11 p2.toNatClampNeg).toInt) (zRw f3.toInt Z1) (zRw f3.toInt Z2)).2.2.1 from by first | omega | decide), (show (R27 p2.toNatClampNeg).toInt = (zLot Z10 f3.toInt Z12 Z15 (zRw f3.toInt Z0) p3 ((Z11 p2.toNatClampNeg).toInt) (zRw f3.toInt Z1) (zRw f3.toInt Z2)).2.2.2 from by first | omega | decide)⟩, hI9.1, hI10.1, hI20, hI22, hI24, hI26⟩, by rw [ht]; exact hP9, hD9⟩, hS.F ht⟩) hS.2.2 dX2_fallLot_110
  · have i_2 : y18.toInt ≤ y17.toInt := z_nlt (rfl) (rfl) c_2
    refine lv_iload hx hb dX2_fallLot_105 (lv_at hl 0 rfl) ?_
    refine lv_if_gt (tgt := 111) hx hb dX2_fallLot_107 (by decide) (fun c_3 => ?_) (fun c_3 => absurd (show y19.toInt ≤ 0 from z_nlt (rfl) (rfl) c_3) (by omega))
    have i_3 : 0 < y19.toInt := z_lt (rfl) (rfl) c_3
    refine lv_aload_n hx hb dX2_fallLot_111 rfl (lv_at hl 3 rfl) ?_
    refine va_get (D := g.1) (ci := 2) (v := .ref h10) (C := RX2) (T := TX2) (N := 12) hx hb hts zl_X2 hown hK hP 12 rfl rfl 10 (by decide) (hts _ m_f_RX2_43) (fun _ h => h) rfl dX2_fallLot_112 ?_
    refine lv_iload_n hx hb dX2_fallLot_115 rfl (lv_at hl 5 rfl) ?_
    refine lv_iconst (v := 0) hx hb dX2_fallLot_116 (by decide) ?_
    refine va_iast (D := g.1) hx hb hK hP hD hS 2 0 rfl rfl (vp_in_iff.mpr ⟨by omega, by omega⟩) dX2_fallLot_117 (fun H locs hP hD hS => ?_)
    have hP : va_P g.1 vwCl [(h8, .inl (zI g, 6, .inl R21)), (h9, .inl (zI g, 6, .inl R23)), (h10, .inl (zI g, 6, .inl (upd R25 p2.toNatClampNeg 0))), (h11, .inl (zI g, 6, .inl R27)), (h13, .inl (zI g, 6, .inl Z11)), (h2, .inl (zI g, 5, .inl Z0)), (h3, .inl (zI g, 5, .inl Z1)), (h4, .inl (zI g, 5, .inl Z2)), (h6, .inl (zI g, 5, .inl R7)), (h7, .inl (zI g, 5, .inl R8)), (h12, .inl (zI g, 5, .inl Z10)), (h14, .inl (zI g, 5, .inl Z12)), (h0, .inr (2, [.ref h2, .ref h3, .ref h4, .ref h5, .ref h6, .ref h7, .int y16, .int w6, .ref h8, .ref h9, .ref h10, .ref h11])), (h1, .inr (0, [.ref h12, .int f2, .ref h13, .int f3, .ref h14, .ref h15, .ref h16, .ref h17, .ref h18, .ref h19, .int f4])), (h17, .inl (zI g, 20, .inl Z15))] H := hP
    have hD : va_D A [(h8, .inl (zI g, 6, .inl R21)), (h9, .inl (zI g, 6, .inl R23)), (h10, .inl (zI g, 6, .inl (upd R25 p2.toNatClampNeg 0))), (h11, .inl (zI g, 6, .inl R27)), (h13, .inl (zI g, 6, .inl Z11)), (h2, .inl (zI g, 5, .inl Z0)), (h3, .inl (zI g, 5, .inl Z1)), (h4, .inl (zI g, 5, .inl Z2)), (h6, .inl (zI g, 5, .inl R7)), (h7, .inl (zI g, 5, .inl R8)), (h12, .inl (zI g, 5, .inl Z10)), (h14, .inl (zI g, 5, .inl Z12)), (h0, .inr (2, [.ref h2, .ref h3, .ref h4, .ref h5, .ref h6, .ref h7, .int y16, .int w6, .ref h8, .ref h9, .ref h10, .ref h11])), (h1, .inr (0, [.ref h12, .int f2, .ref h13, .int f3, .ref h14, .ref h15, .ref h16, .ref h17, .ref h18, .ref h19, .int f4])), (h17, .inl (zI g, 20, .inl Z15))] := hD
    have hI28 : zNr p2.toInt Z8 (upd R25 p2.toNatClampNeg 0) := zNr_put (i := p2) hI24 (rfl) (by omega)
    obtain ⟨R29, eR29⟩ : ∃ z : Nat → Int32, z = (upd R25 p2.toNatClampNeg 0) := ⟨_, rfl⟩
    rw [← eR29] at hP hD hI28
    have : (0 : Int32).toInt = 0 := rfl
    have qR29 : (R29 p2.toNatClampNeg).toInt = 0 := z_put eR29 (rfl)
    refine lv_sipush (v := 1000) hx hb dX2_fallLot_118 (by decide) ?_
    refine lv_istore (lv' := [(7, .int 1000), (6, .int y19), (5, .int y18), (4, .int y17), (0, .ref h0), (1, .ref h1), (2, .int p2), (3, .int p3)]) hx hb dX2_fallLot_121 hl (by decide) rfl (fun ls hl => ?_)
    have hM : zRun y17.toInt y18.toInt y19.toInt (Z10 3).toInt (zCg (zib y16) Z12 (zIv R7) (zIv R8)) (R23 p2.toNatClampNeg).toInt (1000 : Int32).toInt (R29 p2.toNatClampNeg).toInt (0 : Int32).toInt = (zLot Z10 f3.toInt Z12 Z15 (zRw f3.toInt Z0) p3 ((Z11 p2.toNatClampNeg).toInt) (zRw f3.toInt Z1) (zRw f3.toInt Z2)) := by
      rw [(by omega : (R23 p2.toNatClampNeg).toInt = y17.toInt), (by omega : (R29 p2.toNatClampNeg).toInt = 0), show (1000 : Int32).toInt = 1000 from rfl, show (0 : Int32).toInt = 0 from rfl, hRR]
    refine lv_iconst (v := 0) hx hb dX2_fallLot_123 (by decide) ?_
    refine lv_istore (lv' := [(8, .int 0), (7, .int 1000), (6, .int y19), (5, .int y18), (4, .int y17), (0, .ref h0), (1, .ref h1), (2, .int p2), (3, .int p3)]) hx hb dX2_fallLot_124 hl (by decide) rfl (fun ls hl => ?_)
    have loop126_4 : ∀ (n5 : Nat) (v7_4 : Int32) (v8_4 : Int32) (g0_4 : Int32) (G1_4 : Nat → Int32) (G2_4 : Nat → Int32) (G3_4 : Nat → Int32) (hG1_4 : zNr p2.toInt Z8 G1_4) (hG2_4 : zNr p2.toInt Z9 G2_4) (hG3_4 : zNr p2.toInt Z7 G3_4) (n5_0 : 0 ≤ v8_4.toInt) (n5_1 : v8_4.toInt ≤ 3) (n5_2 : y18.toInt ≤ (G3_4 p2.toNatClampNeg).toInt) (n5_3 : (G3_4 p2.toNatClampNeg).toInt ≤ y17.toInt) (n5_4 : (G2_4 p2.toNatClampNeg).toInt = v8_4.toInt) (n5_5 : 0 ≤ (G1_4 p2.toNatClampNeg).toInt) (n5_6 : (G1_4 p2.toNatClampNeg).toInt ≤ 400 * v8_4.toInt) (n5_7 : zRun y17.toInt y18.toInt y19.toInt (Z10 3).toInt (zCg (zib y16) Z12 (zIv R7) (zIv R8)) (G3_4 p2.toNatClampNeg).toInt v7_4.toInt (G1_4 p2.toNatClampNeg).toInt v8_4.toInt = (zLot Z10 f3.toInt Z12 Z15 (zRw f3.toInt Z0) p3 ((Z11 p2.toNatClampNeg).toInt) (zRw f3.toInt Z1) (zRw f3.toInt Z2))) (hm5 : 4 - v8_4.toInt < (n5 : Int)) (H : Heap) (locs : List Loc), va_P g.1 vwCl [(h8, .inl (zI g, 6, .inl R21)), (h9, .inl (zI g, 6, .inl G3_4)), (h10, .inl (zI g, 6, .inl G1_4)), (h11, .inl (zI g, 6, .inl G2_4)), (h13, .inl (zI g, 6, .inl Z11)), (h2, .inl (zI g, 5, .inl Z0)), (h3, .inl (zI g, 5, .inl Z1)), (h4, .inl (zI g, 5, .inl Z2)), (h6, .inl (zI g, 5, .inl R7)), (h7, .inl (zI g, 5, .inl R8)), (h12, .inl (zI g, 5, .inl Z10)), (h14, .inl (zI g, 5, .inl Z12)), (h0, .inr (2, [.ref h2, .ref h3, .ref h4, .ref h5, .ref h6, .ref h7, .int y16, .int g0_4, .ref h8, .ref h9, .ref h10, .ref h11])), (h1, .inr (0, [.ref h12, .int f2, .ref h13, .int f3, .ref h14, .ref h15, .ref h16, .ref h17, .ref h18, .ref h19, .int f4])), (h17, .inl (zI g, 20, .inl Z15))] H → va_D A [(h8, .inl (zI g, 6, .inl R21)), (h9, .inl (zI g, 6, .inl G3_4)), (h10, .inl (zI g, 6, .inl G1_4)), (h11, .inl (zI g, 6, .inl G2_4)), (h13, .inl (zI g, 6, .inl Z11)), (h2, .inl (zI g, 5, .inl Z0)), (h3, .inl (zI g, 5, .inl Z1)), (h4, .inl (zI g, 5, .inl Z2)), (h6, .inl (zI g, 5, .inl R7)), (h7, .inl (zI g, 5, .inl R8)), (h12, .inl (zI g, 5, .inl Z10)), (h14, .inl (zI g, 5, .inl Z12)), (h0, .inr (2, [.ref h2, .ref h3, .ref h4, .ref h5, .ref h6, .ref h7, .int y16, .int g0_4, .ref h8, .ref h9, .ref h10, .ref h11])), (h1, .inr (0, [.ref h12, .int f2, .ref h13, .int f3, .ref h14, .ref h15, .ref h16, .ref h17, .ref h18, .ref h19, .int f4])), (h17, .inl (zI g, 20, .inl Z15))] → va_S A s.heap H locs → ∀ (ls : Array Slot), lv_has ls 12 [(0, .ref h0), (1, .ref h1), (2, .int p2), (3, .int p3), (4, .int y17), (5, .int y18), (6, .int y19), (7, .int v7_4), (8, .int v8_4)] → W p l e ({ frames := 3, cells := 0, slots := 0, locals := 69 }) s m args below meth c H locs 0 0 (MQ below (va_Qv (fun u : Int32 × Int32 × (Nat → Int32) × (Nat → Int32) × (Nat → Int32) × (Nat → Int32) × (Nat → Int32) × (Nat → Int32) => ((u.2.2.2.2.1 p2.toNatClampNeg).toInt = (zLot Z10 f3.toInt Z12 Z15 (zRw f3.toInt Z0) p3 ((Z11 p2.toNatClampNeg).toInt) (zRw f3.toInt Z1) (zRw f3.toInt Z2)).1 ∧ (0 ≤ (zLot Z10 f3.toInt Z12 Z15 (zRw f3.toInt Z0) p3 ((Z11 p2.toNatClampNeg).toInt) (zRw f3.toInt Z1) (zRw f3.toInt Z2)).1 → (u.2.2.2.2.2.1 p2.toNatClampNeg).toInt = (zLot Z10 f3.toInt Z12 Z15 (zRw f3.toInt Z0) p3 ((Z11 p2.toNatClampNeg).toInt) (zRw f3.toInt Z1) (zRw f3.toInt Z2)).2.1) ∧ (u.2.2.2.2.2.2.1 p2.toNatClampNeg).toInt = (zLot Z10 f3.toInt Z12 Z15 (zRw f3.toInt Z0) p3 ((Z11 p2.toNatClampNeg).toInt) (zRw f3.toInt Z1) (zRw f3.toInt Z2)).2.2.1 ∧ (u.2.2.2.2.2.2.2 p2.toNatClampNeg).toInt = (zLot Z10 f3.toInt Z12 Z15 (zRw f3.toInt Z0) p3 ((Z11 p2.toNatClampNeg).toInt) (zRw f3.toInt Z1) (zRw f3.toInt Z2)).2.2.2) ∧ iLm u.2.2.1 ∧ iMo u.2.2.2.1 ∧ zNr p2.toInt Z6 u.2.2.2.2.1 ∧ zNr p2.toInt Z7 u.2.2.2.2.2.1 ∧ zNr p2.toInt Z8 u.2.2.2.2.2.2.1 ∧ zNr p2.toInt Z9 u.2.2.2.2.2.2.2) (zPost g (fun u : Int32 × Int32 × (Nat → Int32) × (Nat → Int32) × (Nat → Int32) × (Nat → Int32) × (Nat → Int32) × (Nat → Int32) => [(h0, .inr (2, [.ref h2, .ref h3, .ref h4, .ref h5, .ref h6, .ref h7, .int u.1, .int u.2.1, .ref h8, .ref h9, .ref h10, .ref h11])), (h1, .inr (0, [.ref h12, .int f2, .ref h13, .int f3, .ref h14, .ref h15, .ref h16, .ref h17, .ref h18, .ref h19, .int f4])), (h2, .inl (zI g, 5, .inl Z0)), (h3, .inl (zI g, 5, .inl Z1)), (h4, .inl (zI g, 5, .inl Z2)), (h6, .inl (zI g, 5, .inl u.2.2.1)), (h7, .inl (zI g, 5, .inl u.2.2.2.1)), (h8, .inl (zI g, 6, .inl u.2.2.2.2.1)), (h9, .inl (zI g, 6, .inl u.2.2.2.2.2.1)), (h10, .inl (zI g, 6, .inl u.2.2.2.2.2.2.1)), (h11, .inl (zI g, 6, .inl u.2.2.2.2.2.2.2)), (h12, .inl (zI g, 5, .inl Z10)), (h13, .inl (zI g, 6, .inl Z11)), (h14, .inl (zI g, 5, .inl Z12)), (h17, .inl (zI g, 20, .inl Z15))]) A) A) args s 0 0 A) (F0 m 126 ls []) := by
      intro n5
      induction n5 with
      | zero => intro v7_4 v8_4 g0_4 G1_4 G2_4 G3_4 hG1_4 hG2_4 hG3_4 n5_0 n5_1 n5_2 n5_3 n5_4 n5_5 n5_6 n5_7 hm5; exfalso; omega
      | succ n5 ih5 =>
        intro v7_4 v8_4 g0_4 G1_4 G2_4 G3_4 hG1_4 hG2_4 hG3_4 n5_0 n5_1 n5_2 n5_3 n5_4 n5_5 n5_6 n5_7 hm5 H locs hP hD hS ls hl
        refine lv_iload hx hb dX2_fallLot_126 (lv_at hl 8 rfl) ?_
        refine lv_iconst (v := 3) hx hb dX2_fallLot_128 (by decide) ?_
        refine lv_icmp_gt (tgt := 397) hx hb dX2_fallLot_129 (by decide) (fun c_5 => absurd (show 3 < v8_4.toInt from z_lt (rfl) (rfl) c_5) (by omega)) (fun c_5 => ?_)
        have i_5 : v8_4.toInt ≤ 3 := z_nlt (rfl) (rfl) c_5
        have hM9 : zRun y17.toInt y18.toInt y19.toInt (Z10 3).toInt (zCg (zib y16) Z12 (zIv R7) (zIv R8)) (G3_4 p2.toNatClampNeg).toInt v7_4.toInt (G1_4 p2.toNatClampNeg).toInt v8_4.toInt = (zLot Z10 f3.toInt Z12 Z15 (zRw f3.toInt Z0) p3 ((Z11 p2.toNatClampNeg).toInt) (zRw f3.toInt Z1) (zRw f3.toInt Z2)) := by assumption
        refine lv_aload_n hx hb dX2_fallLot_132 rfl (lv_at hl 0 rfl) ?_
        refine lv_aload_n hx hb dX2_fallLot_133 rfl (lv_at hl 0 rfl) ?_
        refine lv_aload_n hx hb dX2_fallLot_134 rfl (lv_at hl 1 rfl) ?_
        refine lv_aload_n hx hb dX2_fallLot_135 rfl (lv_at hl 0 rfl) ?_
        refine va_get (D := g.1) (ci := 2) (v := .ref h9) (C := RX2) (T := TX2) (N := 12) hx hb hts zl_X2 hown hK hP 12 rfl rfl 9 (by decide) (hts _ m_f_RX2_40) (fun _ h => h) rfl dX2_fallLot_136 ?_
        refine lv_iload_n hx hb dX2_fallLot_139 rfl (lv_at hl 2 rfl) ?_
        refine va_iald (D := g.1) hx hb hK hP 1 0 rfl rfl (vp_in_iff.mpr ⟨by omega, by omega⟩) dX2_fallLot_140 ?_
        refine lv_topi (fun y30 ey30 => ?_)
        have qy30_0 : y30.toInt = (G3_4 p2.toNatClampNeg).toInt := congrArg Int32.toInt ey30
        refine lv_iload hx hb dX2_fallLot_141 (lv_at hl 7 rfl) ?_
        refine z_calli (wr := [(h8, .inl (zI g, 6, .inl R21)), (h9, .inl (zI g, 6, .inl G3_4)), (h10, .inl (zI g, 6, .inl G1_4)), (h11, .inl (zI g, 6, .inl G2_4)), (h13, .inl (zI g, 6, .inl Z11)), (h2, .inl (zI g, 5, .inl Z0)), (h3, .inl (zI g, 5, .inl Z1)), (h4, .inl (zI g, 5, .inl Z2)), (h12, .inl (zI g, 5, .inl Z10)), (h17, .inl (zI g, 20, .inl Z15))]) hP hD hS hA [12, 13, 8, 9, 11] [0, 1, 2, 3, 4, 5, 6, 7, 10, 14] (by decide) rfl rfl (by decide) (va_runV (As := [.ref h1, .int y30, .int v7_4]) (rest := [.ref h0]) ⟨hx, hb, hml, hown, hts⟩ (gX2_coughsAt l g h0 h1 h2 h3 h4 h5 h6 h7 h8 h9 h10 h11 h12 h13 h14 h15 h16 h17 h18 h19 H.size y30 v7_4 y16 g0_4 f2 f3 f4 R7 R8 Z12 (by constructor <;> omega) (by constructor <;> omega) (by constructor <;> omega) hI9.1 hI10.1 hF_Z12) ⟨callB_of 3 hts (zGood m_o_yX2_coughsAt) rfl rfl rfl (hts _ m_z_RX2) (hts _ m_m_RX2_110) ⟨by decide +kernel, by decide +kernel, by decide +kernel⟩ ⟨Nat.le_of_ble_eq_true rfl, Nat.le_of_ble_eq_true rfl⟩, hts _ m_i_yX2_coughsAt, hts _ m_e_yX2_coughsAt⟩ (zPreV hK hN hZ hP hD hS hA [12, 13, 8, 9, 11] (by decide) rfl rfl 2 12 rfl rfl) rfl rfl hl.1 rfl (lv_room (Nat.le_of_ble_eq_true rfl)) dX2_fallLot_143 ⟨Nat.le_of_ble_eq_true rfl, Nat.le_of_ble_eq_true rfl⟩) (fun r u H locs hw hP hD hS => ?_)
        obtain ⟨y31, rfl⟩ : ∃ z, z = r := ⟨_, rfl⟩
        obtain ⟨q32_0, q32_1, q32_2⟩ := hw
        have q32_0 : y31.toInt = zS5 (zCg (zib y16) Z12 (zIv R7) (zIv R8) y30.toInt v7_4.toInt) := q32_0
        have q32_1 : 0 ≤ y31.toInt := q32_1
        have q32_2 : y31.toInt ≤ 31 := q32_2
        have hP : va_P g.1 vwCl [(h8, .inl (zI g, 6, .inl R21)), (h9, .inl (zI g, 6, .inl G3_4)), (h10, .inl (zI g, 6, .inl G1_4)), (h11, .inl (zI g, 6, .inl G2_4)), (h13, .inl (zI g, 6, .inl Z11)), (h2, .inl (zI g, 5, .inl Z0)), (h3, .inl (zI g, 5, .inl Z1)), (h4, .inl (zI g, 5, .inl Z2)), (h12, .inl (zI g, 5, .inl Z10)), (h17, .inl (zI g, 20, .inl Z15)), (h0, .inr (2, [.ref h2, .ref h3, .ref h4, .ref h5, .ref h6, .ref h7, .int y16, .int g0_4, .ref h8, .ref h9, .ref h10, .ref h11])), (h1, .inr (0, [.ref h12, .int f2, .ref h13, .int f3, .ref h14, .ref h15, .ref h16, .ref h17, .ref h18, .ref h19, .int f4])), (h6, .inl (zI g, 5, .inl R7)), (h7, .inl (zI g, 5, .inl R8)), (h14, .inl (zI g, 5, .inl Z12))] H := hP
        have hD : va_D A [(h8, .inl (zI g, 6, .inl R21)), (h9, .inl (zI g, 6, .inl G3_4)), (h10, .inl (zI g, 6, .inl G1_4)), (h11, .inl (zI g, 6, .inl G2_4)), (h13, .inl (zI g, 6, .inl Z11)), (h2, .inl (zI g, 5, .inl Z0)), (h3, .inl (zI g, 5, .inl Z1)), (h4, .inl (zI g, 5, .inl Z2)), (h12, .inl (zI g, 5, .inl Z10)), (h17, .inl (zI g, 20, .inl Z15)), (h0, .inr (2, [.ref h2, .ref h3, .ref h4, .ref h5, .ref h6, .ref h7, .int y16, .int g0_4, .ref h8, .ref h9, .ref h10, .ref h11])), (h1, .inr (0, [.ref h12, .int f2, .ref h13, .int f3, .ref h14, .ref h15, .ref h16, .ref h17, .ref h18, .ref h19, .int f4])), (h6, .inl (zI g, 5, .inl R7)), (h7, .inl (zI g, 5, .inl R8)), (h14, .inl (zI g, 5, .inl Z12))] := hD
        have hc1 : y31.toInt = zS5 ((zCg (zib y16) Z12 (zIv R7) (zIv R8)) (G3_4 p2.toNatClampNeg).toInt v7_4.toInt) := by
          rw [← (by omega : y30.toInt = (G3_4 p2.toNatClampNeg).toInt)]
          omega
        refine va_put (D := g.1) (ci := 2) (v := .int y31) (ty := .int) (C := RX2) (T := TX2) (N := 12) hx hb hts zl_X2 tyX2 tyX2_ok nmX2 hown hK hP hD hS 10 rfl rfl 7 (by decide) (hts _ m_f_RX2_34) (fun _ h => h) rfl (by decide +kernel) rfl rfl (Nat.le_of_ble_eq_true rfl) dX2_fallLot_146 (fun H locs hP hD hS => ?_)
        have hP : va_P g.1 vwCl [(h8, .inl (zI g, 6, .inl R21)), (h9, .inl (zI g, 6, .inl G3_4)), (h10, .inl (zI g, 6, .inl G1_4)), (h11, .inl (zI g, 6, .inl G2_4)), (h13, .inl (zI g, 6, .inl Z11)), (h2, .inl (zI g, 5, .inl Z0)), (h3, .inl (zI g, 5, .inl Z1)), (h4, .inl (zI g, 5, .inl Z2)), (h12, .inl (zI g, 5, .inl Z10)), (h17, .inl (zI g, 20, .inl Z15)), (h0, .inr (2, [.ref h2, .ref h3, .ref h4, .ref h5, .ref h6, .ref h7, .int y16, .int y31, .ref h8, .ref h9, .ref h10, .ref h11])), (h1, .inr (0, [.ref h12, .int f2, .ref h13, .int f3, .ref h14, .ref h15, .ref h16, .ref h17, .ref h18, .ref h19, .int f4])), (h6, .inl (zI g, 5, .inl R7)), (h7, .inl (zI g, 5, .inl R8)), (h14, .inl (zI g, 5, .inl Z12))] H := hP
        have hD : va_D A [(h8, .inl (zI g, 6, .inl R21)), (h9, .inl (zI g, 6, .inl G3_4)), (h10, .inl (zI g, 6, .inl G1_4)), (h11, .inl (zI g, 6, .inl G2_4)), (h13, .inl (zI g, 6, .inl Z11)), (h2, .inl (zI g, 5, .inl Z0)), (h3, .inl (zI g, 5, .inl Z1)), (h4, .inl (zI g, 5, .inl Z2)), (h12, .inl (zI g, 5, .inl Z10)), (h17, .inl (zI g, 20, .inl Z15)), (h0, .inr (2, [.ref h2, .ref h3, .ref h4, .ref h5, .ref h6, .ref h7, .int y16, .int y31, .ref h8, .ref h9, .ref h10, .ref h11])), (h1, .inr (0, [.ref h12, .int f2, .ref h13, .int f3, .ref h14, .ref h15, .ref h16, .ref h17, .ref h18, .ref h19, .int f4])), (h6, .inl (zI g, 5, .inl R7)), (h7, .inl (zI g, 5, .inl R8)), (h14, .inl (zI g, 5, .inl Z12))] := hD
        refine lv_aload_n hx hb dX2_fallLot_149 rfl (lv_at hl 0 rfl) ?_
        refine va_get (D := g.1) (ci := 2) (v := .int y31) (C := RX2) (T := TX2) (N := 12) hx hb hts zl_X2 hown hK hP 10 rfl rfl 7 (by decide) (hts _ m_f_RX2_34) (fun _ h => h) rfl dX2_fallLot_150 ?_
        refine lv_if_ne (tgt := 291) hx hb dX2_fallLot_153 (by decide) (fun c_6 => ?_) (fun c_6 => ?_)
        · have i_6 : y31.toInt ≠ 0 := z_ne (rfl) (rfl) c_6
          have hnz : zS5 ((zCg (zib y16) Z12 (zIv R7) (zIv R8)) (G3_4 p2.toNatClampNeg).toInt v7_4.toInt) ≠ 0 := by omega
          refine lv_aload_n hx hb dX2_fallLot_291 rfl (lv_at hl 0 rfl) ?_
          refine va_get (D := g.1) (ci := 2) (v := .int y31) (C := RX2) (T := TX2) (N := 12) hx hb hts zl_X2 hown hK hP 10 rfl rfl 7 (by decide) (hts _ m_f_RX2_34) (fun _ h => h) rfl dX2_fallLot_292 ?_
          refine z_calli (wr := [(h8, .inl (zI g, 6, .inl R21)), (h9, .inl (zI g, 6, .inl G3_4)), (h10, .inl (zI g, 6, .inl G1_4)), (h11, .inl (zI g, 6, .inl G2_4)), (h13, .inl (zI g, 6, .inl Z11)), (h2, .inl (zI g, 5, .inl Z0)), (h3, .inl (zI g, 5, .inl Z1)), (h4, .inl (zI g, 5, .inl Z2)), (h12, .inl (zI g, 5, .inl Z10)), (h17, .inl (zI g, 20, .inl Z15)), (h0, .inr (2, [.ref h2, .ref h3, .ref h4, .ref h5, .ref h6, .ref h7, .int y16, .int y31, .ref h8, .ref h9, .ref h10, .ref h11])), (h1, .inr (0, [.ref h12, .int f2, .ref h13, .int f3, .ref h14, .ref h15, .ref h16, .ref h17, .ref h18, .ref h19, .int f4])), (h6, .inl (zI g, 5, .inl R7)), (h7, .inl (zI g, 5, .inl R8)), (h14, .inl (zI g, 5, .inl Z12))]) hP hD hS hA [] [0, 1, 2, 3, 4, 5, 6, 7, 8, 9, 10, 11, 12, 13, 14] (by decide) rfl rfl (by decide) (va_runS (As := [.int y31]) (rest := []) ⟨hx, hb, hml, hown, hts⟩ (gJ6_bitCount_0f7a4 l g  H.size y31) ⟨callB_of 1 hts (zGood m_o_yJ6_bitCount_0f7a4) rfl rfl rfl (hts _ m_z_RJ6) (hts _ m_m_RX2_122) ⟨by decide +kernel, by decide +kernel, by decide +kernel⟩ ⟨Nat.le_of_ble_eq_true rfl, Nat.le_of_ble_eq_true rfl⟩, hts _ m_s_yJ6_bitCount_0f7a4⟩ (zPreS hK hN hZ hP hD hS hA [] (by decide) rfl rfl) rfl rfl hl.1 rfl (lv_room (Nat.le_of_ble_eq_true rfl)) dX2_fallLot_295 ⟨Nat.le_of_ble_eq_true rfl, Nat.le_of_ble_eq_true rfl⟩) (fun r u H locs hw hP hD hS => ?_)
          obtain ⟨y33, rfl⟩ : ∃ z, z = r := ⟨_, rfl⟩
          have q34_0 := hw
          have q34_0 : y33.toInt = (zPop y31).toInt := q34_0
          have hP : va_P g.1 vwCl [(h8, .inl (zI g, 6, .inl R21)), (h9, .inl (zI g, 6, .inl G3_4)), (h10, .inl (zI g, 6, .inl G1_4)), (h11, .inl (zI g, 6, .inl G2_4)), (h13, .inl (zI g, 6, .inl Z11)), (h2, .inl (zI g, 5, .inl Z0)), (h3, .inl (zI g, 5, .inl Z1)), (h4, .inl (zI g, 5, .inl Z2)), (h12, .inl (zI g, 5, .inl Z10)), (h17, .inl (zI g, 20, .inl Z15)), (h0, .inr (2, [.ref h2, .ref h3, .ref h4, .ref h5, .ref h6, .ref h7, .int y16, .int y31, .ref h8, .ref h9, .ref h10, .ref h11])), (h1, .inr (0, [.ref h12, .int f2, .ref h13, .int f3, .ref h14, .ref h15, .ref h16, .ref h17, .ref h18, .ref h19, .int f4])), (h6, .inl (zI g, 5, .inl R7)), (h7, .inl (zI g, 5, .inl R8)), (h14, .inl (zI g, 5, .inl Z12))] H := hP
          have hD : va_D A [(h8, .inl (zI g, 6, .inl R21)), (h9, .inl (zI g, 6, .inl G3_4)), (h10, .inl (zI g, 6, .inl G1_4)), (h11, .inl (zI g, 6, .inl G2_4)), (h13, .inl (zI g, 6, .inl Z11)), (h2, .inl (zI g, 5, .inl Z0)), (h3, .inl (zI g, 5, .inl Z1)), (h4, .inl (zI g, 5, .inl Z2)), (h12, .inl (zI g, 5, .inl Z10)), (h17, .inl (zI g, 20, .inl Z15)), (h0, .inr (2, [.ref h2, .ref h3, .ref h4, .ref h5, .ref h6, .ref h7, .int y16, .int y31, .ref h8, .ref h9, .ref h10, .ref h11])), (h1, .inr (0, [.ref h12, .int f2, .ref h13, .int f3, .ref h14, .ref h15, .ref h16, .ref h17, .ref h18, .ref h19, .int f4])), (h6, .inl (zI g, 5, .inl R7)), (h7, .inl (zI g, 5, .inl R8)), (h14, .inl (zI g, 5, .inl Z12))] := hD
          have hbc : y33.toInt = zC5 ((zCg (zib y16) Z12 (zIv R7) (zIv R8)) (G3_4 p2.toNatClampNeg).toInt v7_4.toInt) := by
            have := zPop_S (x := y31) zCg_01 hc1
            omega
          refine lv_iconst (v := 1) hx hb dX2_fallLot_298 (by decide) ?_
          refine lv_icmp_ne (tgt := 306) hx hb dX2_fallLot_299 (by decide) (fun c_7 => ?_) (fun c_7 => ?_)
          · have i_7 : y33.toInt ≠ 1 := z_ne (rfl) (rfl) c_7
            refine lv_iconst (v := 0) hx hb dX2_fallLot_306 (by decide) ?_
            refine lv_istore (lv' := [(9, .int 0), (0, .ref h0), (1, .ref h1), (2, .int p2), (3, .int p3), (4, .int y17), (5, .int y18), (6, .int y19), (7, .int v7_4), (8, .int v8_4)]) hx hb dX2_fallLot_307 hl (by decide) rfl (fun ls hl => ?_)
            refine lv_iload hx hb dX2_fallLot_309 (lv_at hl 0 rfl) ?_
            refine lv_if_ne (tgt := 329) hx hb dX2_fallLot_311 (by decide) (fun h => absurd h (by decide +kernel)) (fun _ => ?_)
            refine lv_aload_n hx hb dX2_fallLot_314 rfl (lv_at hl 2 rfl) ?_
            refine va_getN (D := g.1) (ci := 0) (v := .ref h12) (C := RX0) (T := TX0) (N := 11) hx hb hts zl_X0 hown hK hP 11 rfl rfl 0 (by decide) (hN.f 2 (q := (RX2, 107, "FishSteps$Books", "law", "[I")) rfl) (fun _ h => h) rfl dX2_fallLot_315 ?_
            refine lv_iconst (v := 3) hx hb dX2_fallLot_318 (by decide) ?_
            refine va_iald (D := g.1) hx hb hK hP 8 0 rfl rfl (vp_in_iff.mpr (by decide +kernel)) dX2_fallLot_319 ?_
            refine lv_topi (fun y35 ey35 => ?_)
            have qy35_0 : 0 ≤ y35.toInt := (iLaw_n (lo := 0) (hi := 1) (i := (3 : Int32)) (a := 3) hF_Z10 (rfl) (by omega) (by omega) ey35 (by decide) (by decide)).1
            have qy35_1 : y35.toInt ≤ 1 := (iLaw_n (lo := 0) (hi := 1) (i := (3 : Int32)) (a := 3) hF_Z10 (rfl) (by omega) (by omega) ey35 (by decide) (by decide)).2
            have qy35_2 : y35.toInt = (Z10 3).toInt := congrArg Int32.toInt ey35
            refine lv_if_eq (tgt := 329) hx hb dX2_fallLot_320 (by decide) (fun c_8 => ?_) (fun c_8 => ?_)
            · have i_8 : y35.toInt = 0 := z_eq (rfl) (rfl) c_8
              refine lv_aload_n hx hb dX2_fallLot_329 rfl (lv_at hl 1 rfl) ?_
              refine va_get (D := g.1) (ci := 2) (v := .ref h8) (C := RX2) (T := TX2) (N := 12) hx hb hts zl_X2 hown hK hP 10 rfl rfl 8 (by decide) (hts _ m_f_RX2_37) (fun _ h => h) rfl dX2_fallLot_330 ?_
              refine lv_iload_n hx hb dX2_fallLot_333 rfl (lv_at hl 3 rfl) ?_
              refine lv_aload_n hx hb dX2_fallLot_334 rfl (lv_at hl 1 rfl) ?_
              refine va_get (D := g.1) (ci := 2) (v := .int y31) (C := RX2) (T := TX2) (N := 12) hx hb hts zl_X2 hown hK hP 10 rfl rfl 7 (by decide) (hts _ m_f_RX2_34) (fun _ h => h) rfl dX2_fallLot_335 ?_
              refine z_calli (wr := [(h8, .inl (zI g, 6, .inl R21)), (h9, .inl (zI g, 6, .inl G3_4)), (h10, .inl (zI g, 6, .inl G1_4)), (h11, .inl (zI g, 6, .inl G2_4)), (h13, .inl (zI g, 6, .inl Z11)), (h2, .inl (zI g, 5, .inl Z0)), (h3, .inl (zI g, 5, .inl Z1)), (h4, .inl (zI g, 5, .inl Z2)), (h12, .inl (zI g, 5, .inl Z10)), (h17, .inl (zI g, 20, .inl Z15)), (h0, .inr (2, [.ref h2, .ref h3, .ref h4, .ref h5, .ref h6, .ref h7, .int y16, .int y31, .ref h8, .ref h9, .ref h10, .ref h11])), (h1, .inr (0, [.ref h12, .int f2, .ref h13, .int f3, .ref h14, .ref h15, .ref h16, .ref h17, .ref h18, .ref h19, .int f4])), (h6, .inl (zI g, 5, .inl R7)), (h7, .inl (zI g, 5, .inl R8)), (h14, .inl (zI g, 5, .inl Z12))]) hP hD hS hA [] [0, 1, 2, 3, 4, 5, 6, 7, 8, 9, 10, 11, 12, 13, 14] (by decide) rfl rfl (by decide) (va_runS (As := [.int y31]) (rest := [.int p2, .ref h8]) ⟨hx, hb, hml, hown, hts⟩ (gX2_firstOf l g  H.size y31) ⟨callB_of 1 hts (zGood m_o_yX2_firstOf) rfl rfl rfl (hts _ m_z_RX2) (hts _ m_m_RX2_128) ⟨by decide +kernel, by decide +kernel, by decide +kernel⟩ ⟨Nat.le_of_ble_eq_true rfl, Nat.le_of_ble_eq_true rfl⟩, hts _ m_s_yX2_firstOf⟩ (zPreS hK hN hZ hP hD hS hA [] (by decide) rfl rfl) rfl rfl hl.1 rfl (lv_room (Nat.le_of_ble_eq_true rfl)) dX2_fallLot_338 ⟨Nat.le_of_ble_eq_true rfl, Nat.le_of_ble_eq_true rfl⟩) (fun r u H locs hw hP hD hS => ?_)
              obtain ⟨y36, rfl⟩ : ∃ z, z = r := ⟨_, rfl⟩
              obtain ⟨q37_0, q37_1, q37_2⟩ := hw
              have q37_0 : y36.toInt = zF5 (zib y31) := q37_0
              have q37_1 : -1 ≤ y36.toInt := q37_1
              have q37_2 : y36.toInt ≤ 4 := q37_2
              have hP : va_P g.1 vwCl [(h8, .inl (zI g, 6, .inl R21)), (h9, .inl (zI g, 6, .inl G3_4)), (h10, .inl (zI g, 6, .inl G1_4)), (h11, .inl (zI g, 6, .inl G2_4)), (h13, .inl (zI g, 6, .inl Z11)), (h2, .inl (zI g, 5, .inl Z0)), (h3, .inl (zI g, 5, .inl Z1)), (h4, .inl (zI g, 5, .inl Z2)), (h12, .inl (zI g, 5, .inl Z10)), (h17, .inl (zI g, 20, .inl Z15)), (h0, .inr (2, [.ref h2, .ref h3, .ref h4, .ref h5, .ref h6, .ref h7, .int y16, .int y31, .ref h8, .ref h9, .ref h10, .ref h11])), (h1, .inr (0, [.ref h12, .int f2, .ref h13, .int f3, .ref h14, .ref h15, .ref h16, .ref h17, .ref h18, .ref h19, .int f4])), (h6, .inl (zI g, 5, .inl R7)), (h7, .inl (zI g, 5, .inl R8)), (h14, .inl (zI g, 5, .inl Z12))] H := hP
              have hD : va_D A [(h8, .inl (zI g, 6, .inl R21)), (h9, .inl (zI g, 6, .inl G3_4)), (h10, .inl (zI g, 6, .inl G1_4)), (h11, .inl (zI g, 6, .inl G2_4)), (h13, .inl (zI g, 6, .inl Z11)), (h2, .inl (zI g, 5, .inl Z0)), (h3, .inl (zI g, 5, .inl Z1)), (h4, .inl (zI g, 5, .inl Z2)), (h12, .inl (zI g, 5, .inl Z10)), (h17, .inl (zI g, 20, .inl Z15)), (h0, .inr (2, [.ref h2, .ref h3, .ref h4, .ref h5, .ref h6, .ref h7, .int y16, .int y31, .ref h8, .ref h9, .ref h10, .ref h11])), (h1, .inr (0, [.ref h12, .int f2, .ref h13, .int f3, .ref h14, .ref h15, .ref h16, .ref h17, .ref h18, .ref h19, .int f4])), (h6, .inl (zI g, 5, .inl R7)), (h7, .inl (zI g, 5, .inl R8)), (h14, .inl (zI g, 5, .inl Z12))] := hD
              have hff : y36.toInt = zF5 ((zCg (zib y16) Z12 (zIv R7) (zIv R8)) (G3_4 p2.toNatClampNeg).toInt v7_4.toInt) := by
                have := (zS5_ext (f := zib y31) (g := (zCg (zib y16) Z12 (zIv R7) (zIv R8)) (G3_4 p2.toNatClampNeg).toInt v7_4.toInt) (fun b hb => zib_of hc1 zCg_01 hb)).2.2
                omega
              refine va_iast (D := g.1) hx hb hK hP hD hS 0 0 rfl rfl (vp_in_iff.mpr ⟨by omega, by omega⟩) dX2_fallLot_341 (fun H locs hP hD hS => ?_)
              have hP : va_P g.1 vwCl [(h8, .inl (zI g, 6, .inl (upd R21 p2.toNatClampNeg y36))), (h9, .inl (zI g, 6, .inl G3_4)), (h10, .inl (zI g, 6, .inl G1_4)), (h11, .inl (zI g, 6, .inl G2_4)), (h13, .inl (zI g, 6, .inl Z11)), (h2, .inl (zI g, 5, .inl Z0)), (h3, .inl (zI g, 5, .inl Z1)), (h4, .inl (zI g, 5, .inl Z2)), (h12, .inl (zI g, 5, .inl Z10)), (h17, .inl (zI g, 20, .inl Z15)), (h0, .inr (2, [.ref h2, .ref h3, .ref h4, .ref h5, .ref h6, .ref h7, .int y16, .int y31, .ref h8, .ref h9, .ref h10, .ref h11])), (h1, .inr (0, [.ref h12, .int f2, .ref h13, .int f3, .ref h14, .ref h15, .ref h16, .ref h17, .ref h18, .ref h19, .int f4])), (h6, .inl (zI g, 5, .inl R7)), (h7, .inl (zI g, 5, .inl R8)), (h14, .inl (zI g, 5, .inl Z12))] H := hP
              have hD : va_D A [(h8, .inl (zI g, 6, .inl (upd R21 p2.toNatClampNeg y36))), (h9, .inl (zI g, 6, .inl G3_4)), (h10, .inl (zI g, 6, .inl G1_4)), (h11, .inl (zI g, 6, .inl G2_4)), (h13, .inl (zI g, 6, .inl Z11)), (h2, .inl (zI g, 5, .inl Z0)), (h3, .inl (zI g, 5, .inl Z1)), (h4, .inl (zI g, 5, .inl Z2)), (h12, .inl (zI g, 5, .inl Z10)), (h17, .inl (zI g, 20, .inl Z15)), (h0, .inr (2, [.ref h2, .ref h3, .ref h4, .ref h5, .ref h6, .ref h7, .int y16, .int y31, .ref h8, .ref h9, .ref h10, .ref h11])), (h1, .inr (0, [.ref h12, .int f2, .ref h13, .int f3, .ref h14, .ref h15, .ref h16, .ref h17, .ref h18, .ref h19, .int f4])), (h6, .inl (zI g, 5, .inl R7)), (h7, .inl (zI g, 5, .inl R8)), (h14, .inl (zI g, 5, .inl Z12))] := hD
              have hI38 : zNr p2.toInt Z6 (upd R21 p2.toNatClampNeg y36) := zNr_put (i := p2) hI20 (rfl) (by omega)
              obtain ⟨R39, eR39⟩ : ∃ z : Nat → Int32, z = (upd R21 p2.toNatClampNeg y36) := ⟨_, rfl⟩
              rw [← eR39] at hP hD hI38
              have qR39 : (R39 p2.toNatClampNeg).toInt = y36.toInt := z_put eR39 (rfl)
              have hO : (zLot Z10 f3.toInt Z12 Z15 (zRw f3.toInt Z0) p3 ((Z11 p2.toNatClampNeg).toInt) (zRw f3.toInt Z1) (zRw f3.toInt Z2)) = (zF5 ((zCg (zib y16) Z12 (zIv R7) (zIv R8)) (G3_4 p2.toNatClampNeg).toInt v7_4.toInt), (G3_4 p2.toNatClampNeg).toInt, (G1_4 p2.toNatClampNeg).toInt, v8_4.toInt) := by
                rw [← hM9]
                exact zRun_had (by omega) hnz (by omega)
              have ho1 : (zLot Z10 f3.toInt Z12 Z15 (zRw f3.toInt Z0) p3 ((Z11 p2.toNatClampNeg).toInt) (zRw f3.toInt Z1) (zRw f3.toInt Z2)).1 = zF5 ((zCg (zib y16) Z12 (zIv R7) (zIv R8)) (G3_4 p2.toNatClampNeg).toInt v7_4.toInt) := by rw [hO]
              have ho2 : (zLot Z10 f3.toInt Z12 Z15 (zRw f3.toInt Z0) p3 ((Z11 p2.toNatClampNeg).toInt) (zRw f3.toInt Z1) (zRw f3.toInt Z2)).2.1 = (G3_4 p2.toNatClampNeg).toInt := by rw [hO]
              have ho3 : (zLot Z10 f3.toInt Z12 Z15 (zRw f3.toInt Z0) p3 ((Z11 p2.toNatClampNeg).toInt) (zRw f3.toInt Z1) (zRw f3.toInt Z2)).2.2.1 = (G1_4 p2.toNatClampNeg).toInt := by rw [hO]
              have ho4 : (zLot Z10 f3.toInt Z12 Z15 (zRw f3.toInt Z0) p3 ((Z11 p2.toNatClampNeg).toInt) (zRw f3.toInt Z1) (zRw f3.toInt Z2)).2.2.2 = v8_4.toInt := by rw [hO]
              have hP9 := hP.sub (ws' := [(h0, .inr (2, [.ref h2, .ref h3, .ref h4, .ref h5, .ref h6, .ref h7, .int y16, .int y31, .ref h8, .ref h9, .ref h10, .ref h11])), (h1, .inr (0, [.ref h12, .int f2, .ref h13, .int f3, .ref h14, .ref h15, .ref h16, .ref h17, .ref h18, .ref h19, .int f4])), (h2, .inl (zI g, 5, .inl Z0)), (h3, .inl (zI g, 5, .inl Z1)), (h4, .inl (zI g, 5, .inl Z2)), (h6, .inl (zI g, 5, .inl R7)), (h7, .inl (zI g, 5, .inl R8)), (h8, .inl (zI g, 6, .inl R39)), (h9, .inl (zI g, 6, .inl G3_4)), (h10, .inl (zI g, 6, .inl G1_4)), (h11, .inl (zI g, 6, .inl G2_4)), (h12, .inl (zI g, 5, .inl Z10)), (h13, .inl (zI g, 6, .inl Z11)), (h14, .inl (zI g, 5, .inl Z12)), (h17, .inl (zI g, 20, .inl Z15))]) [10, 11, 5, 6, 7, 12, 13, 0, 1, 2, 3, 8, 4, 14, 9] rfl
              have hD9 := hD.sub (ws' := [(h0, .inr (2, [.ref h2, .ref h3, .ref h4, .ref h5, .ref h6, .ref h7, .int y16, .int y31, .ref h8, .ref h9, .ref h10, .ref h11])), (h1, .inr (0, [.ref h12, .int f2, .ref h13, .int f3, .ref h14, .ref h15, .ref h16, .ref h17, .ref h18, .ref h19, .int f4])), (h2, .inl (zI g, 5, .inl Z0)), (h3, .inl (zI g, 5, .inl Z1)), (h4, .inl (zI g, 5, .inl Z2)), (h6, .inl (zI g, 5, .inl R7)), (h7, .inl (zI g, 5, .inl R8)), (h8, .inl (zI g, 6, .inl R39)), (h9, .inl (zI g, 6, .inl G3_4)), (h10, .inl (zI g, 6, .inl G1_4)), (h11, .inl (zI g, 6, .inl G2_4)), (h12, .inl (zI g, 5, .inl Z10)), (h13, .inl (zI g, 6, .inl Z11)), (h14, .inl (zI g, 5, .inl Z12)), (h17, .inl (zI g, 20, .inl Z15))]) [10, 11, 5, 6, 7, 12, 13, 0, 1, 2, 3, 8, 4, 14, 9] (by decide) rfl
              exact W.vret hx hb hr (fun t ht hW => ⟨⟨⟨y16, y31, R7, R8, R39, G3_4, G1_4, G2_4⟩, rfl, ⟨⟨(show (R39 p2.toNatClampNeg).toInt = (zLot Z10 f3.toInt Z12 Z15 (zRw f3.toInt Z0) p3 ((Z11 p2.toNatClampNeg).toInt) (zRw f3.toInt Z1) (zRw f3.toInt Z2)).1 from by first | omega | decide), (show (0 ≤ (zLot Z10 f3.toInt Z12 Z15 (zRw f3.toInt Z0) p3 ((Z11 p2.toNatClampNeg).toInt) (zRw f3.toInt Z1) (zRw f3.toInt Z2)).1 → (G3_4 p2.toNatClampNeg).toInt = (zLot Z10 f3.toInt Z12 Z15 (zRw f3.toInt Z0) p3 ((Z11 p2.toNatClampNeg).toInt) (zRw f3.toInt Z1) (zRw f3.toInt Z2)).2.1) from by first | omega | decide), (show (G1_4 p2.toNatClampNeg).toInt = (zLot Z10 f3.toInt Z12 Z15 (zRw f3.toInt Z0) p3 ((Z11 p2.toNatClampNeg).toInt) (zRw f3.toInt Z1) (zRw f3.toInt Z2)).2.2.1 from by first | omega | decide), (show (G2_4 p2.toNatClampNeg).toInt = (zLot Z10 f3.toInt Z12 Z15 (zRw f3.toInt Z0) p3 ((Z11 p2.toNatClampNeg).toInt) (zRw f3.toInt Z1) (zRw f3.toInt Z2)).2.2.2 from by first | omega | decide)⟩, hI9.1, hI10.1, hI38, hG3_4, hG1_4, hG2_4⟩, by rw [ht]; exact hP9, hD9⟩, hS.F ht⟩) hS.2.2 dX2_fallLot_342
            · have i_8 : y35.toInt ≠ 0 := z_ne (rfl) (rfl) c_8
              refine lv_iload hx hb dX2_fallLot_323 (lv_at hl 9 rfl) ?_
              refine lv_iconst (v := 3) hx hb dX2_fallLot_325 (by decide) ?_
              refine lv_icmp_ne (tgt := 343) hx hb dX2_fallLot_326 (by decide) (fun c_9 => ?_) (fun c_9 => ?_)
              · have i_9 : v8_4.toInt ≠ 3 := z_ne (rfl) (rfl) c_9
                refine lv_aload_n hx hb dX2_fallLot_343 rfl (lv_at hl 1 rfl) ?_
                refine va_get (D := g.1) (ci := 2) (v := .ref h11) (C := RX2) (T := TX2) (N := 12) hx hb hts zl_X2 hown hK hP 10 rfl rfl 11 (by decide) (hts _ m_f_RX2_46) (fun _ h => h) rfl dX2_fallLot_344 ?_
                refine lv_iload_n hx hb dX2_fallLot_347 rfl (lv_at hl 3 rfl) ?_
                refine lv_dup2_11 hx hb dX2_fallLot_348 rfl rfl ?_
                refine va_iald (D := g.1) hx hb hK hP 3 0 rfl rfl (vp_in_iff.mpr ⟨by omega, by omega⟩) dX2_fallLot_349 ?_
                refine lv_topi (fun y40 ey40 => ?_)
                have qy40_0 : y40.toInt = (G2_4 p2.toNatClampNeg).toInt := congrArg Int32.toInt ey40
                refine lv_iconst (v := 1) hx hb dX2_fallLot_350 (by decide) ?_
                refine lv_iadd hx hb dX2_fallLot_351 ?_
                refine lv_topi (fun y41 ey41 => ?_)
                have qy41_0 : y41.toInt = y40.toInt + 1 := zi_add ey41 (rfl) (rfl) (by omega) (by omega)
                refine va_iast (D := g.1) hx hb hK hP hD hS 3 0 rfl rfl (vp_in_iff.mpr ⟨by omega, by omega⟩) dX2_fallLot_352 (fun H locs hP hD hS => ?_)
                have hP : va_P g.1 vwCl [(h8, .inl (zI g, 6, .inl R21)), (h9, .inl (zI g, 6, .inl G3_4)), (h10, .inl (zI g, 6, .inl G1_4)), (h11, .inl (zI g, 6, .inl (upd G2_4 p2.toNatClampNeg y41))), (h13, .inl (zI g, 6, .inl Z11)), (h2, .inl (zI g, 5, .inl Z0)), (h3, .inl (zI g, 5, .inl Z1)), (h4, .inl (zI g, 5, .inl Z2)), (h12, .inl (zI g, 5, .inl Z10)), (h17, .inl (zI g, 20, .inl Z15)), (h0, .inr (2, [.ref h2, .ref h3, .ref h4, .ref h5, .ref h6, .ref h7, .int y16, .int y31, .ref h8, .ref h9, .ref h10, .ref h11])), (h1, .inr (0, [.ref h12, .int f2, .ref h13, .int f3, .ref h14, .ref h15, .ref h16, .ref h17, .ref h18, .ref h19, .int f4])), (h6, .inl (zI g, 5, .inl R7)), (h7, .inl (zI g, 5, .inl R8)), (h14, .inl (zI g, 5, .inl Z12))] H := hP
                have hD : va_D A [(h8, .inl (zI g, 6, .inl R21)), (h9, .inl (zI g, 6, .inl G3_4)), (h10, .inl (zI g, 6, .inl G1_4)), (h11, .inl (zI g, 6, .inl (upd G2_4 p2.toNatClampNeg y41))), (h13, .inl (zI g, 6, .inl Z11)), (h2, .inl (zI g, 5, .inl Z0)), (h3, .inl (zI g, 5, .inl Z1)), (h4, .inl (zI g, 5, .inl Z2)), (h12, .inl (zI g, 5, .inl Z10)), (h17, .inl (zI g, 20, .inl Z15)), (h0, .inr (2, [.ref h2, .ref h3, .ref h4, .ref h5, .ref h6, .ref h7, .int y16, .int y31, .ref h8, .ref h9, .ref h10, .ref h11])), (h1, .inr (0, [.ref h12, .int f2, .ref h13, .int f3, .ref h14, .ref h15, .ref h16, .ref h17, .ref h18, .ref h19, .int f4])), (h6, .inl (zI g, 5, .inl R7)), (h7, .inl (zI g, 5, .inl R8)), (h14, .inl (zI g, 5, .inl Z12))] := hD
                have hI42 : zNr p2.toInt Z9 (upd G2_4 p2.toNatClampNeg y41) := zNr_put (i := p2) hG2_4 (rfl) (by omega)
                obtain ⟨R43, eR43⟩ : ∃ z : Nat → Int32, z = (upd G2_4 p2.toNatClampNeg y41) := ⟨_, rfl⟩
                rw [← eR43] at hP hD hI42
                have qR43 : (R43 p2.toNatClampNeg).toInt = y41.toInt := z_put eR43 (rfl)
                refine lv_aload_n hx hb dX2_fallLot_353 rfl (lv_at hl 1 rfl) ?_
                refine va_get (D := g.1) (ci := 2) (v := .ref h10) (C := RX2) (T := TX2) (N := 12) hx hb hts zl_X2 hown hK hP 10 rfl rfl 10 (by decide) (hts _ m_f_RX2_43) (fun _ h => h) rfl dX2_fallLot_354 ?_
                refine lv_iload_n hx hb dX2_fallLot_357 rfl (lv_at hl 3 rfl) ?_
                refine lv_dup2_11 hx hb dX2_fallLot_358 rfl rfl ?_
                refine va_iald (D := g.1) hx hb hK hP 2 0 rfl rfl (vp_in_iff.mpr ⟨by omega, by omega⟩) dX2_fallLot_359 ?_
                refine lv_topi (fun y44 ey44 => ?_)
                have qy44_0 : y44.toInt = (G1_4 p2.toNatClampNeg).toInt := congrArg Int32.toInt ey44
                refine lv_iconst (v := 1) hx hb dX2_fallLot_360 (by decide) ?_
                refine lv_iadd hx hb dX2_fallLot_361 ?_
                refine lv_topi (fun y45 ey45 => ?_)
                have qy45_0 : y45.toInt = y44.toInt + 1 := zi_add ey45 (rfl) (rfl) (by omega) (by omega)
                refine va_iast (D := g.1) hx hb hK hP hD hS 2 0 rfl rfl (vp_in_iff.mpr ⟨by omega, by omega⟩) dX2_fallLot_362 (fun H locs hP hD hS => ?_)
                have hP : va_P g.1 vwCl [(h8, .inl (zI g, 6, .inl R21)), (h9, .inl (zI g, 6, .inl G3_4)), (h10, .inl (zI g, 6, .inl (upd G1_4 p2.toNatClampNeg y45))), (h11, .inl (zI g, 6, .inl R43)), (h13, .inl (zI g, 6, .inl Z11)), (h2, .inl (zI g, 5, .inl Z0)), (h3, .inl (zI g, 5, .inl Z1)), (h4, .inl (zI g, 5, .inl Z2)), (h12, .inl (zI g, 5, .inl Z10)), (h17, .inl (zI g, 20, .inl Z15)), (h0, .inr (2, [.ref h2, .ref h3, .ref h4, .ref h5, .ref h6, .ref h7, .int y16, .int y31, .ref h8, .ref h9, .ref h10, .ref h11])), (h1, .inr (0, [.ref h12, .int f2, .ref h13, .int f3, .ref h14, .ref h15, .ref h16, .ref h17, .ref h18, .ref h19, .int f4])), (h6, .inl (zI g, 5, .inl R7)), (h7, .inl (zI g, 5, .inl R8)), (h14, .inl (zI g, 5, .inl Z12))] H := hP
                have hD : va_D A [(h8, .inl (zI g, 6, .inl R21)), (h9, .inl (zI g, 6, .inl G3_4)), (h10, .inl (zI g, 6, .inl (upd G1_4 p2.toNatClampNeg y45))), (h11, .inl (zI g, 6, .inl R43)), (h13, .inl (zI g, 6, .inl Z11)), (h2, .inl (zI g, 5, .inl Z0)), (h3, .inl (zI g, 5, .inl Z1)), (h4, .inl (zI g, 5, .inl Z2)), (h12, .inl (zI g, 5, .inl Z10)), (h17, .inl (zI g, 20, .inl Z15)), (h0, .inr (2, [.ref h2, .ref h3, .ref h4, .ref h5, .ref h6, .ref h7, .int y16, .int y31, .ref h8, .ref h9, .ref h10, .ref h11])), (h1, .inr (0, [.ref h12, .int f2, .ref h13, .int f3, .ref h14, .ref h15, .ref h16, .ref h17, .ref h18, .ref h19, .int f4])), (h6, .inl (zI g, 5, .inl R7)), (h7, .inl (zI g, 5, .inl R8)), (h14, .inl (zI g, 5, .inl Z12))] := hD
                have hI46 : zNr p2.toInt Z8 (upd G1_4 p2.toNatClampNeg y45) := zNr_put (i := p2) hG1_4 (rfl) (by omega)
                obtain ⟨R47, eR47⟩ : ∃ z : Nat → Int32, z = (upd G1_4 p2.toNatClampNeg y45) := ⟨_, rfl⟩
                rw [← eR47] at hP hD hI46
                have qR47 : (R47 p2.toNatClampNeg).toInt = y45.toInt := z_put eR47 (rfl)
                refine lv_aload_n hx hb dX2_fallLot_363 rfl (lv_at hl 1 rfl) ?_
                refine va_get (D := g.1) (ci := 2) (v := .ref h9) (C := RX2) (T := TX2) (N := 12) hx hb hts zl_X2 hown hK hP 10 rfl rfl 9 (by decide) (hts _ m_f_RX2_40) (fun _ h => h) rfl dX2_fallLot_364 ?_
                refine lv_iload_n hx hb dX2_fallLot_367 rfl (lv_at hl 3 rfl) ?_
                refine va_iald (D := g.1) hx hb hK hP 1 0 rfl rfl (vp_in_iff.mpr ⟨by omega, by omega⟩) dX2_fallLot_368 ?_
                refine lv_topi (fun y48 ey48 => ?_)
                have qy48_0 : y48.toInt = (G3_4 p2.toNatClampNeg).toInt := congrArg Int32.toInt ey48
                refine lv_istore (lv' := [(7, .int y48), (9, .int 0), (0, .ref h0), (1, .ref h1), (2, .int p2), (3, .int p3), (4, .int y17), (5, .int y18), (6, .int y19), (8, .int v8_4)]) hx hb dX2_fallLot_369 hl (by decide) rfl (fun ls hl => ?_)
                refine lv_aload_n hx hb dX2_fallLot_371 rfl (lv_at hl 2 rfl) ?_
                refine va_get (D := g.1) (ci := 2) (v := .ref h9) (C := RX2) (T := TX2) (N := 12) hx hb hts zl_X2 hown hK hP 10 rfl rfl 9 (by decide) (hts _ m_f_RX2_40) (fun _ h => h) rfl dX2_fallLot_372 ?_
                refine lv_iload_n hx hb dX2_fallLot_375 rfl (lv_at hl 4 rfl) ?_
                refine lv_iload hx hb dX2_fallLot_376 (lv_at hl 6 rfl) ?_
                refine lv_aload_n hx hb dX2_fallLot_378 rfl (lv_at hl 2 rfl) ?_
                refine va_get (D := g.1) (ci := 2) (v := .ref h9) (C := RX2) (T := TX2) (N := 12) hx hb hts zl_X2 hown hK hP 10 rfl rfl 9 (by decide) (hts _ m_f_RX2_40) (fun _ h => h) rfl dX2_fallLot_379 ?_
                refine lv_iload_n hx hb dX2_fallLot_382 rfl (lv_at hl 4 rfl) ?_
                refine va_iald (D := g.1) hx hb hK hP 1 0 rfl rfl (vp_in_iff.mpr ⟨by omega, by omega⟩) dX2_fallLot_383 ?_
                refine lv_topi (fun y49 ey49 => ?_)
                have qy49_0 : y49.toInt = (G3_4 p2.toNatClampNeg).toInt := congrArg Int32.toInt ey49
                refine lv_bipush (v := 9) hx hb dX2_fallLot_384 (by decide) ?_
                refine lv_iadd hx hb dX2_fallLot_386 ?_
                refine lv_topi (fun y50 ey50 => ?_)
                have qy50_0 : y50.toInt = y49.toInt + 9 := zi_add ey50 (rfl) (rfl) (by omega) (by omega)
                refine va_mmin hx hb (hml.trans hl.1.symm) hown (hts _ m_m_RX2_131) (hts _ m_s_Lib_Math_min_name) (hts _ m_z_RJ9) (hts _ m_o_Lib_Math_min_name) (Nat.le_of_ble_eq_true rfl) (Nat.le_of_ble_eq_true rfl) (Nat.le_of_ble_eq_true rfl) (Nat.le_of_ble_eq_true rfl) dX2_fallLot_387 ?_
                refine lv_topi (fun y51 ey51 => ?_)
                have qy51_0 : y51.toInt ≤ y17.toInt := (zi_min ey51 (rfl) (rfl)).1
                have qy51_1 : y51.toInt ≤ y50.toInt := (zi_min ey51 (rfl) (rfl)).2.1
                have qy51_2 : y51.toInt = y17.toInt ∨ y51.toInt = y50.toInt := (zi_min ey51 (rfl) (rfl)).2.2
                refine va_iast (D := g.1) hx hb hK hP hD hS 1 0 rfl rfl (vp_in_iff.mpr ⟨by omega, by omega⟩) dX2_fallLot_390 (fun H locs hP hD hS => ?_)
                have hP : va_P g.1 vwCl [(h8, .inl (zI g, 6, .inl R21)), (h9, .inl (zI g, 6, .inl (upd G3_4 p2.toNatClampNeg y51))), (h10, .inl (zI g, 6, .inl R47)), (h11, .inl (zI g, 6, .inl R43)), (h13, .inl (zI g, 6, .inl Z11)), (h2, .inl (zI g, 5, .inl Z0)), (h3, .inl (zI g, 5, .inl Z1)), (h4, .inl (zI g, 5, .inl Z2)), (h12, .inl (zI g, 5, .inl Z10)), (h17, .inl (zI g, 20, .inl Z15)), (h0, .inr (2, [.ref h2, .ref h3, .ref h4, .ref h5, .ref h6, .ref h7, .int y16, .int y31, .ref h8, .ref h9, .ref h10, .ref h11])), (h1, .inr (0, [.ref h12, .int f2, .ref h13, .int f3, .ref h14, .ref h15, .ref h16, .ref h17, .ref h18, .ref h19, .int f4])), (h6, .inl (zI g, 5, .inl R7)), (h7, .inl (zI g, 5, .inl R8)), (h14, .inl (zI g, 5, .inl Z12))] H := hP
                have hD : va_D A [(h8, .inl (zI g, 6, .inl R21)), (h9, .inl (zI g, 6, .inl (upd G3_4 p2.toNatClampNeg y51))), (h10, .inl (zI g, 6, .inl R47)), (h11, .inl (zI g, 6, .inl R43)), (h13, .inl (zI g, 6, .inl Z11)), (h2, .inl (zI g, 5, .inl Z0)), (h3, .inl (zI g, 5, .inl Z1)), (h4, .inl (zI g, 5, .inl Z2)), (h12, .inl (zI g, 5, .inl Z10)), (h17, .inl (zI g, 20, .inl Z15)), (h0, .inr (2, [.ref h2, .ref h3, .ref h4, .ref h5, .ref h6, .ref h7, .int y16, .int y31, .ref h8, .ref h9, .ref h10, .ref h11])), (h1, .inr (0, [.ref h12, .int f2, .ref h13, .int f3, .ref h14, .ref h15, .ref h16, .ref h17, .ref h18, .ref h19, .int f4])), (h6, .inl (zI g, 5, .inl R7)), (h7, .inl (zI g, 5, .inl R8)), (h14, .inl (zI g, 5, .inl Z12))] := hD
                have hI52 : zNr p2.toInt Z7 (upd G3_4 p2.toNatClampNeg y51) := zNr_put (i := p2) hG3_4 (rfl) (by omega)
                obtain ⟨R53, eR53⟩ : ∃ z : Nat → Int32, z = (upd G3_4 p2.toNatClampNeg y51) := ⟨_, rfl⟩
                rw [← eR53] at hP hD hI52
                have qR53 : (R53 p2.toNatClampNeg).toInt = y51.toInt := z_put eR53 (rfl)
                have hMn : zRun y17.toInt y18.toInt y19.toInt (Z10 3).toInt (zCg (zib y16) Z12 (zIv R7) (zIv R8)) (R53 p2.toNatClampNeg).toInt y48.toInt (R47 p2.toNatClampNeg).toInt (v8_4.toInt + 1) = (zLot Z10 f3.toInt Z12 Z15 (zRw f3.toInt Z0) p3 ((Z11 p2.toNatClampNeg).toInt) (zRw f3.toInt Z1) (zRw f3.toInt Z2)) := by
                  rw [(by omega : (R53 p2.toNatClampNeg).toInt = min y17.toInt ((G3_4 p2.toNatClampNeg).toInt + 9)), (by omega : y48.toInt = (G3_4 p2.toNatClampNeg).toInt), (by omega : (R47 p2.toNatClampNeg).toInt = (G1_4 p2.toNatClampNeg).toInt + 1), ← zRun_bell (by omega) (by omega) (by omega) (by omega) hnz (by omega)]
                  exact hM9
                obtain ⟨y54, ey54⟩ : ∃ z : Int32, z = v8_4 + 1 := ⟨_, rfl⟩
                have qy54 : y54.toInt = v8_4.toInt + 1 := zi_add ey54 (rfl) rfl (by omega) (by omega)
                refine lv_iinc (v := y54) (lv' := [(8, .int y54), (7, .int y48), (9, .int 0), (0, .ref h0), (1, .ref h1), (2, .int p2), (3, .int p3), (4, .int y17), (5, .int y18), (6, .int y19)]) hx hb dX2_fallLot_391 hl (k := 9) rfl ey54.symm (by decide) rfl (fun ls hl => ?_)
                have hMb : zRun y17.toInt y18.toInt y19.toInt (Z10 3).toInt (zCg (zib y16) Z12 (zIv R7) (zIv R8)) (R53 p2.toNatClampNeg).toInt y48.toInt (R47 p2.toNatClampNeg).toInt y54.toInt = (zLot Z10 f3.toInt Z12 Z15 (zRw f3.toInt Z0) p3 ((Z11 p2.toNatClampNeg).toInt) (zRw f3.toInt Z1) (zRw f3.toInt Z2)) := by
                  rw [(by omega : y54.toInt = v8_4.toInt + 1)]
                  exact hMn
                refine lv_goto (tgt := 126) hx hb dX2_fallLot_394 (by decide) ?_
                have hP := hP.sub (ws' := [(h8, .inl (zI g, 6, .inl R21)), (h9, .inl (zI g, 6, .inl R53)), (h10, .inl (zI g, 6, .inl R47)), (h11, .inl (zI g, 6, .inl R43)), (h13, .inl (zI g, 6, .inl Z11)), (h2, .inl (zI g, 5, .inl Z0)), (h3, .inl (zI g, 5, .inl Z1)), (h4, .inl (zI g, 5, .inl Z2)), (h6, .inl (zI g, 5, .inl R7)), (h7, .inl (zI g, 5, .inl R8)), (h12, .inl (zI g, 5, .inl Z10)), (h14, .inl (zI g, 5, .inl Z12)), (h0, .inr (2, [.ref h2, .ref h3, .ref h4, .ref h5, .ref h6, .ref h7, .int y16, .int y31, .ref h8, .ref h9, .ref h10, .ref h11])), (h1, .inr (0, [.ref h12, .int f2, .ref h13, .int f3, .ref h14, .ref h15, .ref h16, .ref h17, .ref h18, .ref h19, .int f4])), (h17, .inl (zI g, 20, .inl Z15))]) [0, 1, 2, 3, 4, 5, 6, 7, 12, 13, 8, 14, 10, 11, 9] rfl
                have hD := hD.sub (ws' := [(h8, .inl (zI g, 6, .inl R21)), (h9, .inl (zI g, 6, .inl R53)), (h10, .inl (zI g, 6, .inl R47)), (h11, .inl (zI g, 6, .inl R43)), (h13, .inl (zI g, 6, .inl Z11)), (h2, .inl (zI g, 5, .inl Z0)), (h3, .inl (zI g, 5, .inl Z1)), (h4, .inl (zI g, 5, .inl Z2)), (h6, .inl (zI g, 5, .inl R7)), (h7, .inl (zI g, 5, .inl R8)), (h12, .inl (zI g, 5, .inl Z10)), (h14, .inl (zI g, 5, .inl Z12)), (h0, .inr (2, [.ref h2, .ref h3, .ref h4, .ref h5, .ref h6, .ref h7, .int y16, .int y31, .ref h8, .ref h9, .ref h10, .ref h11])), (h1, .inr (0, [.ref h12, .int f2, .ref h13, .int f3, .ref h14, .ref h15, .ref h16, .ref h17, .ref h18, .ref h19, .int f4])), (h17, .inl (zI g, 20, .inl Z15))]) [0, 1, 2, 3, 4, 5, 6, 7, 12, 13, 8, 14, 10, 11, 9] (by decide) rfl
                exact ih5 y48 y54 y31 R47 R43 R53 (hI46) (hI42) (hI52) (by omega) (by omega) (by omega) (by omega) (by omega) (by omega) (by omega) (by assumption) (by omega) _ _ hP hD hS ls (lv_sub hl [3, 4, 5, 6, 7, 8, 9, 1, 0] rfl)
              · have i_9 : v8_4.toInt = 3 := z_eq (rfl) (rfl) c_9
                refine lv_aload_n hx hb dX2_fallLot_329 rfl (lv_at hl 1 rfl) ?_
                refine va_get (D := g.1) (ci := 2) (v := .ref h8) (C := RX2) (T := TX2) (N := 12) hx hb hts zl_X2 hown hK hP 10 rfl rfl 8 (by decide) (hts _ m_f_RX2_37) (fun _ h => h) rfl dX2_fallLot_330 ?_
                refine lv_iload_n hx hb dX2_fallLot_333 rfl (lv_at hl 3 rfl) ?_
                refine lv_aload_n hx hb dX2_fallLot_334 rfl (lv_at hl 1 rfl) ?_
                refine va_get (D := g.1) (ci := 2) (v := .int y31) (C := RX2) (T := TX2) (N := 12) hx hb hts zl_X2 hown hK hP 10 rfl rfl 7 (by decide) (hts _ m_f_RX2_34) (fun _ h => h) rfl dX2_fallLot_335 ?_
                refine z_calli (wr := [(h8, .inl (zI g, 6, .inl R21)), (h9, .inl (zI g, 6, .inl G3_4)), (h10, .inl (zI g, 6, .inl G1_4)), (h11, .inl (zI g, 6, .inl G2_4)), (h13, .inl (zI g, 6, .inl Z11)), (h2, .inl (zI g, 5, .inl Z0)), (h3, .inl (zI g, 5, .inl Z1)), (h4, .inl (zI g, 5, .inl Z2)), (h12, .inl (zI g, 5, .inl Z10)), (h17, .inl (zI g, 20, .inl Z15)), (h0, .inr (2, [.ref h2, .ref h3, .ref h4, .ref h5, .ref h6, .ref h7, .int y16, .int y31, .ref h8, .ref h9, .ref h10, .ref h11])), (h1, .inr (0, [.ref h12, .int f2, .ref h13, .int f3, .ref h14, .ref h15, .ref h16, .ref h17, .ref h18, .ref h19, .int f4])), (h6, .inl (zI g, 5, .inl R7)), (h7, .inl (zI g, 5, .inl R8)), (h14, .inl (zI g, 5, .inl Z12))]) hP hD hS hA [] [0, 1, 2, 3, 4, 5, 6, 7, 8, 9, 10, 11, 12, 13, 14] (by decide) rfl rfl (by decide) (va_runS (As := [.int y31]) (rest := [.int p2, .ref h8]) ⟨hx, hb, hml, hown, hts⟩ (gX2_firstOf l g  H.size y31) ⟨callB_of 1 hts (zGood m_o_yX2_firstOf) rfl rfl rfl (hts _ m_z_RX2) (hts _ m_m_RX2_128) ⟨by decide +kernel, by decide +kernel, by decide +kernel⟩ ⟨Nat.le_of_ble_eq_true rfl, Nat.le_of_ble_eq_true rfl⟩, hts _ m_s_yX2_firstOf⟩ (zPreS hK hN hZ hP hD hS hA [] (by decide) rfl rfl) rfl rfl hl.1 rfl (lv_room (Nat.le_of_ble_eq_true rfl)) dX2_fallLot_338 ⟨Nat.le_of_ble_eq_true rfl, Nat.le_of_ble_eq_true rfl⟩) (fun r u H locs hw hP hD hS => ?_)
                obtain ⟨y55, rfl⟩ : ∃ z, z = r := ⟨_, rfl⟩
                obtain ⟨q56_0, q56_1, q56_2⟩ := hw
                have q56_0 : y55.toInt = zF5 (zib y31) := q56_0
                have q56_1 : -1 ≤ y55.toInt := q56_1
                have q56_2 : y55.toInt ≤ 4 := q56_2
                have hP : va_P g.1 vwCl [(h8, .inl (zI g, 6, .inl R21)), (h9, .inl (zI g, 6, .inl G3_4)), (h10, .inl (zI g, 6, .inl G1_4)), (h11, .inl (zI g, 6, .inl G2_4)), (h13, .inl (zI g, 6, .inl Z11)), (h2, .inl (zI g, 5, .inl Z0)), (h3, .inl (zI g, 5, .inl Z1)), (h4, .inl (zI g, 5, .inl Z2)), (h12, .inl (zI g, 5, .inl Z10)), (h17, .inl (zI g, 20, .inl Z15)), (h0, .inr (2, [.ref h2, .ref h3, .ref h4, .ref h5, .ref h6, .ref h7, .int y16, .int y31, .ref h8, .ref h9, .ref h10, .ref h11])), (h1, .inr (0, [.ref h12, .int f2, .ref h13, .int f3, .ref h14, .ref h15, .ref h16, .ref h17, .ref h18, .ref h19, .int f4])), (h6, .inl (zI g, 5, .inl R7)), (h7, .inl (zI g, 5, .inl R8)), (h14, .inl (zI g, 5, .inl Z12))] H := hP
                have hD : va_D A [(h8, .inl (zI g, 6, .inl R21)), (h9, .inl (zI g, 6, .inl G3_4)), (h10, .inl (zI g, 6, .inl G1_4)), (h11, .inl (zI g, 6, .inl G2_4)), (h13, .inl (zI g, 6, .inl Z11)), (h2, .inl (zI g, 5, .inl Z0)), (h3, .inl (zI g, 5, .inl Z1)), (h4, .inl (zI g, 5, .inl Z2)), (h12, .inl (zI g, 5, .inl Z10)), (h17, .inl (zI g, 20, .inl Z15)), (h0, .inr (2, [.ref h2, .ref h3, .ref h4, .ref h5, .ref h6, .ref h7, .int y16, .int y31, .ref h8, .ref h9, .ref h10, .ref h11])), (h1, .inr (0, [.ref h12, .int f2, .ref h13, .int f3, .ref h14, .ref h15, .ref h16, .ref h17, .ref h18, .ref h19, .int f4])), (h6, .inl (zI g, 5, .inl R7)), (h7, .inl (zI g, 5, .inl R8)), (h14, .inl (zI g, 5, .inl Z12))] := hD
                have hff : y55.toInt = zF5 ((zCg (zib y16) Z12 (zIv R7) (zIv R8)) (G3_4 p2.toNatClampNeg).toInt v7_4.toInt) := by
                  have := (zS5_ext (f := zib y31) (g := (zCg (zib y16) Z12 (zIv R7) (zIv R8)) (G3_4 p2.toNatClampNeg).toInt v7_4.toInt) (fun b hb => zib_of hc1 zCg_01 hb)).2.2
                  omega
                refine va_iast (D := g.1) hx hb hK hP hD hS 0 0 rfl rfl (vp_in_iff.mpr ⟨by omega, by omega⟩) dX2_fallLot_341 (fun H locs hP hD hS => ?_)
                have hP : va_P g.1 vwCl [(h8, .inl (zI g, 6, .inl (upd R21 p2.toNatClampNeg y55))), (h9, .inl (zI g, 6, .inl G3_4)), (h10, .inl (zI g, 6, .inl G1_4)), (h11, .inl (zI g, 6, .inl G2_4)), (h13, .inl (zI g, 6, .inl Z11)), (h2, .inl (zI g, 5, .inl Z0)), (h3, .inl (zI g, 5, .inl Z1)), (h4, .inl (zI g, 5, .inl Z2)), (h12, .inl (zI g, 5, .inl Z10)), (h17, .inl (zI g, 20, .inl Z15)), (h0, .inr (2, [.ref h2, .ref h3, .ref h4, .ref h5, .ref h6, .ref h7, .int y16, .int y31, .ref h8, .ref h9, .ref h10, .ref h11])), (h1, .inr (0, [.ref h12, .int f2, .ref h13, .int f3, .ref h14, .ref h15, .ref h16, .ref h17, .ref h18, .ref h19, .int f4])), (h6, .inl (zI g, 5, .inl R7)), (h7, .inl (zI g, 5, .inl R8)), (h14, .inl (zI g, 5, .inl Z12))] H := hP
                have hD : va_D A [(h8, .inl (zI g, 6, .inl (upd R21 p2.toNatClampNeg y55))), (h9, .inl (zI g, 6, .inl G3_4)), (h10, .inl (zI g, 6, .inl G1_4)), (h11, .inl (zI g, 6, .inl G2_4)), (h13, .inl (zI g, 6, .inl Z11)), (h2, .inl (zI g, 5, .inl Z0)), (h3, .inl (zI g, 5, .inl Z1)), (h4, .inl (zI g, 5, .inl Z2)), (h12, .inl (zI g, 5, .inl Z10)), (h17, .inl (zI g, 20, .inl Z15)), (h0, .inr (2, [.ref h2, .ref h3, .ref h4, .ref h5, .ref h6, .ref h7, .int y16, .int y31, .ref h8, .ref h9, .ref h10, .ref h11])), (h1, .inr (0, [.ref h12, .int f2, .ref h13, .int f3, .ref h14, .ref h15, .ref h16, .ref h17, .ref h18, .ref h19, .int f4])), (h6, .inl (zI g, 5, .inl R7)), (h7, .inl (zI g, 5, .inl R8)), (h14, .inl (zI g, 5, .inl Z12))] := hD
                have hI57 : zNr p2.toInt Z6 (upd R21 p2.toNatClampNeg y55) := zNr_put (i := p2) hI20 (rfl) (by omega)
                obtain ⟨R58, eR58⟩ : ∃ z : Nat → Int32, z = (upd R21 p2.toNatClampNeg y55) := ⟨_, rfl⟩
                rw [← eR58] at hP hD hI57
                have qR58 : (R58 p2.toNatClampNeg).toInt = y55.toInt := z_put eR58 (rfl)
                have hO : (zLot Z10 f3.toInt Z12 Z15 (zRw f3.toInt Z0) p3 ((Z11 p2.toNatClampNeg).toInt) (zRw f3.toInt Z1) (zRw f3.toInt Z2)) = (zF5 ((zCg (zib y16) Z12 (zIv R7) (zIv R8)) (G3_4 p2.toNatClampNeg).toInt v7_4.toInt), (G3_4 p2.toNatClampNeg).toInt, (G1_4 p2.toNatClampNeg).toInt, v8_4.toInt) := by
                  rw [← hM9]
                  exact zRun_had (by omega) hnz (by omega)
                have ho1 : (zLot Z10 f3.toInt Z12 Z15 (zRw f3.toInt Z0) p3 ((Z11 p2.toNatClampNeg).toInt) (zRw f3.toInt Z1) (zRw f3.toInt Z2)).1 = zF5 ((zCg (zib y16) Z12 (zIv R7) (zIv R8)) (G3_4 p2.toNatClampNeg).toInt v7_4.toInt) := by rw [hO]
                have ho2 : (zLot Z10 f3.toInt Z12 Z15 (zRw f3.toInt Z0) p3 ((Z11 p2.toNatClampNeg).toInt) (zRw f3.toInt Z1) (zRw f3.toInt Z2)).2.1 = (G3_4 p2.toNatClampNeg).toInt := by rw [hO]
                have ho3 : (zLot Z10 f3.toInt Z12 Z15 (zRw f3.toInt Z0) p3 ((Z11 p2.toNatClampNeg).toInt) (zRw f3.toInt Z1) (zRw f3.toInt Z2)).2.2.1 = (G1_4 p2.toNatClampNeg).toInt := by rw [hO]
                have ho4 : (zLot Z10 f3.toInt Z12 Z15 (zRw f3.toInt Z0) p3 ((Z11 p2.toNatClampNeg).toInt) (zRw f3.toInt Z1) (zRw f3.toInt Z2)).2.2.2 = v8_4.toInt := by rw [hO]
                have hP9 := hP.sub (ws' := [(h0, .inr (2, [.ref h2, .ref h3, .ref h4, .ref h5, .ref h6, .ref h7, .int y16, .int y31, .ref h8, .ref h9, .ref h10, .ref h11])), (h1, .inr (0, [.ref h12, .int f2, .ref h13, .int f3, .ref h14, .ref h15, .ref h16, .ref h17, .ref h18, .ref h19, .int f4])), (h2, .inl (zI g, 5, .inl Z0)), (h3, .inl (zI g, 5, .inl Z1)), (h4, .inl (zI g, 5, .inl Z2)), (h6, .inl (zI g, 5, .inl R7)), (h7, .inl (zI g, 5, .inl R8)), (h8, .inl (zI g, 6, .inl R58)), (h9, .inl (zI g, 6, .inl G3_4)), (h10, .inl (zI g, 6, .inl G1_4)), (h11, .inl (zI g, 6, .inl G2_4)), (h12, .inl (zI g, 5, .inl Z10)), (h13, .inl (zI g, 6, .inl Z11)), (h14, .inl (zI g, 5, .inl Z12)), (h17, .inl (zI g, 20, .inl Z15))]) [10, 11, 5, 6, 7, 12, 13, 0, 1, 2, 3, 8, 4, 14, 9] rfl
                have hD9 := hD.sub (ws' := [(h0, .inr (2, [.ref h2, .ref h3, .ref h4, .ref h5, .ref h6, .ref h7, .int y16, .int y31, .ref h8, .ref h9, .ref h10, .ref h11])), (h1, .inr (0, [.ref h12, .int f2, .ref h13, .int f3, .ref h14, .ref h15, .ref h16, .ref h17, .ref h18, .ref h19, .int f4])), (h2, .inl (zI g, 5, .inl Z0)), (h3, .inl (zI g, 5, .inl Z1)), (h4, .inl (zI g, 5, .inl Z2)), (h6, .inl (zI g, 5, .inl R7)), (h7, .inl (zI g, 5, .inl R8)), (h8, .inl (zI g, 6, .inl R58)), (h9, .inl (zI g, 6, .inl G3_4)), (h10, .inl (zI g, 6, .inl G1_4)), (h11, .inl (zI g, 6, .inl G2_4)), (h12, .inl (zI g, 5, .inl Z10)), (h13, .inl (zI g, 6, .inl Z11)), (h14, .inl (zI g, 5, .inl Z12)), (h17, .inl (zI g, 20, .inl Z15))]) [10, 11, 5, 6, 7, 12, 13, 0, 1, 2, 3, 8, 4, 14, 9] (by decide) rfl
                exact W.vret hx hb hr (fun t ht hW => ⟨⟨⟨y16, y31, R7, R8, R58, G3_4, G1_4, G2_4⟩, rfl, ⟨⟨(show (R58 p2.toNatClampNeg).toInt = (zLot Z10 f3.toInt Z12 Z15 (zRw f3.toInt Z0) p3 ((Z11 p2.toNatClampNeg).toInt) (zRw f3.toInt Z1) (zRw f3.toInt Z2)).1 from by first | omega | decide), (show (0 ≤ (zLot Z10 f3.toInt Z12 Z15 (zRw f3.toInt Z0) p3 ((Z11 p2.toNatClampNeg).toInt) (zRw f3.toInt Z1) (zRw f3.toInt Z2)).1 → (G3_4 p2.toNatClampNeg).toInt = (zLot Z10 f3.toInt Z12 Z15 (zRw f3.toInt Z0) p3 ((Z11 p2.toNatClampNeg).toInt) (zRw f3.toInt Z1) (zRw f3.toInt Z2)).2.1) from by first | omega | decide), (show (G1_4 p2.toNatClampNeg).toInt = (zLot Z10 f3.toInt Z12 Z15 (zRw f3.toInt Z0) p3 ((Z11 p2.toNatClampNeg).toInt) (zRw f3.toInt Z1) (zRw f3.toInt Z2)).2.2.1 from by first | omega | decide), (show (G2_4 p2.toNatClampNeg).toInt = (zLot Z10 f3.toInt Z12 Z15 (zRw f3.toInt Z0) p3 ((Z11 p2.toNatClampNeg).toInt) (zRw f3.toInt Z1) (zRw f3.toInt Z2)).2.2.2 from by first | omega | decide)⟩, hI9.1, hI10.1, hI57, hG3_4, hG1_4, hG2_4⟩, by rw [ht]; exact hP9, hD9⟩, hS.F ht⟩) hS.2.2 dX2_fallLot_342
          · have i_7 : y33.toInt = 1 := z_eq (rfl) (rfl) c_7
            refine lv_iconst (v := 1) hx hb dX2_fallLot_302 (by decide) ?_
            refine lv_goto (tgt := 307) hx hb dX2_fallLot_303 (by decide) ?_
            refine lv_istore (lv' := [(9, .int 1), (0, .ref h0), (1, .ref h1), (2, .int p2), (3, .int p3), (4, .int y17), (5, .int y18), (6, .int y19), (7, .int v7_4), (8, .int v8_4)]) hx hb dX2_fallLot_307 hl (by decide) rfl (fun ls hl => ?_)
            refine lv_iload hx hb dX2_fallLot_309 (lv_at hl 0 rfl) ?_
            refine lv_if_ne (tgt := 329) hx hb dX2_fallLot_311 (by decide) (fun _ => ?_) (fun h => absurd h (by decide +kernel))
            refine lv_aload_n hx hb dX2_fallLot_329 rfl (lv_at hl 1 rfl) ?_
            refine va_get (D := g.1) (ci := 2) (v := .ref h8) (C := RX2) (T := TX2) (N := 12) hx hb hts zl_X2 hown hK hP 10 rfl rfl 8 (by decide) (hts _ m_f_RX2_37) (fun _ h => h) rfl dX2_fallLot_330 ?_
            refine lv_iload_n hx hb dX2_fallLot_333 rfl (lv_at hl 3 rfl) ?_
            refine lv_aload_n hx hb dX2_fallLot_334 rfl (lv_at hl 1 rfl) ?_
            refine va_get (D := g.1) (ci := 2) (v := .int y31) (C := RX2) (T := TX2) (N := 12) hx hb hts zl_X2 hown hK hP 10 rfl rfl 7 (by decide) (hts _ m_f_RX2_34) (fun _ h => h) rfl dX2_fallLot_335 ?_
            refine z_calli (wr := [(h8, .inl (zI g, 6, .inl R21)), (h9, .inl (zI g, 6, .inl G3_4)), (h10, .inl (zI g, 6, .inl G1_4)), (h11, .inl (zI g, 6, .inl G2_4)), (h13, .inl (zI g, 6, .inl Z11)), (h2, .inl (zI g, 5, .inl Z0)), (h3, .inl (zI g, 5, .inl Z1)), (h4, .inl (zI g, 5, .inl Z2)), (h12, .inl (zI g, 5, .inl Z10)), (h17, .inl (zI g, 20, .inl Z15)), (h0, .inr (2, [.ref h2, .ref h3, .ref h4, .ref h5, .ref h6, .ref h7, .int y16, .int y31, .ref h8, .ref h9, .ref h10, .ref h11])), (h1, .inr (0, [.ref h12, .int f2, .ref h13, .int f3, .ref h14, .ref h15, .ref h16, .ref h17, .ref h18, .ref h19, .int f4])), (h6, .inl (zI g, 5, .inl R7)), (h7, .inl (zI g, 5, .inl R8)), (h14, .inl (zI g, 5, .inl Z12))]) hP hD hS hA [] [0, 1, 2, 3, 4, 5, 6, 7, 8, 9, 10, 11, 12, 13, 14] (by decide) rfl rfl (by decide) (va_runS (As := [.int y31]) (rest := [.int p2, .ref h8]) ⟨hx, hb, hml, hown, hts⟩ (gX2_firstOf l g  H.size y31) ⟨callB_of 1 hts (zGood m_o_yX2_firstOf) rfl rfl rfl (hts _ m_z_RX2) (hts _ m_m_RX2_128) ⟨by decide +kernel, by decide +kernel, by decide +kernel⟩ ⟨Nat.le_of_ble_eq_true rfl, Nat.le_of_ble_eq_true rfl⟩, hts _ m_s_yX2_firstOf⟩ (zPreS hK hN hZ hP hD hS hA [] (by decide) rfl rfl) rfl rfl hl.1 rfl (lv_room (Nat.le_of_ble_eq_true rfl)) dX2_fallLot_338 ⟨Nat.le_of_ble_eq_true rfl, Nat.le_of_ble_eq_true rfl⟩) (fun r u H locs hw hP hD hS => ?_)
            obtain ⟨y59, rfl⟩ : ∃ z, z = r := ⟨_, rfl⟩
            obtain ⟨q60_0, q60_1, q60_2⟩ := hw
            have q60_0 : y59.toInt = zF5 (zib y31) := q60_0
            have q60_1 : -1 ≤ y59.toInt := q60_1
            have q60_2 : y59.toInt ≤ 4 := q60_2
            have hP : va_P g.1 vwCl [(h8, .inl (zI g, 6, .inl R21)), (h9, .inl (zI g, 6, .inl G3_4)), (h10, .inl (zI g, 6, .inl G1_4)), (h11, .inl (zI g, 6, .inl G2_4)), (h13, .inl (zI g, 6, .inl Z11)), (h2, .inl (zI g, 5, .inl Z0)), (h3, .inl (zI g, 5, .inl Z1)), (h4, .inl (zI g, 5, .inl Z2)), (h12, .inl (zI g, 5, .inl Z10)), (h17, .inl (zI g, 20, .inl Z15)), (h0, .inr (2, [.ref h2, .ref h3, .ref h4, .ref h5, .ref h6, .ref h7, .int y16, .int y31, .ref h8, .ref h9, .ref h10, .ref h11])), (h1, .inr (0, [.ref h12, .int f2, .ref h13, .int f3, .ref h14, .ref h15, .ref h16, .ref h17, .ref h18, .ref h19, .int f4])), (h6, .inl (zI g, 5, .inl R7)), (h7, .inl (zI g, 5, .inl R8)), (h14, .inl (zI g, 5, .inl Z12))] H := hP
            have hD : va_D A [(h8, .inl (zI g, 6, .inl R21)), (h9, .inl (zI g, 6, .inl G3_4)), (h10, .inl (zI g, 6, .inl G1_4)), (h11, .inl (zI g, 6, .inl G2_4)), (h13, .inl (zI g, 6, .inl Z11)), (h2, .inl (zI g, 5, .inl Z0)), (h3, .inl (zI g, 5, .inl Z1)), (h4, .inl (zI g, 5, .inl Z2)), (h12, .inl (zI g, 5, .inl Z10)), (h17, .inl (zI g, 20, .inl Z15)), (h0, .inr (2, [.ref h2, .ref h3, .ref h4, .ref h5, .ref h6, .ref h7, .int y16, .int y31, .ref h8, .ref h9, .ref h10, .ref h11])), (h1, .inr (0, [.ref h12, .int f2, .ref h13, .int f3, .ref h14, .ref h15, .ref h16, .ref h17, .ref h18, .ref h19, .int f4])), (h6, .inl (zI g, 5, .inl R7)), (h7, .inl (zI g, 5, .inl R8)), (h14, .inl (zI g, 5, .inl Z12))] := hD
            have hff : y59.toInt = zF5 ((zCg (zib y16) Z12 (zIv R7) (zIv R8)) (G3_4 p2.toNatClampNeg).toInt v7_4.toInt) := by
              have := (zS5_ext (f := zib y31) (g := (zCg (zib y16) Z12 (zIv R7) (zIv R8)) (G3_4 p2.toNatClampNeg).toInt v7_4.toInt) (fun b hb => zib_of hc1 zCg_01 hb)).2.2
              omega
            refine va_iast (D := g.1) hx hb hK hP hD hS 0 0 rfl rfl (vp_in_iff.mpr ⟨by omega, by omega⟩) dX2_fallLot_341 (fun H locs hP hD hS => ?_)
            have hP : va_P g.1 vwCl [(h8, .inl (zI g, 6, .inl (upd R21 p2.toNatClampNeg y59))), (h9, .inl (zI g, 6, .inl G3_4)), (h10, .inl (zI g, 6, .inl G1_4)), (h11, .inl (zI g, 6, .inl G2_4)), (h13, .inl (zI g, 6, .inl Z11)), (h2, .inl (zI g, 5, .inl Z0)), (h3, .inl (zI g, 5, .inl Z1)), (h4, .inl (zI g, 5, .inl Z2)), (h12, .inl (zI g, 5, .inl Z10)), (h17, .inl (zI g, 20, .inl Z15)), (h0, .inr (2, [.ref h2, .ref h3, .ref h4, .ref h5, .ref h6, .ref h7, .int y16, .int y31, .ref h8, .ref h9, .ref h10, .ref h11])), (h1, .inr (0, [.ref h12, .int f2, .ref h13, .int f3, .ref h14, .ref h15, .ref h16, .ref h17, .ref h18, .ref h19, .int f4])), (h6, .inl (zI g, 5, .inl R7)), (h7, .inl (zI g, 5, .inl R8)), (h14, .inl (zI g, 5, .inl Z12))] H := hP
            have hD : va_D A [(h8, .inl (zI g, 6, .inl (upd R21 p2.toNatClampNeg y59))), (h9, .inl (zI g, 6, .inl G3_4)), (h10, .inl (zI g, 6, .inl G1_4)), (h11, .inl (zI g, 6, .inl G2_4)), (h13, .inl (zI g, 6, .inl Z11)), (h2, .inl (zI g, 5, .inl Z0)), (h3, .inl (zI g, 5, .inl Z1)), (h4, .inl (zI g, 5, .inl Z2)), (h12, .inl (zI g, 5, .inl Z10)), (h17, .inl (zI g, 20, .inl Z15)), (h0, .inr (2, [.ref h2, .ref h3, .ref h4, .ref h5, .ref h6, .ref h7, .int y16, .int y31, .ref h8, .ref h9, .ref h10, .ref h11])), (h1, .inr (0, [.ref h12, .int f2, .ref h13, .int f3, .ref h14, .ref h15, .ref h16, .ref h17, .ref h18, .ref h19, .int f4])), (h6, .inl (zI g, 5, .inl R7)), (h7, .inl (zI g, 5, .inl R8)), (h14, .inl (zI g, 5, .inl Z12))] := hD
            have hI61 : zNr p2.toInt Z6 (upd R21 p2.toNatClampNeg y59) := zNr_put (i := p2) hI20 (rfl) (by omega)
            obtain ⟨R62, eR62⟩ : ∃ z : Nat → Int32, z = (upd R21 p2.toNatClampNeg y59) := ⟨_, rfl⟩
            rw [← eR62] at hP hD hI61
            have qR62 : (R62 p2.toNatClampNeg).toInt = y59.toInt := z_put eR62 (rfl)
            have hO : (zLot Z10 f3.toInt Z12 Z15 (zRw f3.toInt Z0) p3 ((Z11 p2.toNatClampNeg).toInt) (zRw f3.toInt Z1) (zRw f3.toInt Z2)) = (zF5 ((zCg (zib y16) Z12 (zIv R7) (zIv R8)) (G3_4 p2.toNatClampNeg).toInt v7_4.toInt), (G3_4 p2.toNatClampNeg).toInt, (G1_4 p2.toNatClampNeg).toInt, v8_4.toInt) := by
              rw [← hM9]
              exact zRun_had (by omega) hnz (by omega)
            have ho1 : (zLot Z10 f3.toInt Z12 Z15 (zRw f3.toInt Z0) p3 ((Z11 p2.toNatClampNeg).toInt) (zRw f3.toInt Z1) (zRw f3.toInt Z2)).1 = zF5 ((zCg (zib y16) Z12 (zIv R7) (zIv R8)) (G3_4 p2.toNatClampNeg).toInt v7_4.toInt) := by rw [hO]
            have ho2 : (zLot Z10 f3.toInt Z12 Z15 (zRw f3.toInt Z0) p3 ((Z11 p2.toNatClampNeg).toInt) (zRw f3.toInt Z1) (zRw f3.toInt Z2)).2.1 = (G3_4 p2.toNatClampNeg).toInt := by rw [hO]
            have ho3 : (zLot Z10 f3.toInt Z12 Z15 (zRw f3.toInt Z0) p3 ((Z11 p2.toNatClampNeg).toInt) (zRw f3.toInt Z1) (zRw f3.toInt Z2)).2.2.1 = (G1_4 p2.toNatClampNeg).toInt := by rw [hO]
            have ho4 : (zLot Z10 f3.toInt Z12 Z15 (zRw f3.toInt Z0) p3 ((Z11 p2.toNatClampNeg).toInt) (zRw f3.toInt Z1) (zRw f3.toInt Z2)).2.2.2 = v8_4.toInt := by rw [hO]
            have hP9 := hP.sub (ws' := [(h0, .inr (2, [.ref h2, .ref h3, .ref h4, .ref h5, .ref h6, .ref h7, .int y16, .int y31, .ref h8, .ref h9, .ref h10, .ref h11])), (h1, .inr (0, [.ref h12, .int f2, .ref h13, .int f3, .ref h14, .ref h15, .ref h16, .ref h17, .ref h18, .ref h19, .int f4])), (h2, .inl (zI g, 5, .inl Z0)), (h3, .inl (zI g, 5, .inl Z1)), (h4, .inl (zI g, 5, .inl Z2)), (h6, .inl (zI g, 5, .inl R7)), (h7, .inl (zI g, 5, .inl R8)), (h8, .inl (zI g, 6, .inl R62)), (h9, .inl (zI g, 6, .inl G3_4)), (h10, .inl (zI g, 6, .inl G1_4)), (h11, .inl (zI g, 6, .inl G2_4)), (h12, .inl (zI g, 5, .inl Z10)), (h13, .inl (zI g, 6, .inl Z11)), (h14, .inl (zI g, 5, .inl Z12)), (h17, .inl (zI g, 20, .inl Z15))]) [10, 11, 5, 6, 7, 12, 13, 0, 1, 2, 3, 8, 4, 14, 9] rfl
            have hD9 := hD.sub (ws' := [(h0, .inr (2, [.ref h2, .ref h3, .ref h4, .ref h5, .ref h6, .ref h7, .int y16, .int y31, .ref h8, .ref h9, .ref h10, .ref h11])), (h1, .inr (0, [.ref h12, .int f2, .ref h13, .int f3, .ref h14, .ref h15, .ref h16, .ref h17, .ref h18, .ref h19, .int f4])), (h2, .inl (zI g, 5, .inl Z0)), (h3, .inl (zI g, 5, .inl Z1)), (h4, .inl (zI g, 5, .inl Z2)), (h6, .inl (zI g, 5, .inl R7)), (h7, .inl (zI g, 5, .inl R8)), (h8, .inl (zI g, 6, .inl R62)), (h9, .inl (zI g, 6, .inl G3_4)), (h10, .inl (zI g, 6, .inl G1_4)), (h11, .inl (zI g, 6, .inl G2_4)), (h12, .inl (zI g, 5, .inl Z10)), (h13, .inl (zI g, 6, .inl Z11)), (h14, .inl (zI g, 5, .inl Z12)), (h17, .inl (zI g, 20, .inl Z15))]) [10, 11, 5, 6, 7, 12, 13, 0, 1, 2, 3, 8, 4, 14, 9] (by decide) rfl
            exact W.vret hx hb hr (fun t ht hW => ⟨⟨⟨y16, y31, R7, R8, R62, G3_4, G1_4, G2_4⟩, rfl, ⟨⟨(show (R62 p2.toNatClampNeg).toInt = (zLot Z10 f3.toInt Z12 Z15 (zRw f3.toInt Z0) p3 ((Z11 p2.toNatClampNeg).toInt) (zRw f3.toInt Z1) (zRw f3.toInt Z2)).1 from by first | omega | decide), (show (0 ≤ (zLot Z10 f3.toInt Z12 Z15 (zRw f3.toInt Z0) p3 ((Z11 p2.toNatClampNeg).toInt) (zRw f3.toInt Z1) (zRw f3.toInt Z2)).1 → (G3_4 p2.toNatClampNeg).toInt = (zLot Z10 f3.toInt Z12 Z15 (zRw f3.toInt Z0) p3 ((Z11 p2.toNatClampNeg).toInt) (zRw f3.toInt Z1) (zRw f3.toInt Z2)).2.1) from by first | omega | decide), (show (G1_4 p2.toNatClampNeg).toInt = (zLot Z10 f3.toInt Z12 Z15 (zRw f3.toInt Z0) p3 ((Z11 p2.toNatClampNeg).toInt) (zRw f3.toInt Z1) (zRw f3.toInt Z2)).2.2.1 from by first | omega | decide), (show (G2_4 p2.toNatClampNeg).toInt = (zLot Z10 f3.toInt Z12 Z15 (zRw f3.toInt Z0) p3 ((Z11 p2.toNatClampNeg).toInt) (zRw f3.toInt Z1) (zRw f3.toInt Z2)).2.2.2 from by first | omega | decide)⟩, hI9.1, hI10.1, hI61, hG3_4, hG1_4, hG2_4⟩, by rw [ht]; exact hP9, hD9⟩, hS.F ht⟩) hS.2.2 dX2_fallLot_342
        · have i_6 : y31.toInt = 0 := z_eq (rfl) (rfl) c_6
          refine lv_aload_n hx hb dX2_fallLot_156 rfl (lv_at hl 0 rfl) ?_
          refine lv_aload_n hx hb dX2_fallLot_157 rfl (lv_at hl 1 rfl) ?_
          refine lv_iload hx hb dX2_fallLot_158 (lv_at hl 6 rfl) ?_
          refine z_calli (wr := [(h8, .inl (zI g, 6, .inl R21)), (h9, .inl (zI g, 6, .inl G3_4)), (h10, .inl (zI g, 6, .inl G1_4)), (h11, .inl (zI g, 6, .inl G2_4)), (h13, .inl (zI g, 6, .inl Z11)), (h2, .inl (zI g, 5, .inl Z0)), (h3, .inl (zI g, 5, .inl Z1)), (h4, .inl (zI g, 5, .inl Z2)), (h12, .inl (zI g, 5, .inl Z10)), (h17, .inl (zI g, 20, .inl Z15))]) hP hD hS hA [10, 11, 12, 13, 14] [0, 1, 2, 3, 4, 5, 6, 7, 8, 9] (by decide) rfl rfl (by decide) (va_runV (As := [.ref h1, .int y19]) (rest := []) ⟨hx, hb, hml, hown, hts⟩ (gX2_nextCough l g h0 h1 h2 h3 h4 h5 h6 h7 h8 h9 h10 h11 h12 h13 h14 h15 h16 h17 h18 h19 H.size y19 y16 y31 f2 f3 f4 R7 R8 Z12 (by omega) (by omega) (by constructor <;> omega) (by constructor <;> omega) (by constructor <;> omega) hI9.1 hI10.1 hF_Z12) ⟨callB_of 2 hts (zGood m_o_yX2_nextCough) rfl rfl rfl (hts _ m_z_RX2) (hts _ m_m_RX2_113) ⟨by decide +kernel, by decide +kernel, by decide +kernel⟩ ⟨Nat.le_of_ble_eq_true rfl, Nat.le_of_ble_eq_true rfl⟩, hts _ m_i_yX2_nextCough, hts _ m_e_yX2_nextCough⟩ (zPreV hK hN hZ hP hD hS hA [10, 11, 12, 13, 14] (by decide) rfl rfl 2 10 rfl rfl) rfl rfl hl.1 rfl (lv_room (Nat.le_of_ble_eq_true rfl)) dX2_fallLot_160 ⟨Nat.le_of_ble_eq_true rfl, Nat.le_of_ble_eq_true rfl⟩) (fun r u H locs hw hP hD hS => ?_)
          obtain ⟨y63, rfl⟩ : ∃ z, z = r := ⟨_, rfl⟩
          obtain ⟨q64_0, q64_1, q64_2⟩ := hw
          have q64_0 : y63.toInt = zTk (zib y16) (zTp Z12 (zIv R7) (zIv R8) y19.toInt) 5 := q64_0
          have q64_1 : -1 ≤ y63.toInt := q64_1
          have q64_2 : y63.toInt ≤ 99 := q64_2
          have hP : va_P g.1 vwCl [(h8, .inl (zI g, 6, .inl R21)), (h9, .inl (zI g, 6, .inl G3_4)), (h10, .inl (zI g, 6, .inl G1_4)), (h11, .inl (zI g, 6, .inl G2_4)), (h13, .inl (zI g, 6, .inl Z11)), (h2, .inl (zI g, 5, .inl Z0)), (h3, .inl (zI g, 5, .inl Z1)), (h4, .inl (zI g, 5, .inl Z2)), (h12, .inl (zI g, 5, .inl Z10)), (h17, .inl (zI g, 20, .inl Z15)), (h0, .inr (2, [.ref h2, .ref h3, .ref h4, .ref h5, .ref h6, .ref h7, .int y16, .int y31, .ref h8, .ref h9, .ref h10, .ref h11])), (h1, .inr (0, [.ref h12, .int f2, .ref h13, .int f3, .ref h14, .ref h15, .ref h16, .ref h17, .ref h18, .ref h19, .int f4])), (h6, .inl (zI g, 5, .inl R7)), (h7, .inl (zI g, 5, .inl R8)), (h14, .inl (zI g, 5, .inl Z12))] H := hP
          have hD : va_D A [(h8, .inl (zI g, 6, .inl R21)), (h9, .inl (zI g, 6, .inl G3_4)), (h10, .inl (zI g, 6, .inl G1_4)), (h11, .inl (zI g, 6, .inl G2_4)), (h13, .inl (zI g, 6, .inl Z11)), (h2, .inl (zI g, 5, .inl Z0)), (h3, .inl (zI g, 5, .inl Z1)), (h4, .inl (zI g, 5, .inl Z2)), (h12, .inl (zI g, 5, .inl Z10)), (h17, .inl (zI g, 20, .inl Z15)), (h0, .inr (2, [.ref h2, .ref h3, .ref h4, .ref h5, .ref h6, .ref h7, .int y16, .int y31, .ref h8, .ref h9, .ref h10, .ref h11])), (h1, .inr (0, [.ref h12, .int f2, .ref h13, .int f3, .ref h14, .ref h15, .ref h16, .ref h17, .ref h18, .ref h19, .int f4])), (h6, .inl (zI g, 5, .inl R7)), (h7, .inl (zI g, 5, .inl R8)), (h14, .inl (zI g, 5, .inl Z12))] := hD
          refine lv_istore (lv' := [(9, .int y63), (0, .ref h0), (1, .ref h1), (2, .int p2), (3, .int p3), (4, .int y17), (5, .int y18), (6, .int y19), (7, .int v7_4), (8, .int v8_4)]) hx hb dX2_fallLot_163 hl (by decide) rfl (fun ls hl => ?_)
          refine lv_iconst (v := 1) hx hb dX2_fallLot_165 (by decide) ?_
          refine lv_aload_n hx hb dX2_fallLot_166 rfl (lv_at hl 1 rfl) ?_
          refine va_get (D := g.1) (ci := 2) (v := .ref h9) (C := RX2) (T := TX2) (N := 12) hx hb hts zl_X2 hown hK hP 10 rfl rfl 9 (by decide) (hts _ m_f_RX2_40) (fun _ h => h) rfl dX2_fallLot_167 ?_
          refine lv_iload_n hx hb dX2_fallLot_170 rfl (lv_at hl 3 rfl) ?_
          refine va_iald (D := g.1) hx hb hK hP 1 0 rfl rfl (vp_in_iff.mpr ⟨by omega, by omega⟩) dX2_fallLot_171 ?_
          refine lv_topi (fun y65 ey65 => ?_)
          have qy65_0 : y65.toInt = (G3_4 p2.toNatClampNeg).toInt := congrArg Int32.toInt ey65
          refine lv_iload hx hb dX2_fallLot_172 (lv_at hl 0 rfl) ?_
          refine lv_isub hx hb dX2_fallLot_174 ?_
          refine lv_topi (fun y66 ey66 => ?_)
          have qy66_0 : y66.toInt = y65.toInt - y63.toInt := zi_sub ey66 (rfl) (rfl) (by omega) (by omega)
          refine lv_iload hx hb dX2_fallLot_175 (lv_at hl 7 rfl) ?_
          refine lv_iadd hx hb dX2_fallLot_177 ?_
          refine lv_topi (fun y67 ey67 => ?_)
          have qy67_0 : y67.toInt = y66.toInt + y19.toInt := zi_add ey67 (rfl) (rfl) (by omega) (by omega)
          refine lv_iconst (v := 1) hx hb dX2_fallLot_178 (by decide) ?_
          refine lv_isub hx hb dX2_fallLot_179 ?_
          refine lv_topi (fun y68 ey68 => ?_)
          have qy68_0 : y68.toInt = y67.toInt - 1 := zi_sub ey68 (rfl) (rfl) (by omega) (by omega)
          refine lv_iload hx hb dX2_fallLot_180 (lv_at hl 7 rfl) ?_
          refine lv_idiv hx hb dX2_fallLot_182 (z_nz rfl (by omega)) ?_
          refine lv_topi (fun y69 ey69 => ?_)
          have py69_0 : y69.toInt = Int.tdiv y68.toInt y19.toInt := zi_tdiv ey69 (rfl) (rfl) (by omega)
          have py69_1 : -100 ≤ y69.toInt := by have := z_tdr (a := y68.toInt) (b := y19.toInt) (by omega) (by omega) (by omega); omega
          have py69_2 : y69.toInt ≤ 300 := by have := z_tdr (a := y68.toInt) (b := y19.toInt) (by omega) (by omega) (by omega); omega
          refine va_mmax hx hb (hml.trans hl.1.symm) hown (hts _ m_m_RX2_116) (hts _ m_s_Lib_Math_max_name) (hts _ m_z_RJ9) (hts _ m_o_Lib_Math_max_name) (Nat.le_of_ble_eq_true rfl) (Nat.le_of_ble_eq_true rfl) (Nat.le_of_ble_eq_true rfl) (Nat.le_of_ble_eq_true rfl) dX2_fallLot_183 ?_
          refine lv_topi (fun y70 ey70 => ?_)
          have qy70_0 : 1 ≤ y70.toInt := (zi_max ey70 (rfl) (rfl)).1
          have qy70_1 : y69.toInt ≤ y70.toInt := (zi_max ey70 (rfl) (rfl)).2.1
          have qy70_2 : y70.toInt = 1 ∨ y70.toInt = y69.toInt := (zi_max ey70 (rfl) (rfl)).2.2
          have htk : (zTk (zib y16) (zTp Z12 (zIv R7) (zIv R8) y19.toInt) 5) = y63.toInt := by omega
          have hdn : zDn (G3_4 p2.toNatClampNeg).toInt (zTk (zib y16) (zTp Z12 (zIv R7) (zIv R8) y19.toInt) 5) y19.toInt y70.toInt.toNat := by
            have h := zDn_of (p := (G3_4 p2.toNatClampNeg).toInt) (t := y63.toInt) (dr := y19.toInt) (by omega) (by omega)
            rw [(by omega : (G3_4 p2.toNatClampNeg).toInt - y63.toInt + y19.toInt - 1 = y68.toInt), (by omega : Int.tdiv y68.toInt y19.toInt = y69.toInt), (by omega : max 1 y69.toInt = y70.toInt)] at h
            rw [htk]
            exact h
          have hdk : ((y70.toInt.toNat : Nat) : Int) = y70.toInt := by omega
          refine lv_istore (lv' := [(10, .int y70), (9, .int y63), (0, .ref h0), (1, .ref h1), (2, .int p2), (3, .int p3), (4, .int y17), (5, .int y18), (6, .int y19), (7, .int v7_4), (8, .int v8_4)]) hx hb dX2_fallLot_186 hl (by decide) rfl (fun ls hl => ?_)
          refine lv_aload_n hx hb dX2_fallLot_188 rfl (lv_at hl 2 rfl) ?_
          refine va_get (D := g.1) (ci := 2) (v := .ref h9) (C := RX2) (T := TX2) (N := 12) hx hb hts zl_X2 hown hK hP 10 rfl rfl 9 (by decide) (hts _ m_f_RX2_40) (fun _ h => h) rfl dX2_fallLot_189 ?_
          refine lv_iload_n hx hb dX2_fallLot_192 rfl (lv_at hl 4 rfl) ?_
          refine va_iald (D := g.1) hx hb hK hP 1 0 rfl rfl (vp_in_iff.mpr ⟨by omega, by omega⟩) dX2_fallLot_193 ?_
          refine lv_topi (fun y71 ey71 => ?_)
          have qy71_0 : y71.toInt = (G3_4 p2.toNatClampNeg).toInt := congrArg Int32.toInt ey71
          refine lv_iload hx hb dX2_fallLot_194 (lv_at hl 0 rfl) ?_
          refine lv_iload hx hb dX2_fallLot_196 (lv_at hl 8 rfl) ?_
          refine lv_imul hx hb dX2_fallLot_198 ?_
          refine lv_topi (fun y72 ey72 => ?_)
          have py72_0 : y72.toInt = y70.toInt * y19.toInt := zi_mul9 ey72 (rfl) (rfl) (by omega) (by omega) (by omega) (by omega)
          have py72_1 : 0 ≤ y72.toInt := by have := z_mr (x := y70.toInt) (d := y19.toInt) (by omega) (by omega) (by omega) (by omega); omega
          have py72_2 : y72.toInt ≤ 2700 := by have := z_mr (x := y70.toInt) (d := y19.toInt) (by omega) (by omega) (by omega) (by omega); omega
          refine lv_isub hx hb dX2_fallLot_199 ?_
          refine lv_topi (fun y73 ey73 => ?_)
          have qy73_0 : y73.toInt = y71.toInt - y72.toInt := zi_sub ey73 (rfl) (rfl) (by omega) (by omega)
          refine lv_iload hx hb dX2_fallLot_200 (lv_at hl 7 rfl) ?_
          refine lv_icmp_ge (tgt := 209) hx hb dX2_fallLot_202 (by decide) (fun c_10 => ?_) (fun c_10 => ?_)
          · have i_10 : y18.toInt ≤ y73.toInt := z_le (rfl) (rfl) c_10
            refine lv_iconst (v := 0) hx hb dX2_fallLot_209 (by decide) ?_
            refine lv_istore (lv' := [(11, .int 0), (10, .int y70), (9, .int y63), (0, .ref h0), (1, .ref h1), (2, .int p2), (3, .int p3), (4, .int y17), (5, .int y18), (6, .int y19), (7, .int v7_4), (8, .int v8_4)]) hx hb dX2_fallLot_210 hl (by decide) rfl (fun ls hl => ?_)
            refine lv_iload hx hb dX2_fallLot_212 (lv_at hl 0 rfl) ?_
            refine lv_if_eq (tgt := 232) hx hb dX2_fallLot_214 (by decide) (fun _ => ?_) (fun h => absurd h (by decide +kernel))
            refine lv_iload hx hb dX2_fallLot_232 (lv_at hl 1 rfl) ?_
            refine lv_istore (lv' := [(10, .int y70), (11, .int 0), (9, .int y63), (0, .ref h0), (1, .ref h1), (2, .int p2), (3, .int p3), (4, .int y17), (5, .int y18), (6, .int y19), (7, .int v7_4), (8, .int v8_4)]) hx hb dX2_fallLot_234 hl (by decide) rfl (fun ls hl => ?_)
            refine lv_aload_n hx hb dX2_fallLot_236 rfl (lv_at hl 3 rfl) ?_
            refine va_get (D := g.1) (ci := 2) (v := .ref h10) (C := RX2) (T := TX2) (N := 12) hx hb hts zl_X2 hown hK hP 10 rfl rfl 10 (by decide) (hts _ m_f_RX2_43) (fun _ h => h) rfl dX2_fallLot_237 ?_
            refine lv_iload_n hx hb dX2_fallLot_240 rfl (lv_at hl 5 rfl) ?_
            refine lv_dup2_11 hx hb dX2_fallLot_241 rfl rfl ?_
            refine va_iald (D := g.1) hx hb hK hP 2 0 rfl rfl (vp_in_iff.mpr ⟨by omega, by omega⟩) dX2_fallLot_242 ?_
            refine lv_topi (fun y74 ey74 => ?_)
            have qy74_0 : y74.toInt = (G1_4 p2.toNatClampNeg).toInt := congrArg Int32.toInt ey74
            refine lv_iload hx hb dX2_fallLot_243 (lv_at hl 0 rfl) ?_
            refine lv_iadd hx hb dX2_fallLot_245 ?_
            refine lv_topi (fun y75 ey75 => ?_)
            have qy75_0 : y75.toInt = y74.toInt + y70.toInt := zi_add ey75 (rfl) (rfl) (by omega) (by omega)
            refine va_iast (D := g.1) hx hb hK hP hD hS 2 0 rfl rfl (vp_in_iff.mpr ⟨by omega, by omega⟩) dX2_fallLot_246 (fun H locs hP hD hS => ?_)
            have hP : va_P g.1 vwCl [(h8, .inl (zI g, 6, .inl R21)), (h9, .inl (zI g, 6, .inl G3_4)), (h10, .inl (zI g, 6, .inl (upd G1_4 p2.toNatClampNeg y75))), (h11, .inl (zI g, 6, .inl G2_4)), (h13, .inl (zI g, 6, .inl Z11)), (h2, .inl (zI g, 5, .inl Z0)), (h3, .inl (zI g, 5, .inl Z1)), (h4, .inl (zI g, 5, .inl Z2)), (h12, .inl (zI g, 5, .inl Z10)), (h17, .inl (zI g, 20, .inl Z15)), (h0, .inr (2, [.ref h2, .ref h3, .ref h4, .ref h5, .ref h6, .ref h7, .int y16, .int y31, .ref h8, .ref h9, .ref h10, .ref h11])), (h1, .inr (0, [.ref h12, .int f2, .ref h13, .int f3, .ref h14, .ref h15, .ref h16, .ref h17, .ref h18, .ref h19, .int f4])), (h6, .inl (zI g, 5, .inl R7)), (h7, .inl (zI g, 5, .inl R8)), (h14, .inl (zI g, 5, .inl Z12))] H := hP
            have hD : va_D A [(h8, .inl (zI g, 6, .inl R21)), (h9, .inl (zI g, 6, .inl G3_4)), (h10, .inl (zI g, 6, .inl (upd G1_4 p2.toNatClampNeg y75))), (h11, .inl (zI g, 6, .inl G2_4)), (h13, .inl (zI g, 6, .inl Z11)), (h2, .inl (zI g, 5, .inl Z0)), (h3, .inl (zI g, 5, .inl Z1)), (h4, .inl (zI g, 5, .inl Z2)), (h12, .inl (zI g, 5, .inl Z10)), (h17, .inl (zI g, 20, .inl Z15)), (h0, .inr (2, [.ref h2, .ref h3, .ref h4, .ref h5, .ref h6, .ref h7, .int y16, .int y31, .ref h8, .ref h9, .ref h10, .ref h11])), (h1, .inr (0, [.ref h12, .int f2, .ref h13, .int f3, .ref h14, .ref h15, .ref h16, .ref h17, .ref h18, .ref h19, .int f4])), (h6, .inl (zI g, 5, .inl R7)), (h7, .inl (zI g, 5, .inl R8)), (h14, .inl (zI g, 5, .inl Z12))] := hD
            have hI76 : zNr p2.toInt Z8 (upd G1_4 p2.toNatClampNeg y75) := zNr_put (i := p2) hG1_4 (rfl) (by omega)
            obtain ⟨R77, eR77⟩ : ∃ z : Nat → Int32, z = (upd G1_4 p2.toNatClampNeg y75) := ⟨_, rfl⟩
            rw [← eR77] at hP hD hI76
            have qR77 : (R77 p2.toNatClampNeg).toInt = y75.toInt := z_put eR77 (rfl)
            refine lv_aload_n hx hb dX2_fallLot_247 rfl (lv_at hl 3 rfl) ?_
            refine va_get (D := g.1) (ci := 2) (v := .ref h9) (C := RX2) (T := TX2) (N := 12) hx hb hts zl_X2 hown hK hP 10 rfl rfl 9 (by decide) (hts _ m_f_RX2_40) (fun _ h => h) rfl dX2_fallLot_248 ?_
            refine lv_iload_n hx hb dX2_fallLot_251 rfl (lv_at hl 5 rfl) ?_
            refine lv_dup2_11 hx hb dX2_fallLot_252 rfl rfl ?_
            refine va_iald (D := g.1) hx hb hK hP 1 0 rfl rfl (vp_in_iff.mpr ⟨by omega, by omega⟩) dX2_fallLot_253 ?_
            refine lv_topi (fun y78 ey78 => ?_)
            have qy78_0 : y78.toInt = (G3_4 p2.toNatClampNeg).toInt := congrArg Int32.toInt ey78
            refine lv_iload hx hb dX2_fallLot_254 (lv_at hl 0 rfl) ?_
            refine lv_iload hx hb dX2_fallLot_256 (lv_at hl 9 rfl) ?_
            refine lv_imul hx hb dX2_fallLot_258 ?_
            refine lv_topi (fun y79 ey79 => ?_)
            have py79_0 : y79.toInt = y70.toInt * y19.toInt := zi_mul9 ey79 (rfl) (rfl) (by omega) (by omega) (by omega) (by omega)
            have py79_1 : 0 ≤ y79.toInt := by have := z_mr (x := y70.toInt) (d := y19.toInt) (by omega) (by omega) (by omega) (by omega); omega
            have py79_2 : y79.toInt ≤ 2700 := by have := z_mr (x := y70.toInt) (d := y19.toInt) (by omega) (by omega) (by omega) (by omega); omega
            refine lv_isub hx hb dX2_fallLot_259 ?_
            refine lv_topi (fun y80 ey80 => ?_)
            have qy80_0 : y80.toInt = y78.toInt - y79.toInt := zi_sub ey80 (rfl) (rfl) (by omega) (by omega)
            refine va_iast (D := g.1) hx hb hK hP hD hS 1 0 rfl rfl (vp_in_iff.mpr ⟨by omega, by omega⟩) dX2_fallLot_260 (fun H locs hP hD hS => ?_)
            have hP : va_P g.1 vwCl [(h8, .inl (zI g, 6, .inl R21)), (h9, .inl (zI g, 6, .inl (upd G3_4 p2.toNatClampNeg y80))), (h10, .inl (zI g, 6, .inl R77)), (h11, .inl (zI g, 6, .inl G2_4)), (h13, .inl (zI g, 6, .inl Z11)), (h2, .inl (zI g, 5, .inl Z0)), (h3, .inl (zI g, 5, .inl Z1)), (h4, .inl (zI g, 5, .inl Z2)), (h12, .inl (zI g, 5, .inl Z10)), (h17, .inl (zI g, 20, .inl Z15)), (h0, .inr (2, [.ref h2, .ref h3, .ref h4, .ref h5, .ref h6, .ref h7, .int y16, .int y31, .ref h8, .ref h9, .ref h10, .ref h11])), (h1, .inr (0, [.ref h12, .int f2, .ref h13, .int f3, .ref h14, .ref h15, .ref h16, .ref h17, .ref h18, .ref h19, .int f4])), (h6, .inl (zI g, 5, .inl R7)), (h7, .inl (zI g, 5, .inl R8)), (h14, .inl (zI g, 5, .inl Z12))] H := hP
            have hD : va_D A [(h8, .inl (zI g, 6, .inl R21)), (h9, .inl (zI g, 6, .inl (upd G3_4 p2.toNatClampNeg y80))), (h10, .inl (zI g, 6, .inl R77)), (h11, .inl (zI g, 6, .inl G2_4)), (h13, .inl (zI g, 6, .inl Z11)), (h2, .inl (zI g, 5, .inl Z0)), (h3, .inl (zI g, 5, .inl Z1)), (h4, .inl (zI g, 5, .inl Z2)), (h12, .inl (zI g, 5, .inl Z10)), (h17, .inl (zI g, 20, .inl Z15)), (h0, .inr (2, [.ref h2, .ref h3, .ref h4, .ref h5, .ref h6, .ref h7, .int y16, .int y31, .ref h8, .ref h9, .ref h10, .ref h11])), (h1, .inr (0, [.ref h12, .int f2, .ref h13, .int f3, .ref h14, .ref h15, .ref h16, .ref h17, .ref h18, .ref h19, .int f4])), (h6, .inl (zI g, 5, .inl R7)), (h7, .inl (zI g, 5, .inl R8)), (h14, .inl (zI g, 5, .inl Z12))] := hD
            have hI81 : zNr p2.toInt Z7 (upd G3_4 p2.toNatClampNeg y80) := zNr_put (i := p2) hG3_4 (rfl) (by omega)
            obtain ⟨R82, eR82⟩ : ∃ z : Nat → Int32, z = (upd G3_4 p2.toNatClampNeg y80) := ⟨_, rfl⟩
            rw [← eR82] at hP hD hI81
            have qR82 : (R82 p2.toNatClampNeg).toInt = y80.toInt := z_put eR82 (rfl)
            refine lv_iload hx hb dX2_fallLot_261 (lv_at hl 1 rfl) ?_
            refine lv_if_eq (tgt := 267) hx hb dX2_fallLot_263 (by decide) (fun _ => ?_) (fun h => absurd h (by decide +kernel))
            refine lv_aload_n hx hb dX2_fallLot_267 rfl (lv_at hl 3 rfl) ?_
            refine lv_aload_n hx hb dX2_fallLot_268 rfl (lv_at hl 3 rfl) ?_
            refine lv_aload_n hx hb dX2_fallLot_269 rfl (lv_at hl 4 rfl) ?_
            refine lv_aload_n hx hb dX2_fallLot_270 rfl (lv_at hl 3 rfl) ?_
            refine va_get (D := g.1) (ci := 2) (v := .ref h9) (C := RX2) (T := TX2) (N := 12) hx hb hts zl_X2 hown hK hP 10 rfl rfl 9 (by decide) (hts _ m_f_RX2_40) (fun _ h => h) rfl dX2_fallLot_271 ?_
            refine lv_iload_n hx hb dX2_fallLot_274 rfl (lv_at hl 5 rfl) ?_
            refine va_iald (D := g.1) hx hb hK hP 1 0 rfl rfl (vp_in_iff.mpr ⟨by omega, by omega⟩) dX2_fallLot_275 ?_
            refine lv_topi (fun y83 ey83 => ?_)
            have qy83_0 : y83.toInt = (R82 p2.toNatClampNeg).toInt := congrArg Int32.toInt ey83
            refine lv_aload_n hx hb dX2_fallLot_276 rfl (lv_at hl 3 rfl) ?_
            refine va_get (D := g.1) (ci := 2) (v := .ref h9) (C := RX2) (T := TX2) (N := 12) hx hb hts zl_X2 hown hK hP 10 rfl rfl 9 (by decide) (hts _ m_f_RX2_40) (fun _ h => h) rfl dX2_fallLot_277 ?_
            refine lv_iload_n hx hb dX2_fallLot_280 rfl (lv_at hl 5 rfl) ?_
            refine va_iald (D := g.1) hx hb hK hP 1 0 rfl rfl (vp_in_iff.mpr ⟨by omega, by omega⟩) dX2_fallLot_281 ?_
            refine lv_topi (fun y84 ey84 => ?_)
            have qy84_0 : y84.toInt = (R82 p2.toNatClampNeg).toInt := congrArg Int32.toInt ey84
            refine lv_iload hx hb dX2_fallLot_282 (lv_at hl 9 rfl) ?_
            refine lv_iadd hx hb dX2_fallLot_284 ?_
            refine lv_topi (fun y85 ey85 => ?_)
            have qy85_0 : y85.toInt = y84.toInt + y19.toInt := zi_add ey85 (rfl) (rfl) (by omega) (by omega)
            refine z_calli (wr := [(h8, .inl (zI g, 6, .inl R21)), (h9, .inl (zI g, 6, .inl R82)), (h10, .inl (zI g, 6, .inl R77)), (h11, .inl (zI g, 6, .inl G2_4)), (h13, .inl (zI g, 6, .inl Z11)), (h2, .inl (zI g, 5, .inl Z0)), (h3, .inl (zI g, 5, .inl Z1)), (h4, .inl (zI g, 5, .inl Z2)), (h12, .inl (zI g, 5, .inl Z10)), (h17, .inl (zI g, 20, .inl Z15))]) hP hD hS hA [10, 11, 12, 13, 14] [0, 1, 2, 3, 4, 5, 6, 7, 8, 9] (by decide) rfl rfl (by decide) (va_runV (As := [.ref h1, .int y83, .int y85]) (rest := [.ref h0]) ⟨hx, hb, hml, hown, hts⟩ (gX2_coughsAt l g h0 h1 h2 h3 h4 h5 h6 h7 h8 h9 h10 h11 h12 h13 h14 h15 h16 h17 h18 h19 H.size y83 y85 y16 y31 f2 f3 f4 R7 R8 Z12 (by constructor <;> omega) (by constructor <;> omega) (by constructor <;> omega) hI9.1 hI10.1 hF_Z12) ⟨callB_of 3 hts (zGood m_o_yX2_coughsAt) rfl rfl rfl (hts _ m_z_RX2) (hts _ m_m_RX2_110) ⟨by decide +kernel, by decide +kernel, by decide +kernel⟩ ⟨Nat.le_of_ble_eq_true rfl, Nat.le_of_ble_eq_true rfl⟩, hts _ m_i_yX2_coughsAt, hts _ m_e_yX2_coughsAt⟩ (zPreV hK hN hZ hP hD hS hA [10, 11, 12, 13, 14] (by decide) rfl rfl 2 10 rfl rfl) rfl rfl hl.1 rfl (lv_room (Nat.le_of_ble_eq_true rfl)) dX2_fallLot_285 ⟨Nat.le_of_ble_eq_true rfl, Nat.le_of_ble_eq_true rfl⟩) (fun r u H locs hw hP hD hS => ?_)
            obtain ⟨y86, rfl⟩ : ∃ z, z = r := ⟨_, rfl⟩
            obtain ⟨q87_0, q87_1, q87_2⟩ := hw
            have q87_0 : y86.toInt = zS5 (zCg (zib y16) Z12 (zIv R7) (zIv R8) y83.toInt y85.toInt) := q87_0
            have q87_1 : 0 ≤ y86.toInt := q87_1
            have q87_2 : y86.toInt ≤ 31 := q87_2
            have hP : va_P g.1 vwCl [(h8, .inl (zI g, 6, .inl R21)), (h9, .inl (zI g, 6, .inl R82)), (h10, .inl (zI g, 6, .inl R77)), (h11, .inl (zI g, 6, .inl G2_4)), (h13, .inl (zI g, 6, .inl Z11)), (h2, .inl (zI g, 5, .inl Z0)), (h3, .inl (zI g, 5, .inl Z1)), (h4, .inl (zI g, 5, .inl Z2)), (h12, .inl (zI g, 5, .inl Z10)), (h17, .inl (zI g, 20, .inl Z15)), (h0, .inr (2, [.ref h2, .ref h3, .ref h4, .ref h5, .ref h6, .ref h7, .int y16, .int y31, .ref h8, .ref h9, .ref h10, .ref h11])), (h1, .inr (0, [.ref h12, .int f2, .ref h13, .int f3, .ref h14, .ref h15, .ref h16, .ref h17, .ref h18, .ref h19, .int f4])), (h6, .inl (zI g, 5, .inl R7)), (h7, .inl (zI g, 5, .inl R8)), (h14, .inl (zI g, 5, .inl Z12))] H := hP
            have hD : va_D A [(h8, .inl (zI g, 6, .inl R21)), (h9, .inl (zI g, 6, .inl R82)), (h10, .inl (zI g, 6, .inl R77)), (h11, .inl (zI g, 6, .inl G2_4)), (h13, .inl (zI g, 6, .inl Z11)), (h2, .inl (zI g, 5, .inl Z0)), (h3, .inl (zI g, 5, .inl Z1)), (h4, .inl (zI g, 5, .inl Z2)), (h12, .inl (zI g, 5, .inl Z10)), (h17, .inl (zI g, 20, .inl Z15)), (h0, .inr (2, [.ref h2, .ref h3, .ref h4, .ref h5, .ref h6, .ref h7, .int y16, .int y31, .ref h8, .ref h9, .ref h10, .ref h11])), (h1, .inr (0, [.ref h12, .int f2, .ref h13, .int f3, .ref h14, .ref h15, .ref h16, .ref h17, .ref h18, .ref h19, .int f4])), (h6, .inl (zI g, 5, .inl R7)), (h7, .inl (zI g, 5, .inl R8)), (h14, .inl (zI g, 5, .inl Z12))] := hD
            have hc2 : y86.toInt = zS5 ((zCg (zib y16) Z12 (zIv R7) (zIv R8)) (R82 p2.toNatClampNeg).toInt ((R82 p2.toNatClampNeg).toInt + y19.toInt)) := by
              rw [← (by omega : y83.toInt = (R82 p2.toNatClampNeg).toInt), ← (by omega : y85.toInt = y83.toInt + y19.toInt)]
              omega
            have hgo := zLp_go (st := y17.toInt) (be := (Z10 3).toInt) (br := (G1_4 p2.toNatClampNeg).toInt) (bl := v8_4.toInt) (k := y70.toInt.toNat) (by omega) (show 0 ≤ y18.toInt by omega) (by omega) (show zS5 ((zCg (zib y16) Z12 (zIv R7) (zIv R8)) (G3_4 p2.toNatClampNeg).toInt v7_4.toInt) = 0 by omega) hdn (by rw [hdk]; omega)
            rw [hdk] at hgo
            have hPe : (R82 p2.toNatClampNeg).toInt = (G3_4 p2.toNatClampNeg).toInt - y70.toInt * y19.toInt := by omega
            have hM2 : zRun y17.toInt y18.toInt y19.toInt (Z10 3).toInt (zCg (zib y16) Z12 (zIv R7) (zIv R8)) (R82 p2.toNatClampNeg).toInt ((R82 p2.toNatClampNeg).toInt + y19.toInt) (R77 p2.toNatClampNeg).toInt v8_4.toInt = (zLot Z10 f3.toInt Z12 Z15 (zRw f3.toInt Z0) p3 ((Z11 p2.toNatClampNeg).toInt) (zRw f3.toInt Z1) (zRw f3.toInt Z2)) := by
              rw [hPe, (by omega : (R77 p2.toNatClampNeg).toInt = (G1_4 p2.toNatClampNeg).toInt + y70.toInt), ← hgo.1]
              exact hM9
            have hs2 : zS5 ((zCg (zib y16) Z12 (zIv R7) (zIv R8)) (R82 p2.toNatClampNeg).toInt ((R82 p2.toNatClampNeg).toInt + y19.toInt)) ≠ 0 := by
              rw [hPe]
              exact hgo.2
            refine va_put (D := g.1) (ci := 2) (v := .int y86) (ty := .int) (C := RX2) (T := TX2) (N := 12) hx hb hts zl_X2 tyX2 tyX2_ok nmX2 hown hK hP hD hS 10 rfl rfl 7 (by decide) (hts _ m_f_RX2_34) (fun _ h => h) rfl (by decide +kernel) rfl rfl (Nat.le_of_ble_eq_true rfl) dX2_fallLot_288 (fun H locs hP hD hS => ?_)
            have hP : va_P g.1 vwCl [(h8, .inl (zI g, 6, .inl R21)), (h9, .inl (zI g, 6, .inl R82)), (h10, .inl (zI g, 6, .inl R77)), (h11, .inl (zI g, 6, .inl G2_4)), (h13, .inl (zI g, 6, .inl Z11)), (h2, .inl (zI g, 5, .inl Z0)), (h3, .inl (zI g, 5, .inl Z1)), (h4, .inl (zI g, 5, .inl Z2)), (h12, .inl (zI g, 5, .inl Z10)), (h17, .inl (zI g, 20, .inl Z15)), (h0, .inr (2, [.ref h2, .ref h3, .ref h4, .ref h5, .ref h6, .ref h7, .int y16, .int y86, .ref h8, .ref h9, .ref h10, .ref h11])), (h1, .inr (0, [.ref h12, .int f2, .ref h13, .int f3, .ref h14, .ref h15, .ref h16, .ref h17, .ref h18, .ref h19, .int f4])), (h6, .inl (zI g, 5, .inl R7)), (h7, .inl (zI g, 5, .inl R8)), (h14, .inl (zI g, 5, .inl Z12))] H := hP
            have hD : va_D A [(h8, .inl (zI g, 6, .inl R21)), (h9, .inl (zI g, 6, .inl R82)), (h10, .inl (zI g, 6, .inl R77)), (h11, .inl (zI g, 6, .inl G2_4)), (h13, .inl (zI g, 6, .inl Z11)), (h2, .inl (zI g, 5, .inl Z0)), (h3, .inl (zI g, 5, .inl Z1)), (h4, .inl (zI g, 5, .inl Z2)), (h12, .inl (zI g, 5, .inl Z10)), (h17, .inl (zI g, 20, .inl Z15)), (h0, .inr (2, [.ref h2, .ref h3, .ref h4, .ref h5, .ref h6, .ref h7, .int y16, .int y86, .ref h8, .ref h9, .ref h10, .ref h11])), (h1, .inr (0, [.ref h12, .int f2, .ref h13, .int f3, .ref h14, .ref h15, .ref h16, .ref h17, .ref h18, .ref h19, .int f4])), (h6, .inl (zI g, 5, .inl R7)), (h7, .inl (zI g, 5, .inl R8)), (h14, .inl (zI g, 5, .inl Z12))] := hD
            have hnz : zS5 ((zCg (zib y16) Z12 (zIv R7) (zIv R8)) (R82 p2.toNatClampNeg).toInt ((R82 p2.toNatClampNeg).toInt + y19.toInt)) ≠ 0 := by omega
            refine lv_aload_n hx hb dX2_fallLot_291 rfl (lv_at hl 3 rfl) ?_
            refine va_get (D := g.1) (ci := 2) (v := .int y86) (C := RX2) (T := TX2) (N := 12) hx hb hts zl_X2 hown hK hP 10 rfl rfl 7 (by decide) (hts _ m_f_RX2_34) (fun _ h => h) rfl dX2_fallLot_292 ?_
            refine z_calli (wr := [(h8, .inl (zI g, 6, .inl R21)), (h9, .inl (zI g, 6, .inl R82)), (h10, .inl (zI g, 6, .inl R77)), (h11, .inl (zI g, 6, .inl G2_4)), (h13, .inl (zI g, 6, .inl Z11)), (h2, .inl (zI g, 5, .inl Z0)), (h3, .inl (zI g, 5, .inl Z1)), (h4, .inl (zI g, 5, .inl Z2)), (h12, .inl (zI g, 5, .inl Z10)), (h17, .inl (zI g, 20, .inl Z15)), (h0, .inr (2, [.ref h2, .ref h3, .ref h4, .ref h5, .ref h6, .ref h7, .int y16, .int y86, .ref h8, .ref h9, .ref h10, .ref h11])), (h1, .inr (0, [.ref h12, .int f2, .ref h13, .int f3, .ref h14, .ref h15, .ref h16, .ref h17, .ref h18, .ref h19, .int f4])), (h6, .inl (zI g, 5, .inl R7)), (h7, .inl (zI g, 5, .inl R8)), (h14, .inl (zI g, 5, .inl Z12))]) hP hD hS hA [] [0, 1, 2, 3, 4, 5, 6, 7, 8, 9, 10, 11, 12, 13, 14] (by decide) rfl rfl (by decide) (va_runS (As := [.int y86]) (rest := []) ⟨hx, hb, hml, hown, hts⟩ (gJ6_bitCount_0f7a4 l g  H.size y86) ⟨callB_of 1 hts (zGood m_o_yJ6_bitCount_0f7a4) rfl rfl rfl (hts _ m_z_RJ6) (hts _ m_m_RX2_122) ⟨by decide +kernel, by decide +kernel, by decide +kernel⟩ ⟨Nat.le_of_ble_eq_true rfl, Nat.le_of_ble_eq_true rfl⟩, hts _ m_s_yJ6_bitCount_0f7a4⟩ (zPreS hK hN hZ hP hD hS hA [] (by decide) rfl rfl) rfl rfl hl.1 rfl (lv_room (Nat.le_of_ble_eq_true rfl)) dX2_fallLot_295 ⟨Nat.le_of_ble_eq_true rfl, Nat.le_of_ble_eq_true rfl⟩) (fun r u H locs hw hP hD hS => ?_)
            obtain ⟨y88, rfl⟩ : ∃ z, z = r := ⟨_, rfl⟩
            have q89_0 := hw
            have q89_0 : y88.toInt = (zPop y86).toInt := q89_0
            have hP : va_P g.1 vwCl [(h8, .inl (zI g, 6, .inl R21)), (h9, .inl (zI g, 6, .inl R82)), (h10, .inl (zI g, 6, .inl R77)), (h11, .inl (zI g, 6, .inl G2_4)), (h13, .inl (zI g, 6, .inl Z11)), (h2, .inl (zI g, 5, .inl Z0)), (h3, .inl (zI g, 5, .inl Z1)), (h4, .inl (zI g, 5, .inl Z2)), (h12, .inl (zI g, 5, .inl Z10)), (h17, .inl (zI g, 20, .inl Z15)), (h0, .inr (2, [.ref h2, .ref h3, .ref h4, .ref h5, .ref h6, .ref h7, .int y16, .int y86, .ref h8, .ref h9, .ref h10, .ref h11])), (h1, .inr (0, [.ref h12, .int f2, .ref h13, .int f3, .ref h14, .ref h15, .ref h16, .ref h17, .ref h18, .ref h19, .int f4])), (h6, .inl (zI g, 5, .inl R7)), (h7, .inl (zI g, 5, .inl R8)), (h14, .inl (zI g, 5, .inl Z12))] H := hP
            have hD : va_D A [(h8, .inl (zI g, 6, .inl R21)), (h9, .inl (zI g, 6, .inl R82)), (h10, .inl (zI g, 6, .inl R77)), (h11, .inl (zI g, 6, .inl G2_4)), (h13, .inl (zI g, 6, .inl Z11)), (h2, .inl (zI g, 5, .inl Z0)), (h3, .inl (zI g, 5, .inl Z1)), (h4, .inl (zI g, 5, .inl Z2)), (h12, .inl (zI g, 5, .inl Z10)), (h17, .inl (zI g, 20, .inl Z15)), (h0, .inr (2, [.ref h2, .ref h3, .ref h4, .ref h5, .ref h6, .ref h7, .int y16, .int y86, .ref h8, .ref h9, .ref h10, .ref h11])), (h1, .inr (0, [.ref h12, .int f2, .ref h13, .int f3, .ref h14, .ref h15, .ref h16, .ref h17, .ref h18, .ref h19, .int f4])), (h6, .inl (zI g, 5, .inl R7)), (h7, .inl (zI g, 5, .inl R8)), (h14, .inl (zI g, 5, .inl Z12))] := hD
            have hbc : y88.toInt = zC5 ((zCg (zib y16) Z12 (zIv R7) (zIv R8)) (R82 p2.toNatClampNeg).toInt ((R82 p2.toNatClampNeg).toInt + y19.toInt)) := by
              have := zPop_S (x := y86) zCg_01 hc2
              omega
            refine lv_iconst (v := 1) hx hb dX2_fallLot_298 (by decide) ?_
            refine lv_icmp_ne (tgt := 306) hx hb dX2_fallLot_299 (by decide) (fun c_11 => ?_) (fun c_11 => ?_)
            · have i_11 : y88.toInt ≠ 1 := z_ne (rfl) (rfl) c_11
              refine lv_iconst (v := 0) hx hb dX2_fallLot_306 (by decide) ?_
              refine lv_istore (lv' := [(9, .int 0), (10, .int y70), (11, .int 0), (0, .ref h0), (1, .ref h1), (2, .int p2), (3, .int p3), (4, .int y17), (5, .int y18), (6, .int y19), (7, .int v7_4), (8, .int v8_4)]) hx hb dX2_fallLot_307 hl (by decide) rfl (fun ls hl => ?_)
              refine lv_iload hx hb dX2_fallLot_309 (lv_at hl 0 rfl) ?_
              refine lv_if_ne (tgt := 329) hx hb dX2_fallLot_311 (by decide) (fun h => absurd h (by decide +kernel)) (fun _ => ?_)
              refine lv_aload_n hx hb dX2_fallLot_314 rfl (lv_at hl 4 rfl) ?_
              refine va_getN (D := g.1) (ci := 0) (v := .ref h12) (C := RX0) (T := TX0) (N := 11) hx hb hts zl_X0 hown hK hP 11 rfl rfl 0 (by decide) (hN.f 2 (q := (RX2, 107, "FishSteps$Books", "law", "[I")) rfl) (fun _ h => h) rfl dX2_fallLot_315 ?_
              refine lv_iconst (v := 3) hx hb dX2_fallLot_318 (by decide) ?_
              refine va_iald (D := g.1) hx hb hK hP 8 0 rfl rfl (vp_in_iff.mpr (by decide +kernel)) dX2_fallLot_319 ?_
              refine lv_topi (fun y90 ey90 => ?_)
              have qy90_0 : 0 ≤ y90.toInt := (iLaw_n (lo := 0) (hi := 1) (i := (3 : Int32)) (a := 3) hF_Z10 (rfl) (by omega) (by omega) ey90 (by decide) (by decide)).1
              have qy90_1 : y90.toInt ≤ 1 := (iLaw_n (lo := 0) (hi := 1) (i := (3 : Int32)) (a := 3) hF_Z10 (rfl) (by omega) (by omega) ey90 (by decide) (by decide)).2
              have qy90_2 : y90.toInt = (Z10 3).toInt := congrArg Int32.toInt ey90
              refine lv_if_eq (tgt := 329) hx hb dX2_fallLot_320 (by decide) (fun c_12 => ?_) (fun c_12 => ?_)
              · have i_12 : y90.toInt = 0 := z_eq (rfl) (rfl) c_12
                refine lv_aload_n hx hb dX2_fallLot_329 rfl (lv_at hl 3 rfl) ?_
                refine va_get (D := g.1) (ci := 2) (v := .ref h8) (C := RX2) (T := TX2) (N := 12) hx hb hts zl_X2 hown hK hP 10 rfl rfl 8 (by decide) (hts _ m_f_RX2_37) (fun _ h => h) rfl dX2_fallLot_330 ?_
                refine lv_iload_n hx hb dX2_fallLot_333 rfl (lv_at hl 5 rfl) ?_
                refine lv_aload_n hx hb dX2_fallLot_334 rfl (lv_at hl 3 rfl) ?_
                refine va_get (D := g.1) (ci := 2) (v := .int y86) (C := RX2) (T := TX2) (N := 12) hx hb hts zl_X2 hown hK hP 10 rfl rfl 7 (by decide) (hts _ m_f_RX2_34) (fun _ h => h) rfl dX2_fallLot_335 ?_
                refine z_calli (wr := [(h8, .inl (zI g, 6, .inl R21)), (h9, .inl (zI g, 6, .inl R82)), (h10, .inl (zI g, 6, .inl R77)), (h11, .inl (zI g, 6, .inl G2_4)), (h13, .inl (zI g, 6, .inl Z11)), (h2, .inl (zI g, 5, .inl Z0)), (h3, .inl (zI g, 5, .inl Z1)), (h4, .inl (zI g, 5, .inl Z2)), (h12, .inl (zI g, 5, .inl Z10)), (h17, .inl (zI g, 20, .inl Z15)), (h0, .inr (2, [.ref h2, .ref h3, .ref h4, .ref h5, .ref h6, .ref h7, .int y16, .int y86, .ref h8, .ref h9, .ref h10, .ref h11])), (h1, .inr (0, [.ref h12, .int f2, .ref h13, .int f3, .ref h14, .ref h15, .ref h16, .ref h17, .ref h18, .ref h19, .int f4])), (h6, .inl (zI g, 5, .inl R7)), (h7, .inl (zI g, 5, .inl R8)), (h14, .inl (zI g, 5, .inl Z12))]) hP hD hS hA [] [0, 1, 2, 3, 4, 5, 6, 7, 8, 9, 10, 11, 12, 13, 14] (by decide) rfl rfl (by decide) (va_runS (As := [.int y86]) (rest := [.int p2, .ref h8]) ⟨hx, hb, hml, hown, hts⟩ (gX2_firstOf l g  H.size y86) ⟨callB_of 1 hts (zGood m_o_yX2_firstOf) rfl rfl rfl (hts _ m_z_RX2) (hts _ m_m_RX2_128) ⟨by decide +kernel, by decide +kernel, by decide +kernel⟩ ⟨Nat.le_of_ble_eq_true rfl, Nat.le_of_ble_eq_true rfl⟩, hts _ m_s_yX2_firstOf⟩ (zPreS hK hN hZ hP hD hS hA [] (by decide) rfl rfl) rfl rfl hl.1 rfl (lv_room (Nat.le_of_ble_eq_true rfl)) dX2_fallLot_338 ⟨Nat.le_of_ble_eq_true rfl, Nat.le_of_ble_eq_true rfl⟩) (fun r u H locs hw hP hD hS => ?_)
                obtain ⟨y91, rfl⟩ : ∃ z, z = r := ⟨_, rfl⟩
                obtain ⟨q92_0, q92_1, q92_2⟩ := hw
                have q92_0 : y91.toInt = zF5 (zib y86) := q92_0
                have q92_1 : -1 ≤ y91.toInt := q92_1
                have q92_2 : y91.toInt ≤ 4 := q92_2
                have hP : va_P g.1 vwCl [(h8, .inl (zI g, 6, .inl R21)), (h9, .inl (zI g, 6, .inl R82)), (h10, .inl (zI g, 6, .inl R77)), (h11, .inl (zI g, 6, .inl G2_4)), (h13, .inl (zI g, 6, .inl Z11)), (h2, .inl (zI g, 5, .inl Z0)), (h3, .inl (zI g, 5, .inl Z1)), (h4, .inl (zI g, 5, .inl Z2)), (h12, .inl (zI g, 5, .inl Z10)), (h17, .inl (zI g, 20, .inl Z15)), (h0, .inr (2, [.ref h2, .ref h3, .ref h4, .ref h5, .ref h6, .ref h7, .int y16, .int y86, .ref h8, .ref h9, .ref h10, .ref h11])), (h1, .inr (0, [.ref h12, .int f2, .ref h13, .int f3, .ref h14, .ref h15, .ref h16, .ref h17, .ref h18, .ref h19, .int f4])), (h6, .inl (zI g, 5, .inl R7)), (h7, .inl (zI g, 5, .inl R8)), (h14, .inl (zI g, 5, .inl Z12))] H := hP
                have hD : va_D A [(h8, .inl (zI g, 6, .inl R21)), (h9, .inl (zI g, 6, .inl R82)), (h10, .inl (zI g, 6, .inl R77)), (h11, .inl (zI g, 6, .inl G2_4)), (h13, .inl (zI g, 6, .inl Z11)), (h2, .inl (zI g, 5, .inl Z0)), (h3, .inl (zI g, 5, .inl Z1)), (h4, .inl (zI g, 5, .inl Z2)), (h12, .inl (zI g, 5, .inl Z10)), (h17, .inl (zI g, 20, .inl Z15)), (h0, .inr (2, [.ref h2, .ref h3, .ref h4, .ref h5, .ref h6, .ref h7, .int y16, .int y86, .ref h8, .ref h9, .ref h10, .ref h11])), (h1, .inr (0, [.ref h12, .int f2, .ref h13, .int f3, .ref h14, .ref h15, .ref h16, .ref h17, .ref h18, .ref h19, .int f4])), (h6, .inl (zI g, 5, .inl R7)), (h7, .inl (zI g, 5, .inl R8)), (h14, .inl (zI g, 5, .inl Z12))] := hD
                have hff : y91.toInt = zF5 ((zCg (zib y16) Z12 (zIv R7) (zIv R8)) (R82 p2.toNatClampNeg).toInt ((R82 p2.toNatClampNeg).toInt + y19.toInt)) := by
                  have := (zS5_ext (f := zib y86) (g := (zCg (zib y16) Z12 (zIv R7) (zIv R8)) (R82 p2.toNatClampNeg).toInt ((R82 p2.toNatClampNeg).toInt + y19.toInt)) (fun b hb => zib_of hc2 zCg_01 hb)).2.2
                  omega
                refine va_iast (D := g.1) hx hb hK hP hD hS 0 0 rfl rfl (vp_in_iff.mpr ⟨by omega, by omega⟩) dX2_fallLot_341 (fun H locs hP hD hS => ?_)
                have hP : va_P g.1 vwCl [(h8, .inl (zI g, 6, .inl (upd R21 p2.toNatClampNeg y91))), (h9, .inl (zI g, 6, .inl R82)), (h10, .inl (zI g, 6, .inl R77)), (h11, .inl (zI g, 6, .inl G2_4)), (h13, .inl (zI g, 6, .inl Z11)), (h2, .inl (zI g, 5, .inl Z0)), (h3, .inl (zI g, 5, .inl Z1)), (h4, .inl (zI g, 5, .inl Z2)), (h12, .inl (zI g, 5, .inl Z10)), (h17, .inl (zI g, 20, .inl Z15)), (h0, .inr (2, [.ref h2, .ref h3, .ref h4, .ref h5, .ref h6, .ref h7, .int y16, .int y86, .ref h8, .ref h9, .ref h10, .ref h11])), (h1, .inr (0, [.ref h12, .int f2, .ref h13, .int f3, .ref h14, .ref h15, .ref h16, .ref h17, .ref h18, .ref h19, .int f4])), (h6, .inl (zI g, 5, .inl R7)), (h7, .inl (zI g, 5, .inl R8)), (h14, .inl (zI g, 5, .inl Z12))] H := hP
                have hD : va_D A [(h8, .inl (zI g, 6, .inl (upd R21 p2.toNatClampNeg y91))), (h9, .inl (zI g, 6, .inl R82)), (h10, .inl (zI g, 6, .inl R77)), (h11, .inl (zI g, 6, .inl G2_4)), (h13, .inl (zI g, 6, .inl Z11)), (h2, .inl (zI g, 5, .inl Z0)), (h3, .inl (zI g, 5, .inl Z1)), (h4, .inl (zI g, 5, .inl Z2)), (h12, .inl (zI g, 5, .inl Z10)), (h17, .inl (zI g, 20, .inl Z15)), (h0, .inr (2, [.ref h2, .ref h3, .ref h4, .ref h5, .ref h6, .ref h7, .int y16, .int y86, .ref h8, .ref h9, .ref h10, .ref h11])), (h1, .inr (0, [.ref h12, .int f2, .ref h13, .int f3, .ref h14, .ref h15, .ref h16, .ref h17, .ref h18, .ref h19, .int f4])), (h6, .inl (zI g, 5, .inl R7)), (h7, .inl (zI g, 5, .inl R8)), (h14, .inl (zI g, 5, .inl Z12))] := hD
                have hI93 : zNr p2.toInt Z6 (upd R21 p2.toNatClampNeg y91) := zNr_put (i := p2) hI20 (rfl) (by omega)
                obtain ⟨R94, eR94⟩ : ∃ z : Nat → Int32, z = (upd R21 p2.toNatClampNeg y91) := ⟨_, rfl⟩
                rw [← eR94] at hP hD hI93
                have qR94 : (R94 p2.toNatClampNeg).toInt = y91.toInt := z_put eR94 (rfl)
                have hO : (zLot Z10 f3.toInt Z12 Z15 (zRw f3.toInt Z0) p3 ((Z11 p2.toNatClampNeg).toInt) (zRw f3.toInt Z1) (zRw f3.toInt Z2)) = (zF5 ((zCg (zib y16) Z12 (zIv R7) (zIv R8)) (R82 p2.toNatClampNeg).toInt ((R82 p2.toNatClampNeg).toInt + y19.toInt)), (R82 p2.toNatClampNeg).toInt, (R77 p2.toNatClampNeg).toInt, v8_4.toInt) := by
                  rw [← hM2]
                  exact zRun_had (by omega) hnz (by omega)
                have ho1 : (zLot Z10 f3.toInt Z12 Z15 (zRw f3.toInt Z0) p3 ((Z11 p2.toNatClampNeg).toInt) (zRw f3.toInt Z1) (zRw f3.toInt Z2)).1 = zF5 ((zCg (zib y16) Z12 (zIv R7) (zIv R8)) (R82 p2.toNatClampNeg).toInt ((R82 p2.toNatClampNeg).toInt + y19.toInt)) := by rw [hO]
                have ho2 : (zLot Z10 f3.toInt Z12 Z15 (zRw f3.toInt Z0) p3 ((Z11 p2.toNatClampNeg).toInt) (zRw f3.toInt Z1) (zRw f3.toInt Z2)).2.1 = (R82 p2.toNatClampNeg).toInt := by rw [hO]
                have ho3 : (zLot Z10 f3.toInt Z12 Z15 (zRw f3.toInt Z0) p3 ((Z11 p2.toNatClampNeg).toInt) (zRw f3.toInt Z1) (zRw f3.toInt Z2)).2.2.1 = (R77 p2.toNatClampNeg).toInt := by rw [hO]
                have ho4 : (zLot Z10 f3.toInt Z12 Z15 (zRw f3.toInt Z0) p3 ((Z11 p2.toNatClampNeg).toInt) (zRw f3.toInt Z1) (zRw f3.toInt Z2)).2.2.2 = v8_4.toInt := by rw [hO]
                have hP9 := hP.sub (ws' := [(h0, .inr (2, [.ref h2, .ref h3, .ref h4, .ref h5, .ref h6, .ref h7, .int y16, .int y86, .ref h8, .ref h9, .ref h10, .ref h11])), (h1, .inr (0, [.ref h12, .int f2, .ref h13, .int f3, .ref h14, .ref h15, .ref h16, .ref h17, .ref h18, .ref h19, .int f4])), (h2, .inl (zI g, 5, .inl Z0)), (h3, .inl (zI g, 5, .inl Z1)), (h4, .inl (zI g, 5, .inl Z2)), (h6, .inl (zI g, 5, .inl R7)), (h7, .inl (zI g, 5, .inl R8)), (h8, .inl (zI g, 6, .inl R94)), (h9, .inl (zI g, 6, .inl R82)), (h10, .inl (zI g, 6, .inl R77)), (h11, .inl (zI g, 6, .inl G2_4)), (h12, .inl (zI g, 5, .inl Z10)), (h13, .inl (zI g, 6, .inl Z11)), (h14, .inl (zI g, 5, .inl Z12)), (h17, .inl (zI g, 20, .inl Z15))]) [10, 11, 5, 6, 7, 12, 13, 0, 1, 2, 3, 8, 4, 14, 9] rfl
                have hD9 := hD.sub (ws' := [(h0, .inr (2, [.ref h2, .ref h3, .ref h4, .ref h5, .ref h6, .ref h7, .int y16, .int y86, .ref h8, .ref h9, .ref h10, .ref h11])), (h1, .inr (0, [.ref h12, .int f2, .ref h13, .int f3, .ref h14, .ref h15, .ref h16, .ref h17, .ref h18, .ref h19, .int f4])), (h2, .inl (zI g, 5, .inl Z0)), (h3, .inl (zI g, 5, .inl Z1)), (h4, .inl (zI g, 5, .inl Z2)), (h6, .inl (zI g, 5, .inl R7)), (h7, .inl (zI g, 5, .inl R8)), (h8, .inl (zI g, 6, .inl R94)), (h9, .inl (zI g, 6, .inl R82)), (h10, .inl (zI g, 6, .inl R77)), (h11, .inl (zI g, 6, .inl G2_4)), (h12, .inl (zI g, 5, .inl Z10)), (h13, .inl (zI g, 6, .inl Z11)), (h14, .inl (zI g, 5, .inl Z12)), (h17, .inl (zI g, 20, .inl Z15))]) [10, 11, 5, 6, 7, 12, 13, 0, 1, 2, 3, 8, 4, 14, 9] (by decide) rfl
                exact W.vret hx hb hr (fun t ht hW => ⟨⟨⟨y16, y86, R7, R8, R94, R82, R77, G2_4⟩, rfl, ⟨⟨(show (R94 p2.toNatClampNeg).toInt = (zLot Z10 f3.toInt Z12 Z15 (zRw f3.toInt Z0) p3 ((Z11 p2.toNatClampNeg).toInt) (zRw f3.toInt Z1) (zRw f3.toInt Z2)).1 from by first | omega | decide), (show (0 ≤ (zLot Z10 f3.toInt Z12 Z15 (zRw f3.toInt Z0) p3 ((Z11 p2.toNatClampNeg).toInt) (zRw f3.toInt Z1) (zRw f3.toInt Z2)).1 → (R82 p2.toNatClampNeg).toInt = (zLot Z10 f3.toInt Z12 Z15 (zRw f3.toInt Z0) p3 ((Z11 p2.toNatClampNeg).toInt) (zRw f3.toInt Z1) (zRw f3.toInt Z2)).2.1) from by first | omega | decide), (show (R77 p2.toNatClampNeg).toInt = (zLot Z10 f3.toInt Z12 Z15 (zRw f3.toInt Z0) p3 ((Z11 p2.toNatClampNeg).toInt) (zRw f3.toInt Z1) (zRw f3.toInt Z2)).2.2.1 from by first | omega | decide), (show (G2_4 p2.toNatClampNeg).toInt = (zLot Z10 f3.toInt Z12 Z15 (zRw f3.toInt Z0) p3 ((Z11 p2.toNatClampNeg).toInt) (zRw f3.toInt Z1) (zRw f3.toInt Z2)).2.2.2 from by first | omega | decide)⟩, hI9.1, hI10.1, hI93, hI81, hI76, hG2_4⟩, by rw [ht]; exact hP9, hD9⟩, hS.F ht⟩) hS.2.2 dX2_fallLot_342
              · have i_12 : y90.toInt ≠ 0 := z_ne (rfl) (rfl) c_12
                refine lv_iload hx hb dX2_fallLot_323 (lv_at hl 11 rfl) ?_
                refine lv_iconst (v := 3) hx hb dX2_fallLot_325 (by decide) ?_
                refine lv_icmp_ne (tgt := 343) hx hb dX2_fallLot_326 (by decide) (fun c_13 => ?_) (fun c_13 => ?_)
                · have i_13 : v8_4.toInt ≠ 3 := z_ne (rfl) (rfl) c_13
                  refine lv_aload_n hx hb dX2_fallLot_343 rfl (lv_at hl 3 rfl) ?_
                  refine va_get (D := g.1) (ci := 2) (v := .ref h11) (C := RX2) (T := TX2) (N := 12) hx hb hts zl_X2 hown hK hP 10 rfl rfl 11 (by decide) (hts _ m_f_RX2_46) (fun _ h => h) rfl dX2_fallLot_344 ?_
                  refine lv_iload_n hx hb dX2_fallLot_347 rfl (lv_at hl 5 rfl) ?_
                  refine lv_dup2_11 hx hb dX2_fallLot_348 rfl rfl ?_
                  refine va_iald (D := g.1) hx hb hK hP 3 0 rfl rfl (vp_in_iff.mpr ⟨by omega, by omega⟩) dX2_fallLot_349 ?_
                  refine lv_topi (fun y95 ey95 => ?_)
                  have qy95_0 : y95.toInt = (G2_4 p2.toNatClampNeg).toInt := congrArg Int32.toInt ey95
                  refine lv_iconst (v := 1) hx hb dX2_fallLot_350 (by decide) ?_
                  refine lv_iadd hx hb dX2_fallLot_351 ?_
                  refine lv_topi (fun y96 ey96 => ?_)
                  have qy96_0 : y96.toInt = y95.toInt + 1 := zi_add ey96 (rfl) (rfl) (by omega) (by omega)
                  refine va_iast (D := g.1) hx hb hK hP hD hS 3 0 rfl rfl (vp_in_iff.mpr ⟨by omega, by omega⟩) dX2_fallLot_352 (fun H locs hP hD hS => ?_)
                  have hP : va_P g.1 vwCl [(h8, .inl (zI g, 6, .inl R21)), (h9, .inl (zI g, 6, .inl R82)), (h10, .inl (zI g, 6, .inl R77)), (h11, .inl (zI g, 6, .inl (upd G2_4 p2.toNatClampNeg y96))), (h13, .inl (zI g, 6, .inl Z11)), (h2, .inl (zI g, 5, .inl Z0)), (h3, .inl (zI g, 5, .inl Z1)), (h4, .inl (zI g, 5, .inl Z2)), (h12, .inl (zI g, 5, .inl Z10)), (h17, .inl (zI g, 20, .inl Z15)), (h0, .inr (2, [.ref h2, .ref h3, .ref h4, .ref h5, .ref h6, .ref h7, .int y16, .int y86, .ref h8, .ref h9, .ref h10, .ref h11])), (h1, .inr (0, [.ref h12, .int f2, .ref h13, .int f3, .ref h14, .ref h15, .ref h16, .ref h17, .ref h18, .ref h19, .int f4])), (h6, .inl (zI g, 5, .inl R7)), (h7, .inl (zI g, 5, .inl R8)), (h14, .inl (zI g, 5, .inl Z12))] H := hP
                  have hD : va_D A [(h8, .inl (zI g, 6, .inl R21)), (h9, .inl (zI g, 6, .inl R82)), (h10, .inl (zI g, 6, .inl R77)), (h11, .inl (zI g, 6, .inl (upd G2_4 p2.toNatClampNeg y96))), (h13, .inl (zI g, 6, .inl Z11)), (h2, .inl (zI g, 5, .inl Z0)), (h3, .inl (zI g, 5, .inl Z1)), (h4, .inl (zI g, 5, .inl Z2)), (h12, .inl (zI g, 5, .inl Z10)), (h17, .inl (zI g, 20, .inl Z15)), (h0, .inr (2, [.ref h2, .ref h3, .ref h4, .ref h5, .ref h6, .ref h7, .int y16, .int y86, .ref h8, .ref h9, .ref h10, .ref h11])), (h1, .inr (0, [.ref h12, .int f2, .ref h13, .int f3, .ref h14, .ref h15, .ref h16, .ref h17, .ref h18, .ref h19, .int f4])), (h6, .inl (zI g, 5, .inl R7)), (h7, .inl (zI g, 5, .inl R8)), (h14, .inl (zI g, 5, .inl Z12))] := hD
                  have hI97 : zNr p2.toInt Z9 (upd G2_4 p2.toNatClampNeg y96) := zNr_put (i := p2) hG2_4 (rfl) (by omega)
                  obtain ⟨R98, eR98⟩ : ∃ z : Nat → Int32, z = (upd G2_4 p2.toNatClampNeg y96) := ⟨_, rfl⟩
                  rw [← eR98] at hP hD hI97
                  have qR98 : (R98 p2.toNatClampNeg).toInt = y96.toInt := z_put eR98 (rfl)
                  refine lv_aload_n hx hb dX2_fallLot_353 rfl (lv_at hl 3 rfl) ?_
                  refine va_get (D := g.1) (ci := 2) (v := .ref h10) (C := RX2) (T := TX2) (N := 12) hx hb hts zl_X2 hown hK hP 10 rfl rfl 10 (by decide) (hts _ m_f_RX2_43) (fun _ h => h) rfl dX2_fallLot_354 ?_
                  refine lv_iload_n hx hb dX2_fallLot_357 rfl (lv_at hl 5 rfl) ?_
                  refine lv_dup2_11 hx hb dX2_fallLot_358 rfl rfl ?_
                  refine va_iald (D := g.1) hx hb hK hP 2 0 rfl rfl (vp_in_iff.mpr ⟨by omega, by omega⟩) dX2_fallLot_359 ?_
                  refine lv_topi (fun y99 ey99 => ?_)
                  have qy99_0 : y99.toInt = (R77 p2.toNatClampNeg).toInt := congrArg Int32.toInt ey99
                  refine lv_iconst (v := 1) hx hb dX2_fallLot_360 (by decide) ?_
                  refine lv_iadd hx hb dX2_fallLot_361 ?_
                  refine lv_topi (fun y100 ey100 => ?_)
                  have qy100_0 : y100.toInt = y99.toInt + 1 := zi_add ey100 (rfl) (rfl) (by omega) (by omega)
                  refine va_iast (D := g.1) hx hb hK hP hD hS 2 0 rfl rfl (vp_in_iff.mpr ⟨by omega, by omega⟩) dX2_fallLot_362 (fun H locs hP hD hS => ?_)
                  have hP : va_P g.1 vwCl [(h8, .inl (zI g, 6, .inl R21)), (h9, .inl (zI g, 6, .inl R82)), (h10, .inl (zI g, 6, .inl (upd R77 p2.toNatClampNeg y100))), (h11, .inl (zI g, 6, .inl R98)), (h13, .inl (zI g, 6, .inl Z11)), (h2, .inl (zI g, 5, .inl Z0)), (h3, .inl (zI g, 5, .inl Z1)), (h4, .inl (zI g, 5, .inl Z2)), (h12, .inl (zI g, 5, .inl Z10)), (h17, .inl (zI g, 20, .inl Z15)), (h0, .inr (2, [.ref h2, .ref h3, .ref h4, .ref h5, .ref h6, .ref h7, .int y16, .int y86, .ref h8, .ref h9, .ref h10, .ref h11])), (h1, .inr (0, [.ref h12, .int f2, .ref h13, .int f3, .ref h14, .ref h15, .ref h16, .ref h17, .ref h18, .ref h19, .int f4])), (h6, .inl (zI g, 5, .inl R7)), (h7, .inl (zI g, 5, .inl R8)), (h14, .inl (zI g, 5, .inl Z12))] H := hP
                  have hD : va_D A [(h8, .inl (zI g, 6, .inl R21)), (h9, .inl (zI g, 6, .inl R82)), (h10, .inl (zI g, 6, .inl (upd R77 p2.toNatClampNeg y100))), (h11, .inl (zI g, 6, .inl R98)), (h13, .inl (zI g, 6, .inl Z11)), (h2, .inl (zI g, 5, .inl Z0)), (h3, .inl (zI g, 5, .inl Z1)), (h4, .inl (zI g, 5, .inl Z2)), (h12, .inl (zI g, 5, .inl Z10)), (h17, .inl (zI g, 20, .inl Z15)), (h0, .inr (2, [.ref h2, .ref h3, .ref h4, .ref h5, .ref h6, .ref h7, .int y16, .int y86, .ref h8, .ref h9, .ref h10, .ref h11])), (h1, .inr (0, [.ref h12, .int f2, .ref h13, .int f3, .ref h14, .ref h15, .ref h16, .ref h17, .ref h18, .ref h19, .int f4])), (h6, .inl (zI g, 5, .inl R7)), (h7, .inl (zI g, 5, .inl R8)), (h14, .inl (zI g, 5, .inl Z12))] := hD
                  have hI101 : zNr p2.toInt Z8 (upd R77 p2.toNatClampNeg y100) := zNr_put (i := p2) hI76 (rfl) (by omega)
                  obtain ⟨R102, eR102⟩ : ∃ z : Nat → Int32, z = (upd R77 p2.toNatClampNeg y100) := ⟨_, rfl⟩
                  rw [← eR102] at hP hD hI101
                  have qR102 : (R102 p2.toNatClampNeg).toInt = y100.toInt := z_put eR102 (rfl)
                  refine lv_aload_n hx hb dX2_fallLot_363 rfl (lv_at hl 3 rfl) ?_
                  refine va_get (D := g.1) (ci := 2) (v := .ref h9) (C := RX2) (T := TX2) (N := 12) hx hb hts zl_X2 hown hK hP 10 rfl rfl 9 (by decide) (hts _ m_f_RX2_40) (fun _ h => h) rfl dX2_fallLot_364 ?_
                  refine lv_iload_n hx hb dX2_fallLot_367 rfl (lv_at hl 5 rfl) ?_
                  refine va_iald (D := g.1) hx hb hK hP 1 0 rfl rfl (vp_in_iff.mpr ⟨by omega, by omega⟩) dX2_fallLot_368 ?_
                  refine lv_topi (fun y103 ey103 => ?_)
                  have qy103_0 : y103.toInt = (R82 p2.toNatClampNeg).toInt := congrArg Int32.toInt ey103
                  refine lv_istore (lv' := [(7, .int y103), (9, .int 0), (10, .int y70), (11, .int 0), (0, .ref h0), (1, .ref h1), (2, .int p2), (3, .int p3), (4, .int y17), (5, .int y18), (6, .int y19), (8, .int v8_4)]) hx hb dX2_fallLot_369 hl (by decide) rfl (fun ls hl => ?_)
                  refine lv_aload_n hx hb dX2_fallLot_371 rfl (lv_at hl 4 rfl) ?_
                  refine va_get (D := g.1) (ci := 2) (v := .ref h9) (C := RX2) (T := TX2) (N := 12) hx hb hts zl_X2 hown hK hP 10 rfl rfl 9 (by decide) (hts _ m_f_RX2_40) (fun _ h => h) rfl dX2_fallLot_372 ?_
                  refine lv_iload_n hx hb dX2_fallLot_375 rfl (lv_at hl 6 rfl) ?_
                  refine lv_iload hx hb dX2_fallLot_376 (lv_at hl 8 rfl) ?_
                  refine lv_aload_n hx hb dX2_fallLot_378 rfl (lv_at hl 4 rfl) ?_
                  refine va_get (D := g.1) (ci := 2) (v := .ref h9) (C := RX2) (T := TX2) (N := 12) hx hb hts zl_X2 hown hK hP 10 rfl rfl 9 (by decide) (hts _ m_f_RX2_40) (fun _ h => h) rfl dX2_fallLot_379 ?_
                  refine lv_iload_n hx hb dX2_fallLot_382 rfl (lv_at hl 6 rfl) ?_
                  refine va_iald (D := g.1) hx hb hK hP 1 0 rfl rfl (vp_in_iff.mpr ⟨by omega, by omega⟩) dX2_fallLot_383 ?_
                  refine lv_topi (fun y104 ey104 => ?_)
                  have qy104_0 : y104.toInt = (R82 p2.toNatClampNeg).toInt := congrArg Int32.toInt ey104
                  refine lv_bipush (v := 9) hx hb dX2_fallLot_384 (by decide) ?_
                  refine lv_iadd hx hb dX2_fallLot_386 ?_
                  refine lv_topi (fun y105 ey105 => ?_)
                  have qy105_0 : y105.toInt = y104.toInt + 9 := zi_add ey105 (rfl) (rfl) (by omega) (by omega)
                  refine va_mmin hx hb (hml.trans hl.1.symm) hown (hts _ m_m_RX2_131) (hts _ m_s_Lib_Math_min_name) (hts _ m_z_RJ9) (hts _ m_o_Lib_Math_min_name) (Nat.le_of_ble_eq_true rfl) (Nat.le_of_ble_eq_true rfl) (Nat.le_of_ble_eq_true rfl) (Nat.le_of_ble_eq_true rfl) dX2_fallLot_387 ?_
                  refine lv_topi (fun y106 ey106 => ?_)
                  have qy106_0 : y106.toInt ≤ y17.toInt := (zi_min ey106 (rfl) (rfl)).1
                  have qy106_1 : y106.toInt ≤ y105.toInt := (zi_min ey106 (rfl) (rfl)).2.1
                  have qy106_2 : y106.toInt = y17.toInt ∨ y106.toInt = y105.toInt := (zi_min ey106 (rfl) (rfl)).2.2
                  refine va_iast (D := g.1) hx hb hK hP hD hS 1 0 rfl rfl (vp_in_iff.mpr ⟨by omega, by omega⟩) dX2_fallLot_390 (fun H locs hP hD hS => ?_)
                  have hP : va_P g.1 vwCl [(h8, .inl (zI g, 6, .inl R21)), (h9, .inl (zI g, 6, .inl (upd R82 p2.toNatClampNeg y106))), (h10, .inl (zI g, 6, .inl R102)), (h11, .inl (zI g, 6, .inl R98)), (h13, .inl (zI g, 6, .inl Z11)), (h2, .inl (zI g, 5, .inl Z0)), (h3, .inl (zI g, 5, .inl Z1)), (h4, .inl (zI g, 5, .inl Z2)), (h12, .inl (zI g, 5, .inl Z10)), (h17, .inl (zI g, 20, .inl Z15)), (h0, .inr (2, [.ref h2, .ref h3, .ref h4, .ref h5, .ref h6, .ref h7, .int y16, .int y86, .ref h8, .ref h9, .ref h10, .ref h11])), (h1, .inr (0, [.ref h12, .int f2, .ref h13, .int f3, .ref h14, .ref h15, .ref h16, .ref h17, .ref h18, .ref h19, .int f4])), (h6, .inl (zI g, 5, .inl R7)), (h7, .inl (zI g, 5, .inl R8)), (h14, .inl (zI g, 5, .inl Z12))] H := hP
                  have hD : va_D A [(h8, .inl (zI g, 6, .inl R21)), (h9, .inl (zI g, 6, .inl (upd R82 p2.toNatClampNeg y106))), (h10, .inl (zI g, 6, .inl R102)), (h11, .inl (zI g, 6, .inl R98)), (h13, .inl (zI g, 6, .inl Z11)), (h2, .inl (zI g, 5, .inl Z0)), (h3, .inl (zI g, 5, .inl Z1)), (h4, .inl (zI g, 5, .inl Z2)), (h12, .inl (zI g, 5, .inl Z10)), (h17, .inl (zI g, 20, .inl Z15)), (h0, .inr (2, [.ref h2, .ref h3, .ref h4, .ref h5, .ref h6, .ref h7, .int y16, .int y86, .ref h8, .ref h9, .ref h10, .ref h11])), (h1, .inr (0, [.ref h12, .int f2, .ref h13, .int f3, .ref h14, .ref h15, .ref h16, .ref h17, .ref h18, .ref h19, .int f4])), (h6, .inl (zI g, 5, .inl R7)), (h7, .inl (zI g, 5, .inl R8)), (h14, .inl (zI g, 5, .inl Z12))] := hD
                  have hI107 : zNr p2.toInt Z7 (upd R82 p2.toNatClampNeg y106) := zNr_put (i := p2) hI81 (rfl) (by omega)
                  obtain ⟨R108, eR108⟩ : ∃ z : Nat → Int32, z = (upd R82 p2.toNatClampNeg y106) := ⟨_, rfl⟩
                  rw [← eR108] at hP hD hI107
                  have qR108 : (R108 p2.toNatClampNeg).toInt = y106.toInt := z_put eR108 (rfl)
                  have hMn : zRun y17.toInt y18.toInt y19.toInt (Z10 3).toInt (zCg (zib y16) Z12 (zIv R7) (zIv R8)) (R108 p2.toNatClampNeg).toInt y103.toInt (R102 p2.toNatClampNeg).toInt (v8_4.toInt + 1) = (zLot Z10 f3.toInt Z12 Z15 (zRw f3.toInt Z0) p3 ((Z11 p2.toNatClampNeg).toInt) (zRw f3.toInt Z1) (zRw f3.toInt Z2)) := by
                    rw [(by omega : (R108 p2.toNatClampNeg).toInt = min y17.toInt ((R82 p2.toNatClampNeg).toInt + 9)), (by omega : y103.toInt = (R82 p2.toNatClampNeg).toInt), (by omega : (R102 p2.toNatClampNeg).toInt = (R77 p2.toNatClampNeg).toInt + 1), ← zRun_bell (by omega) (by omega) (by omega) (by omega) hnz (by omega)]
                    exact hM2
                  obtain ⟨y109, ey109⟩ : ∃ z : Int32, z = v8_4 + 1 := ⟨_, rfl⟩
                  have qy109 : y109.toInt = v8_4.toInt + 1 := zi_add ey109 (rfl) rfl (by omega) (by omega)
                  refine lv_iinc (v := y109) (lv' := [(8, .int y109), (7, .int y103), (9, .int 0), (10, .int y70), (11, .int 0), (0, .ref h0), (1, .ref h1), (2, .int p2), (3, .int p3), (4, .int y17), (5, .int y18), (6, .int y19)]) hx hb dX2_fallLot_391 hl (k := 11) rfl ey109.symm (by decide) rfl (fun ls hl => ?_)
                  have hMb : zRun y17.toInt y18.toInt y19.toInt (Z10 3).toInt (zCg (zib y16) Z12 (zIv R7) (zIv R8)) (R108 p2.toNatClampNeg).toInt y103.toInt (R102 p2.toNatClampNeg).toInt y109.toInt = (zLot Z10 f3.toInt Z12 Z15 (zRw f3.toInt Z0) p3 ((Z11 p2.toNatClampNeg).toInt) (zRw f3.toInt Z1) (zRw f3.toInt Z2)) := by
                    rw [(by omega : y109.toInt = v8_4.toInt + 1)]
                    exact hMn
                  refine lv_goto (tgt := 126) hx hb dX2_fallLot_394 (by decide) ?_
                  have hP := hP.sub (ws' := [(h8, .inl (zI g, 6, .inl R21)), (h9, .inl (zI g, 6, .inl R108)), (h10, .inl (zI g, 6, .inl R102)), (h11, .inl (zI g, 6, .inl R98)), (h13, .inl (zI g, 6, .inl Z11)), (h2, .inl (zI g, 5, .inl Z0)), (h3, .inl (zI g, 5, .inl Z1)), (h4, .inl (zI g, 5, .inl Z2)), (h6, .inl (zI g, 5, .inl R7)), (h7, .inl (zI g, 5, .inl R8)), (h12, .inl (zI g, 5, .inl Z10)), (h14, .inl (zI g, 5, .inl Z12)), (h0, .inr (2, [.ref h2, .ref h3, .ref h4, .ref h5, .ref h6, .ref h7, .int y16, .int y86, .ref h8, .ref h9, .ref h10, .ref h11])), (h1, .inr (0, [.ref h12, .int f2, .ref h13, .int f3, .ref h14, .ref h15, .ref h16, .ref h17, .ref h18, .ref h19, .int f4])), (h17, .inl (zI g, 20, .inl Z15))]) [0, 1, 2, 3, 4, 5, 6, 7, 12, 13, 8, 14, 10, 11, 9] rfl
                  have hD := hD.sub (ws' := [(h8, .inl (zI g, 6, .inl R21)), (h9, .inl (zI g, 6, .inl R108)), (h10, .inl (zI g, 6, .inl R102)), (h11, .inl (zI g, 6, .inl R98)), (h13, .inl (zI g, 6, .inl Z11)), (h2, .inl (zI g, 5, .inl Z0)), (h3, .inl (zI g, 5, .inl Z1)), (h4, .inl (zI g, 5, .inl Z2)), (h6, .inl (zI g, 5, .inl R7)), (h7, .inl (zI g, 5, .inl R8)), (h12, .inl (zI g, 5, .inl Z10)), (h14, .inl (zI g, 5, .inl Z12)), (h0, .inr (2, [.ref h2, .ref h3, .ref h4, .ref h5, .ref h6, .ref h7, .int y16, .int y86, .ref h8, .ref h9, .ref h10, .ref h11])), (h1, .inr (0, [.ref h12, .int f2, .ref h13, .int f3, .ref h14, .ref h15, .ref h16, .ref h17, .ref h18, .ref h19, .int f4])), (h17, .inl (zI g, 20, .inl Z15))]) [0, 1, 2, 3, 4, 5, 6, 7, 12, 13, 8, 14, 10, 11, 9] (by decide) rfl
                  exact ih5 y103 y109 y86 R102 R98 R108 (hI101) (hI97) (hI107) (by omega) (by omega) (by omega) (by omega) (by omega) (by omega) (by omega) (by assumption) (by omega) _ _ hP hD hS ls (lv_sub hl [5, 6, 7, 8, 9, 10, 11, 1, 0] rfl)
                · have i_13 : v8_4.toInt = 3 := z_eq (rfl) (rfl) c_13
                  refine lv_aload_n hx hb dX2_fallLot_329 rfl (lv_at hl 3 rfl) ?_
                  refine va_get (D := g.1) (ci := 2) (v := .ref h8) (C := RX2) (T := TX2) (N := 12) hx hb hts zl_X2 hown hK hP 10 rfl rfl 8 (by decide) (hts _ m_f_RX2_37) (fun _ h => h) rfl dX2_fallLot_330 ?_
                  refine lv_iload_n hx hb dX2_fallLot_333 rfl (lv_at hl 5 rfl) ?_
                  refine lv_aload_n hx hb dX2_fallLot_334 rfl (lv_at hl 3 rfl) ?_
                  refine va_get (D := g.1) (ci := 2) (v := .int y86) (C := RX2) (T := TX2) (N := 12) hx hb hts zl_X2 hown hK hP 10 rfl rfl 7 (by decide) (hts _ m_f_RX2_34) (fun _ h => h) rfl dX2_fallLot_335 ?_
                  refine z_calli (wr := [(h8, .inl (zI g, 6, .inl R21)), (h9, .inl (zI g, 6, .inl R82)), (h10, .inl (zI g, 6, .inl R77)), (h11, .inl (zI g, 6, .inl G2_4)), (h13, .inl (zI g, 6, .inl Z11)), (h2, .inl (zI g, 5, .inl Z0)), (h3, .inl (zI g, 5, .inl Z1)), (h4, .inl (zI g, 5, .inl Z2)), (h12, .inl (zI g, 5, .inl Z10)), (h17, .inl (zI g, 20, .inl Z15)), (h0, .inr (2, [.ref h2, .ref h3, .ref h4, .ref h5, .ref h6, .ref h7, .int y16, .int y86, .ref h8, .ref h9, .ref h10, .ref h11])), (h1, .inr (0, [.ref h12, .int f2, .ref h13, .int f3, .ref h14, .ref h15, .ref h16, .ref h17, .ref h18, .ref h19, .int f4])), (h6, .inl (zI g, 5, .inl R7)), (h7, .inl (zI g, 5, .inl R8)), (h14, .inl (zI g, 5, .inl Z12))]) hP hD hS hA [] [0, 1, 2, 3, 4, 5, 6, 7, 8, 9, 10, 11, 12, 13, 14] (by decide) rfl rfl (by decide) (va_runS (As := [.int y86]) (rest := [.int p2, .ref h8]) ⟨hx, hb, hml, hown, hts⟩ (gX2_firstOf l g  H.size y86) ⟨callB_of 1 hts (zGood m_o_yX2_firstOf) rfl rfl rfl (hts _ m_z_RX2) (hts _ m_m_RX2_128) ⟨by decide +kernel, by decide +kernel, by decide +kernel⟩ ⟨Nat.le_of_ble_eq_true rfl, Nat.le_of_ble_eq_true rfl⟩, hts _ m_s_yX2_firstOf⟩ (zPreS hK hN hZ hP hD hS hA [] (by decide) rfl rfl) rfl rfl hl.1 rfl (lv_room (Nat.le_of_ble_eq_true rfl)) dX2_fallLot_338 ⟨Nat.le_of_ble_eq_true rfl, Nat.le_of_ble_eq_true rfl⟩) (fun r u H locs hw hP hD hS => ?_)
                  obtain ⟨y110, rfl⟩ : ∃ z, z = r := ⟨_, rfl⟩
                  obtain ⟨q111_0, q111_1, q111_2⟩ := hw
                  have q111_0 : y110.toInt = zF5 (zib y86) := q111_0
                  have q111_1 : -1 ≤ y110.toInt := q111_1
                  have q111_2 : y110.toInt ≤ 4 := q111_2
                  have hP : va_P g.1 vwCl [(h8, .inl (zI g, 6, .inl R21)), (h9, .inl (zI g, 6, .inl R82)), (h10, .inl (zI g, 6, .inl R77)), (h11, .inl (zI g, 6, .inl G2_4)), (h13, .inl (zI g, 6, .inl Z11)), (h2, .inl (zI g, 5, .inl Z0)), (h3, .inl (zI g, 5, .inl Z1)), (h4, .inl (zI g, 5, .inl Z2)), (h12, .inl (zI g, 5, .inl Z10)), (h17, .inl (zI g, 20, .inl Z15)), (h0, .inr (2, [.ref h2, .ref h3, .ref h4, .ref h5, .ref h6, .ref h7, .int y16, .int y86, .ref h8, .ref h9, .ref h10, .ref h11])), (h1, .inr (0, [.ref h12, .int f2, .ref h13, .int f3, .ref h14, .ref h15, .ref h16, .ref h17, .ref h18, .ref h19, .int f4])), (h6, .inl (zI g, 5, .inl R7)), (h7, .inl (zI g, 5, .inl R8)), (h14, .inl (zI g, 5, .inl Z12))] H := hP
                  have hD : va_D A [(h8, .inl (zI g, 6, .inl R21)), (h9, .inl (zI g, 6, .inl R82)), (h10, .inl (zI g, 6, .inl R77)), (h11, .inl (zI g, 6, .inl G2_4)), (h13, .inl (zI g, 6, .inl Z11)), (h2, .inl (zI g, 5, .inl Z0)), (h3, .inl (zI g, 5, .inl Z1)), (h4, .inl (zI g, 5, .inl Z2)), (h12, .inl (zI g, 5, .inl Z10)), (h17, .inl (zI g, 20, .inl Z15)), (h0, .inr (2, [.ref h2, .ref h3, .ref h4, .ref h5, .ref h6, .ref h7, .int y16, .int y86, .ref h8, .ref h9, .ref h10, .ref h11])), (h1, .inr (0, [.ref h12, .int f2, .ref h13, .int f3, .ref h14, .ref h15, .ref h16, .ref h17, .ref h18, .ref h19, .int f4])), (h6, .inl (zI g, 5, .inl R7)), (h7, .inl (zI g, 5, .inl R8)), (h14, .inl (zI g, 5, .inl Z12))] := hD
                  have hff : y110.toInt = zF5 ((zCg (zib y16) Z12 (zIv R7) (zIv R8)) (R82 p2.toNatClampNeg).toInt ((R82 p2.toNatClampNeg).toInt + y19.toInt)) := by
                    have := (zS5_ext (f := zib y86) (g := (zCg (zib y16) Z12 (zIv R7) (zIv R8)) (R82 p2.toNatClampNeg).toInt ((R82 p2.toNatClampNeg).toInt + y19.toInt)) (fun b hb => zib_of hc2 zCg_01 hb)).2.2
                    omega
                  refine va_iast (D := g.1) hx hb hK hP hD hS 0 0 rfl rfl (vp_in_iff.mpr ⟨by omega, by omega⟩) dX2_fallLot_341 (fun H locs hP hD hS => ?_)
                  have hP : va_P g.1 vwCl [(h8, .inl (zI g, 6, .inl (upd R21 p2.toNatClampNeg y110))), (h9, .inl (zI g, 6, .inl R82)), (h10, .inl (zI g, 6, .inl R77)), (h11, .inl (zI g, 6, .inl G2_4)), (h13, .inl (zI g, 6, .inl Z11)), (h2, .inl (zI g, 5, .inl Z0)), (h3, .inl (zI g, 5, .inl Z1)), (h4, .inl (zI g, 5, .inl Z2)), (h12, .inl (zI g, 5, .inl Z10)), (h17, .inl (zI g, 20, .inl Z15)), (h0, .inr (2, [.ref h2, .ref h3, .ref h4, .ref h5, .ref h6, .ref h7, .int y16, .int y86, .ref h8, .ref h9, .ref h10, .ref h11])), (h1, .inr (0, [.ref h12, .int f2, .ref h13, .int f3, .ref h14, .ref h15, .ref h16, .ref h17, .ref h18, .ref h19, .int f4])), (h6, .inl (zI g, 5, .inl R7)), (h7, .inl (zI g, 5, .inl R8)), (h14, .inl (zI g, 5, .inl Z12))] H := hP
                  have hD : va_D A [(h8, .inl (zI g, 6, .inl (upd R21 p2.toNatClampNeg y110))), (h9, .inl (zI g, 6, .inl R82)), (h10, .inl (zI g, 6, .inl R77)), (h11, .inl (zI g, 6, .inl G2_4)), (h13, .inl (zI g, 6, .inl Z11)), (h2, .inl (zI g, 5, .inl Z0)), (h3, .inl (zI g, 5, .inl Z1)), (h4, .inl (zI g, 5, .inl Z2)), (h12, .inl (zI g, 5, .inl Z10)), (h17, .inl (zI g, 20, .inl Z15)), (h0, .inr (2, [.ref h2, .ref h3, .ref h4, .ref h5, .ref h6, .ref h7, .int y16, .int y86, .ref h8, .ref h9, .ref h10, .ref h11])), (h1, .inr (0, [.ref h12, .int f2, .ref h13, .int f3, .ref h14, .ref h15, .ref h16, .ref h17, .ref h18, .ref h19, .int f4])), (h6, .inl (zI g, 5, .inl R7)), (h7, .inl (zI g, 5, .inl R8)), (h14, .inl (zI g, 5, .inl Z12))] := hD
                  have hI112 : zNr p2.toInt Z6 (upd R21 p2.toNatClampNeg y110) := zNr_put (i := p2) hI20 (rfl) (by omega)
                  obtain ⟨R113, eR113⟩ : ∃ z : Nat → Int32, z = (upd R21 p2.toNatClampNeg y110) := ⟨_, rfl⟩
                  rw [← eR113] at hP hD hI112
                  have qR113 : (R113 p2.toNatClampNeg).toInt = y110.toInt := z_put eR113 (rfl)
                  have hO : (zLot Z10 f3.toInt Z12 Z15 (zRw f3.toInt Z0) p3 ((Z11 p2.toNatClampNeg).toInt) (zRw f3.toInt Z1) (zRw f3.toInt Z2)) = (zF5 ((zCg (zib y16) Z12 (zIv R7) (zIv R8)) (R82 p2.toNatClampNeg).toInt ((R82 p2.toNatClampNeg).toInt + y19.toInt)), (R82 p2.toNatClampNeg).toInt, (R77 p2.toNatClampNeg).toInt, v8_4.toInt) := by
                    rw [← hM2]
                    exact zRun_had (by omega) hnz (by omega)
                  have ho1 : (zLot Z10 f3.toInt Z12 Z15 (zRw f3.toInt Z0) p3 ((Z11 p2.toNatClampNeg).toInt) (zRw f3.toInt Z1) (zRw f3.toInt Z2)).1 = zF5 ((zCg (zib y16) Z12 (zIv R7) (zIv R8)) (R82 p2.toNatClampNeg).toInt ((R82 p2.toNatClampNeg).toInt + y19.toInt)) := by rw [hO]
                  have ho2 : (zLot Z10 f3.toInt Z12 Z15 (zRw f3.toInt Z0) p3 ((Z11 p2.toNatClampNeg).toInt) (zRw f3.toInt Z1) (zRw f3.toInt Z2)).2.1 = (R82 p2.toNatClampNeg).toInt := by rw [hO]
                  have ho3 : (zLot Z10 f3.toInt Z12 Z15 (zRw f3.toInt Z0) p3 ((Z11 p2.toNatClampNeg).toInt) (zRw f3.toInt Z1) (zRw f3.toInt Z2)).2.2.1 = (R77 p2.toNatClampNeg).toInt := by rw [hO]
                  have ho4 : (zLot Z10 f3.toInt Z12 Z15 (zRw f3.toInt Z0) p3 ((Z11 p2.toNatClampNeg).toInt) (zRw f3.toInt Z1) (zRw f3.toInt Z2)).2.2.2 = v8_4.toInt := by rw [hO]
                  have hP9 := hP.sub (ws' := [(h0, .inr (2, [.ref h2, .ref h3, .ref h4, .ref h5, .ref h6, .ref h7, .int y16, .int y86, .ref h8, .ref h9, .ref h10, .ref h11])), (h1, .inr (0, [.ref h12, .int f2, .ref h13, .int f3, .ref h14, .ref h15, .ref h16, .ref h17, .ref h18, .ref h19, .int f4])), (h2, .inl (zI g, 5, .inl Z0)), (h3, .inl (zI g, 5, .inl Z1)), (h4, .inl (zI g, 5, .inl Z2)), (h6, .inl (zI g, 5, .inl R7)), (h7, .inl (zI g, 5, .inl R8)), (h8, .inl (zI g, 6, .inl R113)), (h9, .inl (zI g, 6, .inl R82)), (h10, .inl (zI g, 6, .inl R77)), (h11, .inl (zI g, 6, .inl G2_4)), (h12, .inl (zI g, 5, .inl Z10)), (h13, .inl (zI g, 6, .inl Z11)), (h14, .inl (zI g, 5, .inl Z12)), (h17, .inl (zI g, 20, .inl Z15))]) [10, 11, 5, 6, 7, 12, 13, 0, 1, 2, 3, 8, 4, 14, 9] rfl
                  have hD9 := hD.sub (ws' := [(h0, .inr (2, [.ref h2, .ref h3, .ref h4, .ref h5, .ref h6, .ref h7, .int y16, .int y86, .ref h8, .ref h9, .ref h10, .ref h11])), (h1, .inr (0, [.ref h12, .int f2, .ref h13, .int f3, .ref h14, .ref h15, .ref h16, .ref h17, .ref h18, .ref h19, .int f4])), (h2, .inl (zI g, 5, .inl Z0)), (h3, .inl (zI g, 5, .inl Z1)), (h4, .inl (zI g, 5, .inl Z2)), (h6, .inl (zI g, 5, .inl R7)), (h7, .inl (zI g, 5, .inl R8)), (h8, .inl (zI g, 6, .inl R113)), (h9, .inl (zI g, 6, .inl R82)), (h10, .inl (zI g, 6, .inl R77)), (h11, .inl (zI g, 6, .inl G2_4)), (h12, .inl (zI g, 5, .inl Z10)), (h13, .inl (zI g, 6, .inl Z11)), (h14, .inl (zI g, 5, .inl Z12)), (h17, .inl (zI g, 20, .inl Z15))]) [10, 11, 5, 6, 7, 12, 13, 0, 1, 2, 3, 8, 4, 14, 9] (by decide) rfl
                  exact W.vret hx hb hr (fun t ht hW => ⟨⟨⟨y16, y86, R7, R8, R113, R82, R77, G2_4⟩, rfl, ⟨⟨(show (R113 p2.toNatClampNeg).toInt = (zLot Z10 f3.toInt Z12 Z15 (zRw f3.toInt Z0) p3 ((Z11 p2.toNatClampNeg).toInt) (zRw f3.toInt Z1) (zRw f3.toInt Z2)).1 from by first | omega | decide), (show (0 ≤ (zLot Z10 f3.toInt Z12 Z15 (zRw f3.toInt Z0) p3 ((Z11 p2.toNatClampNeg).toInt) (zRw f3.toInt Z1) (zRw f3.toInt Z2)).1 → (R82 p2.toNatClampNeg).toInt = (zLot Z10 f3.toInt Z12 Z15 (zRw f3.toInt Z0) p3 ((Z11 p2.toNatClampNeg).toInt) (zRw f3.toInt Z1) (zRw f3.toInt Z2)).2.1) from by first | omega | decide), (show (R77 p2.toNatClampNeg).toInt = (zLot Z10 f3.toInt Z12 Z15 (zRw f3.toInt Z0) p3 ((Z11 p2.toNatClampNeg).toInt) (zRw f3.toInt Z1) (zRw f3.toInt Z2)).2.2.1 from by first | omega | decide), (show (G2_4 p2.toNatClampNeg).toInt = (zLot Z10 f3.toInt Z12 Z15 (zRw f3.toInt Z0) p3 ((Z11 p2.toNatClampNeg).toInt) (zRw f3.toInt Z1) (zRw f3.toInt Z2)).2.2.2 from by first | omega | decide)⟩, hI9.1, hI10.1, hI112, hI81, hI76, hG2_4⟩, by rw [ht]; exact hP9, hD9⟩, hS.F ht⟩) hS.2.2 dX2_fallLot_342
            · have i_11 : y88.toInt = 1 := z_eq (rfl) (rfl) c_11
              refine lv_iconst (v := 1) hx hb dX2_fallLot_302 (by decide) ?_
              refine lv_goto (tgt := 307) hx hb dX2_fallLot_303 (by decide) ?_
              refine lv_istore (lv' := [(9, .int 1), (10, .int y70), (11, .int 0), (0, .ref h0), (1, .ref h1), (2, .int p2), (3, .int p3), (4, .int y17), (5, .int y18), (6, .int y19), (7, .int v7_4), (8, .int v8_4)]) hx hb dX2_fallLot_307 hl (by decide) rfl (fun ls hl => ?_)
              refine lv_iload hx hb dX2_fallLot_309 (lv_at hl 0 rfl) ?_
              refine lv_if_ne (tgt := 329) hx hb dX2_fallLot_311 (by decide) (fun _ => ?_) (fun h => absurd h (by decide +kernel))
              refine lv_aload_n hx hb dX2_fallLot_329 rfl (lv_at hl 3 rfl) ?_
              refine va_get (D := g.1) (ci := 2) (v := .ref h8) (C := RX2) (T := TX2) (N := 12) hx hb hts zl_X2 hown hK hP 10 rfl rfl 8 (by decide) (hts _ m_f_RX2_37) (fun _ h => h) rfl dX2_fallLot_330 ?_
              refine lv_iload_n hx hb dX2_fallLot_333 rfl (lv_at hl 5 rfl) ?_
              refine lv_aload_n hx hb dX2_fallLot_334 rfl (lv_at hl 3 rfl) ?_
              refine va_get (D := g.1) (ci := 2) (v := .int y86) (C := RX2) (T := TX2) (N := 12) hx hb hts zl_X2 hown hK hP 10 rfl rfl 7 (by decide) (hts _ m_f_RX2_34) (fun _ h => h) rfl dX2_fallLot_335 ?_
              refine z_calli (wr := [(h8, .inl (zI g, 6, .inl R21)), (h9, .inl (zI g, 6, .inl R82)), (h10, .inl (zI g, 6, .inl R77)), (h11, .inl (zI g, 6, .inl G2_4)), (h13, .inl (zI g, 6, .inl Z11)), (h2, .inl (zI g, 5, .inl Z0)), (h3, .inl (zI g, 5, .inl Z1)), (h4, .inl (zI g, 5, .inl Z2)), (h12, .inl (zI g, 5, .inl Z10)), (h17, .inl (zI g, 20, .inl Z15)), (h0, .inr (2, [.ref h2, .ref h3, .ref h4, .ref h5, .ref h6, .ref h7, .int y16, .int y86, .ref h8, .ref h9, .ref h10, .ref h11])), (h1, .inr (0, [.ref h12, .int f2, .ref h13, .int f3, .ref h14, .ref h15, .ref h16, .ref h17, .ref h18, .ref h19, .int f4])), (h6, .inl (zI g, 5, .inl R7)), (h7, .inl (zI g, 5, .inl R8)), (h14, .inl (zI g, 5, .inl Z12))]) hP hD hS hA [] [0, 1, 2, 3, 4, 5, 6, 7, 8, 9, 10, 11, 12, 13, 14] (by decide) rfl rfl (by decide) (va_runS (As := [.int y86]) (rest := [.int p2, .ref h8]) ⟨hx, hb, hml, hown, hts⟩ (gX2_firstOf l g  H.size y86) ⟨callB_of 1 hts (zGood m_o_yX2_firstOf) rfl rfl rfl (hts _ m_z_RX2) (hts _ m_m_RX2_128) ⟨by decide +kernel, by decide +kernel, by decide +kernel⟩ ⟨Nat.le_of_ble_eq_true rfl, Nat.le_of_ble_eq_true rfl⟩, hts _ m_s_yX2_firstOf⟩ (zPreS hK hN hZ hP hD hS hA [] (by decide) rfl rfl) rfl rfl hl.1 rfl (lv_room (Nat.le_of_ble_eq_true rfl)) dX2_fallLot_338 ⟨Nat.le_of_ble_eq_true rfl, Nat.le_of_ble_eq_true rfl⟩) (fun r u H locs hw hP hD hS => ?_)
              obtain ⟨y114, rfl⟩ : ∃ z, z = r := ⟨_, rfl⟩
              obtain ⟨q115_0, q115_1, q115_2⟩ := hw
              have q115_0 : y114.toInt = zF5 (zib y86) := q115_0
              have q115_1 : -1 ≤ y114.toInt := q115_1
              have q115_2 : y114.toInt ≤ 4 := q115_2
              have hP : va_P g.1 vwCl [(h8, .inl (zI g, 6, .inl R21)), (h9, .inl (zI g, 6, .inl R82)), (h10, .inl (zI g, 6, .inl R77)), (h11, .inl (zI g, 6, .inl G2_4)), (h13, .inl (zI g, 6, .inl Z11)), (h2, .inl (zI g, 5, .inl Z0)), (h3, .inl (zI g, 5, .inl Z1)), (h4, .inl (zI g, 5, .inl Z2)), (h12, .inl (zI g, 5, .inl Z10)), (h17, .inl (zI g, 20, .inl Z15)), (h0, .inr (2, [.ref h2, .ref h3, .ref h4, .ref h5, .ref h6, .ref h7, .int y16, .int y86, .ref h8, .ref h9, .ref h10, .ref h11])), (h1, .inr (0, [.ref h12, .int f2, .ref h13, .int f3, .ref h14, .ref h15, .ref h16, .ref h17, .ref h18, .ref h19, .int f4])), (h6, .inl (zI g, 5, .inl R7)), (h7, .inl (zI g, 5, .inl R8)), (h14, .inl (zI g, 5, .inl Z12))] H := hP
              have hD : va_D A [(h8, .inl (zI g, 6, .inl R21)), (h9, .inl (zI g, 6, .inl R82)), (h10, .inl (zI g, 6, .inl R77)), (h11, .inl (zI g, 6, .inl G2_4)), (h13, .inl (zI g, 6, .inl Z11)), (h2, .inl (zI g, 5, .inl Z0)), (h3, .inl (zI g, 5, .inl Z1)), (h4, .inl (zI g, 5, .inl Z2)), (h12, .inl (zI g, 5, .inl Z10)), (h17, .inl (zI g, 20, .inl Z15)), (h0, .inr (2, [.ref h2, .ref h3, .ref h4, .ref h5, .ref h6, .ref h7, .int y16, .int y86, .ref h8, .ref h9, .ref h10, .ref h11])), (h1, .inr (0, [.ref h12, .int f2, .ref h13, .int f3, .ref h14, .ref h15, .ref h16, .ref h17, .ref h18, .ref h19, .int f4])), (h6, .inl (zI g, 5, .inl R7)), (h7, .inl (zI g, 5, .inl R8)), (h14, .inl (zI g, 5, .inl Z12))] := hD
              have hff : y114.toInt = zF5 ((zCg (zib y16) Z12 (zIv R7) (zIv R8)) (R82 p2.toNatClampNeg).toInt ((R82 p2.toNatClampNeg).toInt + y19.toInt)) := by
                have := (zS5_ext (f := zib y86) (g := (zCg (zib y16) Z12 (zIv R7) (zIv R8)) (R82 p2.toNatClampNeg).toInt ((R82 p2.toNatClampNeg).toInt + y19.toInt)) (fun b hb => zib_of hc2 zCg_01 hb)).2.2
                omega
              refine va_iast (D := g.1) hx hb hK hP hD hS 0 0 rfl rfl (vp_in_iff.mpr ⟨by omega, by omega⟩) dX2_fallLot_341 (fun H locs hP hD hS => ?_)
              have hP : va_P g.1 vwCl [(h8, .inl (zI g, 6, .inl (upd R21 p2.toNatClampNeg y114))), (h9, .inl (zI g, 6, .inl R82)), (h10, .inl (zI g, 6, .inl R77)), (h11, .inl (zI g, 6, .inl G2_4)), (h13, .inl (zI g, 6, .inl Z11)), (h2, .inl (zI g, 5, .inl Z0)), (h3, .inl (zI g, 5, .inl Z1)), (h4, .inl (zI g, 5, .inl Z2)), (h12, .inl (zI g, 5, .inl Z10)), (h17, .inl (zI g, 20, .inl Z15)), (h0, .inr (2, [.ref h2, .ref h3, .ref h4, .ref h5, .ref h6, .ref h7, .int y16, .int y86, .ref h8, .ref h9, .ref h10, .ref h11])), (h1, .inr (0, [.ref h12, .int f2, .ref h13, .int f3, .ref h14, .ref h15, .ref h16, .ref h17, .ref h18, .ref h19, .int f4])), (h6, .inl (zI g, 5, .inl R7)), (h7, .inl (zI g, 5, .inl R8)), (h14, .inl (zI g, 5, .inl Z12))] H := hP
              have hD : va_D A [(h8, .inl (zI g, 6, .inl (upd R21 p2.toNatClampNeg y114))), (h9, .inl (zI g, 6, .inl R82)), (h10, .inl (zI g, 6, .inl R77)), (h11, .inl (zI g, 6, .inl G2_4)), (h13, .inl (zI g, 6, .inl Z11)), (h2, .inl (zI g, 5, .inl Z0)), (h3, .inl (zI g, 5, .inl Z1)), (h4, .inl (zI g, 5, .inl Z2)), (h12, .inl (zI g, 5, .inl Z10)), (h17, .inl (zI g, 20, .inl Z15)), (h0, .inr (2, [.ref h2, .ref h3, .ref h4, .ref h5, .ref h6, .ref h7, .int y16, .int y86, .ref h8, .ref h9, .ref h10, .ref h11])), (h1, .inr (0, [.ref h12, .int f2, .ref h13, .int f3, .ref h14, .ref h15, .ref h16, .ref h17, .ref h18, .ref h19, .int f4])), (h6, .inl (zI g, 5, .inl R7)), (h7, .inl (zI g, 5, .inl R8)), (h14, .inl (zI g, 5, .inl Z12))] := hD
              have hI116 : zNr p2.toInt Z6 (upd R21 p2.toNatClampNeg y114) := zNr_put (i := p2) hI20 (rfl) (by omega)
              obtain ⟨R117, eR117⟩ : ∃ z : Nat → Int32, z = (upd R21 p2.toNatClampNeg y114) := ⟨_, rfl⟩
              rw [← eR117] at hP hD hI116
              have qR117 : (R117 p2.toNatClampNeg).toInt = y114.toInt := z_put eR117 (rfl)
              have hO : (zLot Z10 f3.toInt Z12 Z15 (zRw f3.toInt Z0) p3 ((Z11 p2.toNatClampNeg).toInt) (zRw f3.toInt Z1) (zRw f3.toInt Z2)) = (zF5 ((zCg (zib y16) Z12 (zIv R7) (zIv R8)) (R82 p2.toNatClampNeg).toInt ((R82 p2.toNatClampNeg).toInt + y19.toInt)), (R82 p2.toNatClampNeg).toInt, (R77 p2.toNatClampNeg).toInt, v8_4.toInt) := by
                rw [← hM2]
                exact zRun_had (by omega) hnz (by omega)
              have ho1 : (zLot Z10 f3.toInt Z12 Z15 (zRw f3.toInt Z0) p3 ((Z11 p2.toNatClampNeg).toInt) (zRw f3.toInt Z1) (zRw f3.toInt Z2)).1 = zF5 ((zCg (zib y16) Z12 (zIv R7) (zIv R8)) (R82 p2.toNatClampNeg).toInt ((R82 p2.toNatClampNeg).toInt + y19.toInt)) := by rw [hO]
              have ho2 : (zLot Z10 f3.toInt Z12 Z15 (zRw f3.toInt Z0) p3 ((Z11 p2.toNatClampNeg).toInt) (zRw f3.toInt Z1) (zRw f3.toInt Z2)).2.1 = (R82 p2.toNatClampNeg).toInt := by rw [hO]
              have ho3 : (zLot Z10 f3.toInt Z12 Z15 (zRw f3.toInt Z0) p3 ((Z11 p2.toNatClampNeg).toInt) (zRw f3.toInt Z1) (zRw f3.toInt Z2)).2.2.1 = (R77 p2.toNatClampNeg).toInt := by rw [hO]
              have ho4 : (zLot Z10 f3.toInt Z12 Z15 (zRw f3.toInt Z0) p3 ((Z11 p2.toNatClampNeg).toInt) (zRw f3.toInt Z1) (zRw f3.toInt Z2)).2.2.2 = v8_4.toInt := by rw [hO]
              have hP9 := hP.sub (ws' := [(h0, .inr (2, [.ref h2, .ref h3, .ref h4, .ref h5, .ref h6, .ref h7, .int y16, .int y86, .ref h8, .ref h9, .ref h10, .ref h11])), (h1, .inr (0, [.ref h12, .int f2, .ref h13, .int f3, .ref h14, .ref h15, .ref h16, .ref h17, .ref h18, .ref h19, .int f4])), (h2, .inl (zI g, 5, .inl Z0)), (h3, .inl (zI g, 5, .inl Z1)), (h4, .inl (zI g, 5, .inl Z2)), (h6, .inl (zI g, 5, .inl R7)), (h7, .inl (zI g, 5, .inl R8)), (h8, .inl (zI g, 6, .inl R117)), (h9, .inl (zI g, 6, .inl R82)), (h10, .inl (zI g, 6, .inl R77)), (h11, .inl (zI g, 6, .inl G2_4)), (h12, .inl (zI g, 5, .inl Z10)), (h13, .inl (zI g, 6, .inl Z11)), (h14, .inl (zI g, 5, .inl Z12)), (h17, .inl (zI g, 20, .inl Z15))]) [10, 11, 5, 6, 7, 12, 13, 0, 1, 2, 3, 8, 4, 14, 9] rfl
              have hD9 := hD.sub (ws' := [(h0, .inr (2, [.ref h2, .ref h3, .ref h4, .ref h5, .ref h6, .ref h7, .int y16, .int y86, .ref h8, .ref h9, .ref h10, .ref h11])), (h1, .inr (0, [.ref h12, .int f2, .ref h13, .int f3, .ref h14, .ref h15, .ref h16, .ref h17, .ref h18, .ref h19, .int f4])), (h2, .inl (zI g, 5, .inl Z0)), (h3, .inl (zI g, 5, .inl Z1)), (h4, .inl (zI g, 5, .inl Z2)), (h6, .inl (zI g, 5, .inl R7)), (h7, .inl (zI g, 5, .inl R8)), (h8, .inl (zI g, 6, .inl R117)), (h9, .inl (zI g, 6, .inl R82)), (h10, .inl (zI g, 6, .inl R77)), (h11, .inl (zI g, 6, .inl G2_4)), (h12, .inl (zI g, 5, .inl Z10)), (h13, .inl (zI g, 6, .inl Z11)), (h14, .inl (zI g, 5, .inl Z12)), (h17, .inl (zI g, 20, .inl Z15))]) [10, 11, 5, 6, 7, 12, 13, 0, 1, 2, 3, 8, 4, 14, 9] (by decide) rfl
              exact W.vret hx hb hr (fun t ht hW => ⟨⟨⟨y16, y86, R7, R8, R117, R82, R77, G2_4⟩, rfl, ⟨⟨(show (R117 p2.toNatClampNeg).toInt = (zLot Z10 f3.toInt Z12 Z15 (zRw f3.toInt Z0) p3 ((Z11 p2.toNatClampNeg).toInt) (zRw f3.toInt Z1) (zRw f3.toInt Z2)).1 from by first | omega | decide), (show (0 ≤ (zLot Z10 f3.toInt Z12 Z15 (zRw f3.toInt Z0) p3 ((Z11 p2.toNatClampNeg).toInt) (zRw f3.toInt Z1) (zRw f3.toInt Z2)).1 → (R82 p2.toNatClampNeg).toInt = (zLot Z10 f3.toInt Z12 Z15 (zRw f3.toInt Z0) p3 ((Z11 p2.toNatClampNeg).toInt) (zRw f3.toInt Z1) (zRw f3.toInt Z2)).2.1) from by first | omega | decide), (show (R77 p2.toNatClampNeg).toInt = (zLot Z10 f3.toInt Z12 Z15 (zRw f3.toInt Z0) p3 ((Z11 p2.toNatClampNeg).toInt) (zRw f3.toInt Z1) (zRw f3.toInt Z2)).2.2.1 from by first | omega | decide), (show (G2_4 p2.toNatClampNeg).toInt = (zLot Z10 f3.toInt Z12 Z15 (zRw f3.toInt Z0) p3 ((Z11 p2.toNatClampNeg).toInt) (zRw f3.toInt Z1) (zRw f3.toInt Z2)).2.2.2 from by first | omega | decide)⟩, hI9.1, hI10.1, hI116, hI81, hI76, hG2_4⟩, by rw [ht]; exact hP9, hD9⟩, hS.F ht⟩) hS.2.2 dX2_fallLot_342
          · have i_10 : y73.toInt < y18.toInt := z_nle (rfl) (rfl) c_10
            refine lv_iconst (v := 1) hx hb dX2_fallLot_205 (by decide) ?_
            refine lv_goto (tgt := 210) hx hb dX2_fallLot_206 (by decide) ?_
            refine lv_istore (lv' := [(11, .int 1), (10, .int y70), (9, .int y63), (0, .ref h0), (1, .ref h1), (2, .int p2), (3, .int p3), (4, .int y17), (5, .int y18), (6, .int y19), (7, .int v7_4), (8, .int v8_4)]) hx hb dX2_fallLot_210 hl (by decide) rfl (fun ls hl => ?_)
            refine lv_iload hx hb dX2_fallLot_212 (lv_at hl 0 rfl) ?_
            refine lv_if_eq (tgt := 232) hx hb dX2_fallLot_214 (by decide) (fun h => absurd h (by decide +kernel)) (fun _ => ?_)
            refine lv_aload_n hx hb dX2_fallLot_217 rfl (lv_at hl 3 rfl) ?_
            refine va_get (D := g.1) (ci := 2) (v := .ref h9) (C := RX2) (T := TX2) (N := 12) hx hb hts zl_X2 hown hK hP 10 rfl rfl 9 (by decide) (hts _ m_f_RX2_40) (fun _ h => h) rfl dX2_fallLot_218 ?_
            refine lv_iload_n hx hb dX2_fallLot_221 rfl (lv_at hl 5 rfl) ?_
            refine va_iald (D := g.1) hx hb hK hP 1 0 rfl rfl (vp_in_iff.mpr ⟨by omega, by omega⟩) dX2_fallLot_222 ?_
            refine lv_topi (fun y118 ey118 => ?_)
            have qy118_0 : y118.toInt = (G3_4 p2.toNatClampNeg).toInt := congrArg Int32.toInt ey118
            refine lv_iload hx hb dX2_fallLot_223 (lv_at hl 8 rfl) ?_
            refine lv_isub hx hb dX2_fallLot_225 ?_
            refine lv_topi (fun y119 ey119 => ?_)
            have qy119_0 : y119.toInt = y118.toInt - y18.toInt := zi_sub ey119 (rfl) (rfl) (by omega) (by omega)
            refine lv_iload hx hb dX2_fallLot_226 (lv_at hl 9 rfl) ?_
            refine lv_idiv hx hb dX2_fallLot_228 (z_nz rfl (by omega)) ?_
            refine lv_topi (fun y120 ey120 => ?_)
            have py120_0 : y120.toInt = y119.toInt / y19.toInt := zi_div ey120 (rfl) (rfl) (by omega) (by omega)
            have py120_1 : 0 ≤ y120.toInt := (zi_div0 ey120 (rfl) (rfl) (by omega) (by omega)).1
            have py120_2 : y120.toInt ≤ y119.toInt := (zi_div0 ey120 (rfl) (rfl) (by omega) (by omega)).2
            refine lv_goto (tgt := 234) hx hb dX2_fallLot_229 (by decide) ?_
            refine lv_istore (lv' := [(10, .int y120), (11, .int 1), (9, .int y63), (0, .ref h0), (1, .ref h1), (2, .int p2), (3, .int p3), (4, .int y17), (5, .int y18), (6, .int y19), (7, .int v7_4), (8, .int v8_4)]) hx hb dX2_fallLot_234 hl (by decide) rfl (fun ls hl => ?_)
            refine lv_aload_n hx hb dX2_fallLot_236 rfl (lv_at hl 3 rfl) ?_
            refine va_get (D := g.1) (ci := 2) (v := .ref h10) (C := RX2) (T := TX2) (N := 12) hx hb hts zl_X2 hown hK hP 10 rfl rfl 10 (by decide) (hts _ m_f_RX2_43) (fun _ h => h) rfl dX2_fallLot_237 ?_
            refine lv_iload_n hx hb dX2_fallLot_240 rfl (lv_at hl 5 rfl) ?_
            refine lv_dup2_11 hx hb dX2_fallLot_241 rfl rfl ?_
            refine va_iald (D := g.1) hx hb hK hP 2 0 rfl rfl (vp_in_iff.mpr ⟨by omega, by omega⟩) dX2_fallLot_242 ?_
            refine lv_topi (fun y121 ey121 => ?_)
            have qy121_0 : y121.toInt = (G1_4 p2.toNatClampNeg).toInt := congrArg Int32.toInt ey121
            refine lv_iload hx hb dX2_fallLot_243 (lv_at hl 0 rfl) ?_
            refine lv_iadd hx hb dX2_fallLot_245 ?_
            refine lv_topi (fun y122 ey122 => ?_)
            have qy122_0 : y122.toInt = y121.toInt + y120.toInt := zi_add ey122 (rfl) (rfl) (by omega) (by omega)
            refine va_iast (D := g.1) hx hb hK hP hD hS 2 0 rfl rfl (vp_in_iff.mpr ⟨by omega, by omega⟩) dX2_fallLot_246 (fun H locs hP hD hS => ?_)
            have hP : va_P g.1 vwCl [(h8, .inl (zI g, 6, .inl R21)), (h9, .inl (zI g, 6, .inl G3_4)), (h10, .inl (zI g, 6, .inl (upd G1_4 p2.toNatClampNeg y122))), (h11, .inl (zI g, 6, .inl G2_4)), (h13, .inl (zI g, 6, .inl Z11)), (h2, .inl (zI g, 5, .inl Z0)), (h3, .inl (zI g, 5, .inl Z1)), (h4, .inl (zI g, 5, .inl Z2)), (h12, .inl (zI g, 5, .inl Z10)), (h17, .inl (zI g, 20, .inl Z15)), (h0, .inr (2, [.ref h2, .ref h3, .ref h4, .ref h5, .ref h6, .ref h7, .int y16, .int y31, .ref h8, .ref h9, .ref h10, .ref h11])), (h1, .inr (0, [.ref h12, .int f2, .ref h13, .int f3, .ref h14, .ref h15, .ref h16, .ref h17, .ref h18, .ref h19, .int f4])), (h6, .inl (zI g, 5, .inl R7)), (h7, .inl (zI g, 5, .inl R8)), (h14, .inl (zI g, 5, .inl Z12))] H := hP
            have hD : va_D A [(h8, .inl (zI g, 6, .inl R21)), (h9, .inl (zI g, 6, .inl G3_4)), (h10, .inl (zI g, 6, .inl (upd G1_4 p2.toNatClampNeg y122))), (h11, .inl (zI g, 6, .inl G2_4)), (h13, .inl (zI g, 6, .inl Z11)), (h2, .inl (zI g, 5, .inl Z0)), (h3, .inl (zI g, 5, .inl Z1)), (h4, .inl (zI g, 5, .inl Z2)), (h12, .inl (zI g, 5, .inl Z10)), (h17, .inl (zI g, 20, .inl Z15)), (h0, .inr (2, [.ref h2, .ref h3, .ref h4, .ref h5, .ref h6, .ref h7, .int y16, .int y31, .ref h8, .ref h9, .ref h10, .ref h11])), (h1, .inr (0, [.ref h12, .int f2, .ref h13, .int f3, .ref h14, .ref h15, .ref h16, .ref h17, .ref h18, .ref h19, .int f4])), (h6, .inl (zI g, 5, .inl R7)), (h7, .inl (zI g, 5, .inl R8)), (h14, .inl (zI g, 5, .inl Z12))] := hD
            have hI123 : zNr p2.toInt Z8 (upd G1_4 p2.toNatClampNeg y122) := zNr_put (i := p2) hG1_4 (rfl) (by omega)
            obtain ⟨R124, eR124⟩ : ∃ z : Nat → Int32, z = (upd G1_4 p2.toNatClampNeg y122) := ⟨_, rfl⟩
            rw [← eR124] at hP hD hI123
            have qR124 : (R124 p2.toNatClampNeg).toInt = y122.toInt := z_put eR124 (rfl)
            refine lv_aload_n hx hb dX2_fallLot_247 rfl (lv_at hl 3 rfl) ?_
            refine va_get (D := g.1) (ci := 2) (v := .ref h9) (C := RX2) (T := TX2) (N := 12) hx hb hts zl_X2 hown hK hP 10 rfl rfl 9 (by decide) (hts _ m_f_RX2_40) (fun _ h => h) rfl dX2_fallLot_248 ?_
            refine lv_iload_n hx hb dX2_fallLot_251 rfl (lv_at hl 5 rfl) ?_
            refine lv_dup2_11 hx hb dX2_fallLot_252 rfl rfl ?_
            refine va_iald (D := g.1) hx hb hK hP 1 0 rfl rfl (vp_in_iff.mpr ⟨by omega, by omega⟩) dX2_fallLot_253 ?_
            refine lv_topi (fun y125 ey125 => ?_)
            have qy125_0 : y125.toInt = (G3_4 p2.toNatClampNeg).toInt := congrArg Int32.toInt ey125
            refine lv_iload hx hb dX2_fallLot_254 (lv_at hl 0 rfl) ?_
            refine lv_iload hx hb dX2_fallLot_256 (lv_at hl 9 rfl) ?_
            refine lv_imul hx hb dX2_fallLot_258 ?_
            refine lv_topi (fun y126 ey126 => ?_)
            have py126_0 : y126.toInt = y120.toInt * y19.toInt := zi_mul9 ey126 (rfl) (rfl) (by omega) (by omega) (by omega) (by omega)
            have py126_1 : 0 ≤ y126.toInt := by have := z_mr (x := y120.toInt) (d := y19.toInt) (by omega) (by omega) (by omega) (by omega); omega
            have py126_2 : y126.toInt ≤ 2700 := by have := z_mr (x := y120.toInt) (d := y19.toInt) (by omega) (by omega) (by omega) (by omega); omega
            refine lv_isub hx hb dX2_fallLot_259 ?_
            refine lv_topi (fun y127 ey127 => ?_)
            have qy127_0 : y127.toInt = y125.toInt - y126.toInt := zi_sub ey127 (rfl) (rfl) (by omega) (by omega)
            refine va_iast (D := g.1) hx hb hK hP hD hS 1 0 rfl rfl (vp_in_iff.mpr ⟨by omega, by omega⟩) dX2_fallLot_260 (fun H locs hP hD hS => ?_)
            have hP : va_P g.1 vwCl [(h8, .inl (zI g, 6, .inl R21)), (h9, .inl (zI g, 6, .inl (upd G3_4 p2.toNatClampNeg y127))), (h10, .inl (zI g, 6, .inl R124)), (h11, .inl (zI g, 6, .inl G2_4)), (h13, .inl (zI g, 6, .inl Z11)), (h2, .inl (zI g, 5, .inl Z0)), (h3, .inl (zI g, 5, .inl Z1)), (h4, .inl (zI g, 5, .inl Z2)), (h12, .inl (zI g, 5, .inl Z10)), (h17, .inl (zI g, 20, .inl Z15)), (h0, .inr (2, [.ref h2, .ref h3, .ref h4, .ref h5, .ref h6, .ref h7, .int y16, .int y31, .ref h8, .ref h9, .ref h10, .ref h11])), (h1, .inr (0, [.ref h12, .int f2, .ref h13, .int f3, .ref h14, .ref h15, .ref h16, .ref h17, .ref h18, .ref h19, .int f4])), (h6, .inl (zI g, 5, .inl R7)), (h7, .inl (zI g, 5, .inl R8)), (h14, .inl (zI g, 5, .inl Z12))] H := hP
            have hD : va_D A [(h8, .inl (zI g, 6, .inl R21)), (h9, .inl (zI g, 6, .inl (upd G3_4 p2.toNatClampNeg y127))), (h10, .inl (zI g, 6, .inl R124)), (h11, .inl (zI g, 6, .inl G2_4)), (h13, .inl (zI g, 6, .inl Z11)), (h2, .inl (zI g, 5, .inl Z0)), (h3, .inl (zI g, 5, .inl Z1)), (h4, .inl (zI g, 5, .inl Z2)), (h12, .inl (zI g, 5, .inl Z10)), (h17, .inl (zI g, 20, .inl Z15)), (h0, .inr (2, [.ref h2, .ref h3, .ref h4, .ref h5, .ref h6, .ref h7, .int y16, .int y31, .ref h8, .ref h9, .ref h10, .ref h11])), (h1, .inr (0, [.ref h12, .int f2, .ref h13, .int f3, .ref h14, .ref h15, .ref h16, .ref h17, .ref h18, .ref h19, .int f4])), (h6, .inl (zI g, 5, .inl R7)), (h7, .inl (zI g, 5, .inl R8)), (h14, .inl (zI g, 5, .inl Z12))] := hD
            have hI128 : zNr p2.toInt Z7 (upd G3_4 p2.toNatClampNeg y127) := zNr_put (i := p2) hG3_4 (rfl) (by omega)
            obtain ⟨R129, eR129⟩ : ∃ z : Nat → Int32, z = (upd G3_4 p2.toNatClampNeg y127) := ⟨_, rfl⟩
            rw [← eR129] at hP hD hI128
            have qR129 : (R129 p2.toNatClampNeg).toInt = y127.toInt := z_put eR129 (rfl)
            refine lv_iload hx hb dX2_fallLot_261 (lv_at hl 1 rfl) ?_
            refine lv_if_eq (tgt := 267) hx hb dX2_fallLot_263 (by decide) (fun h => absurd h (by decide +kernel)) (fun _ => ?_)
            have hO : (zLot Z10 f3.toInt Z12 Z15 (zRw f3.toInt Z0) p3 ((Z11 p2.toNatClampNeg).toInt) (zRw f3.toInt Z1) (zRw f3.toInt Z2)) = (-1, 0, (G1_4 p2.toNatClampNeg).toInt + y120.toInt, v8_4.toInt) := by
              rw [← hM9]
              exact zLp_back (k := y70.toInt.toNat) (by omega) (by omega) (by omega) (by omega) (by omega) (by omega) hdn (by rw [hdk]; omega) (by rw [(by omega : (G3_4 p2.toNatClampNeg).toInt - y18.toInt = y119.toInt)]; omega)
            have ho1 : (zLot Z10 f3.toInt Z12 Z15 (zRw f3.toInt Z0) p3 ((Z11 p2.toNatClampNeg).toInt) (zRw f3.toInt Z1) (zRw f3.toInt Z2)).1 = -1 := by rw [hO]
            have ho2 : (zLot Z10 f3.toInt Z12 Z15 (zRw f3.toInt Z0) p3 ((Z11 p2.toNatClampNeg).toInt) (zRw f3.toInt Z1) (zRw f3.toInt Z2)).2.1 = 0 := by rw [hO]
            have ho3 : (zLot Z10 f3.toInt Z12 Z15 (zRw f3.toInt Z0) p3 ((Z11 p2.toNatClampNeg).toInt) (zRw f3.toInt Z1) (zRw f3.toInt Z2)).2.2.1 = (G1_4 p2.toNatClampNeg).toInt + y120.toInt := by rw [hO]
            have ho4 : (zLot Z10 f3.toInt Z12 Z15 (zRw f3.toInt Z0) p3 ((Z11 p2.toNatClampNeg).toInt) (zRw f3.toInt Z1) (zRw f3.toInt Z2)).2.2.2 = v8_4.toInt := by rw [hO]
            have hP9 := hP.sub (ws' := [(h0, .inr (2, [.ref h2, .ref h3, .ref h4, .ref h5, .ref h6, .ref h7, .int y16, .int y31, .ref h8, .ref h9, .ref h10, .ref h11])), (h1, .inr (0, [.ref h12, .int f2, .ref h13, .int f3, .ref h14, .ref h15, .ref h16, .ref h17, .ref h18, .ref h19, .int f4])), (h2, .inl (zI g, 5, .inl Z0)), (h3, .inl (zI g, 5, .inl Z1)), (h4, .inl (zI g, 5, .inl Z2)), (h6, .inl (zI g, 5, .inl R7)), (h7, .inl (zI g, 5, .inl R8)), (h8, .inl (zI g, 6, .inl R21)), (h9, .inl (zI g, 6, .inl R129)), (h10, .inl (zI g, 6, .inl R124)), (h11, .inl (zI g, 6, .inl G2_4)), (h12, .inl (zI g, 5, .inl Z10)), (h13, .inl (zI g, 6, .inl Z11)), (h14, .inl (zI g, 5, .inl Z12)), (h17, .inl (zI g, 20, .inl Z15))]) [10, 11, 5, 6, 7, 12, 13, 0, 1, 2, 3, 8, 4, 14, 9] rfl
            have hD9 := hD.sub (ws' := [(h0, .inr (2, [.ref h2, .ref h3, .ref h4, .ref h5, .ref h6, .ref h7, .int y16, .int y31, .ref h8, .ref h9, .ref h10, .ref h11])), (h1, .inr (0, [.ref h12, .int f2, .ref h13, .int f3, .ref h14, .ref h15, .ref h16, .ref h17, .ref h18, .ref h19, .int f4])), (h2, .inl (zI g, 5, .inl Z0)), (h3, .inl (zI g, 5, .inl Z1)), (h4, .inl (zI g, 5, .inl Z2)), (h6, .inl (zI g, 5, .inl R7)), (h7, .inl (zI g, 5, .inl R8)), (h8, .inl (zI g, 6, .inl R21)), (h9, .inl (zI g, 6, .inl R129)), (h10, .inl (zI g, 6, .inl R124)), (h11, .inl (zI g, 6, .inl G2_4)), (h12, .inl (zI g, 5, .inl Z10)), (h13, .inl (zI g, 6, .inl Z11)), (h14, .inl (zI g, 5, .inl Z12)), (h17, .inl (zI g, 20, .inl Z15))]) [10, 11, 5, 6, 7, 12, 13, 0, 1, 2, 3, 8, 4, 14, 9] (by decide) rfl
            exact W.vret hx hb hr (fun t ht hW => ⟨⟨⟨y16, y31, R7, R8, R21, R129, R124, G2_4⟩, rfl, ⟨⟨(show (R21 p2.toNatClampNeg).toInt = (zLot Z10 f3.toInt Z12 Z15 (zRw f3.toInt Z0) p3 ((Z11 p2.toNatClampNeg).toInt) (zRw f3.toInt Z1) (zRw f3.toInt Z2)).1 from by first | omega | decide), (show (0 ≤ (zLot Z10 f3.toInt Z12 Z15 (zRw f3.toInt Z0) p3 ((Z11 p2.toNatClampNeg).toInt) (zRw f3.toInt Z1) (zRw f3.toInt Z2)).1 → (R129 p2.toNatClampNeg).toInt = (zLot Z10 f3.toInt Z12 Z15 (zRw f3.toInt Z0) p3 ((Z11 p2.toNatClampNeg).toInt) (zRw f3.toInt Z1) (zRw f3.toInt Z2)).2.1) from by first | omega | decide), (show (R124 p2.toNatClampNeg).toInt = (zLot Z10 f3.toInt Z12 Z15 (zRw f3.toInt Z0) p3 ((Z11 p2.toNatClampNeg).toInt) (zRw f3.toInt Z1) (zRw f3.toInt Z2)).2.2.1 from by first | omega | decide), (show (G2_4 p2.toNatClampNeg).toInt = (zLot Z10 f3.toInt Z12 Z15 (zRw f3.toInt Z0) p3 ((Z11 p2.toNatClampNeg).toInt) (zRw f3.toInt Z1) (zRw f3.toInt Z2)).2.2.2 from by first | omega | decide)⟩, hI9.1, hI10.1, hI20, hI128, hI123, hG2_4⟩, by rw [ht]; exact hP9, hD9⟩, hS.F ht⟩) hS.2.2 dX2_fallLot_266
    have : (0 : Int32).toInt = 0 := rfl
    have : (1000 : Int32).toInt = 1000 := rfl
    exact loop126_4 ((4 - 0 : Int).toNat + 1) (1000 : Int32) (0 : Int32) w6 R29 R27 R23 (hI28) (hI26) (hI22) (by omega) (by omega) (by omega) (by omega) (by omega) (by omega) (by omega) (by assumption) (by omega) _ _ hP hD hS ls (lv_sub hl [5, 6, 7, 8, 4, 3, 2, 1, 0] rfl)
set_option maxHeartbeats 8000000 in
set_option maxRecDepth 100000 in
theorem gX2_settle (l : Launch) (g : zG) (h0 h1 h2 h3 h4 h5 h6 h7 h8 h9 h10 h11 h12 h13 h14 h15 h16 h17 h18 h19 : Nat) (sz : Nat) (p2 : Int32) (f0 : Int32) (f1 : Int32) (f2 : Int32) (f3 : Int32) (f4 : Int32) (Z1 : Nat → Int32) (Z2 : Nat → Int32) (Z3 : Nat → Int32) (Z6 : Nat → Int32) (Z7 : Nat → Int32) (Z11 : Nat → Int32) (Z15 : Nat → Int32) (hp0 : 0 ≤ p2.toInt) (hp1 : p2.toInt ≤ 5) (hp2 : -1 ≤ (Z6 p2.toNatClampNeg).toInt) (hp3 : (Z6 p2.toNatClampNeg).toInt < f3.toInt) (hp4 : (Z6 p2.toNatClampNeg).toInt ≤ 4) (hp5 : (0 ≤ (Z6 p2.toNatClampNeg).toInt → 0 ≤ (Z7 p2.toNatClampNeg).toInt)) (hp6 : (0 ≤ (Z6 p2.toNatClampNeg).toInt → (Z7 p2.toNatClampNeg).toInt ≤ 99)) (hp7 : (0 ≤ (Z6 p2.toNatClampNeg).toInt → (Z7 p2.toNatClampNeg).toInt ≤ (Z1 ((Z6 p2.toNatClampNeg).toInt).toNat).toInt + 99)) (hp8 : (0 ≤ (Z6 p2.toNatClampNeg).toInt → (Z2 ((Z6 p2.toNatClampNeg).toInt).toNat).toInt ≤ 5)) (hp9 : (0 ≤ (Z6 p2.toNatClampNeg).toInt → -900 ≤ (Z3 ((Z6 p2.toNatClampNeg).toInt).toNat).toInt)) (hp10 : (0 ≤ (Z6 p2.toNatClampNeg).toInt → (Z3 ((Z6 p2.toNatClampNeg).toInt).toNat).toInt ≤ 900)) (hf_f2 : 0 ≤ f2.toInt ∧ f2.toInt ≤ 6) (hf_f3 : 0 ≤ f3.toInt ∧ f3.toInt ≤ 5) (hf_f4 : 0 ≤ f4.toInt ∧ f4.toInt ≤ 9999) (hF_Z1 : iPu Z1) (hF_Z2 : iHd Z2) (hF_Z3 : iGa Z3) (hF_Z11 : iKd Z11) (hF_Z15 : iWo Z15) : Met l yX2_settle (.code yX2_settle cX2_settle 4 (some .int) :: zBig) ({ frames := 2, cells := 0, slots := 0, locals := 43 }) (va_Pc [.ref h0, .ref h1, .int p2] (zPre g [(h0, .inr (2, [.ref h2, .ref h3, .ref h4, .ref h5, .ref h6, .ref h7, .int f0, .int f1, .ref h8, .ref h9, .ref h10, .ref h11])), (h1, .inr (0, [.ref h12, .int f2, .ref h13, .int f3, .ref h14, .ref h15, .ref h16, .ref h17, .ref h18, .ref h19, .int f4])), (h3, .inl (zI g, 5, .inl Z1)), (h4, .inl (zI g, 5, .inl Z2)), (h5, .inl (zI g, 5, .inl Z3)), (h8, .inl (zI g, 6, .inl Z6)), (h9, .inl (zI g, 6, .inl Z7)), (h13, .inl (zI g, 6, .inl Z11)), (h17, .inl (zI g, 20, .inl Z15))] sz)) (va_Qi (fun (r : Int32) (u : (Nat → Int32) × (Nat → Int32) × (Nat → Int32)) => (((Z6 p2.toNatClampNeg).toInt < 0 → r.toInt = 0) ∧ (0 ≤ (Z6 p2.toNatClampNeg).toInt → r.toInt = (Z7 p2.toNatClampNeg).toInt) ∧ 0 ≤ r.toInt ∧ r.toInt ≤ 99) ∧ zU iPu f3.toInt ((Z6 p2.toNatClampNeg).toInt) (-(Z7 p2.toNatClampNeg).toInt) Z1 u.1 ∧ zU iHd f3.toInt ((Z6 p2.toNatClampNeg).toInt) 1 Z2 u.2.1 ∧ zU iGa f3.toInt ((Z6 p2.toNatClampNeg).toInt) (zWq f3.toInt Z15 ((Z6 p2.toNatClampNeg).toInt) (Z11 p2.toNatClampNeg).toInt - (Z7 p2.toNatClampNeg).toInt) Z3 u.2.2) (zPost g (fun u : (Nat → Int32) × (Nat → Int32) × (Nat → Int32) => [(h0, .inr (2, [.ref h2, .ref h3, .ref h4, .ref h5, .ref h6, .ref h7, .int f0, .int f1, .ref h8, .ref h9, .ref h10, .ref h11])), (h1, .inr (0, [.ref h12, .int f2, .ref h13, .int f3, .ref h14, .ref h15, .ref h16, .ref h17, .ref h18, .ref h19, .int f4])), (h3, .inl (zI g, 5, .inl u.1)), (h4, .inl (zI g, 5, .inl u.2.1)), (h5, .inl (zI g, 5, .inl u.2.2)), (h8, .inl (zI g, 6, .inl Z6)), (h9, .inl (zI g, 6, .inl Z7)), (h13, .inl (zI g, 6, .inl Z11)), (h17, .inl (zI g, 20, .inl Z15))]) (va_A [(h0, .inr (2, [.ref h2, .ref h3, .ref h4, .ref h5, .ref h6, .ref h7, .int f0, .int f1, .ref h8, .ref h9, .ref h10, .ref h11])), (h1, .inr (0, [.ref h12, .int f2, .ref h13, .int f3, .ref h14, .ref h15, .ref h16, .ref h17, .ref h18, .ref h19, .int f4])), (h3, .inl (zI g, 5, .inl Z1)), (h4, .inl (zI g, 5, .inl Z2)), (h5, .inl (zI g, 5, .inl Z3)), (h8, .inl (zI g, 6, .inl Z6)), (h9, .inl (zI g, 6, .inl Z7)), (h13, .inl (zI g, 6, .inl Z11)), (h17, .inl (zI g, 20, .inl Z15))] sz)) (va_A [(h0, .inr (2, [.ref h2, .ref h3, .ref h4, .ref h5, .ref h6, .ref h7, .int f0, .int f1, .ref h8, .ref h9, .ref h10, .ref h11])), (h1, .inr (0, [.ref h12, .int f2, .ref h13, .int f3, .ref h14, .ref h15, .ref h16, .ref h17, .ref h18, .ref h19, .int f4])), (h3, .inl (zI g, 5, .inl Z1)), (h4, .inl (zI g, 5, .inl Z2)), (h5, .inl (zI g, 5, .inl Z3)), (h8, .inl (zI g, 6, .inl Z6)), (h9, .inl (zI g, 6, .inl Z7)), (h13, .inl (zI g, 6, .inl Z11)), (h17, .inl (zI g, 20, .inl Z15))] sz)) 0 0 (va_A [(h0, .inr (2, [.ref h2, .ref h3, .ref h4, .ref h5, .ref h6, .ref h7, .int f0, .int f1, .ref h8, .ref h9, .ref h10, .ref h11])), (h1, .inr (0, [.ref h12, .int f2, .ref h13, .int f3, .ref h14, .ref h15, .ref h16, .ref h17, .ref h18, .ref h19, .int f4])), (h3, .inl (zI g, 5, .inl Z1)), (h4, .inl (zI g, 5, .inl Z2)), (h5, .inl (zI g, 5, .inl Z3)), (h8, .inl (zI g, 6, .inl Z6)), (h9, .inl (zI g, 6, .inl Z7)), (h13, .inl (zI g, 6, .inl Z11)), (h17, .inl (zI g, 20, .inl Z15))] sz) := by
  refine zMetI rfl (Nat.le_of_ble_eq_true rfl) ?_
  intro p e s m args below meth c A ls hx hb hml hr hlocks hin hown hts hK hN hZ hP hD hA hS hAe hl
  have hown : s.vm.findClass RX2 = some m.cls := hown
  have hl : lv_has ls 4 [(0, .ref h0), (1, .ref h1), (2, .int p2)] := hl
  refine lv_iload_n hx hb dX2_settle_0 rfl (lv_at hl 2 rfl) ?_
  refine lv_if_lt (tgt := 29) hx hb dX2_settle_1 (by decide) (fun c_0 => absurd (show p2.toInt < 0 from z_lt (rfl) (rfl) c_0) (by omega)) (fun c_0 => ?_)
  have i_0 : 0 ≤ p2.toInt := z_nlt (rfl) (rfl) c_0
  refine lv_iload_n hx hb dX2_settle_4 rfl (lv_at hl 2 rfl) ?_
  refine lv_bipush (v := 6) hx hb dX2_settle_5 (by decide) ?_
  refine lv_icmp_ge (tgt := 29) hx hb dX2_settle_7 (by decide) (fun c_1 => absurd (show 6 ≤ p2.toInt from z_le (rfl) (rfl) c_1) (by omega)) (fun c_1 => ?_)
  have i_1 : p2.toInt < 6 := z_nle (rfl) (rfl) c_1
  refine lv_aload_n hx hb dX2_settle_10 rfl (lv_at hl 0 rfl) ?_
  refine va_get (D := g.1) (ci := 2) (v := .ref h8) (C := RX2) (T := TX2) (N := 12) hx hb hts zl_X2 hown hK hP 0 rfl rfl 8 (by decide) (hts _ m_f_RX2_37) (fun _ h => h) rfl dX2_settle_11 ?_
  refine lv_iload_n hx hb dX2_settle_14 rfl (lv_at hl 2 rfl) ?_
  refine va_iald (D := g.1) hx hb hK hP 5 0 rfl rfl (vp_in_iff.mpr ⟨by omega, by omega⟩) dX2_settle_15 ?_
  refine lv_topi (fun y0 ey0 => ?_)
  have qy0_0 : y0.toInt = (Z6 p2.toNatClampNeg).toInt := congrArg Int32.toInt ey0
  refine lv_if_lt (tgt := 29) hx hb dX2_settle_16 (by decide) (fun c_2 => ?_) (fun c_2 => ?_)
  · have i_2 : y0.toInt < 0 := z_lt (rfl) (rfl) c_2
    have hI1 : zU iHd f3.toInt ((Z6 p2.toNatClampNeg).toInt) 1 Z2 Z2 := zU_no hF_Z2 (by omega)
    have hI2 : zU iPu f3.toInt ((Z6 p2.toNatClampNeg).toInt) (-(Z7 p2.toNatClampNeg).toInt) Z1 Z1 := zU_no hF_Z1 (by omega)
    have hI3 : zU iGa f3.toInt ((Z6 p2.toNatClampNeg).toInt) (zWq f3.toInt Z15 ((Z6 p2.toNatClampNeg).toInt) (Z11 p2.toNatClampNeg).toInt - (Z7 p2.toNatClampNeg).toInt) Z3 Z3 := zU_no hF_Z3 (by omega)
    refine lv_iconst (v := 0) hx hb dX2_settle_29 (by decide) ?_
    have : (0 : Int32).toInt = 0 := rfl
    have hP9 := hP.sub (ws' := [(h0, .inr (2, [.ref h2, .ref h3, .ref h4, .ref h5, .ref h6, .ref h7, .int f0, .int f1, .ref h8, .ref h9, .ref h10, .ref h11])), (h1, .inr (0, [.ref h12, .int f2, .ref h13, .int f3, .ref h14, .ref h15, .ref h16, .ref h17, .ref h18, .ref h19, .int f4])), (h3, .inl (zI g, 5, .inl Z1)), (h4, .inl (zI g, 5, .inl Z2)), (h5, .inl (zI g, 5, .inl Z3)), (h8, .inl (zI g, 6, .inl Z6)), (h9, .inl (zI g, 6, .inl Z7)), (h13, .inl (zI g, 6, .inl Z11)), (h17, .inl (zI g, 20, .inl Z15))]) [0, 1, 2, 3, 4, 5, 6, 7, 8] rfl
    have hD9 := hD.sub (ws' := [(h0, .inr (2, [.ref h2, .ref h3, .ref h4, .ref h5, .ref h6, .ref h7, .int f0, .int f1, .ref h8, .ref h9, .ref h10, .ref h11])), (h1, .inr (0, [.ref h12, .int f2, .ref h13, .int f3, .ref h14, .ref h15, .ref h16, .ref h17, .ref h18, .ref h19, .int f4])), (h3, .inl (zI g, 5, .inl Z1)), (h4, .inl (zI g, 5, .inl Z2)), (h5, .inl (zI g, 5, .inl Z3)), (h8, .inl (zI g, 6, .inl Z6)), (h9, .inl (zI g, 6, .inl Z7)), (h13, .inl (zI g, 6, .inl Z11)), (h17, .inl (zI g, 20, .inl Z15))]) [0, 1, 2, 3, 4, 5, 6, 7, 8] (by decide) rfl
    exact W.iret (v := 0) hx hb hr (fun t ht hW => ⟨⟨0, ⟨Z1, Z2, Z3⟩, rfl, ⟨⟨(by first | omega | decide), (by first | omega | decide), (by first | omega | decide), (by first | omega | decide)⟩, hI2, hI1, hI3⟩, by rw [ht]; exact hP9, hD9⟩, hS.F ht⟩) hS.2.2 dX2_settle_30
  · have i_2 : 0 ≤ y0.toInt := z_nlt (rfl) (rfl) c_2
    refine lv_aload_n hx hb dX2_settle_19 rfl (lv_at hl 0 rfl) ?_
    refine va_get (D := g.1) (ci := 2) (v := .ref h8) (C := RX2) (T := TX2) (N := 12) hx hb hts zl_X2 hown hK hP 0 rfl rfl 8 (by decide) (hts _ m_f_RX2_37) (fun _ h => h) rfl dX2_settle_20 ?_
    refine lv_iload_n hx hb dX2_settle_23 rfl (lv_at hl 2 rfl) ?_
    refine va_iald (D := g.1) hx hb hK hP 5 0 rfl rfl (vp_in_iff.mpr ⟨by omega, by omega⟩) dX2_settle_24 ?_
    refine lv_topi (fun y4 ey4 => ?_)
    have qy4_0 : y4.toInt = (Z6 p2.toNatClampNeg).toInt := congrArg Int32.toInt ey4
    refine lv_iconst (v := 5) hx hb dX2_settle_25 (by decide) ?_
    refine lv_icmp_lt (tgt := 31) hx hb dX2_settle_26 (by decide) (fun c_3 => ?_) (fun c_3 => absurd (show 5 ≤ y4.toInt from z_nlt (rfl) (rfl) c_3) (by omega))
    have i_3 : y4.toInt < 5 := z_lt (rfl) (rfl) c_3
    refine lv_aload_n hx hb dX2_settle_31 rfl (lv_at hl 0 rfl) ?_
    refine va_get (D := g.1) (ci := 2) (v := .ref h8) (C := RX2) (T := TX2) (N := 12) hx hb hts zl_X2 hown hK hP 0 rfl rfl 8 (by decide) (hts _ m_f_RX2_37) (fun _ h => h) rfl dX2_settle_32 ?_
    refine lv_iload_n hx hb dX2_settle_35 rfl (lv_at hl 2 rfl) ?_
    refine va_iald (D := g.1) hx hb hK hP 5 0 rfl rfl (vp_in_iff.mpr ⟨by omega, by omega⟩) dX2_settle_36 ?_
    refine lv_topi (fun y5 ey5 => ?_)
    have qy5_0 : y5.toInt = (Z6 p2.toNatClampNeg).toInt := congrArg Int32.toInt ey5
    refine lv_istore_n (lv' := [(3, .int y5), (0, .ref h0), (1, .ref h1), (2, .int p2)]) hx hb dX2_settle_37 rfl hl (by decide) rfl (fun ls hl => ?_)
    have hwn : y5.toNatClampNeg = ((Z6 p2.toNatClampNeg).toInt).toNat := z_tn (i := y5) (by omega) (by omega)
    have hw_had : (Z2 y5.toNatClampNeg).toInt = (Z2 ((Z6 p2.toNatClampNeg).toInt).toNat).toInt := by rw [hwn]
    have hw_purse : (Z1 y5.toNatClampNeg).toInt = (Z1 ((Z6 p2.toNatClampNeg).toInt).toNat).toInt := by rw [hwn]
    have hw_gained : (Z3 y5.toNatClampNeg).toInt = (Z3 ((Z6 p2.toNatClampNeg).toInt).toNat).toInt := by rw [hwn]
    refine lv_aload_n hx hb dX2_settle_38 rfl (lv_at hl 1 rfl) ?_
    refine va_get (D := g.1) (ci := 2) (v := .ref h4) (C := RX2) (T := TX2) (N := 12) hx hb hts zl_X2 hown hK hP 0 rfl rfl 2 (by decide) (hts _ m_f_RX2_18) (fun _ h => h) rfl dX2_settle_39 ?_
    refine lv_iload_n hx hb dX2_settle_42 rfl (lv_at hl 0 rfl) ?_
    refine lv_dup2_11 hx hb dX2_settle_43 rfl rfl ?_
    refine va_iald (D := g.1) hx hb hK hP 3 0 rfl rfl (vp_in_iff.mpr ⟨by omega, by omega⟩) dX2_settle_44 ?_
    refine lv_topi (fun y6 ey6 => ?_)
    have qy6_0 : 0 ≤ y6.toInt := (i_at (N := 5) (lo := 0) (hi := 10) (i := y5) (a := y5.toInt) hF_Z2 (rfl) (by omega) (by omega) ey6).1
    have qy6_1 : y6.toInt ≤ 10 := (i_at (N := 5) (lo := 0) (hi := 10) (i := y5) (a := y5.toInt) hF_Z2 (rfl) (by omega) (by omega) ey6).2
    have qy6_2 : y6.toInt = (Z2 y5.toNatClampNeg).toInt := congrArg Int32.toInt ey6
    refine lv_iconst (v := 1) hx hb dX2_settle_45 (by decide) ?_
    refine lv_iadd hx hb dX2_settle_46 ?_
    refine lv_topi (fun y7 ey7 => ?_)
    have qy7_0 : y7.toInt = y6.toInt + 1 := zi_add ey7 (rfl) (rfl) (by omega) (by omega)
    refine va_iast (D := g.1) hx hb hK hP hD hS 3 0 rfl rfl (vp_in_iff.mpr ⟨by omega, by omega⟩) dX2_settle_47 (fun H locs hP hD hS => ?_)
    have hP : va_P g.1 vwCl [(h0, .inr (2, [.ref h2, .ref h3, .ref h4, .ref h5, .ref h6, .ref h7, .int f0, .int f1, .ref h8, .ref h9, .ref h10, .ref h11])), (h1, .inr (0, [.ref h12, .int f2, .ref h13, .int f3, .ref h14, .ref h15, .ref h16, .ref h17, .ref h18, .ref h19, .int f4])), (h3, .inl (zI g, 5, .inl Z1)), (h4, .inl (zI g, 5, .inl (upd Z2 y5.toNatClampNeg y7))), (h5, .inl (zI g, 5, .inl Z3)), (h8, .inl (zI g, 6, .inl Z6)), (h9, .inl (zI g, 6, .inl Z7)), (h13, .inl (zI g, 6, .inl Z11)), (h17, .inl (zI g, 20, .inl Z15))] H := hP
    have hD : va_D A [(h0, .inr (2, [.ref h2, .ref h3, .ref h4, .ref h5, .ref h6, .ref h7, .int f0, .int f1, .ref h8, .ref h9, .ref h10, .ref h11])), (h1, .inr (0, [.ref h12, .int f2, .ref h13, .int f3, .ref h14, .ref h15, .ref h16, .ref h17, .ref h18, .ref h19, .int f4])), (h3, .inl (zI g, 5, .inl Z1)), (h4, .inl (zI g, 5, .inl (upd Z2 y5.toNatClampNeg y7))), (h5, .inl (zI g, 5, .inl Z3)), (h8, .inl (zI g, 6, .inl Z6)), (h9, .inl (zI g, 6, .inl Z7)), (h13, .inl (zI g, 6, .inl Z11)), (h17, .inl (zI g, 20, .inl Z15))] := hD
    have hI8 : zU iHd f3.toInt ((Z6 p2.toNatClampNeg).toInt) 1 Z2 (upd Z2 y5.toNatClampNeg y7) := zU_put (i := y5) (i_put (N := 5) (lo := 0) (hi := 10) hF_Z2 (by omega) (by omega)) (by omega) (by omega) (by omega) (by omega)
    obtain ⟨R9, eR9⟩ : ∃ z : Nat → Int32, z = (upd Z2 y5.toNatClampNeg y7) := ⟨_, rfl⟩
    rw [← eR9] at hP hD hI8
    refine lv_aload_n hx hb dX2_settle_48 rfl (lv_at hl 1 rfl) ?_
    refine va_get (D := g.1) (ci := 2) (v := .ref h3) (C := RX2) (T := TX2) (N := 12) hx hb hts zl_X2 hown hK hP 0 rfl rfl 1 (by decide) (hts _ m_f_RX2_15) (fun _ h => h) rfl dX2_settle_49 ?_
    refine lv_iload_n hx hb dX2_settle_52 rfl (lv_at hl 0 rfl) ?_
    refine lv_dup2_11 hx hb dX2_settle_53 rfl rfl ?_
    refine va_iald (D := g.1) hx hb hK hP 2 0 rfl rfl (vp_in_iff.mpr ⟨by omega, by omega⟩) dX2_settle_54 ?_
    refine lv_topi (fun y10 ey10 => ?_)
    have qy10_0 : (-99) ≤ y10.toInt := (i_at (N := 5) (lo := (-99)) (hi := 9999) (i := y5) (a := y5.toInt) hF_Z1 (rfl) (by omega) (by omega) ey10).1
    have qy10_1 : y10.toInt ≤ 9999 := (i_at (N := 5) (lo := (-99)) (hi := 9999) (i := y5) (a := y5.toInt) hF_Z1 (rfl) (by omega) (by omega) ey10).2
    have qy10_2 : y10.toInt = (Z1 y5.toNatClampNeg).toInt := congrArg Int32.toInt ey10
    refine lv_aload_n hx hb dX2_settle_55 rfl (lv_at hl 1 rfl) ?_
    refine va_get (D := g.1) (ci := 2) (v := .ref h9) (C := RX2) (T := TX2) (N := 12) hx hb hts zl_X2 hown hK hP 0 rfl rfl 9 (by decide) (hts _ m_f_RX2_40) (fun _ h => h) rfl dX2_settle_56 ?_
    refine lv_iload_n hx hb dX2_settle_59 rfl (lv_at hl 3 rfl) ?_
    refine va_iald (D := g.1) hx hb hK hP 6 0 rfl rfl (vp_in_iff.mpr ⟨by omega, by omega⟩) dX2_settle_60 ?_
    refine lv_topi (fun y11 ey11 => ?_)
    have qy11_0 : y11.toInt = (Z7 p2.toNatClampNeg).toInt := congrArg Int32.toInt ey11
    have py11_0 : 0 ≤ y11.toInt := by omega
    have py11_1 : y11.toInt ≤ 99 := by omega
    refine lv_isub hx hb dX2_settle_61 ?_
    refine lv_topi (fun y12 ey12 => ?_)
    have qy12_0 : y12.toInt = y10.toInt - y11.toInt := zi_sub ey12 (rfl) (rfl) (by omega) (by omega)
    refine va_iast (D := g.1) hx hb hK hP hD hS 2 0 rfl rfl (vp_in_iff.mpr ⟨by omega, by omega⟩) dX2_settle_62 (fun H locs hP hD hS => ?_)
    have hP : va_P g.1 vwCl [(h0, .inr (2, [.ref h2, .ref h3, .ref h4, .ref h5, .ref h6, .ref h7, .int f0, .int f1, .ref h8, .ref h9, .ref h10, .ref h11])), (h1, .inr (0, [.ref h12, .int f2, .ref h13, .int f3, .ref h14, .ref h15, .ref h16, .ref h17, .ref h18, .ref h19, .int f4])), (h3, .inl (zI g, 5, .inl (upd Z1 y5.toNatClampNeg y12))), (h4, .inl (zI g, 5, .inl R9)), (h5, .inl (zI g, 5, .inl Z3)), (h8, .inl (zI g, 6, .inl Z6)), (h9, .inl (zI g, 6, .inl Z7)), (h13, .inl (zI g, 6, .inl Z11)), (h17, .inl (zI g, 20, .inl Z15))] H := hP
    have hD : va_D A [(h0, .inr (2, [.ref h2, .ref h3, .ref h4, .ref h5, .ref h6, .ref h7, .int f0, .int f1, .ref h8, .ref h9, .ref h10, .ref h11])), (h1, .inr (0, [.ref h12, .int f2, .ref h13, .int f3, .ref h14, .ref h15, .ref h16, .ref h17, .ref h18, .ref h19, .int f4])), (h3, .inl (zI g, 5, .inl (upd Z1 y5.toNatClampNeg y12))), (h4, .inl (zI g, 5, .inl R9)), (h5, .inl (zI g, 5, .inl Z3)), (h8, .inl (zI g, 6, .inl Z6)), (h9, .inl (zI g, 6, .inl Z7)), (h13, .inl (zI g, 6, .inl Z11)), (h17, .inl (zI g, 20, .inl Z15))] := hD
    have hI13 : zU iPu f3.toInt ((Z6 p2.toNatClampNeg).toInt) (-(Z7 p2.toNatClampNeg).toInt) Z1 (upd Z1 y5.toNatClampNeg y12) := zU_put (i := y5) (i_put (N := 5) (lo := (-99)) (hi := 9999) hF_Z1 (by omega) (by omega)) (by omega) (by omega) (by omega) (by omega)
    obtain ⟨R14, eR14⟩ : ∃ z : Nat → Int32, z = (upd Z1 y5.toNatClampNeg y12) := ⟨_, rfl⟩
    rw [← eR14] at hP hD hI13
    refine lv_aload_n hx hb dX2_settle_63 rfl (lv_at hl 1 rfl) ?_
    refine va_get (D := g.1) (ci := 2) (v := .ref h5) (C := RX2) (T := TX2) (N := 12) hx hb hts zl_X2 hown hK hP 0 rfl rfl 3 (by decide) (hts _ m_f_RX2_21) (fun _ h => h) rfl dX2_settle_64 ?_
    refine lv_iload_n hx hb dX2_settle_67 rfl (lv_at hl 0 rfl) ?_
    refine lv_dup2_11 hx hb dX2_settle_68 rfl rfl ?_
    refine va_iald (D := g.1) hx hb hK hP 4 0 rfl rfl (vp_in_iff.mpr ⟨by omega, by omega⟩) dX2_settle_69 ?_
    refine lv_topi (fun y15 ey15 => ?_)
    have qy15_0 : (-1000) ≤ y15.toInt := (i_at (N := 5) (lo := (-1000)) (hi := 1000) (i := y5) (a := y5.toInt) hF_Z3 (rfl) (by omega) (by omega) ey15).1
    have qy15_1 : y15.toInt ≤ 1000 := (i_at (N := 5) (lo := (-1000)) (hi := 1000) (i := y5) (a := y5.toInt) hF_Z3 (rfl) (by omega) (by omega) ey15).2
    have qy15_2 : y15.toInt = (Z3 y5.toNatClampNeg).toInt := congrArg Int32.toInt ey15
    refine lv_aload_n hx hb dX2_settle_70 rfl (lv_at hl 2 rfl) ?_
    refine lv_iload_n hx hb dX2_settle_71 rfl (lv_at hl 0 rfl) ?_
    refine lv_aload_n hx hb dX2_settle_72 rfl (lv_at hl 2 rfl) ?_
    refine va_getN (D := g.1) (ci := 0) (v := .ref h13) (C := RX0) (T := TX0) (N := 11) hx hb hts zl_X0 hown hK hP 1 rfl rfl 2 (by decide) (hN.f 5 (q := (RX2, 97, "FishSteps$Books", "kind", "[I")) rfl) (fun _ h => h) rfl dX2_settle_73 ?_
    refine lv_iload_n hx hb dX2_settle_76 rfl (lv_at hl 3 rfl) ?_
    refine va_iald (D := g.1) hx hb hK hP 7 0 rfl rfl (vp_in_iff.mpr ⟨by omega, by omega⟩) dX2_settle_77 ?_
    refine lv_topi (fun y16 ey16 => ?_)
    have qy16_0 : 0 ≤ y16.toInt := (iKd_at (i := p2) (a := p2.toInt) hF_Z11 (rfl) (by omega) (by omega) ey16).1
    have qy16_1 : y16.toInt ≤ 3 := (iKd_at (i := p2) (a := p2.toInt) hF_Z11 (rfl) (by omega) (by omega) ey16).2
    have qy16_2 : y16.toInt = (Z11 p2.toNatClampNeg).toInt := congrArg Int32.toInt ey16
    refine z_calli (wr := [(h0, .inr (2, [.ref h2, .ref h3, .ref h4, .ref h5, .ref h6, .ref h7, .int f0, .int f1, .ref h8, .ref h9, .ref h10, .ref h11])), (h3, .inl (zI g, 5, .inl R14)), (h4, .inl (zI g, 5, .inl R9)), (h5, .inl (zI g, 5, .inl Z3)), (h8, .inl (zI g, 6, .inl Z6)), (h9, .inl (zI g, 6, .inl Z7)), (h13, .inl (zI g, 6, .inl Z11))]) hP hD hS hA [1, 8] [0, 2, 3, 4, 5, 6, 7] (by decide) rfl rfl (by decide) (va_runVN (As := [.int y5, .int y16]) (rest := [.int y15, .int y5, .ref h5]) ⟨hx, hb, hml, hown, hts⟩ (gX0_worthOf l g h1 h12 h13 h14 h15 h16 h17 h18 h19 H.size y5 y16 f2 f3 f4 Z15 (by constructor <;> omega) (by constructor <;> omega) (by constructor <;> omega) hF_Z15) ⟨va_cnB 2 hts (zGood m_o_yX0_worthOf) rfl rfl rfl (hN.m 15 (q := (RX2, 137, yX0_worthOf)) rfl) (hts _ m_z_RX0) ⟨by decide +kernel, by decide +kernel, by decide +kernel⟩ ⟨Nat.le_of_ble_eq_true rfl, Nat.le_of_ble_eq_true rfl⟩, hts _ m_i_yX0_worthOf, hts _ m_e_yX0_worthOf⟩ (zPreV hK hN hZ hP hD hS hA [1, 8] (by decide) rfl rfl 0 1 rfl rfl) rfl rfl hl.1 rfl (lv_room (Nat.le_of_ble_eq_true rfl)) dX2_settle_78 ⟨Nat.le_of_ble_eq_true rfl, Nat.le_of_ble_eq_true rfl⟩) (fun r u H locs hw hP hD hS => ?_)
    obtain ⟨y17, rfl⟩ : ∃ z, z = r := ⟨_, rfl⟩
    obtain ⟨q18_0, q18_1, q18_2⟩ := hw
    have q18_0 : y17.toInt = zWq f3.toInt Z15 y5.toInt y16.toInt := q18_0
    have q18_1 : 0 ≤ y17.toInt := q18_1
    have q18_2 : y17.toInt ≤ 99 := q18_2
    have hP : va_P g.1 vwCl [(h0, .inr (2, [.ref h2, .ref h3, .ref h4, .ref h5, .ref h6, .ref h7, .int f0, .int f1, .ref h8, .ref h9, .ref h10, .ref h11])), (h3, .inl (zI g, 5, .inl R14)), (h4, .inl (zI g, 5, .inl R9)), (h5, .inl (zI g, 5, .inl Z3)), (h8, .inl (zI g, 6, .inl Z6)), (h9, .inl (zI g, 6, .inl Z7)), (h13, .inl (zI g, 6, .inl Z11)), (h1, .inr (0, [.ref h12, .int f2, .ref h13, .int f3, .ref h14, .ref h15, .ref h16, .ref h17, .ref h18, .ref h19, .int f4])), (h17, .inl (zI g, 20, .inl Z15))] H := hP
    have hD : va_D A [(h0, .inr (2, [.ref h2, .ref h3, .ref h4, .ref h5, .ref h6, .ref h7, .int f0, .int f1, .ref h8, .ref h9, .ref h10, .ref h11])), (h3, .inl (zI g, 5, .inl R14)), (h4, .inl (zI g, 5, .inl R9)), (h5, .inl (zI g, 5, .inl Z3)), (h8, .inl (zI g, 6, .inl Z6)), (h9, .inl (zI g, 6, .inl Z7)), (h13, .inl (zI g, 6, .inl Z11)), (h1, .inr (0, [.ref h12, .int f2, .ref h13, .int f3, .ref h14, .ref h15, .ref h16, .ref h17, .ref h18, .ref h19, .int f4])), (h17, .inl (zI g, 20, .inl Z15))] := hD
    have hwq : y17.toInt = zWq f3.toInt Z15 ((Z6 p2.toNatClampNeg).toInt) ((Z11 p2.toNatClampNeg).toInt) := by
      rw [← (by omega : y5.toInt = (Z6 p2.toNatClampNeg).toInt), ← (by omega : y16.toInt = (Z11 p2.toNatClampNeg).toInt)]
      omega
    refine lv_aload_n hx hb dX2_settle_81 rfl (lv_at hl 1 rfl) ?_
    refine va_get (D := g.1) (ci := 2) (v := .ref h9) (C := RX2) (T := TX2) (N := 12) hx hb hts zl_X2 hown hK hP 0 rfl rfl 9 (by decide) (hts _ m_f_RX2_40) (fun _ h => h) rfl dX2_settle_82 ?_
    refine lv_iload_n hx hb dX2_settle_85 rfl (lv_at hl 3 rfl) ?_
    refine va_iald (D := g.1) hx hb hK hP 5 0 rfl rfl (vp_in_iff.mpr ⟨by omega, by omega⟩) dX2_settle_86 ?_
    refine lv_topi (fun y19 ey19 => ?_)
    have qy19_0 : y19.toInt = (Z7 p2.toNatClampNeg).toInt := congrArg Int32.toInt ey19
    have py19_0 : 0 ≤ y19.toInt := by omega
    have py19_1 : y19.toInt ≤ 99 := by omega
    refine lv_isub hx hb dX2_settle_87 ?_
    refine lv_topi (fun y20 ey20 => ?_)
    have qy20_0 : y20.toInt = y17.toInt - y19.toInt := zi_sub ey20 (rfl) (rfl) (by omega) (by omega)
    refine lv_iadd hx hb dX2_settle_88 ?_
    refine lv_topi (fun y21 ey21 => ?_)
    have qy21_0 : y21.toInt = y15.toInt + y20.toInt := zi_add ey21 (rfl) (rfl) (by omega) (by omega)
    refine va_iast (D := g.1) hx hb hK hP hD hS 3 0 rfl rfl (vp_in_iff.mpr ⟨by omega, by omega⟩) dX2_settle_89 (fun H locs hP hD hS => ?_)
    have hP : va_P g.1 vwCl [(h0, .inr (2, [.ref h2, .ref h3, .ref h4, .ref h5, .ref h6, .ref h7, .int f0, .int f1, .ref h8, .ref h9, .ref h10, .ref h11])), (h3, .inl (zI g, 5, .inl R14)), (h4, .inl (zI g, 5, .inl R9)), (h5, .inl (zI g, 5, .inl (upd Z3 y5.toNatClampNeg y21))), (h8, .inl (zI g, 6, .inl Z6)), (h9, .inl (zI g, 6, .inl Z7)), (h13, .inl (zI g, 6, .inl Z11)), (h1, .inr (0, [.ref h12, .int f2, .ref h13, .int f3, .ref h14, .ref h15, .ref h16, .ref h17, .ref h18, .ref h19, .int f4])), (h17, .inl (zI g, 20, .inl Z15))] H := hP
    have hD : va_D A [(h0, .inr (2, [.ref h2, .ref h3, .ref h4, .ref h5, .ref h6, .ref h7, .int f0, .int f1, .ref h8, .ref h9, .ref h10, .ref h11])), (h3, .inl (zI g, 5, .inl R14)), (h4, .inl (zI g, 5, .inl R9)), (h5, .inl (zI g, 5, .inl (upd Z3 y5.toNatClampNeg y21))), (h8, .inl (zI g, 6, .inl Z6)), (h9, .inl (zI g, 6, .inl Z7)), (h13, .inl (zI g, 6, .inl Z11)), (h1, .inr (0, [.ref h12, .int f2, .ref h13, .int f3, .ref h14, .ref h15, .ref h16, .ref h17, .ref h18, .ref h19, .int f4])), (h17, .inl (zI g, 20, .inl Z15))] := hD
    have hI22 : zU iGa f3.toInt ((Z6 p2.toNatClampNeg).toInt) (zWq f3.toInt Z15 ((Z6 p2.toNatClampNeg).toInt) (Z11 p2.toNatClampNeg).toInt - (Z7 p2.toNatClampNeg).toInt) Z3 (upd Z3 y5.toNatClampNeg y21) := zU_put (i := y5) (i_put (N := 5) (lo := (-1000)) (hi := 1000) hF_Z3 (by omega) (by omega)) (by omega) (by omega) (by omega) (by omega)
    obtain ⟨R23, eR23⟩ : ∃ z : Nat → Int32, z = (upd Z3 y5.toNatClampNeg y21) := ⟨_, rfl⟩
    rw [← eR23] at hP hD hI22
    refine lv_aload_n hx hb dX2_settle_90 rfl (lv_at hl 1 rfl) ?_
    refine va_get (D := g.1) (ci := 2) (v := .ref h9) (C := RX2) (T := TX2) (N := 12) hx hb hts zl_X2 hown hK hP 0 rfl rfl 9 (by decide) (hts _ m_f_RX2_40) (fun _ h => h) rfl dX2_settle_91 ?_
    refine lv_iload_n hx hb dX2_settle_94 rfl (lv_at hl 3 rfl) ?_
    refine va_iald (D := g.1) hx hb hK hP 5 0 rfl rfl (vp_in_iff.mpr ⟨by omega, by omega⟩) dX2_settle_95 ?_
    refine lv_topi (fun y24 ey24 => ?_)
    have qy24_0 : y24.toInt = (Z7 p2.toNatClampNeg).toInt := congrArg Int32.toInt ey24
    have hP9 := hP.sub (ws' := [(h0, .inr (2, [.ref h2, .ref h3, .ref h4, .ref h5, .ref h6, .ref h7, .int f0, .int f1, .ref h8, .ref h9, .ref h10, .ref h11])), (h1, .inr (0, [.ref h12, .int f2, .ref h13, .int f3, .ref h14, .ref h15, .ref h16, .ref h17, .ref h18, .ref h19, .int f4])), (h3, .inl (zI g, 5, .inl R14)), (h4, .inl (zI g, 5, .inl R9)), (h5, .inl (zI g, 5, .inl R23)), (h8, .inl (zI g, 6, .inl Z6)), (h9, .inl (zI g, 6, .inl Z7)), (h13, .inl (zI g, 6, .inl Z11)), (h17, .inl (zI g, 20, .inl Z15))]) [0, 7, 1, 2, 3, 4, 5, 6, 8] rfl
    have hD9 := hD.sub (ws' := [(h0, .inr (2, [.ref h2, .ref h3, .ref h4, .ref h5, .ref h6, .ref h7, .int f0, .int f1, .ref h8, .ref h9, .ref h10, .ref h11])), (h1, .inr (0, [.ref h12, .int f2, .ref h13, .int f3, .ref h14, .ref h15, .ref h16, .ref h17, .ref h18, .ref h19, .int f4])), (h3, .inl (zI g, 5, .inl R14)), (h4, .inl (zI g, 5, .inl R9)), (h5, .inl (zI g, 5, .inl R23)), (h8, .inl (zI g, 6, .inl Z6)), (h9, .inl (zI g, 6, .inl Z7)), (h13, .inl (zI g, 6, .inl Z11)), (h17, .inl (zI g, 20, .inl Z15))]) [0, 7, 1, 2, 3, 4, 5, 6, 8] (by decide) rfl
    exact W.iret (v := y24) hx hb hr (fun t ht hW => ⟨⟨y24, ⟨R14, R9, R23⟩, rfl, ⟨⟨(by first | omega | decide), (by first | omega | decide), (by first | omega | decide), (by first | omega | decide)⟩, hI13, hI8, hI22⟩, by rw [ht]; exact hP9, hD9⟩, hS.F ht⟩) hS.2.2 dX2_settle_96
set_option maxHeartbeats 8000000 in
set_option maxRecDepth 100000 in
theorem gX2_fall (l : Launch) (g : zG) (h0 h1 h2 h3 h4 h5 h6 h7 h8 h9 h10 h11 h12 h13 h14 h15 h16 h17 h18 h19 : Nat) (sz : Nat) (p2 : Int32) (f0 : Int32) (f1 : Int32) (f2 : Int32) (f3 : Int32) (f4 : Int32) (Z0 : Nat → Int32) (Z1 : Nat → Int32) (Z2 : Nat → Int32) (Z3 : Nat → Int32) (Z4 : Nat → Int32) (Z5 : Nat → Int32) (Z6 : Nat → Int32) (Z7 : Nat → Int32) (Z8 : Nat → Int32) (Z9 : Nat → Int32) (Z10 : Nat → Int32) (Z11 : Nat → Int32) (Z12 : Nat → Int32) (Z13 : Nat → Int32) (Z15 : Nat → Int32) (hp0 : 0 ≤ p2.toInt) (hp1 : p2.toInt ≤ 31) (hf_f2 : 0 ≤ f2.toInt ∧ f2.toInt ≤ 6) (hf_f3 : 0 ≤ f3.toInt ∧ f3.toInt ≤ 5) (hf_f4 : 0 ≤ f4.toInt ∧ f4.toInt ≤ 9999) (hF_Z0 : iMa Z0) (hF_Z1 : iPu Z1) (hF_Z2 : iHd Z2) (hF_Z3 : iGa Z3) (hF_Z4 : iLm Z4) (hF_Z5 : iMo Z5) (hF_Z10 : iLaw Z10) (hF_Z11 : iKd Z11) (hF_Z12 : iSo Z12) (hF_Z13 : iPu Z13) (hF_Z15 : iWo Z15) : Met l yX2_fall (.code yX2_fall cX2_fall 4 none :: zBig) ({ frames := 4, cells := 0, slots := 0, locals := 100 }) (va_Pc [.ref h0, .ref h1, .int p2] (zPre g [(h0, .inr (2, [.ref h2, .ref h3, .ref h4, .ref h5, .ref h6, .ref h7, .int f0, .int f1, .ref h8, .ref h9, .ref h10, .ref h11])), (h1, .inr (0, [.ref h12, .int f2, .ref h13, .int f3, .ref h14, .ref h15, .ref h16, .ref h17, .ref h18, .ref h19, .int f4])), (h2, .inl (zI g, 5, .inl Z0)), (h3, .inl (zI g, 5, .inl Z1)), (h4, .inl (zI g, 5, .inl Z2)), (h5, .inl (zI g, 5, .inl Z3)), (h6, .inl (zI g, 5, .inl Z4)), (h7, .inl (zI g, 5, .inl Z5)), (h8, .inl (zI g, 6, .inl Z6)), (h9, .inl (zI g, 6, .inl Z7)), (h10, .inl (zI g, 6, .inl Z8)), (h11, .inl (zI g, 6, .inl Z9)), (h12, .inl (zI g, 5, .inl Z10)), (h13, .inl (zI g, 6, .inl Z11)), (h14, .inl (zI g, 5, .inl Z12)), (h15, .inl (zI g, 5, .inl Z13)), (h17, .inl (zI g, 20, .inl Z15))] sz)) (va_Qv (fun u : Int32 × Int32 × (Nat → Int32) × (Nat → Int32) × (Nat → Int32) × (Nat → Int32) × (Nat → Int32) × (Nat → Int32) × (Nat → Int32) × (Nat → Int32) × (Nat → Int32) => (True) ∧ zE iPu f3.toInt (zSm Z10 f3.toInt Z12 Z15 (zRw f3.toInt Z0) p2 (zIv Z11) (zRw f3.toInt Z13) f2.toInt.toNat).1 u.2.2.1 ∧ zE iHd f3.toInt (zSm Z10 f3.toInt Z12 Z15 (zRw f3.toInt Z0) p2 (zIv Z11) (zRw f3.toInt Z13) f2.toInt.toNat).2.1 u.2.2.2.1 ∧ zE iGa f3.toInt (zSm Z10 f3.toInt Z12 Z15 (zRw f3.toInt Z0) p2 (zIv Z11) (zRw f3.toInt Z13) f2.toInt.toNat).2.2.1 u.2.2.2.2.1 ∧ iLm u.2.2.2.2.2.1 ∧ iMo u.2.2.2.2.2.2.1 ∧ zTo (zQw Z10 f3.toInt Z12 Z15 (zRw f3.toInt Z0) p2 (zIv Z11) (zRw f3.toInt Z13)) f2.toInt u.2.2.2.2.2.2.2.1 ∧ zTp2 (zQw Z10 f3.toInt Z12 Z15 (zRw f3.toInt Z0) p2 (zIv Z11) (zRw f3.toInt Z13)) (zQp Z10 f3.toInt Z12 Z15 (zRw f3.toInt Z0) p2 (zIv Z11) (zRw f3.toInt Z13)) f2.toInt u.2.2.2.2.2.2.2.2.1 ∧ zTo (zQb Z10 f3.toInt Z12 Z15 (zRw f3.toInt Z0) p2 (zIv Z11) (zRw f3.toInt Z13)) f2.toInt u.2.2.2.2.2.2.2.2.2.1 ∧ zTo (zQr Z10 f3.toInt Z12 Z15 (zRw f3.toInt Z0) p2 (zIv Z11) (zRw f3.toInt Z13)) f2.toInt u.2.2.2.2.2.2.2.2.2.2) (zPost g (fun u : Int32 × Int32 × (Nat → Int32) × (Nat → Int32) × (Nat → Int32) × (Nat → Int32) × (Nat → Int32) × (Nat → Int32) × (Nat → Int32) × (Nat → Int32) × (Nat → Int32) => [(h0, .inr (2, [.ref h2, .ref h3, .ref h4, .ref h5, .ref h6, .ref h7, .int u.1, .int u.2.1, .ref h8, .ref h9, .ref h10, .ref h11])), (h1, .inr (0, [.ref h12, .int f2, .ref h13, .int f3, .ref h14, .ref h15, .ref h16, .ref h17, .ref h18, .ref h19, .int f4])), (h2, .inl (zI g, 5, .inl Z0)), (h3, .inl (zI g, 5, .inl u.2.2.1)), (h4, .inl (zI g, 5, .inl u.2.2.2.1)), (h5, .inl (zI g, 5, .inl u.2.2.2.2.1)), (h6, .inl (zI g, 5, .inl u.2.2.2.2.2.1)), (h7, .inl (zI g, 5, .inl u.2.2.2.2.2.2.1)), (h8, .inl (zI g, 6, .inl u.2.2.2.2.2.2.2.1)), (h9, .inl (zI g, 6, .inl u.2.2.2.2.2.2.2.2.1)), (h10, .inl (zI g, 6, .inl u.2.2.2.2.2.2.2.2.2.1)), (h11, .inl (zI g, 6, .inl u.2.2.2.2.2.2.2.2.2.2)), (h12, .inl (zI g, 5, .inl Z10)), (h13, .inl (zI g, 6, .inl Z11)), (h14, .inl (zI g, 5, .inl Z12)), (h15, .inl (zI g, 5, .inl Z13)), (h17, .inl (zI g, 20, .inl Z15))]) (va_A [(h0, .inr (2, [.ref h2, .ref h3, .ref h4, .ref h5, .ref h6, .ref h7, .int f0, .int f1, .ref h8, .ref h9, .ref h10, .ref h11])), (h1, .inr (0, [.ref h12, .int f2, .ref h13, .int f3, .ref h14, .ref h15, .ref h16, .ref h17, .ref h18, .ref h19, .int f4])), (h2, .inl (zI g, 5, .inl Z0)), (h3, .inl (zI g, 5, .inl Z1)), (h4, .inl (zI g, 5, .inl Z2)), (h5, .inl (zI g, 5, .inl Z3)), (h6, .inl (zI g, 5, .inl Z4)), (h7, .inl (zI g, 5, .inl Z5)), (h8, .inl (zI g, 6, .inl Z6)), (h9, .inl (zI g, 6, .inl Z7)), (h10, .inl (zI g, 6, .inl Z8)), (h11, .inl (zI g, 6, .inl Z9)), (h12, .inl (zI g, 5, .inl Z10)), (h13, .inl (zI g, 6, .inl Z11)), (h14, .inl (zI g, 5, .inl Z12)), (h15, .inl (zI g, 5, .inl Z13)), (h17, .inl (zI g, 20, .inl Z15))] sz)) (va_A [(h0, .inr (2, [.ref h2, .ref h3, .ref h4, .ref h5, .ref h6, .ref h7, .int f0, .int f1, .ref h8, .ref h9, .ref h10, .ref h11])), (h1, .inr (0, [.ref h12, .int f2, .ref h13, .int f3, .ref h14, .ref h15, .ref h16, .ref h17, .ref h18, .ref h19, .int f4])), (h2, .inl (zI g, 5, .inl Z0)), (h3, .inl (zI g, 5, .inl Z1)), (h4, .inl (zI g, 5, .inl Z2)), (h5, .inl (zI g, 5, .inl Z3)), (h6, .inl (zI g, 5, .inl Z4)), (h7, .inl (zI g, 5, .inl Z5)), (h8, .inl (zI g, 6, .inl Z6)), (h9, .inl (zI g, 6, .inl Z7)), (h10, .inl (zI g, 6, .inl Z8)), (h11, .inl (zI g, 6, .inl Z9)), (h12, .inl (zI g, 5, .inl Z10)), (h13, .inl (zI g, 6, .inl Z11)), (h14, .inl (zI g, 5, .inl Z12)), (h15, .inl (zI g, 5, .inl Z13)), (h17, .inl (zI g, 20, .inl Z15))] sz)) 0 0 (va_A [(h0, .inr (2, [.ref h2, .ref h3, .ref h4, .ref h5, .ref h6, .ref h7, .int f0, .int f1, .ref h8, .ref h9, .ref h10, .ref h11])), (h1, .inr (0, [.ref h12, .int f2, .ref h13, .int f3, .ref h14, .ref h15, .ref h16, .ref h17, .ref h18, .ref h19, .int f4])), (h2, .inl (zI g, 5, .inl Z0)), (h3, .inl (zI g, 5, .inl Z1)), (h4, .inl (zI g, 5, .inl Z2)), (h5, .inl (zI g, 5, .inl Z3)), (h6, .inl (zI g, 5, .inl Z4)), (h7, .inl (zI g, 5, .inl Z5)), (h8, .inl (zI g, 6, .inl Z6)), (h9, .inl (zI g, 6, .inl Z7)), (h10, .inl (zI g, 6, .inl Z8)), (h11, .inl (zI g, 6, .inl Z9)), (h12, .inl (zI g, 5, .inl Z10)), (h13, .inl (zI g, 6, .inl Z11)), (h14, .inl (zI g, 5, .inl Z12)), (h15, .inl (zI g, 5, .inl Z13)), (h17, .inl (zI g, 20, .inl Z15))] sz) := by
  refine zMetV rfl (Nat.le_of_ble_eq_true rfl) ?_
  intro p e s m args below meth c A ls hx hb hml hr hlocks hin hown hts hK hN hZ hP hD hA hS hAe hl
  have hown : s.vm.findClass RX2 = some m.cls := hown
  have hl : lv_has ls 4 [(0, .ref h0), (1, .ref h1), (2, .int p2)] := hl
  refine lv_aload_n hx hb dX2_fall_0 rfl (lv_at hl 0 rfl) ?_
  refine lv_aload_n hx hb dX2_fall_1 rfl (lv_at hl 1 rfl) ?_
  refine z_callv (wr := [(h2, .inl (zI g, 5, .inl Z0)), (h6, .inl (zI g, 5, .inl Z4)), (h7, .inl (zI g, 5, .inl Z5)), (h8, .inl (zI g, 6, .inl Z6)), (h9, .inl (zI g, 6, .inl Z7)), (h10, .inl (zI g, 6, .inl Z8)), (h11, .inl (zI g, 6, .inl Z9)), (h12, .inl (zI g, 5, .inl Z10)), (h13, .inl (zI g, 6, .inl Z11)), (h14, .inl (zI g, 5, .inl Z12)), (h17, .inl (zI g, 20, .inl Z15))]) hP hD hS hA [0, 1, 3, 4, 5, 15] [2, 6, 7, 8, 9, 10, 11, 12, 13, 14, 16] (by decide) rfl rfl (by decide) (va_runV (As := [.ref h1]) (rest := []) ⟨hx, hb, hml, hown, hts⟩ (gX2_begin l g h0 h1 h2 h3 h4 h5 h6 h7 h8 h9 h10 h11 h12 h13 h14 h15 h16 h17 h18 h19 s.heap.size f0 f1 f2 f3 f4 Z1 Z2 Z3 Z13 (by constructor <;> omega) (by constructor <;> omega) (by constructor <;> omega) hF_Z1 hF_Z2 hF_Z3 hF_Z13) ⟨callB_of 1 hts (zGood m_o_yX2_begin) rfl rfl rfl (hts _ m_z_RX2) (hts _ m_m_RX2_73) ⟨by decide +kernel, by decide +kernel, by decide +kernel⟩ ⟨Nat.le_of_ble_eq_true rfl, Nat.le_of_ble_eq_true rfl⟩, hts _ m_i_yX2_begin, hts _ m_e_yX2_begin⟩ (zPreV hK hN hZ hP hD hS hA [0, 1, 3, 4, 5, 15] (by decide) rfl rfl 2 0 rfl rfl) rfl rfl hl.1 rfl (lv_room (Nat.le_of_ble_eq_true rfl)) dX2_fall_2 ⟨Nat.le_of_ble_eq_true rfl, Nat.le_of_ble_eq_true rfl⟩) (fun u H locs hw hP hD hS => ?_)
  obtain ⟨R0, R1, R2⟩ := u
  obtain ⟨hw, hI3, hI4, hI5, hI6⟩ := hw
  have hI6 : R0 = va_cpy Z13 Z1 0 0 5 := hI6
  have hP : va_P g.1 vwCl [(h2, .inl (zI g, 5, .inl Z0)), (h6, .inl (zI g, 5, .inl Z4)), (h7, .inl (zI g, 5, .inl Z5)), (h8, .inl (zI g, 6, .inl Z6)), (h9, .inl (zI g, 6, .inl Z7)), (h10, .inl (zI g, 6, .inl Z8)), (h11, .inl (zI g, 6, .inl Z9)), (h12, .inl (zI g, 5, .inl Z10)), (h13, .inl (zI g, 6, .inl Z11)), (h14, .inl (zI g, 5, .inl Z12)), (h17, .inl (zI g, 20, .inl Z15)), (h0, .inr (2, [.ref h2, .ref h3, .ref h4, .ref h5, .ref h6, .ref h7, .int f0, .int f1, .ref h8, .ref h9, .ref h10, .ref h11])), (h1, .inr (0, [.ref h12, .int f2, .ref h13, .int f3, .ref h14, .ref h15, .ref h16, .ref h17, .ref h18, .ref h19, .int f4])), (h3, .inl (zI g, 5, .inl R0)), (h4, .inl (zI g, 5, .inl R1)), (h5, .inl (zI g, 5, .inl R2)), (h15, .inl (zI g, 5, .inl Z13))] H := hP
  have hD : va_D A [(h2, .inl (zI g, 5, .inl Z0)), (h6, .inl (zI g, 5, .inl Z4)), (h7, .inl (zI g, 5, .inl Z5)), (h8, .inl (zI g, 6, .inl Z6)), (h9, .inl (zI g, 6, .inl Z7)), (h10, .inl (zI g, 6, .inl Z8)), (h11, .inl (zI g, 6, .inl Z9)), (h12, .inl (zI g, 5, .inl Z10)), (h13, .inl (zI g, 6, .inl Z11)), (h14, .inl (zI g, 5, .inl Z12)), (h17, .inl (zI g, 20, .inl Z15)), (h0, .inr (2, [.ref h2, .ref h3, .ref h4, .ref h5, .ref h6, .ref h7, .int f0, .int f1, .ref h8, .ref h9, .ref h10, .ref h11])), (h1, .inr (0, [.ref h12, .int f2, .ref h13, .int f3, .ref h14, .ref h15, .ref h16, .ref h17, .ref h18, .ref h19, .int f4])), (h3, .inl (zI g, 5, .inl R0)), (h4, .inl (zI g, 5, .inl R1)), (h5, .inl (zI g, 5, .inl R2)), (h15, .inl (zI g, 5, .inl Z13))] := hD
  have hI7 : zE iPu f3.toInt (zSm Z10 f3.toInt Z12 Z15 (zRw f3.toInt Z0) p2 (zIv Z11) (zRw f3.toInt Z13) ((0 : Int32).toInt : Int).toNat).1 R0 := ⟨hI3, by rw [hI6]; exact zRw_cpy (by omega)⟩
  have hI8 : zE iHd f3.toInt (zSm Z10 f3.toInt Z12 Z15 (zRw f3.toInt Z0) p2 (zIv Z11) (zRw f3.toInt Z13) ((0 : Int32).toInt : Int).toNat).2.1 R1 := ⟨hI4.1, zRw_fil hI4.2 (by omega)⟩
  have hI9 : zE iGa f3.toInt (zSm Z10 f3.toInt Z12 Z15 (zRw f3.toInt Z0) p2 (zIv Z11) (zRw f3.toInt Z13) ((0 : Int32).toInt : Int).toNat).2.2.1 R2 := ⟨hI5.1, zRw_fil hI5.2 (by omega)⟩
  have hI10 : zTo (zQw Z10 f3.toInt Z12 Z15 (zRw f3.toInt Z0) p2 (zIv Z11) (zRw f3.toInt Z13)) 0 Z6 := zTo_0
  have hI11 : zTp2 (zQw Z10 f3.toInt Z12 Z15 (zRw f3.toInt Z0) p2 (zIv Z11) (zRw f3.toInt Z13)) (zQp Z10 f3.toInt Z12 Z15 (zRw f3.toInt Z0) p2 (zIv Z11) (zRw f3.toInt Z13)) 0 Z7 := zTp2_0
  have hI12 : zTo (zQb Z10 f3.toInt Z12 Z15 (zRw f3.toInt Z0) p2 (zIv Z11) (zRw f3.toInt Z13)) 0 Z8 := zTo_0
  have hI13 : zTo (zQr Z10 f3.toInt Z12 Z15 (zRw f3.toInt Z0) p2 (zIv Z11) (zRw f3.toInt Z13)) 0 Z9 := zTo_0
  refine lv_iconst (v := 0) hx hb dX2_fall_5 (by decide) ?_
  refine lv_istore_n (lv' := [(3, .int 0), (0, .ref h0), (1, .ref h1), (2, .int p2)]) hx hb dX2_fall_6 rfl hl (by decide) rfl (fun ls hl => ?_)
  have loop7_0 : ∀ (n1 : Nat) (v3_0 : Int32) (g0_0 : Int32) (g1_0 : Int32) (G2_0 : Nat → Int32) (G3_0 : Nat → Int32) (G4_0 : Nat → Int32) (G5_0 : Nat → Int32) (G6_0 : Nat → Int32) (G7_0 : Nat → Int32) (G8_0 : Nat → Int32) (G9_0 : Nat → Int32) (G10_0 : Nat → Int32) (hG2_0 : zTo (zQb Z10 f3.toInt Z12 Z15 (zRw f3.toInt Z0) p2 (zIv Z11) (zRw f3.toInt Z13)) (v3_0.toInt) G2_0) (hG3_0 : zTo (zQr Z10 f3.toInt Z12 Z15 (zRw f3.toInt Z0) p2 (zIv Z11) (zRw f3.toInt Z13)) (v3_0.toInt) G3_0) (hG4_0 : zE iPu f3.toInt (zSm Z10 f3.toInt Z12 Z15 (zRw f3.toInt Z0) p2 (zIv Z11) (zRw f3.toInt Z13) (v3_0.toInt : Int).toNat).1 G4_0) (hG5_0 : zE iHd f3.toInt (zSm Z10 f3.toInt Z12 Z15 (zRw f3.toInt Z0) p2 (zIv Z11) (zRw f3.toInt Z13) (v3_0.toInt : Int).toNat).2.1 G5_0) (hG6_0 : zE iGa f3.toInt (zSm Z10 f3.toInt Z12 Z15 (zRw f3.toInt Z0) p2 (zIv Z11) (zRw f3.toInt Z13) (v3_0.toInt : Int).toNat).2.2.1 G6_0) (hG7_0 : iLm G7_0) (hG8_0 : iMo G8_0) (hG9_0 : zTo (zQw Z10 f3.toInt Z12 Z15 (zRw f3.toInt Z0) p2 (zIv Z11) (zRw f3.toInt Z13)) (v3_0.toInt) G9_0) (hG10_0 : zTp2 (zQw Z10 f3.toInt Z12 Z15 (zRw f3.toInt Z0) p2 (zIv Z11) (zRw f3.toInt Z13)) (zQp Z10 f3.toInt Z12 Z15 (zRw f3.toInt Z0) p2 (zIv Z11) (zRw f3.toInt Z13)) (v3_0.toInt) G10_0) (n1_0 : 0 ≤ v3_0.toInt) (n1_1 : v3_0.toInt ≤ 6) (n1_2 : v3_0.toInt ≤ f2.toInt) (hm1 : 6 - v3_0.toInt < (n1 : Int)) (H : Heap) (locs : List Loc), va_P g.1 vwCl [(h2, .inl (zI g, 5, .inl Z0)), (h6, .inl (zI g, 5, .inl G7_0)), (h7, .inl (zI g, 5, .inl G8_0)), (h8, .inl (zI g, 6, .inl G9_0)), (h9, .inl (zI g, 6, .inl G10_0)), (h10, .inl (zI g, 6, .inl G2_0)), (h11, .inl (zI g, 6, .inl G3_0)), (h12, .inl (zI g, 5, .inl Z10)), (h13, .inl (zI g, 6, .inl Z11)), (h14, .inl (zI g, 5, .inl Z12)), (h17, .inl (zI g, 20, .inl Z15)), (h0, .inr (2, [.ref h2, .ref h3, .ref h4, .ref h5, .ref h6, .ref h7, .int g0_0, .int g1_0, .ref h8, .ref h9, .ref h10, .ref h11])), (h1, .inr (0, [.ref h12, .int f2, .ref h13, .int f3, .ref h14, .ref h15, .ref h16, .ref h17, .ref h18, .ref h19, .int f4])), (h3, .inl (zI g, 5, .inl G4_0)), (h4, .inl (zI g, 5, .inl G5_0)), (h5, .inl (zI g, 5, .inl G6_0)), (h15, .inl (zI g, 5, .inl Z13))] H → va_D A [(h2, .inl (zI g, 5, .inl Z0)), (h6, .inl (zI g, 5, .inl G7_0)), (h7, .inl (zI g, 5, .inl G8_0)), (h8, .inl (zI g, 6, .inl G9_0)), (h9, .inl (zI g, 6, .inl G10_0)), (h10, .inl (zI g, 6, .inl G2_0)), (h11, .inl (zI g, 6, .inl G3_0)), (h12, .inl (zI g, 5, .inl Z10)), (h13, .inl (zI g, 6, .inl Z11)), (h14, .inl (zI g, 5, .inl Z12)), (h17, .inl (zI g, 20, .inl Z15)), (h0, .inr (2, [.ref h2, .ref h3, .ref h4, .ref h5, .ref h6, .ref h7, .int g0_0, .int g1_0, .ref h8, .ref h9, .ref h10, .ref h11])), (h1, .inr (0, [.ref h12, .int f2, .ref h13, .int f3, .ref h14, .ref h15, .ref h16, .ref h17, .ref h18, .ref h19, .int f4])), (h3, .inl (zI g, 5, .inl G4_0)), (h4, .inl (zI g, 5, .inl G5_0)), (h5, .inl (zI g, 5, .inl G6_0)), (h15, .inl (zI g, 5, .inl Z13))] → va_S A s.heap H locs → ∀ (ls : Array Slot), lv_has ls 4 [(0, .ref h0), (1, .ref h1), (2, .int p2), (3, .int v3_0)] → W p l e ({ frames := 4, cells := 0, slots := 0, locals := 100 }) s m args below meth c H locs 0 0 (MQ below (va_Qv (fun u : Int32 × Int32 × (Nat → Int32) × (Nat → Int32) × (Nat → Int32) × (Nat → Int32) × (Nat → Int32) × (Nat → Int32) × (Nat → Int32) × (Nat → Int32) × (Nat → Int32) => (True) ∧ zE iPu f3.toInt (zSm Z10 f3.toInt Z12 Z15 (zRw f3.toInt Z0) p2 (zIv Z11) (zRw f3.toInt Z13) f2.toInt.toNat).1 u.2.2.1 ∧ zE iHd f3.toInt (zSm Z10 f3.toInt Z12 Z15 (zRw f3.toInt Z0) p2 (zIv Z11) (zRw f3.toInt Z13) f2.toInt.toNat).2.1 u.2.2.2.1 ∧ zE iGa f3.toInt (zSm Z10 f3.toInt Z12 Z15 (zRw f3.toInt Z0) p2 (zIv Z11) (zRw f3.toInt Z13) f2.toInt.toNat).2.2.1 u.2.2.2.2.1 ∧ iLm u.2.2.2.2.2.1 ∧ iMo u.2.2.2.2.2.2.1 ∧ zTo (zQw Z10 f3.toInt Z12 Z15 (zRw f3.toInt Z0) p2 (zIv Z11) (zRw f3.toInt Z13)) f2.toInt u.2.2.2.2.2.2.2.1 ∧ zTp2 (zQw Z10 f3.toInt Z12 Z15 (zRw f3.toInt Z0) p2 (zIv Z11) (zRw f3.toInt Z13)) (zQp Z10 f3.toInt Z12 Z15 (zRw f3.toInt Z0) p2 (zIv Z11) (zRw f3.toInt Z13)) f2.toInt u.2.2.2.2.2.2.2.2.1 ∧ zTo (zQb Z10 f3.toInt Z12 Z15 (zRw f3.toInt Z0) p2 (zIv Z11) (zRw f3.toInt Z13)) f2.toInt u.2.2.2.2.2.2.2.2.2.1 ∧ zTo (zQr Z10 f3.toInt Z12 Z15 (zRw f3.toInt Z0) p2 (zIv Z11) (zRw f3.toInt Z13)) f2.toInt u.2.2.2.2.2.2.2.2.2.2) (zPost g (fun u : Int32 × Int32 × (Nat → Int32) × (Nat → Int32) × (Nat → Int32) × (Nat → Int32) × (Nat → Int32) × (Nat → Int32) × (Nat → Int32) × (Nat → Int32) × (Nat → Int32) => [(h0, .inr (2, [.ref h2, .ref h3, .ref h4, .ref h5, .ref h6, .ref h7, .int u.1, .int u.2.1, .ref h8, .ref h9, .ref h10, .ref h11])), (h1, .inr (0, [.ref h12, .int f2, .ref h13, .int f3, .ref h14, .ref h15, .ref h16, .ref h17, .ref h18, .ref h19, .int f4])), (h2, .inl (zI g, 5, .inl Z0)), (h3, .inl (zI g, 5, .inl u.2.2.1)), (h4, .inl (zI g, 5, .inl u.2.2.2.1)), (h5, .inl (zI g, 5, .inl u.2.2.2.2.1)), (h6, .inl (zI g, 5, .inl u.2.2.2.2.2.1)), (h7, .inl (zI g, 5, .inl u.2.2.2.2.2.2.1)), (h8, .inl (zI g, 6, .inl u.2.2.2.2.2.2.2.1)), (h9, .inl (zI g, 6, .inl u.2.2.2.2.2.2.2.2.1)), (h10, .inl (zI g, 6, .inl u.2.2.2.2.2.2.2.2.2.1)), (h11, .inl (zI g, 6, .inl u.2.2.2.2.2.2.2.2.2.2)), (h12, .inl (zI g, 5, .inl Z10)), (h13, .inl (zI g, 6, .inl Z11)), (h14, .inl (zI g, 5, .inl Z12)), (h15, .inl (zI g, 5, .inl Z13)), (h17, .inl (zI g, 20, .inl Z15))]) A) A) args s 0 0 A) (F0 m 7 ls []) := by
    intro n1
    induction n1 with
    | zero => intro v3_0 g0_0 g1_0 G2_0 G3_0 G4_0 G5_0 G6_0 G7_0 G8_0 G9_0 G10_0 hG2_0 hG3_0 hG4_0 hG5_0 hG6_0 hG7_0 hG8_0 hG9_0 hG10_0 n1_0 n1_1 n1_2 hm1; exfalso; omega
    | succ n1 ih1 =>
      intro v3_0 g0_0 g1_0 G2_0 G3_0 G4_0 G5_0 G6_0 G7_0 G8_0 G9_0 G10_0 hG2_0 hG3_0 hG4_0 hG5_0 hG6_0 hG7_0 hG8_0 hG9_0 hG10_0 n1_0 n1_1 n1_2 hm1 H locs hP hD hS ls hl
      refine lv_iload_n hx hb dX2_fall_7 rfl (lv_at hl 3 rfl) ?_
      refine lv_bipush (v := 6) hx hb dX2_fall_8 (by decide) ?_
      refine lv_icmp_ge (tgt := 41) hx hb dX2_fall_10 (by decide) (fun c_1 => ?_) (fun c_1 => ?_)
      · have i_1 : 6 ≤ v3_0.toInt := z_le (rfl) (rfl) c_1
        have hke : v3_0.toInt = f2.toInt := by omega
        have hI14 : zE iPu f3.toInt (zSm Z10 f3.toInt Z12 Z15 (zRw f3.toInt Z0) p2 (zIv Z11) (zRw f3.toInt Z13) f2.toInt.toNat).1 G4_0 := by rw [← hke]; exact hG4_0
        have hI15 : zE iHd f3.toInt (zSm Z10 f3.toInt Z12 Z15 (zRw f3.toInt Z0) p2 (zIv Z11) (zRw f3.toInt Z13) f2.toInt.toNat).2.1 G5_0 := by rw [← hke]; exact hG5_0
        have hI16 : zE iGa f3.toInt (zSm Z10 f3.toInt Z12 Z15 (zRw f3.toInt Z0) p2 (zIv Z11) (zRw f3.toInt Z13) f2.toInt.toNat).2.2.1 G6_0 := by rw [← hke]; exact hG6_0
        have hI17 : zTo (zQw Z10 f3.toInt Z12 Z15 (zRw f3.toInt Z0) p2 (zIv Z11) (zRw f3.toInt Z13)) f2.toInt G9_0 := zTo_eq hG9_0 hke
        have hI18 : zTp2 (zQw Z10 f3.toInt Z12 Z15 (zRw f3.toInt Z0) p2 (zIv Z11) (zRw f3.toInt Z13)) (zQp Z10 f3.toInt Z12 Z15 (zRw f3.toInt Z0) p2 (zIv Z11) (zRw f3.toInt Z13)) f2.toInt G10_0 := zTp2_eq hG10_0 hke
        have hI19 : zTo (zQb Z10 f3.toInt Z12 Z15 (zRw f3.toInt Z0) p2 (zIv Z11) (zRw f3.toInt Z13)) f2.toInt G2_0 := zTo_eq hG2_0 hke
        have hI20 : zTo (zQr Z10 f3.toInt Z12 Z15 (zRw f3.toInt Z0) p2 (zIv Z11) (zRw f3.toInt Z13)) f2.toInt G3_0 := zTo_eq hG3_0 hke
        have hP9 := hP.sub (ws' := [(h0, .inr (2, [.ref h2, .ref h3, .ref h4, .ref h5, .ref h6, .ref h7, .int g0_0, .int g1_0, .ref h8, .ref h9, .ref h10, .ref h11])), (h1, .inr (0, [.ref h12, .int f2, .ref h13, .int f3, .ref h14, .ref h15, .ref h16, .ref h17, .ref h18, .ref h19, .int f4])), (h2, .inl (zI g, 5, .inl Z0)), (h3, .inl (zI g, 5, .inl G4_0)), (h4, .inl (zI g, 5, .inl G5_0)), (h5, .inl (zI g, 5, .inl G6_0)), (h6, .inl (zI g, 5, .inl G7_0)), (h7, .inl (zI g, 5, .inl G8_0)), (h8, .inl (zI g, 6, .inl G9_0)), (h9, .inl (zI g, 6, .inl G10_0)), (h10, .inl (zI g, 6, .inl G2_0)), (h11, .inl (zI g, 6, .inl G3_0)), (h12, .inl (zI g, 5, .inl Z10)), (h13, .inl (zI g, 6, .inl Z11)), (h14, .inl (zI g, 5, .inl Z12)), (h15, .inl (zI g, 5, .inl Z13)), (h17, .inl (zI g, 20, .inl Z15))]) [11, 12, 0, 13, 14, 15, 1, 2, 3, 4, 5, 6, 7, 8, 9, 16, 10] rfl
        have hD9 := hD.sub (ws' := [(h0, .inr (2, [.ref h2, .ref h3, .ref h4, .ref h5, .ref h6, .ref h7, .int g0_0, .int g1_0, .ref h8, .ref h9, .ref h10, .ref h11])), (h1, .inr (0, [.ref h12, .int f2, .ref h13, .int f3, .ref h14, .ref h15, .ref h16, .ref h17, .ref h18, .ref h19, .int f4])), (h2, .inl (zI g, 5, .inl Z0)), (h3, .inl (zI g, 5, .inl G4_0)), (h4, .inl (zI g, 5, .inl G5_0)), (h5, .inl (zI g, 5, .inl G6_0)), (h6, .inl (zI g, 5, .inl G7_0)), (h7, .inl (zI g, 5, .inl G8_0)), (h8, .inl (zI g, 6, .inl G9_0)), (h9, .inl (zI g, 6, .inl G10_0)), (h10, .inl (zI g, 6, .inl G2_0)), (h11, .inl (zI g, 6, .inl G3_0)), (h12, .inl (zI g, 5, .inl Z10)), (h13, .inl (zI g, 6, .inl Z11)), (h14, .inl (zI g, 5, .inl Z12)), (h15, .inl (zI g, 5, .inl Z13)), (h17, .inl (zI g, 20, .inl Z15))]) [11, 12, 0, 13, 14, 15, 1, 2, 3, 4, 5, 6, 7, 8, 9, 16, 10] (by decide) rfl
        exact W.vret hx hb hr (fun t ht hW => ⟨⟨⟨g0_0, g1_0, G4_0, G5_0, G6_0, G7_0, G8_0, G9_0, G10_0, G2_0, G3_0⟩, rfl, ⟨trivial, hI14, hI15, hI16, hG7_0, hG8_0, hI17, hI18, hI19, hI20⟩, by rw [ht]; exact hP9, hD9⟩, hS.F ht⟩) hS.2.2 dX2_fall_41
      · have i_1 : v3_0.toInt < 6 := z_nle (rfl) (rfl) c_1
        refine lv_iload_n hx hb dX2_fall_13 rfl (lv_at hl 3 rfl) ?_
        refine lv_aload_n hx hb dX2_fall_14 rfl (lv_at hl 1 rfl) ?_
        refine va_getN (D := g.1) (ci := 0) (v := .int f2) (C := RX0) (T := TX0) (N := 11) hx hb hts zl_X0 hown hK hP 12 rfl rfl 1 (by decide) (hN.f 3 (q := (RX2, 76, "FishSteps$Books", "lots", "I")) rfl) (fun _ h => h) rfl dX2_fall_15 ?_
        refine lv_icmp_ge (tgt := 41) hx hb dX2_fall_18 (by decide) (fun c_2 => ?_) (fun c_2 => ?_)
        · have i_2 : f2.toInt ≤ v3_0.toInt := z_le (rfl) (rfl) c_2
          have hke : v3_0.toInt = f2.toInt := by omega
          have hI21 : zE iPu f3.toInt (zSm Z10 f3.toInt Z12 Z15 (zRw f3.toInt Z0) p2 (zIv Z11) (zRw f3.toInt Z13) f2.toInt.toNat).1 G4_0 := by rw [← hke]; exact hG4_0
          have hI22 : zE iHd f3.toInt (zSm Z10 f3.toInt Z12 Z15 (zRw f3.toInt Z0) p2 (zIv Z11) (zRw f3.toInt Z13) f2.toInt.toNat).2.1 G5_0 := by rw [← hke]; exact hG5_0
          have hI23 : zE iGa f3.toInt (zSm Z10 f3.toInt Z12 Z15 (zRw f3.toInt Z0) p2 (zIv Z11) (zRw f3.toInt Z13) f2.toInt.toNat).2.2.1 G6_0 := by rw [← hke]; exact hG6_0
          have hI24 : zTo (zQw Z10 f3.toInt Z12 Z15 (zRw f3.toInt Z0) p2 (zIv Z11) (zRw f3.toInt Z13)) f2.toInt G9_0 := zTo_eq hG9_0 hke
          have hI25 : zTp2 (zQw Z10 f3.toInt Z12 Z15 (zRw f3.toInt Z0) p2 (zIv Z11) (zRw f3.toInt Z13)) (zQp Z10 f3.toInt Z12 Z15 (zRw f3.toInt Z0) p2 (zIv Z11) (zRw f3.toInt Z13)) f2.toInt G10_0 := zTp2_eq hG10_0 hke
          have hI26 : zTo (zQb Z10 f3.toInt Z12 Z15 (zRw f3.toInt Z0) p2 (zIv Z11) (zRw f3.toInt Z13)) f2.toInt G2_0 := zTo_eq hG2_0 hke
          have hI27 : zTo (zQr Z10 f3.toInt Z12 Z15 (zRw f3.toInt Z0) p2 (zIv Z11) (zRw f3.toInt Z13)) f2.toInt G3_0 := zTo_eq hG3_0 hke
          have hP9 := hP.sub (ws' := [(h0, .inr (2, [.ref h2, .ref h3, .ref h4, .ref h5, .ref h6, .ref h7, .int g0_0, .int g1_0, .ref h8, .ref h9, .ref h10, .ref h11])), (h1, .inr (0, [.ref h12, .int f2, .ref h13, .int f3, .ref h14, .ref h15, .ref h16, .ref h17, .ref h18, .ref h19, .int f4])), (h2, .inl (zI g, 5, .inl Z0)), (h3, .inl (zI g, 5, .inl G4_0)), (h4, .inl (zI g, 5, .inl G5_0)), (h5, .inl (zI g, 5, .inl G6_0)), (h6, .inl (zI g, 5, .inl G7_0)), (h7, .inl (zI g, 5, .inl G8_0)), (h8, .inl (zI g, 6, .inl G9_0)), (h9, .inl (zI g, 6, .inl G10_0)), (h10, .inl (zI g, 6, .inl G2_0)), (h11, .inl (zI g, 6, .inl G3_0)), (h12, .inl (zI g, 5, .inl Z10)), (h13, .inl (zI g, 6, .inl Z11)), (h14, .inl (zI g, 5, .inl Z12)), (h15, .inl (zI g, 5, .inl Z13)), (h17, .inl (zI g, 20, .inl Z15))]) [11, 12, 0, 13, 14, 15, 1, 2, 3, 4, 5, 6, 7, 8, 9, 16, 10] rfl
          have hD9 := hD.sub (ws' := [(h0, .inr (2, [.ref h2, .ref h3, .ref h4, .ref h5, .ref h6, .ref h7, .int g0_0, .int g1_0, .ref h8, .ref h9, .ref h10, .ref h11])), (h1, .inr (0, [.ref h12, .int f2, .ref h13, .int f3, .ref h14, .ref h15, .ref h16, .ref h17, .ref h18, .ref h19, .int f4])), (h2, .inl (zI g, 5, .inl Z0)), (h3, .inl (zI g, 5, .inl G4_0)), (h4, .inl (zI g, 5, .inl G5_0)), (h5, .inl (zI g, 5, .inl G6_0)), (h6, .inl (zI g, 5, .inl G7_0)), (h7, .inl (zI g, 5, .inl G8_0)), (h8, .inl (zI g, 6, .inl G9_0)), (h9, .inl (zI g, 6, .inl G10_0)), (h10, .inl (zI g, 6, .inl G2_0)), (h11, .inl (zI g, 6, .inl G3_0)), (h12, .inl (zI g, 5, .inl Z10)), (h13, .inl (zI g, 6, .inl Z11)), (h14, .inl (zI g, 5, .inl Z12)), (h15, .inl (zI g, 5, .inl Z13)), (h17, .inl (zI g, 20, .inl Z15))]) [11, 12, 0, 13, 14, 15, 1, 2, 3, 4, 5, 6, 7, 8, 9, 16, 10] (by decide) rfl
          exact W.vret hx hb hr (fun t ht hW => ⟨⟨⟨g0_0, g1_0, G4_0, G5_0, G6_0, G7_0, G8_0, G9_0, G10_0, G2_0, G3_0⟩, rfl, ⟨trivial, hI21, hI22, hI23, hG7_0, hG8_0, hI24, hI25, hI26, hI27⟩, by rw [ht]; exact hP9, hD9⟩, hS.F ht⟩) hS.2.2 dX2_fall_41
        · have i_2 : v3_0.toInt < f2.toInt := z_nle (rfl) (rfl) c_2
          refine lv_aload_n hx hb dX2_fall_21 rfl (lv_at hl 0 rfl) ?_
          refine lv_aload_n hx hb dX2_fall_22 rfl (lv_at hl 1 rfl) ?_
          refine lv_iload_n hx hb dX2_fall_23 rfl (lv_at hl 3 rfl) ?_
          refine lv_iload_n hx hb dX2_fall_24 rfl (lv_at hl 2 rfl) ?_
          refine z_callv (wr := [(h5, .inl (zI g, 5, .inl G6_0)), (h15, .inl (zI g, 5, .inl Z13))]) hP hD hS hA [11, 12, 0, 13, 14, 1, 2, 3, 4, 5, 6, 7, 8, 9, 10] [15, 16] (by decide) rfl rfl (by decide) (va_runV (As := [.ref h1, .int v3_0, .int p2]) (rest := []) ⟨hx, hb, hml, hown, hts⟩ (gX2_fallLot l g h0 h1 h2 h3 h4 h5 h6 h7 h8 h9 h10 h11 h12 h13 h14 h15 h16 h17 h18 h19 H.size v3_0 p2 g0_0 g1_0 f2 f3 f4 Z0 G4_0 G5_0 G7_0 G8_0 G9_0 G10_0 G2_0 G3_0 Z10 Z11 Z12 Z15 (by omega) (by omega) (by omega) (by omega) (by constructor <;> omega) (by constructor <;> omega) (by constructor <;> omega) hF_Z0 hG4_0.1 hG5_0.1 hG7_0 hG8_0 hF_Z10 hF_Z11 hF_Z12 hF_Z15) ⟨callB_of 3 hts (zGood m_o_yX2_fallLot) rfl rfl rfl (hts _ m_z_RX2) (hts _ m_m_RX2_79) ⟨by decide +kernel, by decide +kernel, by decide +kernel⟩ ⟨Nat.le_of_ble_eq_true rfl, Nat.le_of_ble_eq_true rfl⟩, hts _ m_i_yX2_fallLot, hts _ m_e_yX2_fallLot⟩ (zPreV hK hN hZ hP hD hS hA [11, 12, 0, 13, 14, 1, 2, 3, 4, 5, 6, 7, 8, 9, 10] (by decide) rfl rfl 2 11 rfl rfl) rfl rfl hl.1 rfl (lv_room (Nat.le_of_ble_eq_true rfl)) dX2_fall_25 ⟨Nat.le_of_ble_eq_true rfl, Nat.le_of_ble_eq_true rfl⟩) (fun u H locs hw hP hD hS => ?_)
          obtain ⟨w28, w29, R30, R31, R32, R33, R34, R35⟩ := u
          obtain ⟨hw, hI36, hI37, hI38, hI39, hI40, hI41⟩ := hw
          obtain ⟨q42_0, q42_1, q42_2, q42_3⟩ := hw
          have q42_0 : (R32 v3_0.toNatClampNeg).toInt = (zLot Z10 f3.toInt Z12 Z15 (zRw f3.toInt Z0) p2 ((Z11 v3_0.toNatClampNeg).toInt) (zRw f3.toInt G4_0) (zRw f3.toInt G5_0)).1 := q42_0
          have q42_1 : (0 ≤ (zLot Z10 f3.toInt Z12 Z15 (zRw f3.toInt Z0) p2 ((Z11 v3_0.toNatClampNeg).toInt) (zRw f3.toInt G4_0) (zRw f3.toInt G5_0)).1 → (R33 v3_0.toNatClampNeg).toInt = (zLot Z10 f3.toInt Z12 Z15 (zRw f3.toInt Z0) p2 ((Z11 v3_0.toNatClampNeg).toInt) (zRw f3.toInt G4_0) (zRw f3.toInt G5_0)).2.1) := q42_1
          have q42_2 : (R34 v3_0.toNatClampNeg).toInt = (zLot Z10 f3.toInt Z12 Z15 (zRw f3.toInt Z0) p2 ((Z11 v3_0.toNatClampNeg).toInt) (zRw f3.toInt G4_0) (zRw f3.toInt G5_0)).2.2.1 := q42_2
          have q42_3 : (R35 v3_0.toNatClampNeg).toInt = (zLot Z10 f3.toInt Z12 Z15 (zRw f3.toInt Z0) p2 ((Z11 v3_0.toNatClampNeg).toInt) (zRw f3.toInt G4_0) (zRw f3.toInt G5_0)).2.2.2 := q42_3
          have hP : va_P g.1 vwCl [(h5, .inl (zI g, 5, .inl G6_0)), (h15, .inl (zI g, 5, .inl Z13)), (h0, .inr (2, [.ref h2, .ref h3, .ref h4, .ref h5, .ref h6, .ref h7, .int w28, .int w29, .ref h8, .ref h9, .ref h10, .ref h11])), (h1, .inr (0, [.ref h12, .int f2, .ref h13, .int f3, .ref h14, .ref h15, .ref h16, .ref h17, .ref h18, .ref h19, .int f4])), (h2, .inl (zI g, 5, .inl Z0)), (h3, .inl (zI g, 5, .inl G4_0)), (h4, .inl (zI g, 5, .inl G5_0)), (h6, .inl (zI g, 5, .inl R30)), (h7, .inl (zI g, 5, .inl R31)), (h8, .inl (zI g, 6, .inl R32)), (h9, .inl (zI g, 6, .inl R33)), (h10, .inl (zI g, 6, .inl R34)), (h11, .inl (zI g, 6, .inl R35)), (h12, .inl (zI g, 5, .inl Z10)), (h13, .inl (zI g, 6, .inl Z11)), (h14, .inl (zI g, 5, .inl Z12)), (h17, .inl (zI g, 20, .inl Z15))] H := hP
          have hD : va_D A [(h5, .inl (zI g, 5, .inl G6_0)), (h15, .inl (zI g, 5, .inl Z13)), (h0, .inr (2, [.ref h2, .ref h3, .ref h4, .ref h5, .ref h6, .ref h7, .int w28, .int w29, .ref h8, .ref h9, .ref h10, .ref h11])), (h1, .inr (0, [.ref h12, .int f2, .ref h13, .int f3, .ref h14, .ref h15, .ref h16, .ref h17, .ref h18, .ref h19, .int f4])), (h2, .inl (zI g, 5, .inl Z0)), (h3, .inl (zI g, 5, .inl G4_0)), (h4, .inl (zI g, 5, .inl G5_0)), (h6, .inl (zI g, 5, .inl R30)), (h7, .inl (zI g, 5, .inl R31)), (h8, .inl (zI g, 6, .inl R32)), (h9, .inl (zI g, 6, .inl R33)), (h10, .inl (zI g, 6, .inl R34)), (h11, .inl (zI g, 6, .inl R35)), (h12, .inl (zI g, 5, .inl Z10)), (h13, .inl (zI g, 6, .inl Z11)), (h14, .inl (zI g, 5, .inl Z12)), (h17, .inl (zI g, 20, .inl Z15))] := hD
          have hzo : zLot Z10 f3.toInt Z12 Z15 (zRw f3.toInt Z0) p2 ((Z11 v3_0.toNatClampNeg).toInt) (zRw f3.toInt G4_0) (zRw f3.toInt G5_0) = zOu Z10 f3.toInt Z12 Z15 (zRw f3.toInt Z0) p2 (zIv Z11) (zRw f3.toInt Z13) v3_0.toInt.toNat := by
            unfold zOu
            rw [← hG4_0.2, ← hG5_0.2]
            rfl
          have hwo : (R32 v3_0.toNatClampNeg).toInt = (zOu Z10 f3.toInt Z12 Z15 (zRw f3.toInt Z0) p2 (zIv Z11) (zRw f3.toInt Z13) v3_0.toInt.toNat).1 := by rw [← hzo]; omega
          have hpo : 0 ≤ (zOu Z10 f3.toInt Z12 Z15 (zRw f3.toInt Z0) p2 (zIv Z11) (zRw f3.toInt Z13) v3_0.toInt.toNat).1 → (R33 v3_0.toNatClampNeg).toInt = (zOu Z10 f3.toInt Z12 Z15 (zRw f3.toInt Z0) p2 (zIv Z11) (zRw f3.toInt Z13) v3_0.toInt.toNat).2.1 := by rw [← hzo]; omega
          have hbo : (R34 v3_0.toNatClampNeg).toInt = (zOu Z10 f3.toInt Z12 Z15 (zRw f3.toInt Z0) p2 (zIv Z11) (zRw f3.toInt Z13) v3_0.toInt.toNat).2.2.1 := by rw [← hzo]; omega
          have hro : (R35 v3_0.toNatClampNeg).toInt = (zOu Z10 f3.toInt Z12 Z15 (zRw f3.toInt Z0) p2 (zIv Z11) (zRw f3.toInt Z13) v3_0.toInt.toNat).2.2.2 := by rw [← hzo]; omega
          have hse := zSe_pre (S := Z12) (M := (zRw f3.toInt Z0)) (ring := p2) (K := zIv Z11) (k := v3_0.toInt.toNat) hF_Z10 hF_Z15 (by omega) (by omega) (zRw_pu hF_Z13 (by omega)) (by omega) hG4_0.2 hG5_0.2 hG6_0.2 hwo
          obtain ⟨hs1, hs2, hs3, hs4, hs5, hs6, hs7, hs8, hs9⟩ := hse
          have hpw : 0 ≤ (R32 v3_0.toNatClampNeg).toInt → (R33 v3_0.toNatClampNeg).toInt = (zOu Z10 f3.toInt Z12 Z15 (zRw f3.toInt Z0) p2 (zIv Z11) (zRw f3.toInt Z13) v3_0.toInt.toNat).2.1 := fun q => hpo (by omega)
          have hI43 : zTo (zQw Z10 f3.toInt Z12 Z15 (zRw f3.toInt Z0) p2 (zIv Z11) (zRw f3.toInt Z13)) (v3_0.toInt + 1) R32 := zTo_nr hG9_0 hI38 (by omega) hwo
          have hI44 : zTp2 (zQw Z10 f3.toInt Z12 Z15 (zRw f3.toInt Z0) p2 (zIv Z11) (zRw f3.toInt Z13)) (zQp Z10 f3.toInt Z12 Z15 (zRw f3.toInt Z0) p2 (zIv Z11) (zRw f3.toInt Z13)) (v3_0.toInt + 1) R33 := zTp2_nr hG10_0 hI39 (by omega) hpo
          have hI45 : zTo (zQb Z10 f3.toInt Z12 Z15 (zRw f3.toInt Z0) p2 (zIv Z11) (zRw f3.toInt Z13)) (v3_0.toInt + 1) R34 := zTo_nr hG2_0 hI40 (by omega) hbo
          have hI46 : zTo (zQr Z10 f3.toInt Z12 Z15 (zRw f3.toInt Z0) p2 (zIv Z11) (zRw f3.toInt Z13)) (v3_0.toInt + 1) R35 := zTo_nr hG3_0 hI41 (by omega) hro
          refine lv_aload_n hx hb dX2_fall_28 rfl (lv_at hl 0 rfl) ?_
          refine lv_aload_n hx hb dX2_fall_29 rfl (lv_at hl 1 rfl) ?_
          refine lv_iload_n hx hb dX2_fall_30 rfl (lv_at hl 3 rfl) ?_
          refine z_calli (wr := [(h15, .inl (zI g, 5, .inl Z13)), (h2, .inl (zI g, 5, .inl Z0)), (h6, .inl (zI g, 5, .inl R30)), (h7, .inl (zI g, 5, .inl R31)), (h10, .inl (zI g, 6, .inl R34)), (h11, .inl (zI g, 6, .inl R35)), (h12, .inl (zI g, 5, .inl Z10)), (h14, .inl (zI g, 5, .inl Z12))]) hP hD hS hA [2, 3, 5, 6, 0, 9, 10, 14, 16] [1, 4, 7, 8, 11, 12, 13, 15] (by decide) rfl rfl (by decide) (va_runV (As := [.ref h1, .int v3_0]) (rest := []) ⟨hx, hb, hml, hown, hts⟩ (gX2_settle l g h0 h1 h2 h3 h4 h5 h6 h7 h8 h9 h10 h11 h12 h13 h14 h15 h16 h17 h18 h19 H.size v3_0 w28 w29 f2 f3 f4 G4_0 G5_0 G6_0 R32 R33 Z11 Z15 (by omega) (by omega) (by omega) (by omega) (by omega) (by omega) (by omega) (by omega) (by omega) (by omega) (by omega) (by constructor <;> omega) (by constructor <;> omega) (by constructor <;> omega) hG4_0.1 hG5_0.1 hG6_0.1 hF_Z11 hF_Z15) ⟨callB_of 2 hts (zGood m_o_yX2_settle) rfl rfl rfl (hts _ m_z_RX2) (hts _ m_m_RX2_83) ⟨by decide +kernel, by decide +kernel, by decide +kernel⟩ ⟨Nat.le_of_ble_eq_true rfl, Nat.le_of_ble_eq_true rfl⟩, hts _ m_i_yX2_settle, hts _ m_e_yX2_settle⟩ (zPreV hK hN hZ hP hD hS hA [2, 3, 5, 6, 0, 9, 10, 14, 16] (by decide) rfl rfl 2 2 rfl rfl) rfl rfl hl.1 rfl (lv_room (Nat.le_of_ble_eq_true rfl)) dX2_fall_31 ⟨Nat.le_of_ble_eq_true rfl, Nat.le_of_ble_eq_true rfl⟩) (fun r u H locs hw hP hD hS => ?_)
          obtain ⟨R47, R48, R49⟩ := u
          obtain ⟨hw, hI50, hI51, hI52⟩ := hw
          obtain ⟨y53, rfl⟩ : ∃ z, z = r := ⟨_, rfl⟩
          obtain ⟨q54_0, q54_1, q54_2, q54_3⟩ := hw
          have q54_0 : ((R32 v3_0.toNatClampNeg).toInt < 0 → y53.toInt = 0) := q54_0
          have q54_1 : (0 ≤ (R32 v3_0.toNatClampNeg).toInt → y53.toInt = (R33 v3_0.toNatClampNeg).toInt) := q54_1
          have q54_2 : 0 ≤ y53.toInt := q54_2
          have q54_3 : y53.toInt ≤ 99 := q54_3
          have hP : va_P g.1 vwCl [(h15, .inl (zI g, 5, .inl Z13)), (h2, .inl (zI g, 5, .inl Z0)), (h6, .inl (zI g, 5, .inl R30)), (h7, .inl (zI g, 5, .inl R31)), (h10, .inl (zI g, 6, .inl R34)), (h11, .inl (zI g, 6, .inl R35)), (h12, .inl (zI g, 5, .inl Z10)), (h14, .inl (zI g, 5, .inl Z12)), (h0, .inr (2, [.ref h2, .ref h3, .ref h4, .ref h5, .ref h6, .ref h7, .int w28, .int w29, .ref h8, .ref h9, .ref h10, .ref h11])), (h1, .inr (0, [.ref h12, .int f2, .ref h13, .int f3, .ref h14, .ref h15, .ref h16, .ref h17, .ref h18, .ref h19, .int f4])), (h3, .inl (zI g, 5, .inl R47)), (h4, .inl (zI g, 5, .inl R48)), (h5, .inl (zI g, 5, .inl R49)), (h8, .inl (zI g, 6, .inl R32)), (h9, .inl (zI g, 6, .inl R33)), (h13, .inl (zI g, 6, .inl Z11)), (h17, .inl (zI g, 20, .inl Z15))] H := hP
          have hD : va_D A [(h15, .inl (zI g, 5, .inl Z13)), (h2, .inl (zI g, 5, .inl Z0)), (h6, .inl (zI g, 5, .inl R30)), (h7, .inl (zI g, 5, .inl R31)), (h10, .inl (zI g, 6, .inl R34)), (h11, .inl (zI g, 6, .inl R35)), (h12, .inl (zI g, 5, .inl Z10)), (h14, .inl (zI g, 5, .inl Z12)), (h0, .inr (2, [.ref h2, .ref h3, .ref h4, .ref h5, .ref h6, .ref h7, .int w28, .int w29, .ref h8, .ref h9, .ref h10, .ref h11])), (h1, .inr (0, [.ref h12, .int f2, .ref h13, .int f3, .ref h14, .ref h15, .ref h16, .ref h17, .ref h18, .ref h19, .int f4])), (h3, .inl (zI g, 5, .inl R47)), (h4, .inl (zI g, 5, .inl R48)), (h5, .inl (zI g, 5, .inl R49)), (h8, .inl (zI g, 6, .inl R32)), (h9, .inl (zI g, 6, .inl R33)), (h13, .inl (zI g, 6, .inl Z11)), (h17, .inl (zI g, 20, .inl Z15))] := hD
          have hI55 : zE iPu f3.toInt (zSm Z10 f3.toInt Z12 Z15 (zRw f3.toInt Z0) p2 (zIv Z11) (zRw f3.toInt Z13) (v3_0.toInt.toNat + 1)).1 R47 := zE_P hI50 hG4_0.2 hwo hpw
          have hI56 : zE iHd f3.toInt (zSm Z10 f3.toInt Z12 Z15 (zRw f3.toInt Z0) p2 (zIv Z11) (zRw f3.toInt Z13) (v3_0.toInt.toNat + 1)).2.1 R48 := zE_H hI51 hG5_0.2 hwo
          have hI57 : zE iGa f3.toInt (zSm Z10 f3.toInt Z12 Z15 (zRw f3.toInt Z0) p2 (zIv Z11) (zRw f3.toInt Z13) (v3_0.toInt.toNat + 1)).2.2.1 R49 := zE_G hI52 hG6_0.2 hwo hpw rfl
          refine lv_pop hx hb dX2_fall_34 rfl ?_
          obtain ⟨y58, ey58⟩ : ∃ z : Int32, z = v3_0 + 1 := ⟨_, rfl⟩
          have qy58 : y58.toInt = v3_0.toInt + 1 := zi_add ey58 (rfl) rfl (by omega) (by omega)
          refine lv_iinc (v := y58) (lv' := [(3, .int y58), (0, .ref h0), (1, .ref h1), (2, .int p2)]) hx hb dX2_fall_35 hl (k := 3) rfl ey58.symm (by decide) rfl (fun ls hl => ?_)
          have hkt : (y58.toInt : Int).toNat = v3_0.toInt.toNat + 1 := by omega
          have hI59 : zE iPu f3.toInt (zSm Z10 f3.toInt Z12 Z15 (zRw f3.toInt Z0) p2 (zIv Z11) (zRw f3.toInt Z13) (y58.toInt : Int).toNat).1 R47 := by rw [hkt]; exact hI55
          have hI60 : zE iHd f3.toInt (zSm Z10 f3.toInt Z12 Z15 (zRw f3.toInt Z0) p2 (zIv Z11) (zRw f3.toInt Z13) (y58.toInt : Int).toNat).2.1 R48 := by rw [hkt]; exact hI56
          have hI61 : zE iGa f3.toInt (zSm Z10 f3.toInt Z12 Z15 (zRw f3.toInt Z0) p2 (zIv Z11) (zRw f3.toInt Z13) (y58.toInt : Int).toNat).2.2.1 R49 := by rw [hkt]; exact hI57
          refine lv_goto (tgt := 7) hx hb dX2_fall_38 (by decide) ?_
          have hP := hP.sub (ws' := [(h2, .inl (zI g, 5, .inl Z0)), (h6, .inl (zI g, 5, .inl R30)), (h7, .inl (zI g, 5, .inl R31)), (h8, .inl (zI g, 6, .inl R32)), (h9, .inl (zI g, 6, .inl R33)), (h10, .inl (zI g, 6, .inl R34)), (h11, .inl (zI g, 6, .inl R35)), (h12, .inl (zI g, 5, .inl Z10)), (h13, .inl (zI g, 6, .inl Z11)), (h14, .inl (zI g, 5, .inl Z12)), (h17, .inl (zI g, 20, .inl Z15)), (h0, .inr (2, [.ref h2, .ref h3, .ref h4, .ref h5, .ref h6, .ref h7, .int w28, .int w29, .ref h8, .ref h9, .ref h10, .ref h11])), (h1, .inr (0, [.ref h12, .int f2, .ref h13, .int f3, .ref h14, .ref h15, .ref h16, .ref h17, .ref h18, .ref h19, .int f4])), (h3, .inl (zI g, 5, .inl R47)), (h4, .inl (zI g, 5, .inl R48)), (h5, .inl (zI g, 5, .inl R49)), (h15, .inl (zI g, 5, .inl Z13))]) [1, 2, 3, 13, 14, 4, 5, 6, 15, 7, 16, 8, 9, 10, 11, 12, 0] rfl
          have hD := hD.sub (ws' := [(h2, .inl (zI g, 5, .inl Z0)), (h6, .inl (zI g, 5, .inl R30)), (h7, .inl (zI g, 5, .inl R31)), (h8, .inl (zI g, 6, .inl R32)), (h9, .inl (zI g, 6, .inl R33)), (h10, .inl (zI g, 6, .inl R34)), (h11, .inl (zI g, 6, .inl R35)), (h12, .inl (zI g, 5, .inl Z10)), (h13, .inl (zI g, 6, .inl Z11)), (h14, .inl (zI g, 5, .inl Z12)), (h17, .inl (zI g, 20, .inl Z15)), (h0, .inr (2, [.ref h2, .ref h3, .ref h4, .ref h5, .ref h6, .ref h7, .int w28, .int w29, .ref h8, .ref h9, .ref h10, .ref h11])), (h1, .inr (0, [.ref h12, .int f2, .ref h13, .int f3, .ref h14, .ref h15, .ref h16, .ref h17, .ref h18, .ref h19, .int f4])), (h3, .inl (zI g, 5, .inl R47)), (h4, .inl (zI g, 5, .inl R48)), (h5, .inl (zI g, 5, .inl R49)), (h15, .inl (zI g, 5, .inl Z13))]) [1, 2, 3, 13, 14, 4, 5, 6, 15, 7, 16, 8, 9, 10, 11, 12, 0] (by decide) rfl
          exact ih1 y58 w28 w29 R34 R35 R47 R48 R49 R30 R31 R32 R33 (zTo_eq hI45 (by omega)) (zTo_eq hI46 (by omega)) (hI59) (hI60) (hI61) hI36 hI37 (zTo_eq hI43 (by omega)) (zTp2_eq hI44 (by omega)) (by omega) (by omega) (by omega) (by omega) _ _ hP hD hS ls (lv_sub hl [1, 2, 3, 0] rfl)
  have : (0 : Int32).toInt = 0 := rfl
  exact loop7_0 ((6 - 0 : Int).toNat + 1) (0 : Int32) f0 f1 Z8 Z9 R0 R1 R2 Z4 Z5 Z6 Z7 (zTo_eq hI12 (by omega)) (zTo_eq hI13 (by omega)) (hI7) (hI8) (hI9) hF_Z4 hF_Z5 (zTo_eq hI10 (by omega)) (zTp2_eq hI11 (by omega)) (by omega) (by omega) (by omega) (by omega) _ _ hP hD hS ls (lv_sub hl [1, 2, 3, 0] rfl)
set_option maxHeartbeats 8000000 in
set_option maxRecDepth 100000 in
theorem gX2_fallAsTold (l : Launch) (g : zG) (h0 h1 h2 h3 h4 h5 h6 h7 h8 h9 h10 h11 h12 h13 h14 h15 h16 h17 h18 h19 : Nat) (sz : Nat) (f0 : Int32) (f1 : Int32) (f2 : Int32) (f3 : Int32) (f4 : Int32) (Z0 : Nat → Int32) (Z1 : Nat → Int32) (Z2 : Nat → Int32) (Z3 : Nat → Int32) (Z4 : Nat → Int32) (Z5 : Nat → Int32) (Z6 : Nat → Int32) (Z7 : Nat → Int32) (Z8 : Nat → Int32) (Z9 : Nat → Int32) (Z10 : Nat → Int32) (Z11 : Nat → Int32) (Z12 : Nat → Int32) (Z13 : Nat → Int32) (Z14 : Nat → Int32) (Z15 : Nat → Int32) (hf_f2 : 0 ≤ f2.toInt ∧ f2.toInt ≤ 6) (hf_f3 : 0 ≤ f3.toInt ∧ f3.toInt ≤ 5) (hf_f4 : 0 ≤ f4.toInt ∧ f4.toInt ≤ 9999) (hF_Z0 : iMa Z0) (hF_Z1 : iPu Z1) (hF_Z2 : iHd Z2) (hF_Z3 : iGa Z3) (hF_Z4 : iLm Z4) (hF_Z5 : iMo Z5) (hF_Z10 : iLaw Z10) (hF_Z11 : iKd Z11) (hF_Z12 : iSo Z12) (hF_Z13 : iPu Z13) (hF_Z14 : iMa Z14) (hF_Z15 : iWo Z15) : Met l yX2_fallAsTold (.code yX2_fallAsTold cX2_fallAsTold 2 none :: zBig) ({ frames := 5, cells := 0, slots := 0, locals := 123 }) (va_Pc [.ref h0, .ref h1] (zPre g [(h0, .inr (2, [.ref h2, .ref h3, .ref h4, .ref h5, .ref h6, .ref h7, .int f0, .int f1, .ref h8, .ref h9, .ref h10, .ref h11])), (h1, .inr (0, [.ref h12, .int f2, .ref h13, .int f3, .ref h14, .ref h15, .ref h16, .ref h17, .ref h18, .ref h19, .int f4])), (h2, .inl (zI g, 5, .inl Z0)), (h3, .inl (zI g, 5, .inl Z1)), (h4, .inl (zI g, 5, .inl Z2)), (h5, .inl (zI g, 5, .inl Z3)), (h6, .inl (zI g, 5, .inl Z4)), (h7, .inl (zI g, 5, .inl Z5)), (h8, .inl (zI g, 6, .inl Z6)), (h9, .inl (zI g, 6, .inl Z7)), (h10, .inl (zI g, 6, .inl Z8)), (h11, .inl (zI g, 6, .inl Z9)), (h12, .inl (zI g, 5, .inl Z10)), (h13, .inl (zI g, 6, .inl Z11)), (h14, .inl (zI g, 5, .inl Z12)), (h15, .inl (zI g, 5, .inl Z13)), (h16, .inl (zI g, 5, .inl Z14)), (h17, .inl (zI g, 20, .inl Z15))] sz)) (va_Qv (fun u : Int32 × Int32 × (Nat → Int32) × (Nat → Int32) × (Nat → Int32) × (Nat → Int32) × (Nat → Int32) × (Nat → Int32) × (Nat → Int32) × (Nat → Int32) × (Nat → Int32) × (Nat → Int32) => (True) ∧ iMa u.2.2.1 ∧ zE iPu f3.toInt (zSm Z10 f3.toInt Z12 Z15 (zRw f3.toInt Z14) 0 (zIv Z11) (zRw f3.toInt Z13) f2.toInt.toNat).1 u.2.2.2.1 ∧ zE iHd f3.toInt (zSm Z10 f3.toInt Z12 Z15 (zRw f3.toInt Z14) 0 (zIv Z11) (zRw f3.toInt Z13) f2.toInt.toNat).2.1 u.2.2.2.2.1 ∧ zE iGa f3.toInt (zSm Z10 f3.toInt Z12 Z15 (zRw f3.toInt Z14) 0 (zIv Z11) (zRw f3.toInt Z13) f2.toInt.toNat).2.2.1 u.2.2.2.2.2.1 ∧ iLm u.2.2.2.2.2.2.1 ∧ iMo u.2.2.2.2.2.2.2.1 ∧ zTo (zQw Z10 f3.toInt Z12 Z15 (zRw f3.toInt Z14) 0 (zIv Z11) (zRw f3.toInt Z13)) f2.toInt u.2.2.2.2.2.2.2.2.1 ∧ zTp2 (zQw Z10 f3.toInt Z12 Z15 (zRw f3.toInt Z14) 0 (zIv Z11) (zRw f3.toInt Z13)) (zQp Z10 f3.toInt Z12 Z15 (zRw f3.toInt Z14) 0 (zIv Z11) (zRw f3.toInt Z13)) f2.toInt u.2.2.2.2.2.2.2.2.2.1 ∧ zTo (zQb Z10 f3.toInt Z12 Z15 (zRw f3.toInt Z14) 0 (zIv Z11) (zRw f3.toInt Z13)) f2.toInt u.2.2.2.2.2.2.2.2.2.2.1 ∧ zTo (zQr Z10 f3.toInt Z12 Z15 (zRw f3.toInt Z14) 0 (zIv Z11) (zRw f3.toInt Z13)) f2.toInt u.2.2.2.2.2.2.2.2.2.2.2) (zPost g (fun u : Int32 × Int32 × (Nat → Int32) × (Nat → Int32) × (Nat → Int32) × (Nat → Int32) × (Nat → Int32) × (Nat → Int32) × (Nat → Int32) × (Nat → Int32) × (Nat → Int32) × (Nat → Int32) => [(h0, .inr (2, [.ref h2, .ref h3, .ref h4, .ref h5, .ref h6, .ref h7, .int u.1, .int u.2.1, .ref h8, .ref h9, .ref h10, .ref h11])), (h1, .inr (0, [.ref h12, .int f2, .ref h13, .int f3, .ref h14, .ref h15, .ref h16, .ref h17, .ref h18, .ref h19, .int f4])), (h2, .inl (zI g, 5, .inl u.2.2.1)), (h3, .inl (zI g, 5, .inl u.2.2.2.1)), (h4, .inl (zI g, 5, .inl u.2.2.2.2.1)), (h5, .inl (zI g, 5, .inl u.2.2.2.2.2.1)), (h6, .inl (zI g, 5, .inl u.2.2.2.2.2.2.1)), (h7, .inl (zI g, 5, .inl u.2.2.2.2.2.2.2.1)), (h8, .inl (zI g, 6, .inl u.2.2.2.2.2.2.2.2.1)), (h9, .inl (zI g, 6, .inl u.2.2.2.2.2.2.2.2.2.1)), (h10, .inl (zI g, 6, .inl u.2.2.2.2.2.2.2.2.2.2.1)), (h11, .inl (zI g, 6, .inl u.2.2.2.2.2.2.2.2.2.2.2)), (h12, .inl (zI g, 5, .inl Z10)), (h13, .inl (zI g, 6, .inl Z11)), (h14, .inl (zI g, 5, .inl Z12)), (h15, .inl (zI g, 5, .inl Z13)), (h16, .inl (zI g, 5, .inl Z14)), (h17, .inl (zI g, 20, .inl Z15))]) (va_A [(h0, .inr (2, [.ref h2, .ref h3, .ref h4, .ref h5, .ref h6, .ref h7, .int f0, .int f1, .ref h8, .ref h9, .ref h10, .ref h11])), (h1, .inr (0, [.ref h12, .int f2, .ref h13, .int f3, .ref h14, .ref h15, .ref h16, .ref h17, .ref h18, .ref h19, .int f4])), (h2, .inl (zI g, 5, .inl Z0)), (h3, .inl (zI g, 5, .inl Z1)), (h4, .inl (zI g, 5, .inl Z2)), (h5, .inl (zI g, 5, .inl Z3)), (h6, .inl (zI g, 5, .inl Z4)), (h7, .inl (zI g, 5, .inl Z5)), (h8, .inl (zI g, 6, .inl Z6)), (h9, .inl (zI g, 6, .inl Z7)), (h10, .inl (zI g, 6, .inl Z8)), (h11, .inl (zI g, 6, .inl Z9)), (h12, .inl (zI g, 5, .inl Z10)), (h13, .inl (zI g, 6, .inl Z11)), (h14, .inl (zI g, 5, .inl Z12)), (h15, .inl (zI g, 5, .inl Z13)), (h16, .inl (zI g, 5, .inl Z14)), (h17, .inl (zI g, 20, .inl Z15))] sz)) (va_A [(h0, .inr (2, [.ref h2, .ref h3, .ref h4, .ref h5, .ref h6, .ref h7, .int f0, .int f1, .ref h8, .ref h9, .ref h10, .ref h11])), (h1, .inr (0, [.ref h12, .int f2, .ref h13, .int f3, .ref h14, .ref h15, .ref h16, .ref h17, .ref h18, .ref h19, .int f4])), (h2, .inl (zI g, 5, .inl Z0)), (h3, .inl (zI g, 5, .inl Z1)), (h4, .inl (zI g, 5, .inl Z2)), (h5, .inl (zI g, 5, .inl Z3)), (h6, .inl (zI g, 5, .inl Z4)), (h7, .inl (zI g, 5, .inl Z5)), (h8, .inl (zI g, 6, .inl Z6)), (h9, .inl (zI g, 6, .inl Z7)), (h10, .inl (zI g, 6, .inl Z8)), (h11, .inl (zI g, 6, .inl Z9)), (h12, .inl (zI g, 5, .inl Z10)), (h13, .inl (zI g, 6, .inl Z11)), (h14, .inl (zI g, 5, .inl Z12)), (h15, .inl (zI g, 5, .inl Z13)), (h16, .inl (zI g, 5, .inl Z14)), (h17, .inl (zI g, 20, .inl Z15))] sz)) 0 0 (va_A [(h0, .inr (2, [.ref h2, .ref h3, .ref h4, .ref h5, .ref h6, .ref h7, .int f0, .int f1, .ref h8, .ref h9, .ref h10, .ref h11])), (h1, .inr (0, [.ref h12, .int f2, .ref h13, .int f3, .ref h14, .ref h15, .ref h16, .ref h17, .ref h18, .ref h19, .int f4])), (h2, .inl (zI g, 5, .inl Z0)), (h3, .inl (zI g, 5, .inl Z1)), (h4, .inl (zI g, 5, .inl Z2)), (h5, .inl (zI g, 5, .inl Z3)), (h6, .inl (zI g, 5, .inl Z4)), (h7, .inl (zI g, 5, .inl Z5)), (h8, .inl (zI g, 6, .inl Z6)), (h9, .inl (zI g, 6, .inl Z7)), (h10, .inl (zI g, 6, .inl Z8)), (h11, .inl (zI g, 6, .inl Z9)), (h12, .inl (zI g, 5, .inl Z10)), (h13, .inl (zI g, 6, .inl Z11)), (h14, .inl (zI g, 5, .inl Z12)), (h15, .inl (zI g, 5, .inl Z13)), (h16, .inl (zI g, 5, .inl Z14)), (h17, .inl (zI g, 20, .inl Z15))] sz) := by
  refine zMetV rfl (Nat.le_of_ble_eq_true rfl) ?_
  intro p e s m args below meth c A ls hx hb hml hr hlocks hin hown hts hK hN hZ hP hD hA hS hAe hl
  have hown : s.vm.findClass RX2 = some m.cls := hown
  have hl : lv_has ls 2 [(0, .ref h0), (1, .ref h1)] := hl
  refine lv_aload_n hx hb dX2_fallAsTold_0 rfl (lv_at hl 0 rfl) ?_
  refine lv_aload_n hx hb dX2_fallAsTold_1 rfl (lv_at hl 1 rfl) ?_
  refine z_callv (wr := [(h3, .inl (zI g, 5, .inl Z1)), (h4, .inl (zI g, 5, .inl Z2)), (h5, .inl (zI g, 5, .inl Z3)), (h6, .inl (zI g, 5, .inl Z4)), (h7, .inl (zI g, 5, .inl Z5)), (h8, .inl (zI g, 6, .inl Z6)), (h9, .inl (zI g, 6, .inl Z7)), (h10, .inl (zI g, 6, .inl Z8)), (h11, .inl (zI g, 6, .inl Z9)), (h12, .inl (zI g, 5, .inl Z10)), (h13, .inl (zI g, 6, .inl Z11)), (h14, .inl (zI g, 5, .inl Z12)), (h15, .inl (zI g, 5, .inl Z13)), (h17, .inl (zI g, 20, .inl Z15))]) hP hD hS hA [0, 1, 2, 16] [3, 4, 5, 6, 7, 8, 9, 10, 11, 12, 13, 14, 15, 17] (by decide) rfl rfl (by decide) (va_runV (As := [.ref h1]) (rest := []) ⟨hx, hb, hml, hown, hts⟩ (gX2_takeMargins l g h0 h1 h2 h3 h4 h5 h6 h7 h8 h9 h10 h11 h12 h13 h14 h15 h16 h17 h18 h19 s.heap.size f0 f1 f2 f3 f4 Z0 Z14 (by constructor <;> omega) (by constructor <;> omega) (by constructor <;> omega) hF_Z0 hF_Z14) ⟨callB_of 1 hts (zGood m_o_yX2_takeMargins) rfl rfl rfl (hts _ m_z_RX2) (hts _ m_m_RX2_65) ⟨by decide +kernel, by decide +kernel, by decide +kernel⟩ ⟨Nat.le_of_ble_eq_true rfl, Nat.le_of_ble_eq_true rfl⟩, hts _ m_i_yX2_takeMargins, hts _ m_e_yX2_takeMargins⟩ (zPreV hK hN hZ hP hD hS hA [0, 1, 2, 16] (by decide) rfl rfl 2 0 rfl rfl) rfl rfl hl.1 rfl (lv_room (Nat.le_of_ble_eq_true rfl)) dX2_fallAsTold_2 ⟨Nat.le_of_ble_eq_true rfl, Nat.le_of_ble_eq_true rfl⟩) (fun u H locs hw hP hD hS => ?_)
  obtain ⟨R0, rfl⟩ : ∃ z, z = u := ⟨_, rfl⟩
  obtain ⟨hw, hI1, hI2⟩ := hw
  have hI2 : R0 = va_cpy Z14 Z0 0 0 5 := hI2
  have hP : va_P g.1 vwCl [(h3, .inl (zI g, 5, .inl Z1)), (h4, .inl (zI g, 5, .inl Z2)), (h5, .inl (zI g, 5, .inl Z3)), (h6, .inl (zI g, 5, .inl Z4)), (h7, .inl (zI g, 5, .inl Z5)), (h8, .inl (zI g, 6, .inl Z6)), (h9, .inl (zI g, 6, .inl Z7)), (h10, .inl (zI g, 6, .inl Z8)), (h11, .inl (zI g, 6, .inl Z9)), (h12, .inl (zI g, 5, .inl Z10)), (h13, .inl (zI g, 6, .inl Z11)), (h14, .inl (zI g, 5, .inl Z12)), (h15, .inl (zI g, 5, .inl Z13)), (h17, .inl (zI g, 20, .inl Z15)), (h0, .inr (2, [.ref h2, .ref h3, .ref h4, .ref h5, .ref h6, .ref h7, .int f0, .int f1, .ref h8, .ref h9, .ref h10, .ref h11])), (h1, .inr (0, [.ref h12, .int f2, .ref h13, .int f3, .ref h14, .ref h15, .ref h16, .ref h17, .ref h18, .ref h19, .int f4])), (h2, .inl (zI g, 5, .inl R0)), (h16, .inl (zI g, 5, .inl Z14))] H := hP
  have hD : va_D A [(h3, .inl (zI g, 5, .inl Z1)), (h4, .inl (zI g, 5, .inl Z2)), (h5, .inl (zI g, 5, .inl Z3)), (h6, .inl (zI g, 5, .inl Z4)), (h7, .inl (zI g, 5, .inl Z5)), (h8, .inl (zI g, 6, .inl Z6)), (h9, .inl (zI g, 6, .inl Z7)), (h10, .inl (zI g, 6, .inl Z8)), (h11, .inl (zI g, 6, .inl Z9)), (h12, .inl (zI g, 5, .inl Z10)), (h13, .inl (zI g, 6, .inl Z11)), (h14, .inl (zI g, 5, .inl Z12)), (h15, .inl (zI g, 5, .inl Z13)), (h17, .inl (zI g, 20, .inl Z15)), (h0, .inr (2, [.ref h2, .ref h3, .ref h4, .ref h5, .ref h6, .ref h7, .int f0, .int f1, .ref h8, .ref h9, .ref h10, .ref h11])), (h1, .inr (0, [.ref h12, .int f2, .ref h13, .int f3, .ref h14, .ref h15, .ref h16, .ref h17, .ref h18, .ref h19, .int f4])), (h2, .inl (zI g, 5, .inl R0)), (h16, .inl (zI g, 5, .inl Z14))] := hD
  refine lv_aload_n hx hb dX2_fallAsTold_5 rfl (lv_at hl 0 rfl) ?_
  refine lv_aload_n hx hb dX2_fallAsTold_6 rfl (lv_at hl 1 rfl) ?_
  refine lv_iconst (v := 0) hx hb dX2_fallAsTold_7 (by decide) ?_
  have : (0 : Int32).toInt = 0 := rfl
  refine z_callv (wr := [(h16, .inl (zI g, 5, .inl Z14))]) hP hD hS hA [14, 15, 16, 0, 1, 2, 3, 4, 5, 6, 7, 8, 9, 10, 11, 12, 13] [17] (by decide) rfl rfl (by decide) (va_runV (As := [.ref h1, .int 0]) (rest := []) ⟨hx, hb, hml, hown, hts⟩ (gX2_fall l g h0 h1 h2 h3 h4 h5 h6 h7 h8 h9 h10 h11 h12 h13 h14 h15 h16 h17 h18 h19 H.size (0 : Int32) f0 f1 f2 f3 f4 R0 Z1 Z2 Z3 Z4 Z5 Z6 Z7 Z8 Z9 Z10 Z11 Z12 Z13 Z15 (by omega) (by omega) (by constructor <;> omega) (by constructor <;> omega) (by constructor <;> omega) hI1 hF_Z1 hF_Z2 hF_Z3 hF_Z4 hF_Z5 hF_Z10 hF_Z11 hF_Z12 hF_Z13 hF_Z15) ⟨callB_of 2 hts (zGood m_o_yX2_fall) rfl rfl rfl (hts _ m_z_RX2) (hts _ m_m_RX2_69) ⟨by decide +kernel, by decide +kernel, by decide +kernel⟩ ⟨Nat.le_of_ble_eq_true rfl, Nat.le_of_ble_eq_true rfl⟩, hts _ m_i_yX2_fall, hts _ m_e_yX2_fall⟩ (zPreV hK hN hZ hP hD hS hA [14, 15, 16, 0, 1, 2, 3, 4, 5, 6, 7, 8, 9, 10, 11, 12, 13] (by decide) rfl rfl 2 14 rfl rfl) rfl rfl hl.1 rfl (lv_room (Nat.le_of_ble_eq_true rfl)) dX2_fallAsTold_8 ⟨Nat.le_of_ble_eq_true rfl, Nat.le_of_ble_eq_true rfl⟩) (fun u H locs hw hP hD hS => ?_)
  obtain ⟨w3, w4, R5, R6, R7, R8, R9, R10, R11, R12, R13⟩ := u
  obtain ⟨hw, hI14, hI15, hI16, hI17, hI18, hI19, hI20, hI21, hI22⟩ := hw
  have hP : va_P g.1 vwCl [(h16, .inl (zI g, 5, .inl Z14)), (h0, .inr (2, [.ref h2, .ref h3, .ref h4, .ref h5, .ref h6, .ref h7, .int w3, .int w4, .ref h8, .ref h9, .ref h10, .ref h11])), (h1, .inr (0, [.ref h12, .int f2, .ref h13, .int f3, .ref h14, .ref h15, .ref h16, .ref h17, .ref h18, .ref h19, .int f4])), (h2, .inl (zI g, 5, .inl R0)), (h3, .inl (zI g, 5, .inl R5)), (h4, .inl (zI g, 5, .inl R6)), (h5, .inl (zI g, 5, .inl R7)), (h6, .inl (zI g, 5, .inl R8)), (h7, .inl (zI g, 5, .inl R9)), (h8, .inl (zI g, 6, .inl R10)), (h9, .inl (zI g, 6, .inl R11)), (h10, .inl (zI g, 6, .inl R12)), (h11, .inl (zI g, 6, .inl R13)), (h12, .inl (zI g, 5, .inl Z10)), (h13, .inl (zI g, 6, .inl Z11)), (h14, .inl (zI g, 5, .inl Z12)), (h15, .inl (zI g, 5, .inl Z13)), (h17, .inl (zI g, 20, .inl Z15))] H := hP
  have hD : va_D A [(h16, .inl (zI g, 5, .inl Z14)), (h0, .inr (2, [.ref h2, .ref h3, .ref h4, .ref h5, .ref h6, .ref h7, .int w3, .int w4, .ref h8, .ref h9, .ref h10, .ref h11])), (h1, .inr (0, [.ref h12, .int f2, .ref h13, .int f3, .ref h14, .ref h15, .ref h16, .ref h17, .ref h18, .ref h19, .int f4])), (h2, .inl (zI g, 5, .inl R0)), (h3, .inl (zI g, 5, .inl R5)), (h4, .inl (zI g, 5, .inl R6)), (h5, .inl (zI g, 5, .inl R7)), (h6, .inl (zI g, 5, .inl R8)), (h7, .inl (zI g, 5, .inl R9)), (h8, .inl (zI g, 6, .inl R10)), (h9, .inl (zI g, 6, .inl R11)), (h10, .inl (zI g, 6, .inl R12)), (h11, .inl (zI g, 6, .inl R13)), (h12, .inl (zI g, 5, .inl Z10)), (h13, .inl (zI g, 6, .inl Z11)), (h14, .inl (zI g, 5, .inl Z12)), (h15, .inl (zI g, 5, .inl Z13)), (h17, .inl (zI g, 20, .inl Z15))] := hD
  have hmm : zRw f3.toInt R0 = (zRw f3.toInt Z14) := by rw [hI2]; exact zRw_cpy (by omega)
  have hI23 : zE iPu f3.toInt (zSm Z10 f3.toInt Z12 Z15 (zRw f3.toInt Z14) 0 (zIv Z11) (zRw f3.toInt Z13) f2.toInt.toNat).1 R5 := by rw [← hmm]; exact hI14
  have hI24 : zE iHd f3.toInt (zSm Z10 f3.toInt Z12 Z15 (zRw f3.toInt Z14) 0 (zIv Z11) (zRw f3.toInt Z13) f2.toInt.toNat).2.1 R6 := by rw [← hmm]; exact hI15
  have hI25 : zE iGa f3.toInt (zSm Z10 f3.toInt Z12 Z15 (zRw f3.toInt Z14) 0 (zIv Z11) (zRw f3.toInt Z13) f2.toInt.toNat).2.2.1 R7 := by rw [← hmm]; exact hI16
  have hI26 : zTo (zQw Z10 f3.toInt Z12 Z15 (zRw f3.toInt Z14) 0 (zIv Z11) (zRw f3.toInt Z13)) f2.toInt R10 := by rw [← hmm]; exact hI19
  have hI27 : zTp2 (zQw Z10 f3.toInt Z12 Z15 (zRw f3.toInt Z14) 0 (zIv Z11) (zRw f3.toInt Z13)) (zQp Z10 f3.toInt Z12 Z15 (zRw f3.toInt Z14) 0 (zIv Z11) (zRw f3.toInt Z13)) f2.toInt R11 := by rw [← hmm]; exact hI20
  have hI28 : zTo (zQb Z10 f3.toInt Z12 Z15 (zRw f3.toInt Z14) 0 (zIv Z11) (zRw f3.toInt Z13)) f2.toInt R12 := by rw [← hmm]; exact hI21
  have hI29 : zTo (zQr Z10 f3.toInt Z12 Z15 (zRw f3.toInt Z14) 0 (zIv Z11) (zRw f3.toInt Z13)) f2.toInt R13 := by rw [← hmm]; exact hI22
  have hP9 := hP.sub (ws' := [(h0, .inr (2, [.ref h2, .ref h3, .ref h4, .ref h5, .ref h6, .ref h7, .int w3, .int w4, .ref h8, .ref h9, .ref h10, .ref h11])), (h1, .inr (0, [.ref h12, .int f2, .ref h13, .int f3, .ref h14, .ref h15, .ref h16, .ref h17, .ref h18, .ref h19, .int f4])), (h2, .inl (zI g, 5, .inl R0)), (h3, .inl (zI g, 5, .inl R5)), (h4, .inl (zI g, 5, .inl R6)), (h5, .inl (zI g, 5, .inl R7)), (h6, .inl (zI g, 5, .inl R8)), (h7, .inl (zI g, 5, .inl R9)), (h8, .inl (zI g, 6, .inl R10)), (h9, .inl (zI g, 6, .inl R11)), (h10, .inl (zI g, 6, .inl R12)), (h11, .inl (zI g, 6, .inl R13)), (h12, .inl (zI g, 5, .inl Z10)), (h13, .inl (zI g, 6, .inl Z11)), (h14, .inl (zI g, 5, .inl Z12)), (h15, .inl (zI g, 5, .inl Z13)), (h16, .inl (zI g, 5, .inl Z14)), (h17, .inl (zI g, 20, .inl Z15))]) [1, 2, 3, 4, 5, 6, 7, 8, 9, 10, 11, 12, 13, 14, 15, 16, 0, 17] rfl
  have hD9 := hD.sub (ws' := [(h0, .inr (2, [.ref h2, .ref h3, .ref h4, .ref h5, .ref h6, .ref h7, .int w3, .int w4, .ref h8, .ref h9, .ref h10, .ref h11])), (h1, .inr (0, [.ref h12, .int f2, .ref h13, .int f3, .ref h14, .ref h15, .ref h16, .ref h17, .ref h18, .ref h19, .int f4])), (h2, .inl (zI g, 5, .inl R0)), (h3, .inl (zI g, 5, .inl R5)), (h4, .inl (zI g, 5, .inl R6)), (h5, .inl (zI g, 5, .inl R7)), (h6, .inl (zI g, 5, .inl R8)), (h7, .inl (zI g, 5, .inl R9)), (h8, .inl (zI g, 6, .inl R10)), (h9, .inl (zI g, 6, .inl R11)), (h10, .inl (zI g, 6, .inl R12)), (h11, .inl (zI g, 6, .inl R13)), (h12, .inl (zI g, 5, .inl Z10)), (h13, .inl (zI g, 6, .inl Z11)), (h14, .inl (zI g, 5, .inl Z12)), (h15, .inl (zI g, 5, .inl Z13)), (h16, .inl (zI g, 5, .inl Z14)), (h17, .inl (zI g, 20, .inl Z15))]) [1, 2, 3, 4, 5, 6, 7, 8, 9, 10, 11, 12, 13, 14, 15, 16, 0, 17] (by decide) rfl
  exact W.vret hx hb hr (fun t ht hW => ⟨⟨⟨w3, w4, R0, R5, R6, R7, R8, R9, R10, R11, R12, R13⟩, rfl, ⟨trivial, hI1, hI23, hI24, hI25, hI17, hI18, hI26, hI27, hI28, hI29⟩, by rw [ht]; exact hP9, hD9⟩, hS.F ht⟩) hS.2.2 dX2_fallAsTold_11
set_option maxHeartbeats 8000000 in
set_option maxRecDepth 100000 in
theorem gX4_lot (l : Launch) (g : zG) (h0 h1 h2 h3 h4 h5 h6 h7 h8 h9 h10 h11 h12 h13 h14 h15 h16 h17 h18 h27 h28 h29 h30 h31 h32 h33 h34 h35 h36 : Nat) (sz : Nat) (p1 : Int32) (p2 : Int32) (f0 : Int32) (f1 : Int32) (f2 : Int32) (f3 : Int32) (f4 : Int32) (f8 : Int32) (f9 : Int32) (Z5 : Nat → Int32) (Z6 : Nat → Int32) (Z7 : Nat → Int32) (Z8 : Nat → Int32) (Z9 : Nat → Int32) (Z10 : Nat → Int32) (Z21 : Nat → Int32) (Z22 : Nat → Int32) (Z23 : Nat → Int32) (Z24 : Nat → Int32) (Z25 : Nat → Int32) (Z26 : Nat → Int32) (Z27 : Nat → Int32) (Z28 : Nat → Int32) (Z29 : Nat → Int32) (Z30 : Nat → Int32) (hf_f2 : 0 ≤ f2.toInt ∧ f2.toInt ≤ 6) (hf_f3 : 0 ≤ f3.toInt ∧ f3.toInt ≤ 5) (hf_f4 : 0 ≤ f4.toInt ∧ f4.toInt ≤ 9999) (hF_Z5 : iLaw Z5) (hF_Z6 : iKd Z6) (hF_Z7 : iSo Z7) (hF_Z8 : iPu Z8) (hF_Z9 : iMa Z9) (hF_Z10 : iWo Z10) (hF_Z21 : iMa Z21) (hF_Z22 : iPu Z22) (hF_Z23 : iHd Z23) (hF_Z24 : iGa Z24) (hF_Z25 : iLm Z25) (hF_Z26 : iMo Z26) : Met l yX4_lot (.code yX4_lot cX4_lot 3 (some .int) :: zBig) ({ frames := 6, cells := 0, slots := 0, locals := 144 }) (va_Pc [.ref h0, .int p1, .int p2] (zPre g [(h0, .inr (4, [.ref h1, .ref h2, .int f0, .ref h3, .ref h4, .ref h5, .ref h6, .int f1, .ref h7, .ref h8, .ref h9, .ref h10])), (h1, .inr (0, [.ref h11, .int f2, .ref h12, .int f3, .ref h13, .ref h14, .ref h15, .ref h16, .ref h17, .ref h18, .int f4])), (h3, .inr (2, [.ref h27, .ref h28, .ref h29, .ref h30, .ref h31, .ref h32, .int f8, .int f9, .ref h33, .ref h34, .ref h35, .ref h36])), (h11, .inl (zI g, 5, .inl Z5)), (h12, .inl (zI g, 6, .inl Z6)), (h13, .inl (zI g, 5, .inl Z7)), (h14, .inl (zI g, 5, .inl Z8)), (h15, .inl (zI g, 5, .inl Z9)), (h16, .inl (zI g, 20, .inl Z10)), (h27, .inl (zI g, 5, .inl Z21)), (h28, .inl (zI g, 5, .inl Z22)), (h29, .inl (zI g, 5, .inl Z23)), (h30, .inl (zI g, 5, .inl Z24)), (h31, .inl (zI g, 5, .inl Z25)), (h32, .inl (zI g, 5, .inl Z26)), (h33, .inl (zI g, 6, .inl Z27)), (h34, .inl (zI g, 6, .inl Z28)), (h35, .inl (zI g, 6, .inl Z29)), (h36, .inl (zI g, 6, .inl Z30))] sz)) (va_Qi (fun (r : Int32) (u : Int32 × Int32 × (Nat → Int32) × (Nat → Int32) × (Nat → Int32) × (Nat → Int32) × (Nat → Int32) × (Nat → Int32) × (Nat → Int32) × (Nat → Int32) × (Nat → Int32) × (Nat → Int32)) => (r.toInt = zAlot f2.toInt Z6 (zOu Z5 f3.toInt Z7 Z10 (zRw f3.toInt Z9) 0 (zIv Z6) (zRw f3.toInt Z8)) p1.toInt p2.toInt) ∧ iMa u.2.2.1 ∧ iPu u.2.2.2.1 ∧ iHd u.2.2.2.2.1 ∧ iGa u.2.2.2.2.2.1 ∧ iLm u.2.2.2.2.2.2.1 ∧ iMo u.2.2.2.2.2.2.2.1) (zPost g (fun u : Int32 × Int32 × (Nat → Int32) × (Nat → Int32) × (Nat → Int32) × (Nat → Int32) × (Nat → Int32) × (Nat → Int32) × (Nat → Int32) × (Nat → Int32) × (Nat → Int32) × (Nat → Int32) => [(h0, .inr (4, [.ref h1, .ref h2, .int f0, .ref h3, .ref h4, .ref h5, .ref h6, .int f1, .ref h7, .ref h8, .ref h9, .ref h10])), (h1, .inr (0, [.ref h11, .int f2, .ref h12, .int f3, .ref h13, .ref h14, .ref h15, .ref h16, .ref h17, .ref h18, .int f4])), (h3, .inr (2, [.ref h27, .ref h28, .ref h29, .ref h30, .ref h31, .ref h32, .int u.1, .int u.2.1, .ref h33, .ref h34, .ref h35, .ref h36])), (h11, .inl (zI g, 5, .inl Z5)), (h12, .inl (zI g, 6, .inl Z6)), (h13, .inl (zI g, 5, .inl Z7)), (h14, .inl (zI g, 5, .inl Z8)), (h15, .inl (zI g, 5, .inl Z9)), (h16, .inl (zI g, 20, .inl Z10)), (h27, .inl (zI g, 5, .inl u.2.2.1)), (h28, .inl (zI g, 5, .inl u.2.2.2.1)), (h29, .inl (zI g, 5, .inl u.2.2.2.2.1)), (h30, .inl (zI g, 5, .inl u.2.2.2.2.2.1)), (h31, .inl (zI g, 5, .inl u.2.2.2.2.2.2.1)), (h32, .inl (zI g, 5, .inl u.2.2.2.2.2.2.2.1)), (h33, .inl (zI g, 6, .inl u.2.2.2.2.2.2.2.2.1)), (h34, .inl (zI g, 6, .inl u.2.2.2.2.2.2.2.2.2.1)), (h35, .inl (zI g, 6, .inl u.2.2.2.2.2.2.2.2.2.2.1)), (h36, .inl (zI g, 6, .inl u.2.2.2.2.2.2.2.2.2.2.2))]) (va_A [(h0, .inr (4, [.ref h1, .ref h2, .int f0, .ref h3, .ref h4, .ref h5, .ref h6, .int f1, .ref h7, .ref h8, .ref h9, .ref h10])), (h1, .inr (0, [.ref h11, .int f2, .ref h12, .int f3, .ref h13, .ref h14, .ref h15, .ref h16, .ref h17, .ref h18, .int f4])), (h3, .inr (2, [.ref h27, .ref h28, .ref h29, .ref h30, .ref h31, .ref h32, .int f8, .int f9, .ref h33, .ref h34, .ref h35, .ref h36])), (h11, .inl (zI g, 5, .inl Z5)), (h12, .inl (zI g, 6, .inl Z6)), (h13, .inl (zI g, 5, .inl Z7)), (h14, .inl (zI g, 5, .inl Z8)), (h15, .inl (zI g, 5, .inl Z9)), (h16, .inl (zI g, 20, .inl Z10)), (h27, .inl (zI g, 5, .inl Z21)), (h28, .inl (zI g, 5, .inl Z22)), (h29, .inl (zI g, 5, .inl Z23)), (h30, .inl (zI g, 5, .inl Z24)), (h31, .inl (zI g, 5, .inl Z25)), (h32, .inl (zI g, 5, .inl Z26)), (h33, .inl (zI g, 6, .inl Z27)), (h34, .inl (zI g, 6, .inl Z28)), (h35, .inl (zI g, 6, .inl Z29)), (h36, .inl (zI g, 6, .inl Z30))] sz)) (va_A [(h0, .inr (4, [.ref h1, .ref h2, .int f0, .ref h3, .ref h4, .ref h5, .ref h6, .int f1, .ref h7, .ref h8, .ref h9, .ref h10])), (h1, .inr (0, [.ref h11, .int f2, .ref h12, .int f3, .ref h13, .ref h14, .ref h15, .ref h16, .ref h17, .ref h18, .int f4])), (h3, .inr (2, [.ref h27, .ref h28, .ref h29, .ref h30, .ref h31, .ref h32, .int f8, .int f9, .ref h33, .ref h34, .ref h35, .ref h36])), (h11, .inl (zI g, 5, .inl Z5)), (h12, .inl (zI g, 6, .inl Z6)), (h13, .inl (zI g, 5, .inl Z7)), (h14, .inl (zI g, 5, .inl Z8)), (h15, .inl (zI g, 5, .inl Z9)), (h16, .inl (zI g, 20, .inl Z10)), (h27, .inl (zI g, 5, .inl Z21)), (h28, .inl (zI g, 5, .inl Z22)), (h29, .inl (zI g, 5, .inl Z23)), (h30, .inl (zI g, 5, .inl Z24)), (h31, .inl (zI g, 5, .inl Z25)), (h32, .inl (zI g, 5, .inl Z26)), (h33, .inl (zI g, 6, .inl Z27)), (h34, .inl (zI g, 6, .inl Z28)), (h35, .inl (zI g, 6, .inl Z29)), (h36, .inl (zI g, 6, .inl Z30))] sz)) 0 0 (va_A [(h0, .inr (4, [.ref h1, .ref h2, .int f0, .ref h3, .ref h4, .ref h5, .ref h6, .int f1, .ref h7, .ref h8, .ref h9, .ref h10])), (h1, .inr (0, [.ref h11, .int f2, .ref h12, .int f3, .ref h13, .ref h14, .ref h15, .ref h16, .ref h17, .ref h18, .int f4])), (h3, .inr (2, [.ref h27, .ref h28, .ref h29, .ref h30, .ref h31, .ref h32, .int f8, .int f9, .ref h33, .ref h34, .ref h35, .ref h36])), (h11, .inl (zI g, 5, .inl Z5)), (h12, .inl (zI g, 6, .inl Z6)), (h13, .inl (zI g, 5, .inl Z7)), (h14, .inl (zI g, 5, .inl Z8)), (h15, .inl (zI g, 5, .inl Z9)), (h16, .inl (zI g, 20, .inl Z10)), (h27, .inl (zI g, 5, .inl Z21)), (h28, .inl (zI g, 5, .inl Z22)), (h29, .inl (zI g, 5, .inl Z23)), (h30, .inl (zI g, 5, .inl Z24)), (h31, .inl (zI g, 5, .inl Z25)), (h32, .inl (zI g, 5, .inl Z26)), (h33, .inl (zI g, 6, .inl Z27)), (h34, .inl (zI g, 6, .inl Z28)), (h35, .inl (zI g, 6, .inl Z29)), (h36, .inl (zI g, 6, .inl Z30))] sz) := by
  refine zMetI rfl (Nat.le_of_ble_eq_true rfl) ?_
  intro p e s m args below meth c A ls hx hb hml hr hlocks hin hown hts hK hN hZ hP hD hA hS hAe hl
  have hown : s.vm.findClass RX4 = some m.cls := hown
  have hl : lv_has ls 3 [(0, .ref h0), (1, .int p1), (2, .int p2)] := hl
  refine lv_iload_n hx hb dX4_lot_0 rfl (lv_at hl 1 rfl) ?_
  refine lv_if_lt (tgt := 30) hx hb dX4_lot_1 (by decide) (fun c_0 => ?_) (fun c_0 => ?_)
  · have i_0 : p1.toInt < 0 := z_lt (rfl) (rfl) c_0
    refine lv_iconst (v := (-1)) hx hb dX4_lot_30 (by decide) ?_
    have : ((-1) : Int32).toInt = (-1) := rfl
    have hz : zAlot f2.toInt Z6 (zOu Z5 f3.toInt Z7 Z10 (zRw f3.toInt Z9) 0 (zIv Z6) (zRw f3.toInt Z8)) p1.toInt p2.toInt = (-1) := by
      unfold zAlot
      rw [if_pos (by omega)]
    have hP9 := hP.sub (ws' := [(h0, .inr (4, [.ref h1, .ref h2, .int f0, .ref h3, .ref h4, .ref h5, .ref h6, .int f1, .ref h7, .ref h8, .ref h9, .ref h10])), (h1, .inr (0, [.ref h11, .int f2, .ref h12, .int f3, .ref h13, .ref h14, .ref h15, .ref h16, .ref h17, .ref h18, .int f4])), (h3, .inr (2, [.ref h27, .ref h28, .ref h29, .ref h30, .ref h31, .ref h32, .int f8, .int f9, .ref h33, .ref h34, .ref h35, .ref h36])), (h11, .inl (zI g, 5, .inl Z5)), (h12, .inl (zI g, 6, .inl Z6)), (h13, .inl (zI g, 5, .inl Z7)), (h14, .inl (zI g, 5, .inl Z8)), (h15, .inl (zI g, 5, .inl Z9)), (h16, .inl (zI g, 20, .inl Z10)), (h27, .inl (zI g, 5, .inl Z21)), (h28, .inl (zI g, 5, .inl Z22)), (h29, .inl (zI g, 5, .inl Z23)), (h30, .inl (zI g, 5, .inl Z24)), (h31, .inl (zI g, 5, .inl Z25)), (h32, .inl (zI g, 5, .inl Z26)), (h33, .inl (zI g, 6, .inl Z27)), (h34, .inl (zI g, 6, .inl Z28)), (h35, .inl (zI g, 6, .inl Z29)), (h36, .inl (zI g, 6, .inl Z30))]) [0, 1, 2, 3, 4, 5, 6, 7, 8, 9, 10, 11, 12, 13, 14, 15, 16, 17, 18] rfl
    have hD9 := hD.sub (ws' := [(h0, .inr (4, [.ref h1, .ref h2, .int f0, .ref h3, .ref h4, .ref h5, .ref h6, .int f1, .ref h7, .ref h8, .ref h9, .ref h10])), (h1, .inr (0, [.ref h11, .int f2, .ref h12, .int f3, .ref h13, .ref h14, .ref h15, .ref h16, .ref h17, .ref h18, .int f4])), (h3, .inr (2, [.ref h27, .ref h28, .ref h29, .ref h30, .ref h31, .ref h32, .int f8, .int f9, .ref h33, .ref h34, .ref h35, .ref h36])), (h11, .inl (zI g, 5, .inl Z5)), (h12, .inl (zI g, 6, .inl Z6)), (h13, .inl (zI g, 5, .inl Z7)), (h14, .inl (zI g, 5, .inl Z8)), (h15, .inl (zI g, 5, .inl Z9)), (h16, .inl (zI g, 20, .inl Z10)), (h27, .inl (zI g, 5, .inl Z21)), (h28, .inl (zI g, 5, .inl Z22)), (h29, .inl (zI g, 5, .inl Z23)), (h30, .inl (zI g, 5, .inl Z24)), (h31, .inl (zI g, 5, .inl Z25)), (h32, .inl (zI g, 5, .inl Z26)), (h33, .inl (zI g, 6, .inl Z27)), (h34, .inl (zI g, 6, .inl Z28)), (h35, .inl (zI g, 6, .inl Z29)), (h36, .inl (zI g, 6, .inl Z30))]) [0, 1, 2, 3, 4, 5, 6, 7, 8, 9, 10, 11, 12, 13, 14, 15, 16, 17, 18] (by decide) rfl
    exact W.iret (v := (-1)) hx hb hr (fun t ht hW => ⟨⟨(-1), ⟨f8, f9, Z21, Z22, Z23, Z24, Z25, Z26, Z27, Z28, Z29, Z30⟩, rfl, ⟨(by first | omega | decide), hF_Z21, hF_Z22, hF_Z23, hF_Z24, hF_Z25, hF_Z26⟩, by rw [ht]; exact hP9, hD9⟩, hS.F ht⟩) hS.2.2 dX4_lot_31
  · have i_0 : 0 ≤ p1.toInt := z_nlt (rfl) (rfl) c_0
    refine lv_iload_n hx hb dX4_lot_4 rfl (lv_at hl 1 rfl) ?_
    refine lv_bipush (v := 6) hx hb dX4_lot_5 (by decide) ?_
    refine lv_icmp_ge (tgt := 30) hx hb dX4_lot_7 (by decide) (fun c_1 => ?_) (fun c_1 => ?_)
    · have i_1 : 6 ≤ p1.toInt := z_le (rfl) (rfl) c_1
      refine lv_iconst (v := (-1)) hx hb dX4_lot_30 (by decide) ?_
      have : ((-1) : Int32).toInt = (-1) := rfl
      have hz : zAlot f2.toInt Z6 (zOu Z5 f3.toInt Z7 Z10 (zRw f3.toInt Z9) 0 (zIv Z6) (zRw f3.toInt Z8)) p1.toInt p2.toInt = (-1) := by
        unfold zAlot
        rw [if_pos (by omega)]
      have hP9 := hP.sub (ws' := [(h0, .inr (4, [.ref h1, .ref h2, .int f0, .ref h3, .ref h4, .ref h5, .ref h6, .int f1, .ref h7, .ref h8, .ref h9, .ref h10])), (h1, .inr (0, [.ref h11, .int f2, .ref h12, .int f3, .ref h13, .ref h14, .ref h15, .ref h16, .ref h17, .ref h18, .int f4])), (h3, .inr (2, [.ref h27, .ref h28, .ref h29, .ref h30, .ref h31, .ref h32, .int f8, .int f9, .ref h33, .ref h34, .ref h35, .ref h36])), (h11, .inl (zI g, 5, .inl Z5)), (h12, .inl (zI g, 6, .inl Z6)), (h13, .inl (zI g, 5, .inl Z7)), (h14, .inl (zI g, 5, .inl Z8)), (h15, .inl (zI g, 5, .inl Z9)), (h16, .inl (zI g, 20, .inl Z10)), (h27, .inl (zI g, 5, .inl Z21)), (h28, .inl (zI g, 5, .inl Z22)), (h29, .inl (zI g, 5, .inl Z23)), (h30, .inl (zI g, 5, .inl Z24)), (h31, .inl (zI g, 5, .inl Z25)), (h32, .inl (zI g, 5, .inl Z26)), (h33, .inl (zI g, 6, .inl Z27)), (h34, .inl (zI g, 6, .inl Z28)), (h35, .inl (zI g, 6, .inl Z29)), (h36, .inl (zI g, 6, .inl Z30))]) [0, 1, 2, 3, 4, 5, 6, 7, 8, 9, 10, 11, 12, 13, 14, 15, 16, 17, 18] rfl
      have hD9 := hD.sub (ws' := [(h0, .inr (4, [.ref h1, .ref h2, .int f0, .ref h3, .ref h4, .ref h5, .ref h6, .int f1, .ref h7, .ref h8, .ref h9, .ref h10])), (h1, .inr (0, [.ref h11, .int f2, .ref h12, .int f3, .ref h13, .ref h14, .ref h15, .ref h16, .ref h17, .ref h18, .int f4])), (h3, .inr (2, [.ref h27, .ref h28, .ref h29, .ref h30, .ref h31, .ref h32, .int f8, .int f9, .ref h33, .ref h34, .ref h35, .ref h36])), (h11, .inl (zI g, 5, .inl Z5)), (h12, .inl (zI g, 6, .inl Z6)), (h13, .inl (zI g, 5, .inl Z7)), (h14, .inl (zI g, 5, .inl Z8)), (h15, .inl (zI g, 5, .inl Z9)), (h16, .inl (zI g, 20, .inl Z10)), (h27, .inl (zI g, 5, .inl Z21)), (h28, .inl (zI g, 5, .inl Z22)), (h29, .inl (zI g, 5, .inl Z23)), (h30, .inl (zI g, 5, .inl Z24)), (h31, .inl (zI g, 5, .inl Z25)), (h32, .inl (zI g, 5, .inl Z26)), (h33, .inl (zI g, 6, .inl Z27)), (h34, .inl (zI g, 6, .inl Z28)), (h35, .inl (zI g, 6, .inl Z29)), (h36, .inl (zI g, 6, .inl Z30))]) [0, 1, 2, 3, 4, 5, 6, 7, 8, 9, 10, 11, 12, 13, 14, 15, 16, 17, 18] (by decide) rfl
      exact W.iret (v := (-1)) hx hb hr (fun t ht hW => ⟨⟨(-1), ⟨f8, f9, Z21, Z22, Z23, Z24, Z25, Z26, Z27, Z28, Z29, Z30⟩, rfl, ⟨(by first | omega | decide), hF_Z21, hF_Z22, hF_Z23, hF_Z24, hF_Z25, hF_Z26⟩, by rw [ht]; exact hP9, hD9⟩, hS.F ht⟩) hS.2.2 dX4_lot_31
    · have i_1 : p1.toInt < 6 := z_nle (rfl) (rfl) c_1
      refine lv_iload_n hx hb dX4_lot_10 rfl (lv_at hl 1 rfl) ?_
      refine lv_aload_n hx hb dX4_lot_11 rfl (lv_at hl 0 rfl) ?_
      refine va_get (D := g.1) (ci := 4) (v := .ref h1) (C := RX4) (T := TX4) (N := 12) hx hb hts zl_X4 hown hK hP 0 rfl rfl 0 (by decide) (hts _ m_f_RX4_10) (fun _ h => h) rfl dX4_lot_12 ?_
      refine va_getN (D := g.1) (ci := 0) (v := .int f2) (C := RX0) (T := TX0) (N := 11) hx hb hts zl_X0 hown hK hP 1 rfl rfl 1 (by decide) (hN.f 4 (q := (RX4, 122, "FishSteps$Books", "lots", "I")) rfl) (fun _ h => h) rfl dX4_lot_15 ?_
      refine lv_icmp_ge (tgt := 30) hx hb dX4_lot_18 (by decide) (fun c_2 => ?_) (fun c_2 => ?_)
      · have i_2 : f2.toInt ≤ p1.toInt := z_le (rfl) (rfl) c_2
        refine lv_iconst (v := (-1)) hx hb dX4_lot_30 (by decide) ?_
        have : ((-1) : Int32).toInt = (-1) := rfl
        have hz : zAlot f2.toInt Z6 (zOu Z5 f3.toInt Z7 Z10 (zRw f3.toInt Z9) 0 (zIv Z6) (zRw f3.toInt Z8)) p1.toInt p2.toInt = (-1) := by
          unfold zAlot
          rw [if_pos (by omega)]
        have hP9 := hP.sub (ws' := [(h0, .inr (4, [.ref h1, .ref h2, .int f0, .ref h3, .ref h4, .ref h5, .ref h6, .int f1, .ref h7, .ref h8, .ref h9, .ref h10])), (h1, .inr (0, [.ref h11, .int f2, .ref h12, .int f3, .ref h13, .ref h14, .ref h15, .ref h16, .ref h17, .ref h18, .int f4])), (h3, .inr (2, [.ref h27, .ref h28, .ref h29, .ref h30, .ref h31, .ref h32, .int f8, .int f9, .ref h33, .ref h34, .ref h35, .ref h36])), (h11, .inl (zI g, 5, .inl Z5)), (h12, .inl (zI g, 6, .inl Z6)), (h13, .inl (zI g, 5, .inl Z7)), (h14, .inl (zI g, 5, .inl Z8)), (h15, .inl (zI g, 5, .inl Z9)), (h16, .inl (zI g, 20, .inl Z10)), (h27, .inl (zI g, 5, .inl Z21)), (h28, .inl (zI g, 5, .inl Z22)), (h29, .inl (zI g, 5, .inl Z23)), (h30, .inl (zI g, 5, .inl Z24)), (h31, .inl (zI g, 5, .inl Z25)), (h32, .inl (zI g, 5, .inl Z26)), (h33, .inl (zI g, 6, .inl Z27)), (h34, .inl (zI g, 6, .inl Z28)), (h35, .inl (zI g, 6, .inl Z29)), (h36, .inl (zI g, 6, .inl Z30))]) [0, 1, 2, 3, 4, 5, 6, 7, 8, 9, 10, 11, 12, 13, 14, 15, 16, 17, 18] rfl
        have hD9 := hD.sub (ws' := [(h0, .inr (4, [.ref h1, .ref h2, .int f0, .ref h3, .ref h4, .ref h5, .ref h6, .int f1, .ref h7, .ref h8, .ref h9, .ref h10])), (h1, .inr (0, [.ref h11, .int f2, .ref h12, .int f3, .ref h13, .ref h14, .ref h15, .ref h16, .ref h17, .ref h18, .int f4])), (h3, .inr (2, [.ref h27, .ref h28, .ref h29, .ref h30, .ref h31, .ref h32, .int f8, .int f9, .ref h33, .ref h34, .ref h35, .ref h36])), (h11, .inl (zI g, 5, .inl Z5)), (h12, .inl (zI g, 6, .inl Z6)), (h13, .inl (zI g, 5, .inl Z7)), (h14, .inl (zI g, 5, .inl Z8)), (h15, .inl (zI g, 5, .inl Z9)), (h16, .inl (zI g, 20, .inl Z10)), (h27, .inl (zI g, 5, .inl Z21)), (h28, .inl (zI g, 5, .inl Z22)), (h29, .inl (zI g, 5, .inl Z23)), (h30, .inl (zI g, 5, .inl Z24)), (h31, .inl (zI g, 5, .inl Z25)), (h32, .inl (zI g, 5, .inl Z26)), (h33, .inl (zI g, 6, .inl Z27)), (h34, .inl (zI g, 6, .inl Z28)), (h35, .inl (zI g, 6, .inl Z29)), (h36, .inl (zI g, 6, .inl Z30))]) [0, 1, 2, 3, 4, 5, 6, 7, 8, 9, 10, 11, 12, 13, 14, 15, 16, 17, 18] (by decide) rfl
        exact W.iret (v := (-1)) hx hb hr (fun t ht hW => ⟨⟨(-1), ⟨f8, f9, Z21, Z22, Z23, Z24, Z25, Z26, Z27, Z28, Z29, Z30⟩, rfl, ⟨(by first | omega | decide), hF_Z21, hF_Z22, hF_Z23, hF_Z24, hF_Z25, hF_Z26⟩, by rw [ht]; exact hP9, hD9⟩, hS.F ht⟩) hS.2.2 dX4_lot_31
      · have i_2 : p1.toInt < f2.toInt := z_nle (rfl) (rfl) c_2
        refine lv_iload_n hx hb dX4_lot_21 rfl (lv_at hl 2 rfl) ?_
        refine lv_if_lt (tgt := 30) hx hb dX4_lot_22 (by decide) (fun c_3 => ?_) (fun c_3 => ?_)
        · have i_3 : p2.toInt < 0 := z_lt (rfl) (rfl) c_3
          refine lv_iconst (v := (-1)) hx hb dX4_lot_30 (by decide) ?_
          have : ((-1) : Int32).toInt = (-1) := rfl
          have hz : zAlot f2.toInt Z6 (zOu Z5 f3.toInt Z7 Z10 (zRw f3.toInt Z9) 0 (zIv Z6) (zRw f3.toInt Z8)) p1.toInt p2.toInt = (-1) := by
            unfold zAlot
            rw [if_pos (by omega)]
          have hP9 := hP.sub (ws' := [(h0, .inr (4, [.ref h1, .ref h2, .int f0, .ref h3, .ref h4, .ref h5, .ref h6, .int f1, .ref h7, .ref h8, .ref h9, .ref h10])), (h1, .inr (0, [.ref h11, .int f2, .ref h12, .int f3, .ref h13, .ref h14, .ref h15, .ref h16, .ref h17, .ref h18, .int f4])), (h3, .inr (2, [.ref h27, .ref h28, .ref h29, .ref h30, .ref h31, .ref h32, .int f8, .int f9, .ref h33, .ref h34, .ref h35, .ref h36])), (h11, .inl (zI g, 5, .inl Z5)), (h12, .inl (zI g, 6, .inl Z6)), (h13, .inl (zI g, 5, .inl Z7)), (h14, .inl (zI g, 5, .inl Z8)), (h15, .inl (zI g, 5, .inl Z9)), (h16, .inl (zI g, 20, .inl Z10)), (h27, .inl (zI g, 5, .inl Z21)), (h28, .inl (zI g, 5, .inl Z22)), (h29, .inl (zI g, 5, .inl Z23)), (h30, .inl (zI g, 5, .inl Z24)), (h31, .inl (zI g, 5, .inl Z25)), (h32, .inl (zI g, 5, .inl Z26)), (h33, .inl (zI g, 6, .inl Z27)), (h34, .inl (zI g, 6, .inl Z28)), (h35, .inl (zI g, 6, .inl Z29)), (h36, .inl (zI g, 6, .inl Z30))]) [0, 1, 2, 3, 4, 5, 6, 7, 8, 9, 10, 11, 12, 13, 14, 15, 16, 17, 18] rfl
          have hD9 := hD.sub (ws' := [(h0, .inr (4, [.ref h1, .ref h2, .int f0, .ref h3, .ref h4, .ref h5, .ref h6, .int f1, .ref h7, .ref h8, .ref h9, .ref h10])), (h1, .inr (0, [.ref h11, .int f2, .ref h12, .int f3, .ref h13, .ref h14, .ref h15, .ref h16, .ref h17, .ref h18, .int f4])), (h3, .inr (2, [.ref h27, .ref h28, .ref h29, .ref h30, .ref h31, .ref h32, .int f8, .int f9, .ref h33, .ref h34, .ref h35, .ref h36])), (h11, .inl (zI g, 5, .inl Z5)), (h12, .inl (zI g, 6, .inl Z6)), (h13, .inl (zI g, 5, .inl Z7)), (h14, .inl (zI g, 5, .inl Z8)), (h15, .inl (zI g, 5, .inl Z9)), (h16, .inl (zI g, 20, .inl Z10)), (h27, .inl (zI g, 5, .inl Z21)), (h28, .inl (zI g, 5, .inl Z22)), (h29, .inl (zI g, 5, .inl Z23)), (h30, .inl (zI g, 5, .inl Z24)), (h31, .inl (zI g, 5, .inl Z25)), (h32, .inl (zI g, 5, .inl Z26)), (h33, .inl (zI g, 6, .inl Z27)), (h34, .inl (zI g, 6, .inl Z28)), (h35, .inl (zI g, 6, .inl Z29)), (h36, .inl (zI g, 6, .inl Z30))]) [0, 1, 2, 3, 4, 5, 6, 7, 8, 9, 10, 11, 12, 13, 14, 15, 16, 17, 18] (by decide) rfl
          exact W.iret (v := (-1)) hx hb hr (fun t ht hW => ⟨⟨(-1), ⟨f8, f9, Z21, Z22, Z23, Z24, Z25, Z26, Z27, Z28, Z29, Z30⟩, rfl, ⟨(by first | omega | decide), hF_Z21, hF_Z22, hF_Z23, hF_Z24, hF_Z25, hF_Z26⟩, by rw [ht]; exact hP9, hD9⟩, hS.F ht⟩) hS.2.2 dX4_lot_31
        · have i_3 : 0 ≤ p2.toInt := z_nlt (rfl) (rfl) c_3
          refine lv_iload_n hx hb dX4_lot_25 rfl (lv_at hl 2 rfl) ?_
          refine lv_iconst (v := 4) hx hb dX4_lot_26 (by decide) ?_
          refine lv_icmp_le (tgt := 32) hx hb dX4_lot_27 (by decide) (fun c_4 => ?_) (fun c_4 => ?_)
          · have i_4 : p2.toInt ≤ 4 := z_le (rfl) (rfl) c_4
            refine lv_iload_n hx hb dX4_lot_32 rfl (lv_at hl 2 rfl) ?_
            refine lv_if_ne (tgt := 46) hx hb dX4_lot_33 (by decide) (fun c_5 => ?_) (fun c_5 => ?_)
            · have i_5 : p2.toInt ≠ 0 := z_ne (rfl) (rfl) c_5
              refine lv_aload_n hx hb dX4_lot_46 rfl (lv_at hl 0 rfl) ?_
              refine va_get (D := g.1) (ci := 4) (v := .ref h3) (C := RX4) (T := TX4) (N := 12) hx hb hts zl_X4 hown hK hP 0 rfl rfl 3 (by decide) (hts _ m_f_RX4_26) (fun _ h => h) rfl dX4_lot_47 ?_
              refine lv_aload_n hx hb dX4_lot_50 rfl (lv_at hl 0 rfl) ?_
              refine va_get (D := g.1) (ci := 4) (v := .ref h1) (C := RX4) (T := TX4) (N := 12) hx hb hts zl_X4 hown hK hP 0 rfl rfl 0 (by decide) (hts _ m_f_RX4_10) (fun _ h => h) rfl dX4_lot_51 ?_
              refine z_callv (wr := [(h0, .inr (4, [.ref h1, .ref h2, .int f0, .ref h3, .ref h4, .ref h5, .ref h6, .int f1, .ref h7, .ref h8, .ref h9, .ref h10]))]) hP hD hS hA [2, 1, 9, 10, 11, 12, 13, 14, 15, 16, 17, 18, 3, 4, 5, 6, 7, 8] [0] (by decide) rfl rfl (by decide) (va_runVN (As := [.ref h1]) (rest := []) ⟨hx, hb, hml, hown, hts⟩ (gX2_fallAsTold l g h3 h1 h27 h28 h29 h30 h31 h32 h33 h34 h35 h36 h11 h12 h13 h14 h15 h16 h17 h18 s.heap.size f8 f9 f2 f3 f4 Z21 Z22 Z23 Z24 Z25 Z26 Z27 Z28 Z29 Z30 Z5 Z6 Z7 Z8 Z9 Z10 (by constructor <;> omega) (by constructor <;> omega) (by constructor <;> omega) hF_Z21 hF_Z22 hF_Z23 hF_Z24 hF_Z25 hF_Z26 hF_Z5 hF_Z6 hF_Z7 hF_Z8 hF_Z9 hF_Z10) ⟨va_cnB 1 hts (zGood m_o_yX2_fallAsTold) rfl rfl rfl (hN.m 14 (q := (RX4, 135, yX2_fallAsTold)) rfl) (hts _ m_z_RX2) ⟨by decide +kernel, by decide +kernel, by decide +kernel⟩ ⟨Nat.le_of_ble_eq_true rfl, Nat.le_of_ble_eq_true rfl⟩, hts _ m_i_yX2_fallAsTold, hts _ m_e_yX2_fallAsTold⟩ (zPreV hK hN hZ hP hD hS hA [2, 1, 9, 10, 11, 12, 13, 14, 15, 16, 17, 18, 3, 4, 5, 6, 7, 8] (by decide) rfl rfl 2 2 rfl rfl) rfl rfl hl.1 rfl (lv_room (Nat.le_of_ble_eq_true rfl)) dX4_lot_54 ⟨Nat.le_of_ble_eq_true rfl, Nat.le_of_ble_eq_true rfl⟩) (fun u H locs hw hP hD hS => ?_)
              obtain ⟨w0, w1, R2, R3, R4, R5, R6, R7, R8, R9, R10, R11⟩ := u
              obtain ⟨hw, hI12, hI13, hI14, hI15, hI16, hI17, hI18, hI19, hI20, hI21⟩ := hw
              have hP : va_P g.1 vwCl [(h0, .inr (4, [.ref h1, .ref h2, .int f0, .ref h3, .ref h4, .ref h5, .ref h6, .int f1, .ref h7, .ref h8, .ref h9, .ref h10])), (h3, .inr (2, [.ref h27, .ref h28, .ref h29, .ref h30, .ref h31, .ref h32, .int w0, .int w1, .ref h33, .ref h34, .ref h35, .ref h36])), (h1, .inr (0, [.ref h11, .int f2, .ref h12, .int f3, .ref h13, .ref h14, .ref h15, .ref h16, .ref h17, .ref h18, .int f4])), (h27, .inl (zI g, 5, .inl R2)), (h28, .inl (zI g, 5, .inl R3)), (h29, .inl (zI g, 5, .inl R4)), (h30, .inl (zI g, 5, .inl R5)), (h31, .inl (zI g, 5, .inl R6)), (h32, .inl (zI g, 5, .inl R7)), (h33, .inl (zI g, 6, .inl R8)), (h34, .inl (zI g, 6, .inl R9)), (h35, .inl (zI g, 6, .inl R10)), (h36, .inl (zI g, 6, .inl R11)), (h11, .inl (zI g, 5, .inl Z5)), (h12, .inl (zI g, 6, .inl Z6)), (h13, .inl (zI g, 5, .inl Z7)), (h14, .inl (zI g, 5, .inl Z8)), (h15, .inl (zI g, 5, .inl Z9)), (h16, .inl (zI g, 20, .inl Z10))] H := hP
              have hD : va_D A [(h0, .inr (4, [.ref h1, .ref h2, .int f0, .ref h3, .ref h4, .ref h5, .ref h6, .int f1, .ref h7, .ref h8, .ref h9, .ref h10])), (h3, .inr (2, [.ref h27, .ref h28, .ref h29, .ref h30, .ref h31, .ref h32, .int w0, .int w1, .ref h33, .ref h34, .ref h35, .ref h36])), (h1, .inr (0, [.ref h11, .int f2, .ref h12, .int f3, .ref h13, .ref h14, .ref h15, .ref h16, .ref h17, .ref h18, .int f4])), (h27, .inl (zI g, 5, .inl R2)), (h28, .inl (zI g, 5, .inl R3)), (h29, .inl (zI g, 5, .inl R4)), (h30, .inl (zI g, 5, .inl R5)), (h31, .inl (zI g, 5, .inl R6)), (h32, .inl (zI g, 5, .inl R7)), (h33, .inl (zI g, 6, .inl R8)), (h34, .inl (zI g, 6, .inl R9)), (h35, .inl (zI g, 6, .inl R10)), (h36, .inl (zI g, 6, .inl R11)), (h11, .inl (zI g, 5, .inl Z5)), (h12, .inl (zI g, 6, .inl Z6)), (h13, .inl (zI g, 5, .inl Z7)), (h14, .inl (zI g, 5, .inl Z8)), (h15, .inl (zI g, 5, .inl Z9)), (h16, .inl (zI g, 20, .inl Z10))] := hD
              refine lv_iload_n hx hb dX4_lot_57 rfl (lv_at hl 2 rfl) ?_
              refine lv_iconst (v := 1) hx hb dX4_lot_58 (by decide) ?_
              refine lv_icmp_ne (tgt := 89) hx hb dX4_lot_59 (by decide) (fun c_6 => ?_) (fun c_6 => ?_)
              · have i_6 : p2.toInt ≠ 1 := z_ne (rfl) (rfl) c_6
                refine lv_iload_n hx hb dX4_lot_89 rfl (lv_at hl 2 rfl) ?_
                refine lv_iconst (v := 2) hx hb dX4_lot_90 (by decide) ?_
                refine lv_icmp_ne (tgt := 121) hx hb dX4_lot_91 (by decide) (fun c_7 => ?_) (fun c_7 => ?_)
                · have i_7 : p2.toInt ≠ 2 := z_ne (rfl) (rfl) c_7
                  refine lv_iload_n hx hb dX4_lot_121 rfl (lv_at hl 2 rfl) ?_
                  refine lv_iconst (v := 3) hx hb dX4_lot_122 (by decide) ?_
                  refine lv_icmp_ne (tgt := 153) hx hb dX4_lot_123 (by decide) (fun c_8 => ?_) (fun c_8 => ?_)
                  · have i_8 : p2.toInt ≠ 3 := z_ne (rfl) (rfl) c_8
                    refine lv_aload_n hx hb dX4_lot_153 rfl (lv_at hl 0 rfl) ?_
                    refine va_get (D := g.1) (ci := 4) (v := .ref h3) (C := RX4) (T := TX4) (N := 12) hx hb hts zl_X4 hown hK hP 0 rfl rfl 3 (by decide) (hts _ m_f_RX4_26) (fun _ h => h) rfl dX4_lot_154 ?_
                    refine va_getN (D := g.1) (ci := 2) (v := .ref h36) (C := RX2) (T := TX2) (N := 12) hx hb hts zl_X2 hown hK hP 1 rfl rfl 11 (by decide) (hN.f 25 (q := (RX4, 148, "FishSteps$Steps", "bells", "[I")) rfl) (fun _ h => h) rfl dX4_lot_157 ?_
                    refine lv_iload_n hx hb dX4_lot_160 rfl (lv_at hl 1 rfl) ?_
                    refine va_iald (D := g.1) hx hb hK hP 12 0 rfl rfl (vp_in_iff.mpr ⟨by omega, by omega⟩) dX4_lot_161 ?_
                    refine lv_topi (fun y22 ey22 => ?_)
                    have qy22_0 : y22.toInt = (R11 p1.toNatClampNeg).toInt := congrArg Int32.toInt ey22
                    have py22_0 : y22.toInt = (zOu Z5 f3.toInt Z7 Z10 (zRw f3.toInt Z9) 0 (zIv Z6) (zRw f3.toInt Z8) p1.toInt.toNat).2.2.2 := (congrArg Int32.toInt ey22).trans (hI21 _ (by have := z_tn' (i := p1) rfl (by omega); omega))
                    have hz : zAlot f2.toInt Z6 (zOu Z5 f3.toInt Z7 Z10 (zRw f3.toInt Z9) 0 (zIv Z6) (zRw f3.toInt Z8)) p1.toInt p2.toInt = y22.toInt := by
                      unfold zAlot
                      rw [if_neg (by omega), if_neg (by omega), if_neg (by omega), if_neg (by omega), if_neg (by omega)] <;> omega
                    have hP9 := hP.sub (ws' := [(h0, .inr (4, [.ref h1, .ref h2, .int f0, .ref h3, .ref h4, .ref h5, .ref h6, .int f1, .ref h7, .ref h8, .ref h9, .ref h10])), (h1, .inr (0, [.ref h11, .int f2, .ref h12, .int f3, .ref h13, .ref h14, .ref h15, .ref h16, .ref h17, .ref h18, .int f4])), (h3, .inr (2, [.ref h27, .ref h28, .ref h29, .ref h30, .ref h31, .ref h32, .int w0, .int w1, .ref h33, .ref h34, .ref h35, .ref h36])), (h11, .inl (zI g, 5, .inl Z5)), (h12, .inl (zI g, 6, .inl Z6)), (h13, .inl (zI g, 5, .inl Z7)), (h14, .inl (zI g, 5, .inl Z8)), (h15, .inl (zI g, 5, .inl Z9)), (h16, .inl (zI g, 20, .inl Z10)), (h27, .inl (zI g, 5, .inl R2)), (h28, .inl (zI g, 5, .inl R3)), (h29, .inl (zI g, 5, .inl R4)), (h30, .inl (zI g, 5, .inl R5)), (h31, .inl (zI g, 5, .inl R6)), (h32, .inl (zI g, 5, .inl R7)), (h33, .inl (zI g, 6, .inl R8)), (h34, .inl (zI g, 6, .inl R9)), (h35, .inl (zI g, 6, .inl R10)), (h36, .inl (zI g, 6, .inl R11))]) [0, 2, 1, 13, 14, 15, 16, 17, 18, 3, 4, 5, 6, 7, 8, 9, 10, 11, 12] rfl
                    have hD9 := hD.sub (ws' := [(h0, .inr (4, [.ref h1, .ref h2, .int f0, .ref h3, .ref h4, .ref h5, .ref h6, .int f1, .ref h7, .ref h8, .ref h9, .ref h10])), (h1, .inr (0, [.ref h11, .int f2, .ref h12, .int f3, .ref h13, .ref h14, .ref h15, .ref h16, .ref h17, .ref h18, .int f4])), (h3, .inr (2, [.ref h27, .ref h28, .ref h29, .ref h30, .ref h31, .ref h32, .int w0, .int w1, .ref h33, .ref h34, .ref h35, .ref h36])), (h11, .inl (zI g, 5, .inl Z5)), (h12, .inl (zI g, 6, .inl Z6)), (h13, .inl (zI g, 5, .inl Z7)), (h14, .inl (zI g, 5, .inl Z8)), (h15, .inl (zI g, 5, .inl Z9)), (h16, .inl (zI g, 20, .inl Z10)), (h27, .inl (zI g, 5, .inl R2)), (h28, .inl (zI g, 5, .inl R3)), (h29, .inl (zI g, 5, .inl R4)), (h30, .inl (zI g, 5, .inl R5)), (h31, .inl (zI g, 5, .inl R6)), (h32, .inl (zI g, 5, .inl R7)), (h33, .inl (zI g, 6, .inl R8)), (h34, .inl (zI g, 6, .inl R9)), (h35, .inl (zI g, 6, .inl R10)), (h36, .inl (zI g, 6, .inl R11))]) [0, 2, 1, 13, 14, 15, 16, 17, 18, 3, 4, 5, 6, 7, 8, 9, 10, 11, 12] (by decide) rfl
                    exact W.iret (v := y22) hx hb hr (fun t ht hW => ⟨⟨y22, ⟨w0, w1, R2, R3, R4, R5, R6, R7, R8, R9, R10, R11⟩, rfl, ⟨(by first | omega | decide), hI12, hI13.1, hI14.1, hI15.1, hI16, hI17⟩, by rw [ht]; exact hP9, hD9⟩, hS.F ht⟩) hS.2.2 dX4_lot_162
                  · have i_8 : p2.toInt = 3 := z_eq (rfl) (rfl) c_8
                    refine lv_aload_n hx hb dX4_lot_126 rfl (lv_at hl 0 rfl) ?_
                    refine va_get (D := g.1) (ci := 4) (v := .ref h3) (C := RX4) (T := TX4) (N := 12) hx hb hts zl_X4 hown hK hP 0 rfl rfl 3 (by decide) (hts _ m_f_RX4_26) (fun _ h => h) rfl dX4_lot_127 ?_
                    refine va_getN (D := g.1) (ci := 2) (v := .ref h35) (C := RX2) (T := TX2) (N := 12) hx hb hts zl_X2 hown hK hP 1 rfl rfl 10 (by decide) (hN.f 24 (q := (RX4, 145, "FishSteps$Steps", "breath", "[I")) rfl) (fun _ h => h) rfl dX4_lot_130 ?_
                    refine lv_iload_n hx hb dX4_lot_133 rfl (lv_at hl 1 rfl) ?_
                    refine va_iald (D := g.1) hx hb hK hP 11 0 rfl rfl (vp_in_iff.mpr ⟨by omega, by omega⟩) dX4_lot_134 ?_
                    refine lv_topi (fun y23 ey23 => ?_)
                    have qy23_0 : y23.toInt = (R10 p1.toNatClampNeg).toInt := congrArg Int32.toInt ey23
                    have py23_0 : y23.toInt = (zOu Z5 f3.toInt Z7 Z10 (zRw f3.toInt Z9) 0 (zIv Z6) (zRw f3.toInt Z8) p1.toInt.toNat).2.2.1 := (congrArg Int32.toInt ey23).trans (hI20 _ (by have := z_tn' (i := p1) rfl (by omega); omega))
                    refine lv_if_ge (tgt := 143) hx hb dX4_lot_135 (by decide) (fun c_9 => ?_) (fun c_9 => ?_)
                    · have i_9 : 0 ≤ y23.toInt := z_le (rfl) (rfl) c_9
                      refine lv_aload_n hx hb dX4_lot_143 rfl (lv_at hl 0 rfl) ?_
                      refine va_get (D := g.1) (ci := 4) (v := .ref h3) (C := RX4) (T := TX4) (N := 12) hx hb hts zl_X4 hown hK hP 0 rfl rfl 3 (by decide) (hts _ m_f_RX4_26) (fun _ h => h) rfl dX4_lot_144 ?_
                      refine va_getN (D := g.1) (ci := 2) (v := .ref h35) (C := RX2) (T := TX2) (N := 12) hx hb hts zl_X2 hown hK hP 1 rfl rfl 10 (by decide) (hN.f 24 (q := (RX4, 145, "FishSteps$Steps", "breath", "[I")) rfl) (fun _ h => h) rfl dX4_lot_147 ?_
                      refine lv_iload_n hx hb dX4_lot_150 rfl (lv_at hl 1 rfl) ?_
                      refine va_iald (D := g.1) hx hb hK hP 11 0 rfl rfl (vp_in_iff.mpr ⟨by omega, by omega⟩) dX4_lot_151 ?_
                      refine lv_topi (fun y24 ey24 => ?_)
                      have qy24_0 : y24.toInt = (R10 p1.toNatClampNeg).toInt := congrArg Int32.toInt ey24
                      have py24_0 : y24.toInt = (zOu Z5 f3.toInt Z7 Z10 (zRw f3.toInt Z9) 0 (zIv Z6) (zRw f3.toInt Z8) p1.toInt.toNat).2.2.1 := (congrArg Int32.toInt ey24).trans (hI20 _ (by have := z_tn' (i := p1) rfl (by omega); omega))
                      have hz : zAlot f2.toInt Z6 (zOu Z5 f3.toInt Z7 Z10 (zRw f3.toInt Z9) 0 (zIv Z6) (zRw f3.toInt Z8)) p1.toInt p2.toInt = y24.toInt := by
                        unfold zAlot
                        rw [if_neg (by omega), if_neg (by omega), if_neg (by omega), if_neg (by omega), if_pos (by omega)]
                        unfold zSb
                        rw [if_neg (by omega)] <;> omega
                      have hP9 := hP.sub (ws' := [(h0, .inr (4, [.ref h1, .ref h2, .int f0, .ref h3, .ref h4, .ref h5, .ref h6, .int f1, .ref h7, .ref h8, .ref h9, .ref h10])), (h1, .inr (0, [.ref h11, .int f2, .ref h12, .int f3, .ref h13, .ref h14, .ref h15, .ref h16, .ref h17, .ref h18, .int f4])), (h3, .inr (2, [.ref h27, .ref h28, .ref h29, .ref h30, .ref h31, .ref h32, .int w0, .int w1, .ref h33, .ref h34, .ref h35, .ref h36])), (h11, .inl (zI g, 5, .inl Z5)), (h12, .inl (zI g, 6, .inl Z6)), (h13, .inl (zI g, 5, .inl Z7)), (h14, .inl (zI g, 5, .inl Z8)), (h15, .inl (zI g, 5, .inl Z9)), (h16, .inl (zI g, 20, .inl Z10)), (h27, .inl (zI g, 5, .inl R2)), (h28, .inl (zI g, 5, .inl R3)), (h29, .inl (zI g, 5, .inl R4)), (h30, .inl (zI g, 5, .inl R5)), (h31, .inl (zI g, 5, .inl R6)), (h32, .inl (zI g, 5, .inl R7)), (h33, .inl (zI g, 6, .inl R8)), (h34, .inl (zI g, 6, .inl R9)), (h35, .inl (zI g, 6, .inl R10)), (h36, .inl (zI g, 6, .inl R11))]) [0, 2, 1, 13, 14, 15, 16, 17, 18, 3, 4, 5, 6, 7, 8, 9, 10, 11, 12] rfl
                      have hD9 := hD.sub (ws' := [(h0, .inr (4, [.ref h1, .ref h2, .int f0, .ref h3, .ref h4, .ref h5, .ref h6, .int f1, .ref h7, .ref h8, .ref h9, .ref h10])), (h1, .inr (0, [.ref h11, .int f2, .ref h12, .int f3, .ref h13, .ref h14, .ref h15, .ref h16, .ref h17, .ref h18, .int f4])), (h3, .inr (2, [.ref h27, .ref h28, .ref h29, .ref h30, .ref h31, .ref h32, .int w0, .int w1, .ref h33, .ref h34, .ref h35, .ref h36])), (h11, .inl (zI g, 5, .inl Z5)), (h12, .inl (zI g, 6, .inl Z6)), (h13, .inl (zI g, 5, .inl Z7)), (h14, .inl (zI g, 5, .inl Z8)), (h15, .inl (zI g, 5, .inl Z9)), (h16, .inl (zI g, 20, .inl Z10)), (h27, .inl (zI g, 5, .inl R2)), (h28, .inl (zI g, 5, .inl R3)), (h29, .inl (zI g, 5, .inl R4)), (h30, .inl (zI g, 5, .inl R5)), (h31, .inl (zI g, 5, .inl R6)), (h32, .inl (zI g, 5, .inl R7)), (h33, .inl (zI g, 6, .inl R8)), (h34, .inl (zI g, 6, .inl R9)), (h35, .inl (zI g, 6, .inl R10)), (h36, .inl (zI g, 6, .inl R11))]) [0, 2, 1, 13, 14, 15, 16, 17, 18, 3, 4, 5, 6, 7, 8, 9, 10, 11, 12] (by decide) rfl
                      exact W.iret (v := y24) hx hb hr (fun t ht hW => ⟨⟨y24, ⟨w0, w1, R2, R3, R4, R5, R6, R7, R8, R9, R10, R11⟩, rfl, ⟨(by first | omega | decide), hI12, hI13.1, hI14.1, hI15.1, hI16, hI17⟩, by rw [ht]; exact hP9, hD9⟩, hS.F ht⟩) hS.2.2 dX4_lot_152
                    · have i_9 : y23.toInt < 0 := z_nle (rfl) (rfl) c_9
                      refine lv_bipush (v := (-4)) hx hb dX4_lot_138 (by decide) ?_
                      refine lv_goto (tgt := 152) hx hb dX4_lot_140 (by decide) ?_
                      have : ((-4) : Int32).toInt = (-4) := rfl
                      have hz : zAlot f2.toInt Z6 (zOu Z5 f3.toInt Z7 Z10 (zRw f3.toInt Z9) 0 (zIv Z6) (zRw f3.toInt Z8)) p1.toInt p2.toInt = (-4) := by
                        unfold zAlot
                        rw [if_neg (by omega), if_neg (by omega), if_neg (by omega), if_neg (by omega), if_pos (by omega)]
                        unfold zSb
                        rw [if_pos (by omega)]
                      have hP9 := hP.sub (ws' := [(h0, .inr (4, [.ref h1, .ref h2, .int f0, .ref h3, .ref h4, .ref h5, .ref h6, .int f1, .ref h7, .ref h8, .ref h9, .ref h10])), (h1, .inr (0, [.ref h11, .int f2, .ref h12, .int f3, .ref h13, .ref h14, .ref h15, .ref h16, .ref h17, .ref h18, .int f4])), (h3, .inr (2, [.ref h27, .ref h28, .ref h29, .ref h30, .ref h31, .ref h32, .int w0, .int w1, .ref h33, .ref h34, .ref h35, .ref h36])), (h11, .inl (zI g, 5, .inl Z5)), (h12, .inl (zI g, 6, .inl Z6)), (h13, .inl (zI g, 5, .inl Z7)), (h14, .inl (zI g, 5, .inl Z8)), (h15, .inl (zI g, 5, .inl Z9)), (h16, .inl (zI g, 20, .inl Z10)), (h27, .inl (zI g, 5, .inl R2)), (h28, .inl (zI g, 5, .inl R3)), (h29, .inl (zI g, 5, .inl R4)), (h30, .inl (zI g, 5, .inl R5)), (h31, .inl (zI g, 5, .inl R6)), (h32, .inl (zI g, 5, .inl R7)), (h33, .inl (zI g, 6, .inl R8)), (h34, .inl (zI g, 6, .inl R9)), (h35, .inl (zI g, 6, .inl R10)), (h36, .inl (zI g, 6, .inl R11))]) [0, 2, 1, 13, 14, 15, 16, 17, 18, 3, 4, 5, 6, 7, 8, 9, 10, 11, 12] rfl
                      have hD9 := hD.sub (ws' := [(h0, .inr (4, [.ref h1, .ref h2, .int f0, .ref h3, .ref h4, .ref h5, .ref h6, .int f1, .ref h7, .ref h8, .ref h9, .ref h10])), (h1, .inr (0, [.ref h11, .int f2, .ref h12, .int f3, .ref h13, .ref h14, .ref h15, .ref h16, .ref h17, .ref h18, .int f4])), (h3, .inr (2, [.ref h27, .ref h28, .ref h29, .ref h30, .ref h31, .ref h32, .int w0, .int w1, .ref h33, .ref h34, .ref h35, .ref h36])), (h11, .inl (zI g, 5, .inl Z5)), (h12, .inl (zI g, 6, .inl Z6)), (h13, .inl (zI g, 5, .inl Z7)), (h14, .inl (zI g, 5, .inl Z8)), (h15, .inl (zI g, 5, .inl Z9)), (h16, .inl (zI g, 20, .inl Z10)), (h27, .inl (zI g, 5, .inl R2)), (h28, .inl (zI g, 5, .inl R3)), (h29, .inl (zI g, 5, .inl R4)), (h30, .inl (zI g, 5, .inl R5)), (h31, .inl (zI g, 5, .inl R6)), (h32, .inl (zI g, 5, .inl R7)), (h33, .inl (zI g, 6, .inl R8)), (h34, .inl (zI g, 6, .inl R9)), (h35, .inl (zI g, 6, .inl R10)), (h36, .inl (zI g, 6, .inl R11))]) [0, 2, 1, 13, 14, 15, 16, 17, 18, 3, 4, 5, 6, 7, 8, 9, 10, 11, 12] (by decide) rfl
                      exact W.iret (v := (-4)) hx hb hr (fun t ht hW => ⟨⟨(-4), ⟨w0, w1, R2, R3, R4, R5, R6, R7, R8, R9, R10, R11⟩, rfl, ⟨(by first | omega | decide), hI12, hI13.1, hI14.1, hI15.1, hI16, hI17⟩, by rw [ht]; exact hP9, hD9⟩, hS.F ht⟩) hS.2.2 dX4_lot_152
                · have i_7 : p2.toInt = 2 := z_eq (rfl) (rfl) c_7
                  refine lv_aload_n hx hb dX4_lot_94 rfl (lv_at hl 0 rfl) ?_
                  refine va_get (D := g.1) (ci := 4) (v := .ref h3) (C := RX4) (T := TX4) (N := 12) hx hb hts zl_X4 hown hK hP 0 rfl rfl 3 (by decide) (hts _ m_f_RX4_26) (fun _ h => h) rfl dX4_lot_95 ?_
                  refine va_getN (D := g.1) (ci := 2) (v := .ref h33) (C := RX2) (T := TX2) (N := 12) hx hb hts zl_X2 hown hK hP 1 rfl rfl 8 (by decide) (hN.f 22 (q := (RX4, 139, "FishSteps$Steps", "who", "[I")) rfl) (fun _ h => h) rfl dX4_lot_98 ?_
                  refine lv_iload_n hx hb dX4_lot_101 rfl (lv_at hl 1 rfl) ?_
                  refine va_iald (D := g.1) hx hb hK hP 9 0 rfl rfl (vp_in_iff.mpr ⟨by omega, by omega⟩) dX4_lot_102 ?_
                  refine lv_topi (fun y25 ey25 => ?_)
                  have qy25_0 : y25.toInt = (R8 p1.toNatClampNeg).toInt := congrArg Int32.toInt ey25
                  have py25_0 : y25.toInt = (zOu Z5 f3.toInt Z7 Z10 (zRw f3.toInt Z9) 0 (zIv Z6) (zRw f3.toInt Z8) p1.toInt.toNat).1 := (congrArg Int32.toInt ey25).trans (hI18 _ (by have := z_tn' (i := p1) rfl (by omega); omega))
                  refine lv_if_ge (tgt := 111) hx hb dX4_lot_103 (by decide) (fun c_10 => ?_) (fun c_10 => ?_)
                  · have i_10 : 0 ≤ y25.toInt := z_le (rfl) (rfl) c_10
                    refine lv_aload_n hx hb dX4_lot_111 rfl (lv_at hl 0 rfl) ?_
                    refine va_get (D := g.1) (ci := 4) (v := .ref h3) (C := RX4) (T := TX4) (N := 12) hx hb hts zl_X4 hown hK hP 0 rfl rfl 3 (by decide) (hts _ m_f_RX4_26) (fun _ h => h) rfl dX4_lot_112 ?_
                    refine va_getN (D := g.1) (ci := 2) (v := .ref h34) (C := RX2) (T := TX2) (N := 12) hx hb hts zl_X2 hown hK hP 1 rfl rfl 9 (by decide) (hN.f 23 (q := (RX4, 142, "FishSteps$Steps", "price", "[I")) rfl) (fun _ h => h) rfl dX4_lot_115 ?_
                    refine lv_iload_n hx hb dX4_lot_118 rfl (lv_at hl 1 rfl) ?_
                    refine va_iald (D := g.1) hx hb hK hP 10 0 rfl rfl (vp_in_iff.mpr ⟨by omega, by omega⟩) dX4_lot_119 ?_
                    refine lv_topi (fun y26 ey26 => ?_)
                    have qy26_0 : y26.toInt = (R9 p1.toNatClampNeg).toInt := congrArg Int32.toInt ey26
                    have py26_0 : (0 ≤ (zOu Z5 f3.toInt Z7 Z10 (zRw f3.toInt Z9) 0 (zIv Z6) (zRw f3.toInt Z8) p1.toInt.toNat).1 → y26.toInt = (zOu Z5 f3.toInt Z7 Z10 (zRw f3.toInt Z9) 0 (zIv Z6) (zRw f3.toInt Z8) p1.toInt.toNat).2.1) := fun h => (congrArg Int32.toInt ey26).trans (hI19 _ (by have := z_tn' (i := p1) rfl (by omega); omega) h)
                    have hz : zAlot f2.toInt Z6 (zOu Z5 f3.toInt Z7 Z10 (zRw f3.toInt Z9) 0 (zIv Z6) (zRw f3.toInt Z8)) p1.toInt p2.toInt = y26.toInt := by
                      unfold zAlot
                      rw [if_neg (by omega), if_neg (by omega), if_neg (by omega), if_pos (by omega)]
                      unfold zSp
                      rw [if_neg (by omega)] <;> omega
                    have hP9 := hP.sub (ws' := [(h0, .inr (4, [.ref h1, .ref h2, .int f0, .ref h3, .ref h4, .ref h5, .ref h6, .int f1, .ref h7, .ref h8, .ref h9, .ref h10])), (h1, .inr (0, [.ref h11, .int f2, .ref h12, .int f3, .ref h13, .ref h14, .ref h15, .ref h16, .ref h17, .ref h18, .int f4])), (h3, .inr (2, [.ref h27, .ref h28, .ref h29, .ref h30, .ref h31, .ref h32, .int w0, .int w1, .ref h33, .ref h34, .ref h35, .ref h36])), (h11, .inl (zI g, 5, .inl Z5)), (h12, .inl (zI g, 6, .inl Z6)), (h13, .inl (zI g, 5, .inl Z7)), (h14, .inl (zI g, 5, .inl Z8)), (h15, .inl (zI g, 5, .inl Z9)), (h16, .inl (zI g, 20, .inl Z10)), (h27, .inl (zI g, 5, .inl R2)), (h28, .inl (zI g, 5, .inl R3)), (h29, .inl (zI g, 5, .inl R4)), (h30, .inl (zI g, 5, .inl R5)), (h31, .inl (zI g, 5, .inl R6)), (h32, .inl (zI g, 5, .inl R7)), (h33, .inl (zI g, 6, .inl R8)), (h34, .inl (zI g, 6, .inl R9)), (h35, .inl (zI g, 6, .inl R10)), (h36, .inl (zI g, 6, .inl R11))]) [0, 2, 1, 13, 14, 15, 16, 17, 18, 3, 4, 5, 6, 7, 8, 9, 10, 11, 12] rfl
                    have hD9 := hD.sub (ws' := [(h0, .inr (4, [.ref h1, .ref h2, .int f0, .ref h3, .ref h4, .ref h5, .ref h6, .int f1, .ref h7, .ref h8, .ref h9, .ref h10])), (h1, .inr (0, [.ref h11, .int f2, .ref h12, .int f3, .ref h13, .ref h14, .ref h15, .ref h16, .ref h17, .ref h18, .int f4])), (h3, .inr (2, [.ref h27, .ref h28, .ref h29, .ref h30, .ref h31, .ref h32, .int w0, .int w1, .ref h33, .ref h34, .ref h35, .ref h36])), (h11, .inl (zI g, 5, .inl Z5)), (h12, .inl (zI g, 6, .inl Z6)), (h13, .inl (zI g, 5, .inl Z7)), (h14, .inl (zI g, 5, .inl Z8)), (h15, .inl (zI g, 5, .inl Z9)), (h16, .inl (zI g, 20, .inl Z10)), (h27, .inl (zI g, 5, .inl R2)), (h28, .inl (zI g, 5, .inl R3)), (h29, .inl (zI g, 5, .inl R4)), (h30, .inl (zI g, 5, .inl R5)), (h31, .inl (zI g, 5, .inl R6)), (h32, .inl (zI g, 5, .inl R7)), (h33, .inl (zI g, 6, .inl R8)), (h34, .inl (zI g, 6, .inl R9)), (h35, .inl (zI g, 6, .inl R10)), (h36, .inl (zI g, 6, .inl R11))]) [0, 2, 1, 13, 14, 15, 16, 17, 18, 3, 4, 5, 6, 7, 8, 9, 10, 11, 12] (by decide) rfl
                    exact W.iret (v := y26) hx hb hr (fun t ht hW => ⟨⟨y26, ⟨w0, w1, R2, R3, R4, R5, R6, R7, R8, R9, R10, R11⟩, rfl, ⟨(by first | omega | decide), hI12, hI13.1, hI14.1, hI15.1, hI16, hI17⟩, by rw [ht]; exact hP9, hD9⟩, hS.F ht⟩) hS.2.2 dX4_lot_120
                  · have i_10 : y25.toInt < 0 := z_nle (rfl) (rfl) c_10
                    refine lv_bipush (v := (-4)) hx hb dX4_lot_106 (by decide) ?_
                    refine lv_goto (tgt := 120) hx hb dX4_lot_108 (by decide) ?_
                    have : ((-4) : Int32).toInt = (-4) := rfl
                    have hz : zAlot f2.toInt Z6 (zOu Z5 f3.toInt Z7 Z10 (zRw f3.toInt Z9) 0 (zIv Z6) (zRw f3.toInt Z8)) p1.toInt p2.toInt = (-4) := by
                      unfold zAlot
                      rw [if_neg (by omega), if_neg (by omega), if_neg (by omega), if_pos (by omega)]
                      unfold zSp
                      rw [if_pos (by omega)]
                    have hP9 := hP.sub (ws' := [(h0, .inr (4, [.ref h1, .ref h2, .int f0, .ref h3, .ref h4, .ref h5, .ref h6, .int f1, .ref h7, .ref h8, .ref h9, .ref h10])), (h1, .inr (0, [.ref h11, .int f2, .ref h12, .int f3, .ref h13, .ref h14, .ref h15, .ref h16, .ref h17, .ref h18, .int f4])), (h3, .inr (2, [.ref h27, .ref h28, .ref h29, .ref h30, .ref h31, .ref h32, .int w0, .int w1, .ref h33, .ref h34, .ref h35, .ref h36])), (h11, .inl (zI g, 5, .inl Z5)), (h12, .inl (zI g, 6, .inl Z6)), (h13, .inl (zI g, 5, .inl Z7)), (h14, .inl (zI g, 5, .inl Z8)), (h15, .inl (zI g, 5, .inl Z9)), (h16, .inl (zI g, 20, .inl Z10)), (h27, .inl (zI g, 5, .inl R2)), (h28, .inl (zI g, 5, .inl R3)), (h29, .inl (zI g, 5, .inl R4)), (h30, .inl (zI g, 5, .inl R5)), (h31, .inl (zI g, 5, .inl R6)), (h32, .inl (zI g, 5, .inl R7)), (h33, .inl (zI g, 6, .inl R8)), (h34, .inl (zI g, 6, .inl R9)), (h35, .inl (zI g, 6, .inl R10)), (h36, .inl (zI g, 6, .inl R11))]) [0, 2, 1, 13, 14, 15, 16, 17, 18, 3, 4, 5, 6, 7, 8, 9, 10, 11, 12] rfl
                    have hD9 := hD.sub (ws' := [(h0, .inr (4, [.ref h1, .ref h2, .int f0, .ref h3, .ref h4, .ref h5, .ref h6, .int f1, .ref h7, .ref h8, .ref h9, .ref h10])), (h1, .inr (0, [.ref h11, .int f2, .ref h12, .int f3, .ref h13, .ref h14, .ref h15, .ref h16, .ref h17, .ref h18, .int f4])), (h3, .inr (2, [.ref h27, .ref h28, .ref h29, .ref h30, .ref h31, .ref h32, .int w0, .int w1, .ref h33, .ref h34, .ref h35, .ref h36])), (h11, .inl (zI g, 5, .inl Z5)), (h12, .inl (zI g, 6, .inl Z6)), (h13, .inl (zI g, 5, .inl Z7)), (h14, .inl (zI g, 5, .inl Z8)), (h15, .inl (zI g, 5, .inl Z9)), (h16, .inl (zI g, 20, .inl Z10)), (h27, .inl (zI g, 5, .inl R2)), (h28, .inl (zI g, 5, .inl R3)), (h29, .inl (zI g, 5, .inl R4)), (h30, .inl (zI g, 5, .inl R5)), (h31, .inl (zI g, 5, .inl R6)), (h32, .inl (zI g, 5, .inl R7)), (h33, .inl (zI g, 6, .inl R8)), (h34, .inl (zI g, 6, .inl R9)), (h35, .inl (zI g, 6, .inl R10)), (h36, .inl (zI g, 6, .inl R11))]) [0, 2, 1, 13, 14, 15, 16, 17, 18, 3, 4, 5, 6, 7, 8, 9, 10, 11, 12] (by decide) rfl
                    exact W.iret (v := (-4)) hx hb hr (fun t ht hW => ⟨⟨(-4), ⟨w0, w1, R2, R3, R4, R5, R6, R7, R8, R9, R10, R11⟩, rfl, ⟨(by first | omega | decide), hI12, hI13.1, hI14.1, hI15.1, hI16, hI17⟩, by rw [ht]; exact hP9, hD9⟩, hS.F ht⟩) hS.2.2 dX4_lot_120
              · have i_6 : p2.toInt = 1 := z_eq (rfl) (rfl) c_6
                refine lv_aload_n hx hb dX4_lot_62 rfl (lv_at hl 0 rfl) ?_
                refine va_get (D := g.1) (ci := 4) (v := .ref h3) (C := RX4) (T := TX4) (N := 12) hx hb hts zl_X4 hown hK hP 0 rfl rfl 3 (by decide) (hts _ m_f_RX4_26) (fun _ h => h) rfl dX4_lot_63 ?_
                refine va_getN (D := g.1) (ci := 2) (v := .ref h33) (C := RX2) (T := TX2) (N := 12) hx hb hts zl_X2 hown hK hP 1 rfl rfl 8 (by decide) (hN.f 22 (q := (RX4, 139, "FishSteps$Steps", "who", "[I")) rfl) (fun _ h => h) rfl dX4_lot_66 ?_
                refine lv_iload_n hx hb dX4_lot_69 rfl (lv_at hl 1 rfl) ?_
                refine va_iald (D := g.1) hx hb hK hP 9 0 rfl rfl (vp_in_iff.mpr ⟨by omega, by omega⟩) dX4_lot_70 ?_
                refine lv_topi (fun y27 ey27 => ?_)
                have qy27_0 : y27.toInt = (R8 p1.toNatClampNeg).toInt := congrArg Int32.toInt ey27
                have py27_0 : y27.toInt = (zOu Z5 f3.toInt Z7 Z10 (zRw f3.toInt Z9) 0 (zIv Z6) (zRw f3.toInt Z8) p1.toInt.toNat).1 := (congrArg Int32.toInt ey27).trans (hI18 _ (by have := z_tn' (i := p1) rfl (by omega); omega))
                refine lv_if_ge (tgt := 79) hx hb dX4_lot_71 (by decide) (fun c_11 => ?_) (fun c_11 => ?_)
                · have i_11 : 0 ≤ y27.toInt := z_le (rfl) (rfl) c_11
                  refine lv_aload_n hx hb dX4_lot_79 rfl (lv_at hl 0 rfl) ?_
                  refine va_get (D := g.1) (ci := 4) (v := .ref h3) (C := RX4) (T := TX4) (N := 12) hx hb hts zl_X4 hown hK hP 0 rfl rfl 3 (by decide) (hts _ m_f_RX4_26) (fun _ h => h) rfl dX4_lot_80 ?_
                  refine va_getN (D := g.1) (ci := 2) (v := .ref h33) (C := RX2) (T := TX2) (N := 12) hx hb hts zl_X2 hown hK hP 1 rfl rfl 8 (by decide) (hN.f 22 (q := (RX4, 139, "FishSteps$Steps", "who", "[I")) rfl) (fun _ h => h) rfl dX4_lot_83 ?_
                  refine lv_iload_n hx hb dX4_lot_86 rfl (lv_at hl 1 rfl) ?_
                  refine va_iald (D := g.1) hx hb hK hP 9 0 rfl rfl (vp_in_iff.mpr ⟨by omega, by omega⟩) dX4_lot_87 ?_
                  refine lv_topi (fun y28 ey28 => ?_)
                  have qy28_0 : y28.toInt = (R8 p1.toNatClampNeg).toInt := congrArg Int32.toInt ey28
                  have py28_0 : y28.toInt = (zOu Z5 f3.toInt Z7 Z10 (zRw f3.toInt Z9) 0 (zIv Z6) (zRw f3.toInt Z8) p1.toInt.toNat).1 := (congrArg Int32.toInt ey28).trans (hI18 _ (by have := z_tn' (i := p1) rfl (by omega); omega))
                  have hz : zAlot f2.toInt Z6 (zOu Z5 f3.toInt Z7 Z10 (zRw f3.toInt Z9) 0 (zIv Z6) (zRw f3.toInt Z8)) p1.toInt p2.toInt = y28.toInt := by
                    unfold zAlot
                    rw [if_neg (by omega), if_neg (by omega), if_pos (by omega)]
                    unfold zSw
                    rw [if_neg (by omega)] <;> omega
                  have hP9 := hP.sub (ws' := [(h0, .inr (4, [.ref h1, .ref h2, .int f0, .ref h3, .ref h4, .ref h5, .ref h6, .int f1, .ref h7, .ref h8, .ref h9, .ref h10])), (h1, .inr (0, [.ref h11, .int f2, .ref h12, .int f3, .ref h13, .ref h14, .ref h15, .ref h16, .ref h17, .ref h18, .int f4])), (h3, .inr (2, [.ref h27, .ref h28, .ref h29, .ref h30, .ref h31, .ref h32, .int w0, .int w1, .ref h33, .ref h34, .ref h35, .ref h36])), (h11, .inl (zI g, 5, .inl Z5)), (h12, .inl (zI g, 6, .inl Z6)), (h13, .inl (zI g, 5, .inl Z7)), (h14, .inl (zI g, 5, .inl Z8)), (h15, .inl (zI g, 5, .inl Z9)), (h16, .inl (zI g, 20, .inl Z10)), (h27, .inl (zI g, 5, .inl R2)), (h28, .inl (zI g, 5, .inl R3)), (h29, .inl (zI g, 5, .inl R4)), (h30, .inl (zI g, 5, .inl R5)), (h31, .inl (zI g, 5, .inl R6)), (h32, .inl (zI g, 5, .inl R7)), (h33, .inl (zI g, 6, .inl R8)), (h34, .inl (zI g, 6, .inl R9)), (h35, .inl (zI g, 6, .inl R10)), (h36, .inl (zI g, 6, .inl R11))]) [0, 2, 1, 13, 14, 15, 16, 17, 18, 3, 4, 5, 6, 7, 8, 9, 10, 11, 12] rfl
                  have hD9 := hD.sub (ws' := [(h0, .inr (4, [.ref h1, .ref h2, .int f0, .ref h3, .ref h4, .ref h5, .ref h6, .int f1, .ref h7, .ref h8, .ref h9, .ref h10])), (h1, .inr (0, [.ref h11, .int f2, .ref h12, .int f3, .ref h13, .ref h14, .ref h15, .ref h16, .ref h17, .ref h18, .int f4])), (h3, .inr (2, [.ref h27, .ref h28, .ref h29, .ref h30, .ref h31, .ref h32, .int w0, .int w1, .ref h33, .ref h34, .ref h35, .ref h36])), (h11, .inl (zI g, 5, .inl Z5)), (h12, .inl (zI g, 6, .inl Z6)), (h13, .inl (zI g, 5, .inl Z7)), (h14, .inl (zI g, 5, .inl Z8)), (h15, .inl (zI g, 5, .inl Z9)), (h16, .inl (zI g, 20, .inl Z10)), (h27, .inl (zI g, 5, .inl R2)), (h28, .inl (zI g, 5, .inl R3)), (h29, .inl (zI g, 5, .inl R4)), (h30, .inl (zI g, 5, .inl R5)), (h31, .inl (zI g, 5, .inl R6)), (h32, .inl (zI g, 5, .inl R7)), (h33, .inl (zI g, 6, .inl R8)), (h34, .inl (zI g, 6, .inl R9)), (h35, .inl (zI g, 6, .inl R10)), (h36, .inl (zI g, 6, .inl R11))]) [0, 2, 1, 13, 14, 15, 16, 17, 18, 3, 4, 5, 6, 7, 8, 9, 10, 11, 12] (by decide) rfl
                  exact W.iret (v := y28) hx hb hr (fun t ht hW => ⟨⟨y28, ⟨w0, w1, R2, R3, R4, R5, R6, R7, R8, R9, R10, R11⟩, rfl, ⟨(by first | omega | decide), hI12, hI13.1, hI14.1, hI15.1, hI16, hI17⟩, by rw [ht]; exact hP9, hD9⟩, hS.F ht⟩) hS.2.2 dX4_lot_88
                · have i_11 : y27.toInt < 0 := z_nle (rfl) (rfl) c_11
                  refine lv_bipush (v := (-4)) hx hb dX4_lot_74 (by decide) ?_
                  refine lv_goto (tgt := 88) hx hb dX4_lot_76 (by decide) ?_
                  have : ((-4) : Int32).toInt = (-4) := rfl
                  have hz : zAlot f2.toInt Z6 (zOu Z5 f3.toInt Z7 Z10 (zRw f3.toInt Z9) 0 (zIv Z6) (zRw f3.toInt Z8)) p1.toInt p2.toInt = (-4) := by
                    unfold zAlot
                    rw [if_neg (by omega), if_neg (by omega), if_pos (by omega)]
                    unfold zSw
                    rw [if_pos (by omega)]
                  have hP9 := hP.sub (ws' := [(h0, .inr (4, [.ref h1, .ref h2, .int f0, .ref h3, .ref h4, .ref h5, .ref h6, .int f1, .ref h7, .ref h8, .ref h9, .ref h10])), (h1, .inr (0, [.ref h11, .int f2, .ref h12, .int f3, .ref h13, .ref h14, .ref h15, .ref h16, .ref h17, .ref h18, .int f4])), (h3, .inr (2, [.ref h27, .ref h28, .ref h29, .ref h30, .ref h31, .ref h32, .int w0, .int w1, .ref h33, .ref h34, .ref h35, .ref h36])), (h11, .inl (zI g, 5, .inl Z5)), (h12, .inl (zI g, 6, .inl Z6)), (h13, .inl (zI g, 5, .inl Z7)), (h14, .inl (zI g, 5, .inl Z8)), (h15, .inl (zI g, 5, .inl Z9)), (h16, .inl (zI g, 20, .inl Z10)), (h27, .inl (zI g, 5, .inl R2)), (h28, .inl (zI g, 5, .inl R3)), (h29, .inl (zI g, 5, .inl R4)), (h30, .inl (zI g, 5, .inl R5)), (h31, .inl (zI g, 5, .inl R6)), (h32, .inl (zI g, 5, .inl R7)), (h33, .inl (zI g, 6, .inl R8)), (h34, .inl (zI g, 6, .inl R9)), (h35, .inl (zI g, 6, .inl R10)), (h36, .inl (zI g, 6, .inl R11))]) [0, 2, 1, 13, 14, 15, 16, 17, 18, 3, 4, 5, 6, 7, 8, 9, 10, 11, 12] rfl
                  have hD9 := hD.sub (ws' := [(h0, .inr (4, [.ref h1, .ref h2, .int f0, .ref h3, .ref h4, .ref h5, .ref h6, .int f1, .ref h7, .ref h8, .ref h9, .ref h10])), (h1, .inr (0, [.ref h11, .int f2, .ref h12, .int f3, .ref h13, .ref h14, .ref h15, .ref h16, .ref h17, .ref h18, .int f4])), (h3, .inr (2, [.ref h27, .ref h28, .ref h29, .ref h30, .ref h31, .ref h32, .int w0, .int w1, .ref h33, .ref h34, .ref h35, .ref h36])), (h11, .inl (zI g, 5, .inl Z5)), (h12, .inl (zI g, 6, .inl Z6)), (h13, .inl (zI g, 5, .inl Z7)), (h14, .inl (zI g, 5, .inl Z8)), (h15, .inl (zI g, 5, .inl Z9)), (h16, .inl (zI g, 20, .inl Z10)), (h27, .inl (zI g, 5, .inl R2)), (h28, .inl (zI g, 5, .inl R3)), (h29, .inl (zI g, 5, .inl R4)), (h30, .inl (zI g, 5, .inl R5)), (h31, .inl (zI g, 5, .inl R6)), (h32, .inl (zI g, 5, .inl R7)), (h33, .inl (zI g, 6, .inl R8)), (h34, .inl (zI g, 6, .inl R9)), (h35, .inl (zI g, 6, .inl R10)), (h36, .inl (zI g, 6, .inl R11))]) [0, 2, 1, 13, 14, 15, 16, 17, 18, 3, 4, 5, 6, 7, 8, 9, 10, 11, 12] (by decide) rfl
                  exact W.iret (v := (-4)) hx hb hr (fun t ht hW => ⟨⟨(-4), ⟨w0, w1, R2, R3, R4, R5, R6, R7, R8, R9, R10, R11⟩, rfl, ⟨(by first | omega | decide), hI12, hI13.1, hI14.1, hI15.1, hI16, hI17⟩, by rw [ht]; exact hP9, hD9⟩, hS.F ht⟩) hS.2.2 dX4_lot_88
            · have i_5 : p2.toInt = 0 := z_eq (rfl) (rfl) c_5
              refine lv_aload_n hx hb dX4_lot_36 rfl (lv_at hl 0 rfl) ?_
              refine va_get (D := g.1) (ci := 4) (v := .ref h1) (C := RX4) (T := TX4) (N := 12) hx hb hts zl_X4 hown hK hP 0 rfl rfl 0 (by decide) (hts _ m_f_RX4_10) (fun _ h => h) rfl dX4_lot_37 ?_
              refine va_getN (D := g.1) (ci := 0) (v := .ref h12) (C := RX0) (T := TX0) (N := 11) hx hb hts zl_X0 hown hK hP 1 rfl rfl 2 (by decide) (hN.f 6 (q := (RX4, 113, "FishSteps$Books", "kind", "[I")) rfl) (fun _ h => h) rfl dX4_lot_40 ?_
              refine lv_iload_n hx hb dX4_lot_43 rfl (lv_at hl 1 rfl) ?_
              refine va_iald (D := g.1) hx hb hK hP 4 0 rfl rfl (vp_in_iff.mpr ⟨by omega, by omega⟩) dX4_lot_44 ?_
              refine lv_topi (fun y29 ey29 => ?_)
              have qy29_0 : 0 ≤ y29.toInt := (iKd_at (i := p1) (a := p1.toInt) hF_Z6 (rfl) (by omega) (by omega) ey29).1
              have qy29_1 : y29.toInt ≤ 3 := (iKd_at (i := p1) (a := p1.toInt) hF_Z6 (rfl) (by omega) (by omega) ey29).2
              have qy29_2 : y29.toInt = (Z6 p1.toNatClampNeg).toInt := congrArg Int32.toInt ey29
              have py29_0 : y29.toInt = (Z6 p1.toInt.toNat).toInt := congrArg Int32.toInt ey29
              have hz : zAlot f2.toInt Z6 (zOu Z5 f3.toInt Z7 Z10 (zRw f3.toInt Z9) 0 (zIv Z6) (zRw f3.toInt Z8)) p1.toInt p2.toInt = y29.toInt := by
                unfold zAlot
                rw [if_neg (by omega), if_pos (by omega)] <;> omega
              have hP9 := hP.sub (ws' := [(h0, .inr (4, [.ref h1, .ref h2, .int f0, .ref h3, .ref h4, .ref h5, .ref h6, .int f1, .ref h7, .ref h8, .ref h9, .ref h10])), (h1, .inr (0, [.ref h11, .int f2, .ref h12, .int f3, .ref h13, .ref h14, .ref h15, .ref h16, .ref h17, .ref h18, .int f4])), (h3, .inr (2, [.ref h27, .ref h28, .ref h29, .ref h30, .ref h31, .ref h32, .int f8, .int f9, .ref h33, .ref h34, .ref h35, .ref h36])), (h11, .inl (zI g, 5, .inl Z5)), (h12, .inl (zI g, 6, .inl Z6)), (h13, .inl (zI g, 5, .inl Z7)), (h14, .inl (zI g, 5, .inl Z8)), (h15, .inl (zI g, 5, .inl Z9)), (h16, .inl (zI g, 20, .inl Z10)), (h27, .inl (zI g, 5, .inl Z21)), (h28, .inl (zI g, 5, .inl Z22)), (h29, .inl (zI g, 5, .inl Z23)), (h30, .inl (zI g, 5, .inl Z24)), (h31, .inl (zI g, 5, .inl Z25)), (h32, .inl (zI g, 5, .inl Z26)), (h33, .inl (zI g, 6, .inl Z27)), (h34, .inl (zI g, 6, .inl Z28)), (h35, .inl (zI g, 6, .inl Z29)), (h36, .inl (zI g, 6, .inl Z30))]) [0, 1, 2, 3, 4, 5, 6, 7, 8, 9, 10, 11, 12, 13, 14, 15, 16, 17, 18] rfl
              have hD9 := hD.sub (ws' := [(h0, .inr (4, [.ref h1, .ref h2, .int f0, .ref h3, .ref h4, .ref h5, .ref h6, .int f1, .ref h7, .ref h8, .ref h9, .ref h10])), (h1, .inr (0, [.ref h11, .int f2, .ref h12, .int f3, .ref h13, .ref h14, .ref h15, .ref h16, .ref h17, .ref h18, .int f4])), (h3, .inr (2, [.ref h27, .ref h28, .ref h29, .ref h30, .ref h31, .ref h32, .int f8, .int f9, .ref h33, .ref h34, .ref h35, .ref h36])), (h11, .inl (zI g, 5, .inl Z5)), (h12, .inl (zI g, 6, .inl Z6)), (h13, .inl (zI g, 5, .inl Z7)), (h14, .inl (zI g, 5, .inl Z8)), (h15, .inl (zI g, 5, .inl Z9)), (h16, .inl (zI g, 20, .inl Z10)), (h27, .inl (zI g, 5, .inl Z21)), (h28, .inl (zI g, 5, .inl Z22)), (h29, .inl (zI g, 5, .inl Z23)), (h30, .inl (zI g, 5, .inl Z24)), (h31, .inl (zI g, 5, .inl Z25)), (h32, .inl (zI g, 5, .inl Z26)), (h33, .inl (zI g, 6, .inl Z27)), (h34, .inl (zI g, 6, .inl Z28)), (h35, .inl (zI g, 6, .inl Z29)), (h36, .inl (zI g, 6, .inl Z30))]) [0, 1, 2, 3, 4, 5, 6, 7, 8, 9, 10, 11, 12, 13, 14, 15, 16, 17, 18] (by decide) rfl
              exact W.iret (v := y29) hx hb hr (fun t ht hW => ⟨⟨y29, ⟨f8, f9, Z21, Z22, Z23, Z24, Z25, Z26, Z27, Z28, Z29, Z30⟩, rfl, ⟨(by first | omega | decide), hF_Z21, hF_Z22, hF_Z23, hF_Z24, hF_Z25, hF_Z26⟩, by rw [ht]; exact hP9, hD9⟩, hS.F ht⟩) hS.2.2 dX4_lot_45
          · have i_4 : 4 < p2.toInt := z_nle (rfl) (rfl) c_4
            refine lv_iconst (v := (-1)) hx hb dX4_lot_30 (by decide) ?_
            have : ((-1) : Int32).toInt = (-1) := rfl
            have hz : zAlot f2.toInt Z6 (zOu Z5 f3.toInt Z7 Z10 (zRw f3.toInt Z9) 0 (zIv Z6) (zRw f3.toInt Z8)) p1.toInt p2.toInt = (-1) := by
              unfold zAlot
              rw [if_pos (by omega)]
            have hP9 := hP.sub (ws' := [(h0, .inr (4, [.ref h1, .ref h2, .int f0, .ref h3, .ref h4, .ref h5, .ref h6, .int f1, .ref h7, .ref h8, .ref h9, .ref h10])), (h1, .inr (0, [.ref h11, .int f2, .ref h12, .int f3, .ref h13, .ref h14, .ref h15, .ref h16, .ref h17, .ref h18, .int f4])), (h3, .inr (2, [.ref h27, .ref h28, .ref h29, .ref h30, .ref h31, .ref h32, .int f8, .int f9, .ref h33, .ref h34, .ref h35, .ref h36])), (h11, .inl (zI g, 5, .inl Z5)), (h12, .inl (zI g, 6, .inl Z6)), (h13, .inl (zI g, 5, .inl Z7)), (h14, .inl (zI g, 5, .inl Z8)), (h15, .inl (zI g, 5, .inl Z9)), (h16, .inl (zI g, 20, .inl Z10)), (h27, .inl (zI g, 5, .inl Z21)), (h28, .inl (zI g, 5, .inl Z22)), (h29, .inl (zI g, 5, .inl Z23)), (h30, .inl (zI g, 5, .inl Z24)), (h31, .inl (zI g, 5, .inl Z25)), (h32, .inl (zI g, 5, .inl Z26)), (h33, .inl (zI g, 6, .inl Z27)), (h34, .inl (zI g, 6, .inl Z28)), (h35, .inl (zI g, 6, .inl Z29)), (h36, .inl (zI g, 6, .inl Z30))]) [0, 1, 2, 3, 4, 5, 6, 7, 8, 9, 10, 11, 12, 13, 14, 15, 16, 17, 18] rfl
            have hD9 := hD.sub (ws' := [(h0, .inr (4, [.ref h1, .ref h2, .int f0, .ref h3, .ref h4, .ref h5, .ref h6, .int f1, .ref h7, .ref h8, .ref h9, .ref h10])), (h1, .inr (0, [.ref h11, .int f2, .ref h12, .int f3, .ref h13, .ref h14, .ref h15, .ref h16, .ref h17, .ref h18, .int f4])), (h3, .inr (2, [.ref h27, .ref h28, .ref h29, .ref h30, .ref h31, .ref h32, .int f8, .int f9, .ref h33, .ref h34, .ref h35, .ref h36])), (h11, .inl (zI g, 5, .inl Z5)), (h12, .inl (zI g, 6, .inl Z6)), (h13, .inl (zI g, 5, .inl Z7)), (h14, .inl (zI g, 5, .inl Z8)), (h15, .inl (zI g, 5, .inl Z9)), (h16, .inl (zI g, 20, .inl Z10)), (h27, .inl (zI g, 5, .inl Z21)), (h28, .inl (zI g, 5, .inl Z22)), (h29, .inl (zI g, 5, .inl Z23)), (h30, .inl (zI g, 5, .inl Z24)), (h31, .inl (zI g, 5, .inl Z25)), (h32, .inl (zI g, 5, .inl Z26)), (h33, .inl (zI g, 6, .inl Z27)), (h34, .inl (zI g, 6, .inl Z28)), (h35, .inl (zI g, 6, .inl Z29)), (h36, .inl (zI g, 6, .inl Z30))]) [0, 1, 2, 3, 4, 5, 6, 7, 8, 9, 10, 11, 12, 13, 14, 15, 16, 17, 18] (by decide) rfl
            exact W.iret (v := (-1)) hx hb hr (fun t ht hW => ⟨⟨(-1), ⟨f8, f9, Z21, Z22, Z23, Z24, Z25, Z26, Z27, Z28, Z29, Z30⟩, rfl, ⟨(by first | omega | decide), hF_Z21, hF_Z22, hF_Z23, hF_Z24, hF_Z25, hF_Z26⟩, by rw [ht]; exact hP9, hD9⟩, hS.F ht⟩) hS.2.2 dX4_lot_31
set_option maxHeartbeats 8000000 in
set_option maxRecDepth 100000 in
theorem gX4_gain (l : Launch) (g : zG) (h0 h1 h2 h3 h4 h5 h6 h7 h8 h9 h10 h11 h12 h13 h14 h15 h16 h17 h18 h27 h28 h29 h30 h31 h32 h33 h34 h35 h36 : Nat) (sz : Nat) (p1 : Int32) (f0 : Int32) (f1 : Int32) (f2 : Int32) (f3 : Int32) (f4 : Int32) (f8 : Int32) (f9 : Int32) (Z5 : Nat → Int32) (Z6 : Nat → Int32) (Z7 : Nat → Int32) (Z8 : Nat → Int32) (Z9 : Nat → Int32) (Z10 : Nat → Int32) (Z21 : Nat → Int32) (Z22 : Nat → Int32) (Z23 : Nat → Int32) (Z24 : Nat → Int32) (Z25 : Nat → Int32) (Z26 : Nat → Int32) (Z27 : Nat → Int32) (Z28 : Nat → Int32) (Z29 : Nat → Int32) (Z30 : Nat → Int32) (hf_f2 : 0 ≤ f2.toInt ∧ f2.toInt ≤ 6) (hf_f3 : 0 ≤ f3.toInt ∧ f3.toInt ≤ 5) (hf_f4 : 0 ≤ f4.toInt ∧ f4.toInt ≤ 9999) (hF_Z5 : iLaw Z5) (hF_Z6 : iKd Z6) (hF_Z7 : iSo Z7) (hF_Z8 : iPu Z8) (hF_Z9 : iMa Z9) (hF_Z10 : iWo Z10) (hF_Z21 : iMa Z21) (hF_Z22 : iPu Z22) (hF_Z23 : iHd Z23) (hF_Z24 : iGa Z24) (hF_Z25 : iLm Z25) (hF_Z26 : iMo Z26) : Met l yX4_gain (.code yX4_gain cX4_gain 2 (some .int) :: zBig) ({ frames := 6, cells := 0, slots := 0, locals := 144 }) (va_Pc [.ref h0, .int p1] (zPre g [(h0, .inr (4, [.ref h1, .ref h2, .int f0, .ref h3, .ref h4, .ref h5, .ref h6, .int f1, .ref h7, .ref h8, .ref h9, .ref h10])), (h1, .inr (0, [.ref h11, .int f2, .ref h12, .int f3, .ref h13, .ref h14, .ref h15, .ref h16, .ref h17, .ref h18, .int f4])), (h3, .inr (2, [.ref h27, .ref h28, .ref h29, .ref h30, .ref h31, .ref h32, .int f8, .int f9, .ref h33, .ref h34, .ref h35, .ref h36])), (h11, .inl (zI g, 5, .inl Z5)), (h12, .inl (zI g, 6, .inl Z6)), (h13, .inl (zI g, 5, .inl Z7)), (h14, .inl (zI g, 5, .inl Z8)), (h15, .inl (zI g, 5, .inl Z9)), (h16, .inl (zI g, 20, .inl Z10)), (h27, .inl (zI g, 5, .inl Z21)), (h28, .inl (zI g, 5, .inl Z22)), (h29, .inl (zI g, 5, .inl Z23)), (h30, .inl (zI g, 5, .inl Z24)), (h31, .inl (zI g, 5, .inl Z25)), (h32, .inl (zI g, 5, .inl Z26)), (h33, .inl (zI g, 6, .inl Z27)), (h34, .inl (zI g, 6, .inl Z28)), (h35, .inl (zI g, 6, .inl Z29)), (h36, .inl (zI g, 6, .inl Z30))] sz)) (va_Qi (fun (r : Int32) (u : Int32 × Int32 × (Nat → Int32) × (Nat → Int32) × (Nat → Int32) × (Nat → Int32) × (Nat → Int32) × (Nat → Int32) × (Nat → Int32) × (Nat → Int32) × (Nat → Int32) × (Nat → Int32)) => (r.toInt = zAgain f3.toInt (zSm Z5 f3.toInt Z7 Z10 (zRw f3.toInt Z9) 0 (zIv Z6) (zRw f3.toInt Z8) f2.toInt.toNat).2.2.1 p1.toInt) ∧ iMa u.2.2.1 ∧ iPu u.2.2.2.1 ∧ iHd u.2.2.2.2.1 ∧ iGa u.2.2.2.2.2.1 ∧ iLm u.2.2.2.2.2.2.1 ∧ iMo u.2.2.2.2.2.2.2.1) (zPost g (fun u : Int32 × Int32 × (Nat → Int32) × (Nat → Int32) × (Nat → Int32) × (Nat → Int32) × (Nat → Int32) × (Nat → Int32) × (Nat → Int32) × (Nat → Int32) × (Nat → Int32) × (Nat → Int32) => [(h0, .inr (4, [.ref h1, .ref h2, .int f0, .ref h3, .ref h4, .ref h5, .ref h6, .int f1, .ref h7, .ref h8, .ref h9, .ref h10])), (h1, .inr (0, [.ref h11, .int f2, .ref h12, .int f3, .ref h13, .ref h14, .ref h15, .ref h16, .ref h17, .ref h18, .int f4])), (h3, .inr (2, [.ref h27, .ref h28, .ref h29, .ref h30, .ref h31, .ref h32, .int u.1, .int u.2.1, .ref h33, .ref h34, .ref h35, .ref h36])), (h11, .inl (zI g, 5, .inl Z5)), (h12, .inl (zI g, 6, .inl Z6)), (h13, .inl (zI g, 5, .inl Z7)), (h14, .inl (zI g, 5, .inl Z8)), (h15, .inl (zI g, 5, .inl Z9)), (h16, .inl (zI g, 20, .inl Z10)), (h27, .inl (zI g, 5, .inl u.2.2.1)), (h28, .inl (zI g, 5, .inl u.2.2.2.1)), (h29, .inl (zI g, 5, .inl u.2.2.2.2.1)), (h30, .inl (zI g, 5, .inl u.2.2.2.2.2.1)), (h31, .inl (zI g, 5, .inl u.2.2.2.2.2.2.1)), (h32, .inl (zI g, 5, .inl u.2.2.2.2.2.2.2.1)), (h33, .inl (zI g, 6, .inl u.2.2.2.2.2.2.2.2.1)), (h34, .inl (zI g, 6, .inl u.2.2.2.2.2.2.2.2.2.1)), (h35, .inl (zI g, 6, .inl u.2.2.2.2.2.2.2.2.2.2.1)), (h36, .inl (zI g, 6, .inl u.2.2.2.2.2.2.2.2.2.2.2))]) (va_A [(h0, .inr (4, [.ref h1, .ref h2, .int f0, .ref h3, .ref h4, .ref h5, .ref h6, .int f1, .ref h7, .ref h8, .ref h9, .ref h10])), (h1, .inr (0, [.ref h11, .int f2, .ref h12, .int f3, .ref h13, .ref h14, .ref h15, .ref h16, .ref h17, .ref h18, .int f4])), (h3, .inr (2, [.ref h27, .ref h28, .ref h29, .ref h30, .ref h31, .ref h32, .int f8, .int f9, .ref h33, .ref h34, .ref h35, .ref h36])), (h11, .inl (zI g, 5, .inl Z5)), (h12, .inl (zI g, 6, .inl Z6)), (h13, .inl (zI g, 5, .inl Z7)), (h14, .inl (zI g, 5, .inl Z8)), (h15, .inl (zI g, 5, .inl Z9)), (h16, .inl (zI g, 20, .inl Z10)), (h27, .inl (zI g, 5, .inl Z21)), (h28, .inl (zI g, 5, .inl Z22)), (h29, .inl (zI g, 5, .inl Z23)), (h30, .inl (zI g, 5, .inl Z24)), (h31, .inl (zI g, 5, .inl Z25)), (h32, .inl (zI g, 5, .inl Z26)), (h33, .inl (zI g, 6, .inl Z27)), (h34, .inl (zI g, 6, .inl Z28)), (h35, .inl (zI g, 6, .inl Z29)), (h36, .inl (zI g, 6, .inl Z30))] sz)) (va_A [(h0, .inr (4, [.ref h1, .ref h2, .int f0, .ref h3, .ref h4, .ref h5, .ref h6, .int f1, .ref h7, .ref h8, .ref h9, .ref h10])), (h1, .inr (0, [.ref h11, .int f2, .ref h12, .int f3, .ref h13, .ref h14, .ref h15, .ref h16, .ref h17, .ref h18, .int f4])), (h3, .inr (2, [.ref h27, .ref h28, .ref h29, .ref h30, .ref h31, .ref h32, .int f8, .int f9, .ref h33, .ref h34, .ref h35, .ref h36])), (h11, .inl (zI g, 5, .inl Z5)), (h12, .inl (zI g, 6, .inl Z6)), (h13, .inl (zI g, 5, .inl Z7)), (h14, .inl (zI g, 5, .inl Z8)), (h15, .inl (zI g, 5, .inl Z9)), (h16, .inl (zI g, 20, .inl Z10)), (h27, .inl (zI g, 5, .inl Z21)), (h28, .inl (zI g, 5, .inl Z22)), (h29, .inl (zI g, 5, .inl Z23)), (h30, .inl (zI g, 5, .inl Z24)), (h31, .inl (zI g, 5, .inl Z25)), (h32, .inl (zI g, 5, .inl Z26)), (h33, .inl (zI g, 6, .inl Z27)), (h34, .inl (zI g, 6, .inl Z28)), (h35, .inl (zI g, 6, .inl Z29)), (h36, .inl (zI g, 6, .inl Z30))] sz)) 0 0 (va_A [(h0, .inr (4, [.ref h1, .ref h2, .int f0, .ref h3, .ref h4, .ref h5, .ref h6, .int f1, .ref h7, .ref h8, .ref h9, .ref h10])), (h1, .inr (0, [.ref h11, .int f2, .ref h12, .int f3, .ref h13, .ref h14, .ref h15, .ref h16, .ref h17, .ref h18, .int f4])), (h3, .inr (2, [.ref h27, .ref h28, .ref h29, .ref h30, .ref h31, .ref h32, .int f8, .int f9, .ref h33, .ref h34, .ref h35, .ref h36])), (h11, .inl (zI g, 5, .inl Z5)), (h12, .inl (zI g, 6, .inl Z6)), (h13, .inl (zI g, 5, .inl Z7)), (h14, .inl (zI g, 5, .inl Z8)), (h15, .inl (zI g, 5, .inl Z9)), (h16, .inl (zI g, 20, .inl Z10)), (h27, .inl (zI g, 5, .inl Z21)), (h28, .inl (zI g, 5, .inl Z22)), (h29, .inl (zI g, 5, .inl Z23)), (h30, .inl (zI g, 5, .inl Z24)), (h31, .inl (zI g, 5, .inl Z25)), (h32, .inl (zI g, 5, .inl Z26)), (h33, .inl (zI g, 6, .inl Z27)), (h34, .inl (zI g, 6, .inl Z28)), (h35, .inl (zI g, 6, .inl Z29)), (h36, .inl (zI g, 6, .inl Z30))] sz) := by
  refine zMetI rfl (Nat.le_of_ble_eq_true rfl) ?_
  intro p e s m args below meth c A ls hx hb hml hr hlocks hin hown hts hK hN hZ hP hD hA hS hAe hl
  have hown : s.vm.findClass RX4 = some m.cls := hown
  have hl : lv_has ls 2 [(0, .ref h0), (1, .int p1)] := hl
  refine lv_aload_n hx hb dX4_gain_0 rfl (lv_at hl 0 rfl) ?_
  refine va_get (D := g.1) (ci := 4) (v := .ref h1) (C := RX4) (T := TX4) (N := 12) hx hb hts zl_X4 hown hK hP 0 rfl rfl 0 (by decide) (hts _ m_f_RX4_10) (fun _ h => h) rfl dX4_gain_1 ?_
  refine lv_iload_n hx hb dX4_gain_4 rfl (lv_at hl 1 rfl) ?_
  refine z_calli (wr := [(h0, .inr (4, [.ref h1, .ref h2, .int f0, .ref h3, .ref h4, .ref h5, .ref h6, .int f1, .ref h7, .ref h8, .ref h9, .ref h10])), (h3, .inr (2, [.ref h27, .ref h28, .ref h29, .ref h30, .ref h31, .ref h32, .int f8, .int f9, .ref h33, .ref h34, .ref h35, .ref h36])), (h11, .inl (zI g, 5, .inl Z5)), (h12, .inl (zI g, 6, .inl Z6)), (h13, .inl (zI g, 5, .inl Z7)), (h14, .inl (zI g, 5, .inl Z8)), (h15, .inl (zI g, 5, .inl Z9)), (h16, .inl (zI g, 20, .inl Z10)), (h27, .inl (zI g, 5, .inl Z21)), (h28, .inl (zI g, 5, .inl Z22)), (h29, .inl (zI g, 5, .inl Z23)), (h30, .inl (zI g, 5, .inl Z24)), (h31, .inl (zI g, 5, .inl Z25)), (h32, .inl (zI g, 5, .inl Z26)), (h33, .inl (zI g, 6, .inl Z27)), (h34, .inl (zI g, 6, .inl Z28)), (h35, .inl (zI g, 6, .inl Z29)), (h36, .inl (zI g, 6, .inl Z30))]) hP hD hS hA [1] [0, 2, 3, 4, 5, 6, 7, 8, 9, 10, 11, 12, 13, 14, 15, 16, 17, 18] (by decide) rfl rfl (by decide) (va_runVN (As := [.int p1]) (rest := []) ⟨hx, hb, hml, hown, hts⟩ (gX0_isThere l g h1 h11 h12 h13 h14 h15 h16 h17 h18 s.heap.size p1 f2 f3 f4 (by constructor <;> omega) (by constructor <;> omega) (by constructor <;> omega)) ⟨va_cnB 1 hts (zGood m_o_yX0_isThere) rfl rfl rfl (hN.m 4 (q := (RX4, 80, yX0_isThere)) rfl) (hts _ m_z_RX0) ⟨by decide +kernel, by decide +kernel, by decide +kernel⟩ ⟨Nat.le_of_ble_eq_true rfl, Nat.le_of_ble_eq_true rfl⟩, hts _ m_i_yX0_isThere, hts _ m_e_yX0_isThere⟩ (zPreV hK hN hZ hP hD hS hA [1] (by decide) rfl rfl 0 1 rfl rfl) rfl rfl hl.1 rfl (lv_room (Nat.le_of_ble_eq_true rfl)) dX4_gain_5 ⟨Nat.le_of_ble_eq_true rfl, Nat.le_of_ble_eq_true rfl⟩) (fun r u H locs hw hP hD hS => ?_)
  rcases hw with ⟨i_0, rfl⟩ | ⟨i_1, i_2, rfl⟩ | ⟨i_3, i_4, i_5, rfl⟩ | ⟨i_6, i_7, i_8, rfl⟩
  · skip
    have i_0 : p1.toInt < 0 := i_0
    have hP : va_P g.1 vwCl [(h0, .inr (4, [.ref h1, .ref h2, .int f0, .ref h3, .ref h4, .ref h5, .ref h6, .int f1, .ref h7, .ref h8, .ref h9, .ref h10])), (h3, .inr (2, [.ref h27, .ref h28, .ref h29, .ref h30, .ref h31, .ref h32, .int f8, .int f9, .ref h33, .ref h34, .ref h35, .ref h36])), (h11, .inl (zI g, 5, .inl Z5)), (h12, .inl (zI g, 6, .inl Z6)), (h13, .inl (zI g, 5, .inl Z7)), (h14, .inl (zI g, 5, .inl Z8)), (h15, .inl (zI g, 5, .inl Z9)), (h16, .inl (zI g, 20, .inl Z10)), (h27, .inl (zI g, 5, .inl Z21)), (h28, .inl (zI g, 5, .inl Z22)), (h29, .inl (zI g, 5, .inl Z23)), (h30, .inl (zI g, 5, .inl Z24)), (h31, .inl (zI g, 5, .inl Z25)), (h32, .inl (zI g, 5, .inl Z26)), (h33, .inl (zI g, 6, .inl Z27)), (h34, .inl (zI g, 6, .inl Z28)), (h35, .inl (zI g, 6, .inl Z29)), (h36, .inl (zI g, 6, .inl Z30)), (h1, .inr (0, [.ref h11, .int f2, .ref h12, .int f3, .ref h13, .ref h14, .ref h15, .ref h16, .ref h17, .ref h18, .int f4]))] H := hP
    have hD : va_D A [(h0, .inr (4, [.ref h1, .ref h2, .int f0, .ref h3, .ref h4, .ref h5, .ref h6, .int f1, .ref h7, .ref h8, .ref h9, .ref h10])), (h3, .inr (2, [.ref h27, .ref h28, .ref h29, .ref h30, .ref h31, .ref h32, .int f8, .int f9, .ref h33, .ref h34, .ref h35, .ref h36])), (h11, .inl (zI g, 5, .inl Z5)), (h12, .inl (zI g, 6, .inl Z6)), (h13, .inl (zI g, 5, .inl Z7)), (h14, .inl (zI g, 5, .inl Z8)), (h15, .inl (zI g, 5, .inl Z9)), (h16, .inl (zI g, 20, .inl Z10)), (h27, .inl (zI g, 5, .inl Z21)), (h28, .inl (zI g, 5, .inl Z22)), (h29, .inl (zI g, 5, .inl Z23)), (h30, .inl (zI g, 5, .inl Z24)), (h31, .inl (zI g, 5, .inl Z25)), (h32, .inl (zI g, 5, .inl Z26)), (h33, .inl (zI g, 6, .inl Z27)), (h34, .inl (zI g, 6, .inl Z28)), (h35, .inl (zI g, 6, .inl Z29)), (h36, .inl (zI g, 6, .inl Z30)), (h1, .inr (0, [.ref h11, .int f2, .ref h12, .int f3, .ref h13, .ref h14, .ref h15, .ref h16, .ref h17, .ref h18, .int f4]))] := hD
    refine lv_if_ne (tgt := 14) hx hb dX4_gain_8 (by decide) (fun h => absurd h (by decide +kernel)) (fun _ => ?_)
    refine lv_ldc (v := (-100001)) hx hb hown (hts _ m_k_RX4_93) dX4_gain_11 ?_
    have : ((-100001) : Int32).toInt = (-100001) := rfl
    have hz : zAgain f3.toInt (zSm Z5 f3.toInt Z7 Z10 (zRw f3.toInt Z9) 0 (zIv Z6) (zRw f3.toInt Z8) f2.toInt.toNat).2.2.1 p1.toInt = (-100001) := by
      unfold zAgain
      rw [if_pos (by omega)]
    have hP9 := hP.sub (ws' := [(h0, .inr (4, [.ref h1, .ref h2, .int f0, .ref h3, .ref h4, .ref h5, .ref h6, .int f1, .ref h7, .ref h8, .ref h9, .ref h10])), (h1, .inr (0, [.ref h11, .int f2, .ref h12, .int f3, .ref h13, .ref h14, .ref h15, .ref h16, .ref h17, .ref h18, .int f4])), (h3, .inr (2, [.ref h27, .ref h28, .ref h29, .ref h30, .ref h31, .ref h32, .int f8, .int f9, .ref h33, .ref h34, .ref h35, .ref h36])), (h11, .inl (zI g, 5, .inl Z5)), (h12, .inl (zI g, 6, .inl Z6)), (h13, .inl (zI g, 5, .inl Z7)), (h14, .inl (zI g, 5, .inl Z8)), (h15, .inl (zI g, 5, .inl Z9)), (h16, .inl (zI g, 20, .inl Z10)), (h27, .inl (zI g, 5, .inl Z21)), (h28, .inl (zI g, 5, .inl Z22)), (h29, .inl (zI g, 5, .inl Z23)), (h30, .inl (zI g, 5, .inl Z24)), (h31, .inl (zI g, 5, .inl Z25)), (h32, .inl (zI g, 5, .inl Z26)), (h33, .inl (zI g, 6, .inl Z27)), (h34, .inl (zI g, 6, .inl Z28)), (h35, .inl (zI g, 6, .inl Z29)), (h36, .inl (zI g, 6, .inl Z30))]) [0, 18, 1, 2, 3, 4, 5, 6, 7, 8, 9, 10, 11, 12, 13, 14, 15, 16, 17] rfl
    have hD9 := hD.sub (ws' := [(h0, .inr (4, [.ref h1, .ref h2, .int f0, .ref h3, .ref h4, .ref h5, .ref h6, .int f1, .ref h7, .ref h8, .ref h9, .ref h10])), (h1, .inr (0, [.ref h11, .int f2, .ref h12, .int f3, .ref h13, .ref h14, .ref h15, .ref h16, .ref h17, .ref h18, .int f4])), (h3, .inr (2, [.ref h27, .ref h28, .ref h29, .ref h30, .ref h31, .ref h32, .int f8, .int f9, .ref h33, .ref h34, .ref h35, .ref h36])), (h11, .inl (zI g, 5, .inl Z5)), (h12, .inl (zI g, 6, .inl Z6)), (h13, .inl (zI g, 5, .inl Z7)), (h14, .inl (zI g, 5, .inl Z8)), (h15, .inl (zI g, 5, .inl Z9)), (h16, .inl (zI g, 20, .inl Z10)), (h27, .inl (zI g, 5, .inl Z21)), (h28, .inl (zI g, 5, .inl Z22)), (h29, .inl (zI g, 5, .inl Z23)), (h30, .inl (zI g, 5, .inl Z24)), (h31, .inl (zI g, 5, .inl Z25)), (h32, .inl (zI g, 5, .inl Z26)), (h33, .inl (zI g, 6, .inl Z27)), (h34, .inl (zI g, 6, .inl Z28)), (h35, .inl (zI g, 6, .inl Z29)), (h36, .inl (zI g, 6, .inl Z30))]) [0, 18, 1, 2, 3, 4, 5, 6, 7, 8, 9, 10, 11, 12, 13, 14, 15, 16, 17] (by decide) rfl
    exact W.iret (v := (-100001)) hx hb hr (fun t ht hW => ⟨⟨(-100001), ⟨f8, f9, Z21, Z22, Z23, Z24, Z25, Z26, Z27, Z28, Z29, Z30⟩, rfl, ⟨(by first | omega | decide), hF_Z21, hF_Z22, hF_Z23, hF_Z24, hF_Z25, hF_Z26⟩, by rw [ht]; exact hP9, hD9⟩, hS.F ht⟩) hS.2.2 dX4_gain_13
  · skip
    have i_1 : 0 ≤ p1.toInt := i_1
    have i_2 : 5 ≤ p1.toInt := i_2
    have hP : va_P g.1 vwCl [(h0, .inr (4, [.ref h1, .ref h2, .int f0, .ref h3, .ref h4, .ref h5, .ref h6, .int f1, .ref h7, .ref h8, .ref h9, .ref h10])), (h3, .inr (2, [.ref h27, .ref h28, .ref h29, .ref h30, .ref h31, .ref h32, .int f8, .int f9, .ref h33, .ref h34, .ref h35, .ref h36])), (h11, .inl (zI g, 5, .inl Z5)), (h12, .inl (zI g, 6, .inl Z6)), (h13, .inl (zI g, 5, .inl Z7)), (h14, .inl (zI g, 5, .inl Z8)), (h15, .inl (zI g, 5, .inl Z9)), (h16, .inl (zI g, 20, .inl Z10)), (h27, .inl (zI g, 5, .inl Z21)), (h28, .inl (zI g, 5, .inl Z22)), (h29, .inl (zI g, 5, .inl Z23)), (h30, .inl (zI g, 5, .inl Z24)), (h31, .inl (zI g, 5, .inl Z25)), (h32, .inl (zI g, 5, .inl Z26)), (h33, .inl (zI g, 6, .inl Z27)), (h34, .inl (zI g, 6, .inl Z28)), (h35, .inl (zI g, 6, .inl Z29)), (h36, .inl (zI g, 6, .inl Z30)), (h1, .inr (0, [.ref h11, .int f2, .ref h12, .int f3, .ref h13, .ref h14, .ref h15, .ref h16, .ref h17, .ref h18, .int f4]))] H := hP
    have hD : va_D A [(h0, .inr (4, [.ref h1, .ref h2, .int f0, .ref h3, .ref h4, .ref h5, .ref h6, .int f1, .ref h7, .ref h8, .ref h9, .ref h10])), (h3, .inr (2, [.ref h27, .ref h28, .ref h29, .ref h30, .ref h31, .ref h32, .int f8, .int f9, .ref h33, .ref h34, .ref h35, .ref h36])), (h11, .inl (zI g, 5, .inl Z5)), (h12, .inl (zI g, 6, .inl Z6)), (h13, .inl (zI g, 5, .inl Z7)), (h14, .inl (zI g, 5, .inl Z8)), (h15, .inl (zI g, 5, .inl Z9)), (h16, .inl (zI g, 20, .inl Z10)), (h27, .inl (zI g, 5, .inl Z21)), (h28, .inl (zI g, 5, .inl Z22)), (h29, .inl (zI g, 5, .inl Z23)), (h30, .inl (zI g, 5, .inl Z24)), (h31, .inl (zI g, 5, .inl Z25)), (h32, .inl (zI g, 5, .inl Z26)), (h33, .inl (zI g, 6, .inl Z27)), (h34, .inl (zI g, 6, .inl Z28)), (h35, .inl (zI g, 6, .inl Z29)), (h36, .inl (zI g, 6, .inl Z30)), (h1, .inr (0, [.ref h11, .int f2, .ref h12, .int f3, .ref h13, .ref h14, .ref h15, .ref h16, .ref h17, .ref h18, .int f4]))] := hD
    refine lv_if_ne (tgt := 14) hx hb dX4_gain_8 (by decide) (fun h => absurd h (by decide +kernel)) (fun _ => ?_)
    refine lv_ldc (v := (-100001)) hx hb hown (hts _ m_k_RX4_93) dX4_gain_11 ?_
    have : ((-100001) : Int32).toInt = (-100001) := rfl
    have hz : zAgain f3.toInt (zSm Z5 f3.toInt Z7 Z10 (zRw f3.toInt Z9) 0 (zIv Z6) (zRw f3.toInt Z8) f2.toInt.toNat).2.2.1 p1.toInt = (-100001) := by
      unfold zAgain
      rw [if_pos (by omega)]
    have hP9 := hP.sub (ws' := [(h0, .inr (4, [.ref h1, .ref h2, .int f0, .ref h3, .ref h4, .ref h5, .ref h6, .int f1, .ref h7, .ref h8, .ref h9, .ref h10])), (h1, .inr (0, [.ref h11, .int f2, .ref h12, .int f3, .ref h13, .ref h14, .ref h15, .ref h16, .ref h17, .ref h18, .int f4])), (h3, .inr (2, [.ref h27, .ref h28, .ref h29, .ref h30, .ref h31, .ref h32, .int f8, .int f9, .ref h33, .ref h34, .ref h35, .ref h36])), (h11, .inl (zI g, 5, .inl Z5)), (h12, .inl (zI g, 6, .inl Z6)), (h13, .inl (zI g, 5, .inl Z7)), (h14, .inl (zI g, 5, .inl Z8)), (h15, .inl (zI g, 5, .inl Z9)), (h16, .inl (zI g, 20, .inl Z10)), (h27, .inl (zI g, 5, .inl Z21)), (h28, .inl (zI g, 5, .inl Z22)), (h29, .inl (zI g, 5, .inl Z23)), (h30, .inl (zI g, 5, .inl Z24)), (h31, .inl (zI g, 5, .inl Z25)), (h32, .inl (zI g, 5, .inl Z26)), (h33, .inl (zI g, 6, .inl Z27)), (h34, .inl (zI g, 6, .inl Z28)), (h35, .inl (zI g, 6, .inl Z29)), (h36, .inl (zI g, 6, .inl Z30))]) [0, 18, 1, 2, 3, 4, 5, 6, 7, 8, 9, 10, 11, 12, 13, 14, 15, 16, 17] rfl
    have hD9 := hD.sub (ws' := [(h0, .inr (4, [.ref h1, .ref h2, .int f0, .ref h3, .ref h4, .ref h5, .ref h6, .int f1, .ref h7, .ref h8, .ref h9, .ref h10])), (h1, .inr (0, [.ref h11, .int f2, .ref h12, .int f3, .ref h13, .ref h14, .ref h15, .ref h16, .ref h17, .ref h18, .int f4])), (h3, .inr (2, [.ref h27, .ref h28, .ref h29, .ref h30, .ref h31, .ref h32, .int f8, .int f9, .ref h33, .ref h34, .ref h35, .ref h36])), (h11, .inl (zI g, 5, .inl Z5)), (h12, .inl (zI g, 6, .inl Z6)), (h13, .inl (zI g, 5, .inl Z7)), (h14, .inl (zI g, 5, .inl Z8)), (h15, .inl (zI g, 5, .inl Z9)), (h16, .inl (zI g, 20, .inl Z10)), (h27, .inl (zI g, 5, .inl Z21)), (h28, .inl (zI g, 5, .inl Z22)), (h29, .inl (zI g, 5, .inl Z23)), (h30, .inl (zI g, 5, .inl Z24)), (h31, .inl (zI g, 5, .inl Z25)), (h32, .inl (zI g, 5, .inl Z26)), (h33, .inl (zI g, 6, .inl Z27)), (h34, .inl (zI g, 6, .inl Z28)), (h35, .inl (zI g, 6, .inl Z29)), (h36, .inl (zI g, 6, .inl Z30))]) [0, 18, 1, 2, 3, 4, 5, 6, 7, 8, 9, 10, 11, 12, 13, 14, 15, 16, 17] (by decide) rfl
    exact W.iret (v := (-100001)) hx hb hr (fun t ht hW => ⟨⟨(-100001), ⟨f8, f9, Z21, Z22, Z23, Z24, Z25, Z26, Z27, Z28, Z29, Z30⟩, rfl, ⟨(by first | omega | decide), hF_Z21, hF_Z22, hF_Z23, hF_Z24, hF_Z25, hF_Z26⟩, by rw [ht]; exact hP9, hD9⟩, hS.F ht⟩) hS.2.2 dX4_gain_13
  · skip
    have i_3 : 0 ≤ p1.toInt := i_3
    have i_4 : p1.toInt < 5 := i_4
    have i_5 : f3.toInt ≤ p1.toInt := i_5
    have hP : va_P g.1 vwCl [(h0, .inr (4, [.ref h1, .ref h2, .int f0, .ref h3, .ref h4, .ref h5, .ref h6, .int f1, .ref h7, .ref h8, .ref h9, .ref h10])), (h3, .inr (2, [.ref h27, .ref h28, .ref h29, .ref h30, .ref h31, .ref h32, .int f8, .int f9, .ref h33, .ref h34, .ref h35, .ref h36])), (h11, .inl (zI g, 5, .inl Z5)), (h12, .inl (zI g, 6, .inl Z6)), (h13, .inl (zI g, 5, .inl Z7)), (h14, .inl (zI g, 5, .inl Z8)), (h15, .inl (zI g, 5, .inl Z9)), (h16, .inl (zI g, 20, .inl Z10)), (h27, .inl (zI g, 5, .inl Z21)), (h28, .inl (zI g, 5, .inl Z22)), (h29, .inl (zI g, 5, .inl Z23)), (h30, .inl (zI g, 5, .inl Z24)), (h31, .inl (zI g, 5, .inl Z25)), (h32, .inl (zI g, 5, .inl Z26)), (h33, .inl (zI g, 6, .inl Z27)), (h34, .inl (zI g, 6, .inl Z28)), (h35, .inl (zI g, 6, .inl Z29)), (h36, .inl (zI g, 6, .inl Z30)), (h1, .inr (0, [.ref h11, .int f2, .ref h12, .int f3, .ref h13, .ref h14, .ref h15, .ref h16, .ref h17, .ref h18, .int f4]))] H := hP
    have hD : va_D A [(h0, .inr (4, [.ref h1, .ref h2, .int f0, .ref h3, .ref h4, .ref h5, .ref h6, .int f1, .ref h7, .ref h8, .ref h9, .ref h10])), (h3, .inr (2, [.ref h27, .ref h28, .ref h29, .ref h30, .ref h31, .ref h32, .int f8, .int f9, .ref h33, .ref h34, .ref h35, .ref h36])), (h11, .inl (zI g, 5, .inl Z5)), (h12, .inl (zI g, 6, .inl Z6)), (h13, .inl (zI g, 5, .inl Z7)), (h14, .inl (zI g, 5, .inl Z8)), (h15, .inl (zI g, 5, .inl Z9)), (h16, .inl (zI g, 20, .inl Z10)), (h27, .inl (zI g, 5, .inl Z21)), (h28, .inl (zI g, 5, .inl Z22)), (h29, .inl (zI g, 5, .inl Z23)), (h30, .inl (zI g, 5, .inl Z24)), (h31, .inl (zI g, 5, .inl Z25)), (h32, .inl (zI g, 5, .inl Z26)), (h33, .inl (zI g, 6, .inl Z27)), (h34, .inl (zI g, 6, .inl Z28)), (h35, .inl (zI g, 6, .inl Z29)), (h36, .inl (zI g, 6, .inl Z30)), (h1, .inr (0, [.ref h11, .int f2, .ref h12, .int f3, .ref h13, .ref h14, .ref h15, .ref h16, .ref h17, .ref h18, .int f4]))] := hD
    refine lv_if_ne (tgt := 14) hx hb dX4_gain_8 (by decide) (fun h => absurd h (by decide +kernel)) (fun _ => ?_)
    refine lv_ldc (v := (-100001)) hx hb hown (hts _ m_k_RX4_93) dX4_gain_11 ?_
    have : ((-100001) : Int32).toInt = (-100001) := rfl
    have hz : zAgain f3.toInt (zSm Z5 f3.toInt Z7 Z10 (zRw f3.toInt Z9) 0 (zIv Z6) (zRw f3.toInt Z8) f2.toInt.toNat).2.2.1 p1.toInt = (-100001) := by
      unfold zAgain
      rw [if_pos (by omega)]
    have hP9 := hP.sub (ws' := [(h0, .inr (4, [.ref h1, .ref h2, .int f0, .ref h3, .ref h4, .ref h5, .ref h6, .int f1, .ref h7, .ref h8, .ref h9, .ref h10])), (h1, .inr (0, [.ref h11, .int f2, .ref h12, .int f3, .ref h13, .ref h14, .ref h15, .ref h16, .ref h17, .ref h18, .int f4])), (h3, .inr (2, [.ref h27, .ref h28, .ref h29, .ref h30, .ref h31, .ref h32, .int f8, .int f9, .ref h33, .ref h34, .ref h35, .ref h36])), (h11, .inl (zI g, 5, .inl Z5)), (h12, .inl (zI g, 6, .inl Z6)), (h13, .inl (zI g, 5, .inl Z7)), (h14, .inl (zI g, 5, .inl Z8)), (h15, .inl (zI g, 5, .inl Z9)), (h16, .inl (zI g, 20, .inl Z10)), (h27, .inl (zI g, 5, .inl Z21)), (h28, .inl (zI g, 5, .inl Z22)), (h29, .inl (zI g, 5, .inl Z23)), (h30, .inl (zI g, 5, .inl Z24)), (h31, .inl (zI g, 5, .inl Z25)), (h32, .inl (zI g, 5, .inl Z26)), (h33, .inl (zI g, 6, .inl Z27)), (h34, .inl (zI g, 6, .inl Z28)), (h35, .inl (zI g, 6, .inl Z29)), (h36, .inl (zI g, 6, .inl Z30))]) [0, 18, 1, 2, 3, 4, 5, 6, 7, 8, 9, 10, 11, 12, 13, 14, 15, 16, 17] rfl
    have hD9 := hD.sub (ws' := [(h0, .inr (4, [.ref h1, .ref h2, .int f0, .ref h3, .ref h4, .ref h5, .ref h6, .int f1, .ref h7, .ref h8, .ref h9, .ref h10])), (h1, .inr (0, [.ref h11, .int f2, .ref h12, .int f3, .ref h13, .ref h14, .ref h15, .ref h16, .ref h17, .ref h18, .int f4])), (h3, .inr (2, [.ref h27, .ref h28, .ref h29, .ref h30, .ref h31, .ref h32, .int f8, .int f9, .ref h33, .ref h34, .ref h35, .ref h36])), (h11, .inl (zI g, 5, .inl Z5)), (h12, .inl (zI g, 6, .inl Z6)), (h13, .inl (zI g, 5, .inl Z7)), (h14, .inl (zI g, 5, .inl Z8)), (h15, .inl (zI g, 5, .inl Z9)), (h16, .inl (zI g, 20, .inl Z10)), (h27, .inl (zI g, 5, .inl Z21)), (h28, .inl (zI g, 5, .inl Z22)), (h29, .inl (zI g, 5, .inl Z23)), (h30, .inl (zI g, 5, .inl Z24)), (h31, .inl (zI g, 5, .inl Z25)), (h32, .inl (zI g, 5, .inl Z26)), (h33, .inl (zI g, 6, .inl Z27)), (h34, .inl (zI g, 6, .inl Z28)), (h35, .inl (zI g, 6, .inl Z29)), (h36, .inl (zI g, 6, .inl Z30))]) [0, 18, 1, 2, 3, 4, 5, 6, 7, 8, 9, 10, 11, 12, 13, 14, 15, 16, 17] (by decide) rfl
    exact W.iret (v := (-100001)) hx hb hr (fun t ht hW => ⟨⟨(-100001), ⟨f8, f9, Z21, Z22, Z23, Z24, Z25, Z26, Z27, Z28, Z29, Z30⟩, rfl, ⟨(by first | omega | decide), hF_Z21, hF_Z22, hF_Z23, hF_Z24, hF_Z25, hF_Z26⟩, by rw [ht]; exact hP9, hD9⟩, hS.F ht⟩) hS.2.2 dX4_gain_13
  · skip
    have i_6 : 0 ≤ p1.toInt := i_6
    have i_7 : p1.toInt < 5 := i_7
    have i_8 : p1.toInt < f3.toInt := i_8
    have hP : va_P g.1 vwCl [(h0, .inr (4, [.ref h1, .ref h2, .int f0, .ref h3, .ref h4, .ref h5, .ref h6, .int f1, .ref h7, .ref h8, .ref h9, .ref h10])), (h3, .inr (2, [.ref h27, .ref h28, .ref h29, .ref h30, .ref h31, .ref h32, .int f8, .int f9, .ref h33, .ref h34, .ref h35, .ref h36])), (h11, .inl (zI g, 5, .inl Z5)), (h12, .inl (zI g, 6, .inl Z6)), (h13, .inl (zI g, 5, .inl Z7)), (h14, .inl (zI g, 5, .inl Z8)), (h15, .inl (zI g, 5, .inl Z9)), (h16, .inl (zI g, 20, .inl Z10)), (h27, .inl (zI g, 5, .inl Z21)), (h28, .inl (zI g, 5, .inl Z22)), (h29, .inl (zI g, 5, .inl Z23)), (h30, .inl (zI g, 5, .inl Z24)), (h31, .inl (zI g, 5, .inl Z25)), (h32, .inl (zI g, 5, .inl Z26)), (h33, .inl (zI g, 6, .inl Z27)), (h34, .inl (zI g, 6, .inl Z28)), (h35, .inl (zI g, 6, .inl Z29)), (h36, .inl (zI g, 6, .inl Z30)), (h1, .inr (0, [.ref h11, .int f2, .ref h12, .int f3, .ref h13, .ref h14, .ref h15, .ref h16, .ref h17, .ref h18, .int f4]))] H := hP
    have hD : va_D A [(h0, .inr (4, [.ref h1, .ref h2, .int f0, .ref h3, .ref h4, .ref h5, .ref h6, .int f1, .ref h7, .ref h8, .ref h9, .ref h10])), (h3, .inr (2, [.ref h27, .ref h28, .ref h29, .ref h30, .ref h31, .ref h32, .int f8, .int f9, .ref h33, .ref h34, .ref h35, .ref h36])), (h11, .inl (zI g, 5, .inl Z5)), (h12, .inl (zI g, 6, .inl Z6)), (h13, .inl (zI g, 5, .inl Z7)), (h14, .inl (zI g, 5, .inl Z8)), (h15, .inl (zI g, 5, .inl Z9)), (h16, .inl (zI g, 20, .inl Z10)), (h27, .inl (zI g, 5, .inl Z21)), (h28, .inl (zI g, 5, .inl Z22)), (h29, .inl (zI g, 5, .inl Z23)), (h30, .inl (zI g, 5, .inl Z24)), (h31, .inl (zI g, 5, .inl Z25)), (h32, .inl (zI g, 5, .inl Z26)), (h33, .inl (zI g, 6, .inl Z27)), (h34, .inl (zI g, 6, .inl Z28)), (h35, .inl (zI g, 6, .inl Z29)), (h36, .inl (zI g, 6, .inl Z30)), (h1, .inr (0, [.ref h11, .int f2, .ref h12, .int f3, .ref h13, .ref h14, .ref h15, .ref h16, .ref h17, .ref h18, .int f4]))] := hD
    refine lv_if_ne (tgt := 14) hx hb dX4_gain_8 (by decide) (fun _ => ?_) (fun h => absurd h (by decide +kernel))
    refine lv_aload_n hx hb dX4_gain_14 rfl (lv_at hl 0 rfl) ?_
    refine va_get (D := g.1) (ci := 4) (v := .ref h3) (C := RX4) (T := TX4) (N := 12) hx hb hts zl_X4 hown hK hP 0 rfl rfl 3 (by decide) (hts _ m_f_RX4_26) (fun _ h => h) rfl dX4_gain_15 ?_
    refine lv_aload_n hx hb dX4_gain_18 rfl (lv_at hl 0 rfl) ?_
    refine va_get (D := g.1) (ci := 4) (v := .ref h1) (C := RX4) (T := TX4) (N := 12) hx hb hts zl_X4 hown hK hP 0 rfl rfl 0 (by decide) (hts _ m_f_RX4_10) (fun _ h => h) rfl dX4_gain_19 ?_
    refine z_callv (wr := [(h0, .inr (4, [.ref h1, .ref h2, .int f0, .ref h3, .ref h4, .ref h5, .ref h6, .int f1, .ref h7, .ref h8, .ref h9, .ref h10]))]) hP hD hS hA [1, 18, 8, 9, 10, 11, 12, 13, 14, 15, 16, 17, 2, 3, 4, 5, 6, 7] [0] (by decide) rfl rfl (by decide) (va_runVN (As := [.ref h1]) (rest := []) ⟨hx, hb, hml, hown, hts⟩ (gX2_fallAsTold l g h3 h1 h27 h28 h29 h30 h31 h32 h33 h34 h35 h36 h11 h12 h13 h14 h15 h16 h17 h18 H.size f8 f9 f2 f3 f4 Z21 Z22 Z23 Z24 Z25 Z26 Z27 Z28 Z29 Z30 Z5 Z6 Z7 Z8 Z9 Z10 (by constructor <;> omega) (by constructor <;> omega) (by constructor <;> omega) hF_Z21 hF_Z22 hF_Z23 hF_Z24 hF_Z25 hF_Z26 hF_Z5 hF_Z6 hF_Z7 hF_Z8 hF_Z9 hF_Z10) ⟨va_cnB 1 hts (zGood m_o_yX2_fallAsTold) rfl rfl rfl (hN.m 14 (q := (RX4, 135, yX2_fallAsTold)) rfl) (hts _ m_z_RX2) ⟨by decide +kernel, by decide +kernel, by decide +kernel⟩ ⟨Nat.le_of_ble_eq_true rfl, Nat.le_of_ble_eq_true rfl⟩, hts _ m_i_yX2_fallAsTold, hts _ m_e_yX2_fallAsTold⟩ (zPreV hK hN hZ hP hD hS hA [1, 18, 8, 9, 10, 11, 12, 13, 14, 15, 16, 17, 2, 3, 4, 5, 6, 7] (by decide) rfl rfl 2 1 rfl rfl) rfl rfl hl.1 rfl (lv_room (Nat.le_of_ble_eq_true rfl)) dX4_gain_22 ⟨Nat.le_of_ble_eq_true rfl, Nat.le_of_ble_eq_true rfl⟩) (fun u H locs hw hP hD hS => ?_)
    obtain ⟨w0, w1, R2, R3, R4, R5, R6, R7, R8, R9, R10, R11⟩ := u
    obtain ⟨hw, hI12, hI13, hI14, hI15, hI16, hI17, hI18, hI19, hI20, hI21⟩ := hw
    have hP : va_P g.1 vwCl [(h0, .inr (4, [.ref h1, .ref h2, .int f0, .ref h3, .ref h4, .ref h5, .ref h6, .int f1, .ref h7, .ref h8, .ref h9, .ref h10])), (h3, .inr (2, [.ref h27, .ref h28, .ref h29, .ref h30, .ref h31, .ref h32, .int w0, .int w1, .ref h33, .ref h34, .ref h35, .ref h36])), (h1, .inr (0, [.ref h11, .int f2, .ref h12, .int f3, .ref h13, .ref h14, .ref h15, .ref h16, .ref h17, .ref h18, .int f4])), (h27, .inl (zI g, 5, .inl R2)), (h28, .inl (zI g, 5, .inl R3)), (h29, .inl (zI g, 5, .inl R4)), (h30, .inl (zI g, 5, .inl R5)), (h31, .inl (zI g, 5, .inl R6)), (h32, .inl (zI g, 5, .inl R7)), (h33, .inl (zI g, 6, .inl R8)), (h34, .inl (zI g, 6, .inl R9)), (h35, .inl (zI g, 6, .inl R10)), (h36, .inl (zI g, 6, .inl R11)), (h11, .inl (zI g, 5, .inl Z5)), (h12, .inl (zI g, 6, .inl Z6)), (h13, .inl (zI g, 5, .inl Z7)), (h14, .inl (zI g, 5, .inl Z8)), (h15, .inl (zI g, 5, .inl Z9)), (h16, .inl (zI g, 20, .inl Z10))] H := hP
    have hD : va_D A [(h0, .inr (4, [.ref h1, .ref h2, .int f0, .ref h3, .ref h4, .ref h5, .ref h6, .int f1, .ref h7, .ref h8, .ref h9, .ref h10])), (h3, .inr (2, [.ref h27, .ref h28, .ref h29, .ref h30, .ref h31, .ref h32, .int w0, .int w1, .ref h33, .ref h34, .ref h35, .ref h36])), (h1, .inr (0, [.ref h11, .int f2, .ref h12, .int f3, .ref h13, .ref h14, .ref h15, .ref h16, .ref h17, .ref h18, .int f4])), (h27, .inl (zI g, 5, .inl R2)), (h28, .inl (zI g, 5, .inl R3)), (h29, .inl (zI g, 5, .inl R4)), (h30, .inl (zI g, 5, .inl R5)), (h31, .inl (zI g, 5, .inl R6)), (h32, .inl (zI g, 5, .inl R7)), (h33, .inl (zI g, 6, .inl R8)), (h34, .inl (zI g, 6, .inl R9)), (h35, .inl (zI g, 6, .inl R10)), (h36, .inl (zI g, 6, .inl R11)), (h11, .inl (zI g, 5, .inl Z5)), (h12, .inl (zI g, 6, .inl Z6)), (h13, .inl (zI g, 5, .inl Z7)), (h14, .inl (zI g, 5, .inl Z8)), (h15, .inl (zI g, 5, .inl Z9)), (h16, .inl (zI g, 20, .inl Z10))] := hD
    refine lv_aload_n hx hb dX4_gain_25 rfl (lv_at hl 0 rfl) ?_
    refine va_get (D := g.1) (ci := 4) (v := .ref h3) (C := RX4) (T := TX4) (N := 12) hx hb hts zl_X4 hown hK hP 0 rfl rfl 3 (by decide) (hts _ m_f_RX4_26) (fun _ h => h) rfl dX4_gain_26 ?_
    refine va_getN (D := g.1) (ci := 2) (v := .ref h30) (C := RX2) (T := TX2) (N := 12) hx hb hts zl_X2 hown hK hP 1 rfl rfl 3 (by decide) (hN.f 21 (q := (RX4, 151, "FishSteps$Steps", "gained", "[I")) rfl) (fun _ h => h) rfl dX4_gain_29 ?_
    refine lv_iload_n hx hb dX4_gain_32 rfl (lv_at hl 1 rfl) ?_
    refine va_iald (D := g.1) hx hb hK hP 6 0 rfl rfl (vp_in_iff.mpr ⟨by omega, by omega⟩) dX4_gain_33 ?_
    refine lv_topi (fun y22 ey22 => ?_)
    have qy22_0 : (-1000) ≤ y22.toInt := (i_at (N := 5) (lo := (-1000)) (hi := 1000) (i := p1) (a := p1.toInt) hI15.1 (rfl) (by omega) (by omega) ey22).1
    have qy22_1 : y22.toInt ≤ 1000 := (i_at (N := 5) (lo := (-1000)) (hi := 1000) (i := p1) (a := p1.toInt) hI15.1 (rfl) (by omega) (by omega) ey22).2
    have qy22_2 : y22.toInt = (R5 p1.toNatClampNeg).toInt := congrArg Int32.toInt ey22
    have py22_0 : y22.toInt = (zSm Z5 f3.toInt Z7 Z10 (zRw f3.toInt Z9) 0 (zIv Z6) (zRw f3.toInt Z8) f2.toInt.toNat).2.2.1 p1.toInt.toNat := (congrArg Int32.toInt ey22).trans ((zRw_i (i := p1) (by omega) (by omega)).symm.trans (congrFun hI15.2 _))
    have hz : zAgain f3.toInt (zSm Z5 f3.toInt Z7 Z10 (zRw f3.toInt Z9) 0 (zIv Z6) (zRw f3.toInt Z8) f2.toInt.toNat).2.2.1 p1.toInt = y22.toInt := by
      unfold zAgain
      rw [if_neg (by omega)] <;> omega
    have hP9 := hP.sub (ws' := [(h0, .inr (4, [.ref h1, .ref h2, .int f0, .ref h3, .ref h4, .ref h5, .ref h6, .int f1, .ref h7, .ref h8, .ref h9, .ref h10])), (h1, .inr (0, [.ref h11, .int f2, .ref h12, .int f3, .ref h13, .ref h14, .ref h15, .ref h16, .ref h17, .ref h18, .int f4])), (h3, .inr (2, [.ref h27, .ref h28, .ref h29, .ref h30, .ref h31, .ref h32, .int w0, .int w1, .ref h33, .ref h34, .ref h35, .ref h36])), (h11, .inl (zI g, 5, .inl Z5)), (h12, .inl (zI g, 6, .inl Z6)), (h13, .inl (zI g, 5, .inl Z7)), (h14, .inl (zI g, 5, .inl Z8)), (h15, .inl (zI g, 5, .inl Z9)), (h16, .inl (zI g, 20, .inl Z10)), (h27, .inl (zI g, 5, .inl R2)), (h28, .inl (zI g, 5, .inl R3)), (h29, .inl (zI g, 5, .inl R4)), (h30, .inl (zI g, 5, .inl R5)), (h31, .inl (zI g, 5, .inl R6)), (h32, .inl (zI g, 5, .inl R7)), (h33, .inl (zI g, 6, .inl R8)), (h34, .inl (zI g, 6, .inl R9)), (h35, .inl (zI g, 6, .inl R10)), (h36, .inl (zI g, 6, .inl R11))]) [0, 2, 1, 13, 14, 15, 16, 17, 18, 3, 4, 5, 6, 7, 8, 9, 10, 11, 12] rfl
    have hD9 := hD.sub (ws' := [(h0, .inr (4, [.ref h1, .ref h2, .int f0, .ref h3, .ref h4, .ref h5, .ref h6, .int f1, .ref h7, .ref h8, .ref h9, .ref h10])), (h1, .inr (0, [.ref h11, .int f2, .ref h12, .int f3, .ref h13, .ref h14, .ref h15, .ref h16, .ref h17, .ref h18, .int f4])), (h3, .inr (2, [.ref h27, .ref h28, .ref h29, .ref h30, .ref h31, .ref h32, .int w0, .int w1, .ref h33, .ref h34, .ref h35, .ref h36])), (h11, .inl (zI g, 5, .inl Z5)), (h12, .inl (zI g, 6, .inl Z6)), (h13, .inl (zI g, 5, .inl Z7)), (h14, .inl (zI g, 5, .inl Z8)), (h15, .inl (zI g, 5, .inl Z9)), (h16, .inl (zI g, 20, .inl Z10)), (h27, .inl (zI g, 5, .inl R2)), (h28, .inl (zI g, 5, .inl R3)), (h29, .inl (zI g, 5, .inl R4)), (h30, .inl (zI g, 5, .inl R5)), (h31, .inl (zI g, 5, .inl R6)), (h32, .inl (zI g, 5, .inl R7)), (h33, .inl (zI g, 6, .inl R8)), (h34, .inl (zI g, 6, .inl R9)), (h35, .inl (zI g, 6, .inl R10)), (h36, .inl (zI g, 6, .inl R11))]) [0, 2, 1, 13, 14, 15, 16, 17, 18, 3, 4, 5, 6, 7, 8, 9, 10, 11, 12] (by decide) rfl
    exact W.iret (v := y22) hx hb hr (fun t ht hW => ⟨⟨y22, ⟨w0, w1, R2, R3, R4, R5, R6, R7, R8, R9, R10, R11⟩, rfl, ⟨(by first | omega | decide), hI12, hI13.1, hI14.1, hI15.1, hI16, hI17⟩, by rw [ht]; exact hP9, hD9⟩, hS.F ht⟩) hS.2.2 dX4_gain_34
set_option maxHeartbeats 8000000 in
set_option maxRecDepth 100000 in
theorem gX4_told (l : Launch) (g : zG) (h0 h1 h2 h3 h4 h5 h6 h7 h8 h9 h10 h11 h12 h13 h14 h15 h16 h17 h18 : Nat) (sz : Nat) (p1 : Int32) (p2 : Int32) (f0 : Int32) (f1 : Int32) (f2 : Int32) (f3 : Int32) (f4 : Int32) (Z5 : Nat → Int32) (Z6 : Nat → Int32) (Z7 : Nat → Int32) (Z8 : Nat → Int32) (Z9 : Nat → Int32) (Z10 : Nat → Int32) (hf_f2 : 0 ≤ f2.toInt ∧ f2.toInt ≤ 6) (hf_f3 : 0 ≤ f3.toInt ∧ f3.toInt ≤ 5) (hf_f4 : 0 ≤ f4.toInt ∧ f4.toInt ≤ 9999) (hF_Z5 : iLaw Z5) (hF_Z6 : iKd Z6) (hF_Z7 : iSo Z7) (hF_Z8 : iPu Z8) (hF_Z9 : iMa Z9) (hF_Z10 : iWo Z10) : Met l yX4_told (.code yX4_told cX4_told 3 (some .int) :: zBig) ({ frames := 2, cells := 0, slots := 0, locals := 43 }) (va_Pc [.ref h0, .int p1, .int p2] (zPre g [(h0, .inr (4, [.ref h1, .ref h2, .int f0, .ref h3, .ref h4, .ref h5, .ref h6, .int f1, .ref h7, .ref h8, .ref h9, .ref h10])), (h1, .inr (0, [.ref h11, .int f2, .ref h12, .int f3, .ref h13, .ref h14, .ref h15, .ref h16, .ref h17, .ref h18, .int f4])), (h11, .inl (zI g, 5, .inl Z5)), (h12, .inl (zI g, 6, .inl Z6)), (h13, .inl (zI g, 5, .inl Z7)), (h14, .inl (zI g, 5, .inl Z8)), (h15, .inl (zI g, 5, .inl Z9)), (h16, .inl (zI g, 20, .inl Z10))] sz)) (va_Qi (fun (r : Int32) (u : Nat) => r.toInt = zAtold f3.toInt Z7 Z9 Z8 Z10 p1.toInt p2.toInt) (zPost g (fun u : Nat => [(h0, .inr (4, [.ref h1, .ref h2, .int f0, .ref h3, .ref h4, .ref h5, .ref h6, .int f1, .ref h7, .ref h8, .ref h9, .ref h10])), (h1, .inr (0, [.ref h11, .int f2, .ref h12, .int f3, .ref h13, .ref h14, .ref h15, .ref h16, .ref h17, .ref h18, .int f4])), (h11, .inl (zI g, 5, .inl Z5)), (h12, .inl (zI g, 6, .inl Z6)), (h13, .inl (zI g, 5, .inl Z7)), (h14, .inl (zI g, 5, .inl Z8)), (h15, .inl (zI g, 5, .inl Z9)), (h16, .inl (zI g, 20, .inl Z10))]) (va_A [(h0, .inr (4, [.ref h1, .ref h2, .int f0, .ref h3, .ref h4, .ref h5, .ref h6, .int f1, .ref h7, .ref h8, .ref h9, .ref h10])), (h1, .inr (0, [.ref h11, .int f2, .ref h12, .int f3, .ref h13, .ref h14, .ref h15, .ref h16, .ref h17, .ref h18, .int f4])), (h11, .inl (zI g, 5, .inl Z5)), (h12, .inl (zI g, 6, .inl Z6)), (h13, .inl (zI g, 5, .inl Z7)), (h14, .inl (zI g, 5, .inl Z8)), (h15, .inl (zI g, 5, .inl Z9)), (h16, .inl (zI g, 20, .inl Z10))] sz)) (va_A [(h0, .inr (4, [.ref h1, .ref h2, .int f0, .ref h3, .ref h4, .ref h5, .ref h6, .int f1, .ref h7, .ref h8, .ref h9, .ref h10])), (h1, .inr (0, [.ref h11, .int f2, .ref h12, .int f3, .ref h13, .ref h14, .ref h15, .ref h16, .ref h17, .ref h18, .int f4])), (h11, .inl (zI g, 5, .inl Z5)), (h12, .inl (zI g, 6, .inl Z6)), (h13, .inl (zI g, 5, .inl Z7)), (h14, .inl (zI g, 5, .inl Z8)), (h15, .inl (zI g, 5, .inl Z9)), (h16, .inl (zI g, 20, .inl Z10))] sz)) 0 0 (va_A [(h0, .inr (4, [.ref h1, .ref h2, .int f0, .ref h3, .ref h4, .ref h5, .ref h6, .int f1, .ref h7, .ref h8, .ref h9, .ref h10])), (h1, .inr (0, [.ref h11, .int f2, .ref h12, .int f3, .ref h13, .ref h14, .ref h15, .ref h16, .ref h17, .ref h18, .int f4])), (h11, .inl (zI g, 5, .inl Z5)), (h12, .inl (zI g, 6, .inl Z6)), (h13, .inl (zI g, 5, .inl Z7)), (h14, .inl (zI g, 5, .inl Z8)), (h15, .inl (zI g, 5, .inl Z9)), (h16, .inl (zI g, 20, .inl Z10))] sz) := by
  refine zMetI rfl (Nat.le_of_ble_eq_true rfl) ?_
  intro p e s m args below meth c A ls hx hb hml hr hlocks hin hown hts hK hN hZ hP hD hA hS hAe hl
  have hown : s.vm.findClass RX4 = some m.cls := hown
  have hl : lv_has ls 3 [(0, .ref h0), (1, .int p1), (2, .int p2)] := hl
  refine lv_aload_n hx hb dX4_told_0 rfl (lv_at hl 0 rfl) ?_
  refine va_get (D := g.1) (ci := 4) (v := .ref h1) (C := RX4) (T := TX4) (N := 12) hx hb hts zl_X4 hown hK hP 0 rfl rfl 0 (by decide) (hts _ m_f_RX4_10) (fun _ h => h) rfl dX4_told_1 ?_
  refine lv_iload_n hx hb dX4_told_4 rfl (lv_at hl 1 rfl) ?_
  refine z_calli (wr := [(h0, .inr (4, [.ref h1, .ref h2, .int f0, .ref h3, .ref h4, .ref h5, .ref h6, .int f1, .ref h7, .ref h8, .ref h9, .ref h10])), (h11, .inl (zI g, 5, .inl Z5)), (h12, .inl (zI g, 6, .inl Z6)), (h13, .inl (zI g, 5, .inl Z7)), (h14, .inl (zI g, 5, .inl Z8)), (h15, .inl (zI g, 5, .inl Z9)), (h16, .inl (zI g, 20, .inl Z10))]) hP hD hS hA [1] [0, 2, 3, 4, 5, 6, 7] (by decide) rfl rfl (by decide) (va_runVN (As := [.int p1]) (rest := []) ⟨hx, hb, hml, hown, hts⟩ (gX0_isThere l g h1 h11 h12 h13 h14 h15 h16 h17 h18 s.heap.size p1 f2 f3 f4 (by constructor <;> omega) (by constructor <;> omega) (by constructor <;> omega)) ⟨va_cnB 1 hts (zGood m_o_yX0_isThere) rfl rfl rfl (hN.m 4 (q := (RX4, 80, yX0_isThere)) rfl) (hts _ m_z_RX0) ⟨by decide +kernel, by decide +kernel, by decide +kernel⟩ ⟨Nat.le_of_ble_eq_true rfl, Nat.le_of_ble_eq_true rfl⟩, hts _ m_i_yX0_isThere, hts _ m_e_yX0_isThere⟩ (zPreV hK hN hZ hP hD hS hA [1] (by decide) rfl rfl 0 1 rfl rfl) rfl rfl hl.1 rfl (lv_room (Nat.le_of_ble_eq_true rfl)) dX4_told_5 ⟨Nat.le_of_ble_eq_true rfl, Nat.le_of_ble_eq_true rfl⟩) (fun r u H locs hw hP hD hS => ?_)
  rcases hw with ⟨i_0, rfl⟩ | ⟨i_1, i_2, rfl⟩ | ⟨i_3, i_4, i_5, rfl⟩ | ⟨i_6, i_7, i_8, rfl⟩
  · skip
    have i_0 : p1.toInt < 0 := i_0
    have hP : va_P g.1 vwCl [(h0, .inr (4, [.ref h1, .ref h2, .int f0, .ref h3, .ref h4, .ref h5, .ref h6, .int f1, .ref h7, .ref h8, .ref h9, .ref h10])), (h11, .inl (zI g, 5, .inl Z5)), (h12, .inl (zI g, 6, .inl Z6)), (h13, .inl (zI g, 5, .inl Z7)), (h14, .inl (zI g, 5, .inl Z8)), (h15, .inl (zI g, 5, .inl Z9)), (h16, .inl (zI g, 20, .inl Z10)), (h1, .inr (0, [.ref h11, .int f2, .ref h12, .int f3, .ref h13, .ref h14, .ref h15, .ref h16, .ref h17, .ref h18, .int f4]))] H := hP
    have hD : va_D A [(h0, .inr (4, [.ref h1, .ref h2, .int f0, .ref h3, .ref h4, .ref h5, .ref h6, .int f1, .ref h7, .ref h8, .ref h9, .ref h10])), (h11, .inl (zI g, 5, .inl Z5)), (h12, .inl (zI g, 6, .inl Z6)), (h13, .inl (zI g, 5, .inl Z7)), (h14, .inl (zI g, 5, .inl Z8)), (h15, .inl (zI g, 5, .inl Z9)), (h16, .inl (zI g, 20, .inl Z10)), (h1, .inr (0, [.ref h11, .int f2, .ref h12, .int f3, .ref h13, .ref h14, .ref h15, .ref h16, .ref h17, .ref h18, .int f4]))] := hD
    refine lv_if_eq (tgt := 21) hx hb dX4_told_8 (by decide) (fun _ => ?_) (fun h => absurd h (by decide +kernel))
    refine lv_ldc (v := (-100001)) hx hb hown (hts _ m_k_RX4_93) dX4_told_21 ?_
    have : ((-100001) : Int32).toInt = (-100001) := rfl
    have hz : zAtold f3.toInt Z7 Z9 Z8 Z10 p1.toInt p2.toInt = (-100001) := by
      unfold zAtold
      rw [if_pos (by omega)]
    have hP9 := hP.sub (ws' := [(h0, .inr (4, [.ref h1, .ref h2, .int f0, .ref h3, .ref h4, .ref h5, .ref h6, .int f1, .ref h7, .ref h8, .ref h9, .ref h10])), (h1, .inr (0, [.ref h11, .int f2, .ref h12, .int f3, .ref h13, .ref h14, .ref h15, .ref h16, .ref h17, .ref h18, .int f4])), (h11, .inl (zI g, 5, .inl Z5)), (h12, .inl (zI g, 6, .inl Z6)), (h13, .inl (zI g, 5, .inl Z7)), (h14, .inl (zI g, 5, .inl Z8)), (h15, .inl (zI g, 5, .inl Z9)), (h16, .inl (zI g, 20, .inl Z10))]) [0, 7, 1, 2, 3, 4, 5, 6] rfl
    have hD9 := hD.sub (ws' := [(h0, .inr (4, [.ref h1, .ref h2, .int f0, .ref h3, .ref h4, .ref h5, .ref h6, .int f1, .ref h7, .ref h8, .ref h9, .ref h10])), (h1, .inr (0, [.ref h11, .int f2, .ref h12, .int f3, .ref h13, .ref h14, .ref h15, .ref h16, .ref h17, .ref h18, .int f4])), (h11, .inl (zI g, 5, .inl Z5)), (h12, .inl (zI g, 6, .inl Z6)), (h13, .inl (zI g, 5, .inl Z7)), (h14, .inl (zI g, 5, .inl Z8)), (h15, .inl (zI g, 5, .inl Z9)), (h16, .inl (zI g, 20, .inl Z10))]) [0, 7, 1, 2, 3, 4, 5, 6] (by decide) rfl
    exact W.iret (v := (-100001)) hx hb hr (fun t ht hW => ⟨⟨(-100001), (0 : Nat), rfl, (by first | omega | decide), by rw [ht]; exact hP9, hD9⟩, hS.F ht⟩) hS.2.2 dX4_told_23
  · skip
    have i_1 : 0 ≤ p1.toInt := i_1
    have i_2 : 5 ≤ p1.toInt := i_2
    have hP : va_P g.1 vwCl [(h0, .inr (4, [.ref h1, .ref h2, .int f0, .ref h3, .ref h4, .ref h5, .ref h6, .int f1, .ref h7, .ref h8, .ref h9, .ref h10])), (h11, .inl (zI g, 5, .inl Z5)), (h12, .inl (zI g, 6, .inl Z6)), (h13, .inl (zI g, 5, .inl Z7)), (h14, .inl (zI g, 5, .inl Z8)), (h15, .inl (zI g, 5, .inl Z9)), (h16, .inl (zI g, 20, .inl Z10)), (h1, .inr (0, [.ref h11, .int f2, .ref h12, .int f3, .ref h13, .ref h14, .ref h15, .ref h16, .ref h17, .ref h18, .int f4]))] H := hP
    have hD : va_D A [(h0, .inr (4, [.ref h1, .ref h2, .int f0, .ref h3, .ref h4, .ref h5, .ref h6, .int f1, .ref h7, .ref h8, .ref h9, .ref h10])), (h11, .inl (zI g, 5, .inl Z5)), (h12, .inl (zI g, 6, .inl Z6)), (h13, .inl (zI g, 5, .inl Z7)), (h14, .inl (zI g, 5, .inl Z8)), (h15, .inl (zI g, 5, .inl Z9)), (h16, .inl (zI g, 20, .inl Z10)), (h1, .inr (0, [.ref h11, .int f2, .ref h12, .int f3, .ref h13, .ref h14, .ref h15, .ref h16, .ref h17, .ref h18, .int f4]))] := hD
    refine lv_if_eq (tgt := 21) hx hb dX4_told_8 (by decide) (fun _ => ?_) (fun h => absurd h (by decide +kernel))
    refine lv_ldc (v := (-100001)) hx hb hown (hts _ m_k_RX4_93) dX4_told_21 ?_
    have : ((-100001) : Int32).toInt = (-100001) := rfl
    have hz : zAtold f3.toInt Z7 Z9 Z8 Z10 p1.toInt p2.toInt = (-100001) := by
      unfold zAtold
      rw [if_pos (by omega)]
    have hP9 := hP.sub (ws' := [(h0, .inr (4, [.ref h1, .ref h2, .int f0, .ref h3, .ref h4, .ref h5, .ref h6, .int f1, .ref h7, .ref h8, .ref h9, .ref h10])), (h1, .inr (0, [.ref h11, .int f2, .ref h12, .int f3, .ref h13, .ref h14, .ref h15, .ref h16, .ref h17, .ref h18, .int f4])), (h11, .inl (zI g, 5, .inl Z5)), (h12, .inl (zI g, 6, .inl Z6)), (h13, .inl (zI g, 5, .inl Z7)), (h14, .inl (zI g, 5, .inl Z8)), (h15, .inl (zI g, 5, .inl Z9)), (h16, .inl (zI g, 20, .inl Z10))]) [0, 7, 1, 2, 3, 4, 5, 6] rfl
    have hD9 := hD.sub (ws' := [(h0, .inr (4, [.ref h1, .ref h2, .int f0, .ref h3, .ref h4, .ref h5, .ref h6, .int f1, .ref h7, .ref h8, .ref h9, .ref h10])), (h1, .inr (0, [.ref h11, .int f2, .ref h12, .int f3, .ref h13, .ref h14, .ref h15, .ref h16, .ref h17, .ref h18, .int f4])), (h11, .inl (zI g, 5, .inl Z5)), (h12, .inl (zI g, 6, .inl Z6)), (h13, .inl (zI g, 5, .inl Z7)), (h14, .inl (zI g, 5, .inl Z8)), (h15, .inl (zI g, 5, .inl Z9)), (h16, .inl (zI g, 20, .inl Z10))]) [0, 7, 1, 2, 3, 4, 5, 6] (by decide) rfl
    exact W.iret (v := (-100001)) hx hb hr (fun t ht hW => ⟨⟨(-100001), (0 : Nat), rfl, (by first | omega | decide), by rw [ht]; exact hP9, hD9⟩, hS.F ht⟩) hS.2.2 dX4_told_23
  · skip
    have i_3 : 0 ≤ p1.toInt := i_3
    have i_4 : p1.toInt < 5 := i_4
    have i_5 : f3.toInt ≤ p1.toInt := i_5
    have hP : va_P g.1 vwCl [(h0, .inr (4, [.ref h1, .ref h2, .int f0, .ref h3, .ref h4, .ref h5, .ref h6, .int f1, .ref h7, .ref h8, .ref h9, .ref h10])), (h11, .inl (zI g, 5, .inl Z5)), (h12, .inl (zI g, 6, .inl Z6)), (h13, .inl (zI g, 5, .inl Z7)), (h14, .inl (zI g, 5, .inl Z8)), (h15, .inl (zI g, 5, .inl Z9)), (h16, .inl (zI g, 20, .inl Z10)), (h1, .inr (0, [.ref h11, .int f2, .ref h12, .int f3, .ref h13, .ref h14, .ref h15, .ref h16, .ref h17, .ref h18, .int f4]))] H := hP
    have hD : va_D A [(h0, .inr (4, [.ref h1, .ref h2, .int f0, .ref h3, .ref h4, .ref h5, .ref h6, .int f1, .ref h7, .ref h8, .ref h9, .ref h10])), (h11, .inl (zI g, 5, .inl Z5)), (h12, .inl (zI g, 6, .inl Z6)), (h13, .inl (zI g, 5, .inl Z7)), (h14, .inl (zI g, 5, .inl Z8)), (h15, .inl (zI g, 5, .inl Z9)), (h16, .inl (zI g, 20, .inl Z10)), (h1, .inr (0, [.ref h11, .int f2, .ref h12, .int f3, .ref h13, .ref h14, .ref h15, .ref h16, .ref h17, .ref h18, .int f4]))] := hD
    refine lv_if_eq (tgt := 21) hx hb dX4_told_8 (by decide) (fun _ => ?_) (fun h => absurd h (by decide +kernel))
    refine lv_ldc (v := (-100001)) hx hb hown (hts _ m_k_RX4_93) dX4_told_21 ?_
    have : ((-100001) : Int32).toInt = (-100001) := rfl
    have hz : zAtold f3.toInt Z7 Z9 Z8 Z10 p1.toInt p2.toInt = (-100001) := by
      unfold zAtold
      rw [if_pos (by omega)]
    have hP9 := hP.sub (ws' := [(h0, .inr (4, [.ref h1, .ref h2, .int f0, .ref h3, .ref h4, .ref h5, .ref h6, .int f1, .ref h7, .ref h8, .ref h9, .ref h10])), (h1, .inr (0, [.ref h11, .int f2, .ref h12, .int f3, .ref h13, .ref h14, .ref h15, .ref h16, .ref h17, .ref h18, .int f4])), (h11, .inl (zI g, 5, .inl Z5)), (h12, .inl (zI g, 6, .inl Z6)), (h13, .inl (zI g, 5, .inl Z7)), (h14, .inl (zI g, 5, .inl Z8)), (h15, .inl (zI g, 5, .inl Z9)), (h16, .inl (zI g, 20, .inl Z10))]) [0, 7, 1, 2, 3, 4, 5, 6] rfl
    have hD9 := hD.sub (ws' := [(h0, .inr (4, [.ref h1, .ref h2, .int f0, .ref h3, .ref h4, .ref h5, .ref h6, .int f1, .ref h7, .ref h8, .ref h9, .ref h10])), (h1, .inr (0, [.ref h11, .int f2, .ref h12, .int f3, .ref h13, .ref h14, .ref h15, .ref h16, .ref h17, .ref h18, .int f4])), (h11, .inl (zI g, 5, .inl Z5)), (h12, .inl (zI g, 6, .inl Z6)), (h13, .inl (zI g, 5, .inl Z7)), (h14, .inl (zI g, 5, .inl Z8)), (h15, .inl (zI g, 5, .inl Z9)), (h16, .inl (zI g, 20, .inl Z10))]) [0, 7, 1, 2, 3, 4, 5, 6] (by decide) rfl
    exact W.iret (v := (-100001)) hx hb hr (fun t ht hW => ⟨⟨(-100001), (0 : Nat), rfl, (by first | omega | decide), by rw [ht]; exact hP9, hD9⟩, hS.F ht⟩) hS.2.2 dX4_told_23
  · skip
    have i_6 : 0 ≤ p1.toInt := i_6
    have i_7 : p1.toInt < 5 := i_7
    have i_8 : p1.toInt < f3.toInt := i_8
    have hP : va_P g.1 vwCl [(h0, .inr (4, [.ref h1, .ref h2, .int f0, .ref h3, .ref h4, .ref h5, .ref h6, .int f1, .ref h7, .ref h8, .ref h9, .ref h10])), (h11, .inl (zI g, 5, .inl Z5)), (h12, .inl (zI g, 6, .inl Z6)), (h13, .inl (zI g, 5, .inl Z7)), (h14, .inl (zI g, 5, .inl Z8)), (h15, .inl (zI g, 5, .inl Z9)), (h16, .inl (zI g, 20, .inl Z10)), (h1, .inr (0, [.ref h11, .int f2, .ref h12, .int f3, .ref h13, .ref h14, .ref h15, .ref h16, .ref h17, .ref h18, .int f4]))] H := hP
    have hD : va_D A [(h0, .inr (4, [.ref h1, .ref h2, .int f0, .ref h3, .ref h4, .ref h5, .ref h6, .int f1, .ref h7, .ref h8, .ref h9, .ref h10])), (h11, .inl (zI g, 5, .inl Z5)), (h12, .inl (zI g, 6, .inl Z6)), (h13, .inl (zI g, 5, .inl Z7)), (h14, .inl (zI g, 5, .inl Z8)), (h15, .inl (zI g, 5, .inl Z9)), (h16, .inl (zI g, 20, .inl Z10)), (h1, .inr (0, [.ref h11, .int f2, .ref h12, .int f3, .ref h13, .ref h14, .ref h15, .ref h16, .ref h17, .ref h18, .int f4]))] := hD
    refine lv_if_eq (tgt := 21) hx hb dX4_told_8 (by decide) (fun h => absurd h (by decide +kernel)) (fun _ => ?_)
    refine lv_iload_n hx hb dX4_told_11 rfl (lv_at hl 2 rfl) ?_
    refine lv_if_lt (tgt := 21) hx hb dX4_told_12 (by decide) (fun c_9 => ?_) (fun c_9 => ?_)
    · have i_9 : p2.toInt < 0 := z_lt (rfl) (rfl) c_9
      refine lv_ldc (v := (-100001)) hx hb hown (hts _ m_k_RX4_93) dX4_told_21 ?_
      have : ((-100001) : Int32).toInt = (-100001) := rfl
      have hz : zAtold f3.toInt Z7 Z9 Z8 Z10 p1.toInt p2.toInt = (-100001) := by
        unfold zAtold
        rw [if_pos (by omega)]
      have hP9 := hP.sub (ws' := [(h0, .inr (4, [.ref h1, .ref h2, .int f0, .ref h3, .ref h4, .ref h5, .ref h6, .int f1, .ref h7, .ref h8, .ref h9, .ref h10])), (h1, .inr (0, [.ref h11, .int f2, .ref h12, .int f3, .ref h13, .ref h14, .ref h15, .ref h16, .ref h17, .ref h18, .int f4])), (h11, .inl (zI g, 5, .inl Z5)), (h12, .inl (zI g, 6, .inl Z6)), (h13, .inl (zI g, 5, .inl Z7)), (h14, .inl (zI g, 5, .inl Z8)), (h15, .inl (zI g, 5, .inl Z9)), (h16, .inl (zI g, 20, .inl Z10))]) [0, 7, 1, 2, 3, 4, 5, 6] rfl
      have hD9 := hD.sub (ws' := [(h0, .inr (4, [.ref h1, .ref h2, .int f0, .ref h3, .ref h4, .ref h5, .ref h6, .int f1, .ref h7, .ref h8, .ref h9, .ref h10])), (h1, .inr (0, [.ref h11, .int f2, .ref h12, .int f3, .ref h13, .ref h14, .ref h15, .ref h16, .ref h17, .ref h18, .int f4])), (h11, .inl (zI g, 5, .inl Z5)), (h12, .inl (zI g, 6, .inl Z6)), (h13, .inl (zI g, 5, .inl Z7)), (h14, .inl (zI g, 5, .inl Z8)), (h15, .inl (zI g, 5, .inl Z9)), (h16, .inl (zI g, 20, .inl Z10))]) [0, 7, 1, 2, 3, 4, 5, 6] (by decide) rfl
      exact W.iret (v := (-100001)) hx hb hr (fun t ht hW => ⟨⟨(-100001), (0 : Nat), rfl, (by first | omega | decide), by rw [ht]; exact hP9, hD9⟩, hS.F ht⟩) hS.2.2 dX4_told_23
    · have i_9 : 0 ≤ p2.toInt := z_nlt (rfl) (rfl) c_9
      refine lv_iload_n hx hb dX4_told_15 rfl (lv_at hl 2 rfl) ?_
      refine lv_bipush (v := 6) hx hb dX4_told_16 (by decide) ?_
      refine lv_icmp_le (tgt := 24) hx hb dX4_told_18 (by decide) (fun c_10 => ?_) (fun c_10 => ?_)
      · have i_10 : p2.toInt ≤ 6 := z_le (rfl) (rfl) c_10
        refine lv_iload_n hx hb dX4_told_24 rfl (lv_at hl 2 rfl) ?_
        refine lv_if_ne (tgt := 38) hx hb dX4_told_25 (by decide) (fun c_11 => ?_) (fun c_11 => ?_)
        · have i_11 : p2.toInt ≠ 0 := z_ne (rfl) (rfl) c_11
          refine lv_iload_n hx hb dX4_told_38 rfl (lv_at hl 2 rfl) ?_
          refine lv_iconst (v := 1) hx hb dX4_told_39 (by decide) ?_
          refine lv_icmp_ne (tgt := 53) hx hb dX4_told_40 (by decide) (fun c_12 => ?_) (fun c_12 => ?_)
          · have i_12 : p2.toInt ≠ 1 := z_ne (rfl) (rfl) c_12
            refine lv_iload_n hx hb dX4_told_53 rfl (lv_at hl 2 rfl) ?_
            refine lv_bipush (v := 6) hx hb dX4_told_54 (by decide) ?_
            refine lv_icmp_ne (tgt := 69) hx hb dX4_told_56 (by decide) (fun c_13 => ?_) (fun c_13 => ?_)
            · have i_13 : p2.toInt ≠ 6 := z_ne (rfl) (rfl) c_13
              refine lv_aload_n hx hb dX4_told_69 rfl (lv_at hl 0 rfl) ?_
              refine va_get (D := g.1) (ci := 4) (v := .ref h1) (C := RX4) (T := TX4) (N := 12) hx hb hts zl_X4 hown hK hP 0 rfl rfl 0 (by decide) (hts _ m_f_RX4_10) (fun _ h => h) rfl dX4_told_70 ?_
              refine lv_iload_n hx hb dX4_told_73 rfl (lv_at hl 1 rfl) ?_
              refine lv_iload_n hx hb dX4_told_74 rfl (lv_at hl 2 rfl) ?_
              refine lv_iconst (v := 2) hx hb dX4_told_75 (by decide) ?_
              refine lv_isub hx hb dX4_told_76 ?_
              refine lv_topi (fun y0 ey0 => ?_)
              have qy0_0 : y0.toInt = p2.toInt - 2 := zi_sub ey0 (rfl) (rfl) (by omega) (by omega)
              refine z_calli (wr := [(h0, .inr (4, [.ref h1, .ref h2, .int f0, .ref h3, .ref h4, .ref h5, .ref h6, .int f1, .ref h7, .ref h8, .ref h9, .ref h10])), (h11, .inl (zI g, 5, .inl Z5)), (h12, .inl (zI g, 6, .inl Z6)), (h13, .inl (zI g, 5, .inl Z7)), (h14, .inl (zI g, 5, .inl Z8)), (h15, .inl (zI g, 5, .inl Z9))]) hP hD hS hA [7, 6] [0, 1, 2, 3, 4, 5] (by decide) rfl rfl (by decide) (va_runVN (As := [.int p1, .int y0]) (rest := []) ⟨hx, hb, hml, hown, hts⟩ (gX0_worthOf l g h1 h11 h12 h13 h14 h15 h16 h17 h18 H.size p1 y0 f2 f3 f4 Z10 (by constructor <;> omega) (by constructor <;> omega) (by constructor <;> omega) hF_Z10) ⟨va_cnB 2 hts (zGood m_o_yX0_worthOf) rfl rfl rfl (hN.m 5 (q := (RX4, 94, yX0_worthOf)) rfl) (hts _ m_z_RX0) ⟨by decide +kernel, by decide +kernel, by decide +kernel⟩ ⟨Nat.le_of_ble_eq_true rfl, Nat.le_of_ble_eq_true rfl⟩, hts _ m_i_yX0_worthOf, hts _ m_e_yX0_worthOf⟩ (zPreV hK hN hZ hP hD hS hA [7, 6] (by decide) rfl rfl 0 7 rfl rfl) rfl rfl hl.1 rfl (lv_room (Nat.le_of_ble_eq_true rfl)) dX4_told_77 ⟨Nat.le_of_ble_eq_true rfl, Nat.le_of_ble_eq_true rfl⟩) (fun r u H locs hw hP hD hS => ?_)
              obtain ⟨y1, rfl⟩ : ∃ z, z = r := ⟨_, rfl⟩
              obtain ⟨q2_0, q2_1, q2_2⟩ := hw
              have q2_0 : y1.toInt = zWq f3.toInt Z10 p1.toInt y0.toInt := q2_0
              have q2_1 : 0 ≤ y1.toInt := q2_1
              have q2_2 : y1.toInt ≤ 99 := q2_2
              have hP : va_P g.1 vwCl [(h0, .inr (4, [.ref h1, .ref h2, .int f0, .ref h3, .ref h4, .ref h5, .ref h6, .int f1, .ref h7, .ref h8, .ref h9, .ref h10])), (h11, .inl (zI g, 5, .inl Z5)), (h12, .inl (zI g, 6, .inl Z6)), (h13, .inl (zI g, 5, .inl Z7)), (h14, .inl (zI g, 5, .inl Z8)), (h15, .inl (zI g, 5, .inl Z9)), (h1, .inr (0, [.ref h11, .int f2, .ref h12, .int f3, .ref h13, .ref h14, .ref h15, .ref h16, .ref h17, .ref h18, .int f4])), (h16, .inl (zI g, 20, .inl Z10))] H := hP
              have hD : va_D A [(h0, .inr (4, [.ref h1, .ref h2, .int f0, .ref h3, .ref h4, .ref h5, .ref h6, .int f1, .ref h7, .ref h8, .ref h9, .ref h10])), (h11, .inl (zI g, 5, .inl Z5)), (h12, .inl (zI g, 6, .inl Z6)), (h13, .inl (zI g, 5, .inl Z7)), (h14, .inl (zI g, 5, .inl Z8)), (h15, .inl (zI g, 5, .inl Z9)), (h1, .inr (0, [.ref h11, .int f2, .ref h12, .int f3, .ref h13, .ref h14, .ref h15, .ref h16, .ref h17, .ref h18, .int f4])), (h16, .inl (zI g, 20, .inl Z10))] := hD
              have hq9 : zWq f3.toInt Z10 p1.toInt (p2.toInt - 2) = y1.toInt := by rw [← (by omega : y0.toInt = p2.toInt - 2)]; omega
              have hz : zAtold f3.toInt Z7 Z9 Z8 Z10 p1.toInt p2.toInt = y1.toInt := by
                unfold zAtold
                rw [if_neg (by omega), if_neg (by omega), if_neg (by omega), if_neg (by omega)] <;> omega
              have hP9 := hP.sub (ws' := [(h0, .inr (4, [.ref h1, .ref h2, .int f0, .ref h3, .ref h4, .ref h5, .ref h6, .int f1, .ref h7, .ref h8, .ref h9, .ref h10])), (h1, .inr (0, [.ref h11, .int f2, .ref h12, .int f3, .ref h13, .ref h14, .ref h15, .ref h16, .ref h17, .ref h18, .int f4])), (h11, .inl (zI g, 5, .inl Z5)), (h12, .inl (zI g, 6, .inl Z6)), (h13, .inl (zI g, 5, .inl Z7)), (h14, .inl (zI g, 5, .inl Z8)), (h15, .inl (zI g, 5, .inl Z9)), (h16, .inl (zI g, 20, .inl Z10))]) [0, 6, 1, 2, 3, 4, 5, 7] rfl
              have hD9 := hD.sub (ws' := [(h0, .inr (4, [.ref h1, .ref h2, .int f0, .ref h3, .ref h4, .ref h5, .ref h6, .int f1, .ref h7, .ref h8, .ref h9, .ref h10])), (h1, .inr (0, [.ref h11, .int f2, .ref h12, .int f3, .ref h13, .ref h14, .ref h15, .ref h16, .ref h17, .ref h18, .int f4])), (h11, .inl (zI g, 5, .inl Z5)), (h12, .inl (zI g, 6, .inl Z6)), (h13, .inl (zI g, 5, .inl Z7)), (h14, .inl (zI g, 5, .inl Z8)), (h15, .inl (zI g, 5, .inl Z9)), (h16, .inl (zI g, 20, .inl Z10))]) [0, 6, 1, 2, 3, 4, 5, 7] (by decide) rfl
              exact W.iret (v := y1) hx hb hr (fun t ht hW => ⟨⟨y1, (0 : Nat), rfl, (by first | omega | decide), by rw [ht]; exact hP9, hD9⟩, hS.F ht⟩) hS.2.2 dX4_told_80
            · have i_13 : p2.toInt = 6 := z_eq (rfl) (rfl) c_13
              refine lv_aload_n hx hb dX4_told_59 rfl (lv_at hl 0 rfl) ?_
              refine va_get (D := g.1) (ci := 4) (v := .ref h1) (C := RX4) (T := TX4) (N := 12) hx hb hts zl_X4 hown hK hP 0 rfl rfl 0 (by decide) (hts _ m_f_RX4_10) (fun _ h => h) rfl dX4_told_60 ?_
              refine va_getN (D := g.1) (ci := 0) (v := .ref h14) (C := RX0) (T := TX0) (N := 11) hx hb hts zl_X0 hown hK hP 7 rfl rfl 5 (by decide) (hN.f 12 (q := (RX4, 77, "FishSteps$Books", "purse", "[I")) rfl) (fun _ h => h) rfl dX4_told_63 ?_
              refine lv_iload_n hx hb dX4_told_66 rfl (lv_at hl 1 rfl) ?_
              refine va_iald (D := g.1) hx hb hK hP 4 0 rfl rfl (vp_in_iff.mpr ⟨by omega, by omega⟩) dX4_told_67 ?_
              refine lv_topi (fun y3 ey3 => ?_)
              have qy3_0 : (-99) ≤ y3.toInt := (i_at (N := 5) (lo := (-99)) (hi := 9999) (i := p1) (a := p1.toInt) hF_Z8 (rfl) (by omega) (by omega) ey3).1
              have qy3_1 : y3.toInt ≤ 9999 := (i_at (N := 5) (lo := (-99)) (hi := 9999) (i := p1) (a := p1.toInt) hF_Z8 (rfl) (by omega) (by omega) ey3).2
              have qy3_2 : y3.toInt = (Z8 p1.toNatClampNeg).toInt := congrArg Int32.toInt ey3
              have py3_0 : y3.toInt = (Z8 p1.toInt.toNat).toInt := congrArg Int32.toInt ey3
              have hz : zAtold f3.toInt Z7 Z9 Z8 Z10 p1.toInt p2.toInt = y3.toInt := by
                unfold zAtold
                rw [if_neg (by omega), if_neg (by omega), if_neg (by omega), if_pos (by omega)] <;> omega
              have hP9 := hP.sub (ws' := [(h0, .inr (4, [.ref h1, .ref h2, .int f0, .ref h3, .ref h4, .ref h5, .ref h6, .int f1, .ref h7, .ref h8, .ref h9, .ref h10])), (h1, .inr (0, [.ref h11, .int f2, .ref h12, .int f3, .ref h13, .ref h14, .ref h15, .ref h16, .ref h17, .ref h18, .int f4])), (h11, .inl (zI g, 5, .inl Z5)), (h12, .inl (zI g, 6, .inl Z6)), (h13, .inl (zI g, 5, .inl Z7)), (h14, .inl (zI g, 5, .inl Z8)), (h15, .inl (zI g, 5, .inl Z9)), (h16, .inl (zI g, 20, .inl Z10))]) [0, 7, 1, 2, 3, 4, 5, 6] rfl
              have hD9 := hD.sub (ws' := [(h0, .inr (4, [.ref h1, .ref h2, .int f0, .ref h3, .ref h4, .ref h5, .ref h6, .int f1, .ref h7, .ref h8, .ref h9, .ref h10])), (h1, .inr (0, [.ref h11, .int f2, .ref h12, .int f3, .ref h13, .ref h14, .ref h15, .ref h16, .ref h17, .ref h18, .int f4])), (h11, .inl (zI g, 5, .inl Z5)), (h12, .inl (zI g, 6, .inl Z6)), (h13, .inl (zI g, 5, .inl Z7)), (h14, .inl (zI g, 5, .inl Z8)), (h15, .inl (zI g, 5, .inl Z9)), (h16, .inl (zI g, 20, .inl Z10))]) [0, 7, 1, 2, 3, 4, 5, 6] (by decide) rfl
              exact W.iret (v := y3) hx hb hr (fun t ht hW => ⟨⟨y3, (0 : Nat), rfl, (by first | omega | decide), by rw [ht]; exact hP9, hD9⟩, hS.F ht⟩) hS.2.2 dX4_told_68
          · have i_12 : p2.toInt = 1 := z_eq (rfl) (rfl) c_12
            refine lv_aload_n hx hb dX4_told_43 rfl (lv_at hl 0 rfl) ?_
            refine va_get (D := g.1) (ci := 4) (v := .ref h1) (C := RX4) (T := TX4) (N := 12) hx hb hts zl_X4 hown hK hP 0 rfl rfl 0 (by decide) (hts _ m_f_RX4_10) (fun _ h => h) rfl dX4_told_44 ?_
            refine va_getN (D := g.1) (ci := 0) (v := .ref h15) (C := RX0) (T := TX0) (N := 11) hx hb hts zl_X0 hown hK hP 7 rfl rfl 6 (by decide) (hN.f 14 (q := (RX4, 90, "FishSteps$Books", "margin", "[I")) rfl) (fun _ h => h) rfl dX4_told_47 ?_
            refine lv_iload_n hx hb dX4_told_50 rfl (lv_at hl 1 rfl) ?_
            refine va_iald (D := g.1) hx hb hK hP 5 0 rfl rfl (vp_in_iff.mpr ⟨by omega, by omega⟩) dX4_told_51 ?_
            refine lv_topi (fun y4 ey4 => ?_)
            have qy4_0 : 0 ≤ y4.toInt := (i_at (N := 5) (lo := 0) (hi := 40) (i := p1) (a := p1.toInt) hF_Z9 (rfl) (by omega) (by omega) ey4).1
            have qy4_1 : y4.toInt ≤ 40 := (i_at (N := 5) (lo := 0) (hi := 40) (i := p1) (a := p1.toInt) hF_Z9 (rfl) (by omega) (by omega) ey4).2
            have qy4_2 : y4.toInt = (Z9 p1.toNatClampNeg).toInt := congrArg Int32.toInt ey4
            have py4_0 : y4.toInt = (Z9 p1.toInt.toNat).toInt := congrArg Int32.toInt ey4
            have hz : zAtold f3.toInt Z7 Z9 Z8 Z10 p1.toInt p2.toInt = y4.toInt := by
              unfold zAtold
              rw [if_neg (by omega), if_neg (by omega), if_pos (by omega)] <;> omega
            have hP9 := hP.sub (ws' := [(h0, .inr (4, [.ref h1, .ref h2, .int f0, .ref h3, .ref h4, .ref h5, .ref h6, .int f1, .ref h7, .ref h8, .ref h9, .ref h10])), (h1, .inr (0, [.ref h11, .int f2, .ref h12, .int f3, .ref h13, .ref h14, .ref h15, .ref h16, .ref h17, .ref h18, .int f4])), (h11, .inl (zI g, 5, .inl Z5)), (h12, .inl (zI g, 6, .inl Z6)), (h13, .inl (zI g, 5, .inl Z7)), (h14, .inl (zI g, 5, .inl Z8)), (h15, .inl (zI g, 5, .inl Z9)), (h16, .inl (zI g, 20, .inl Z10))]) [0, 7, 1, 2, 3, 4, 5, 6] rfl
            have hD9 := hD.sub (ws' := [(h0, .inr (4, [.ref h1, .ref h2, .int f0, .ref h3, .ref h4, .ref h5, .ref h6, .int f1, .ref h7, .ref h8, .ref h9, .ref h10])), (h1, .inr (0, [.ref h11, .int f2, .ref h12, .int f3, .ref h13, .ref h14, .ref h15, .ref h16, .ref h17, .ref h18, .int f4])), (h11, .inl (zI g, 5, .inl Z5)), (h12, .inl (zI g, 6, .inl Z6)), (h13, .inl (zI g, 5, .inl Z7)), (h14, .inl (zI g, 5, .inl Z8)), (h15, .inl (zI g, 5, .inl Z9)), (h16, .inl (zI g, 20, .inl Z10))]) [0, 7, 1, 2, 3, 4, 5, 6] (by decide) rfl
            exact W.iret (v := y4) hx hb hr (fun t ht hW => ⟨⟨y4, (0 : Nat), rfl, (by first | omega | decide), by rw [ht]; exact hP9, hD9⟩, hS.F ht⟩) hS.2.2 dX4_told_52
        · have i_11 : p2.toInt = 0 := z_eq (rfl) (rfl) c_11
          refine lv_aload_n hx hb dX4_told_28 rfl (lv_at hl 0 rfl) ?_
          refine va_get (D := g.1) (ci := 4) (v := .ref h1) (C := RX4) (T := TX4) (N := 12) hx hb hts zl_X4 hown hK hP 0 rfl rfl 0 (by decide) (hts _ m_f_RX4_10) (fun _ h => h) rfl dX4_told_29 ?_
          refine va_getN (D := g.1) (ci := 0) (v := .ref h13) (C := RX0) (T := TX0) (N := 11) hx hb hts zl_X0 hown hK hP 7 rfl rfl 4 (by decide) (hN.f 9 (q := (RX4, 74, "FishSteps$Books", "sort", "[I")) rfl) (fun _ h => h) rfl dX4_told_32 ?_
          refine lv_iload_n hx hb dX4_told_35 rfl (lv_at hl 1 rfl) ?_
          refine va_iald (D := g.1) hx hb hK hP 3 0 rfl rfl (vp_in_iff.mpr ⟨by omega, by omega⟩) dX4_told_36 ?_
          refine lv_topi (fun y5 ey5 => ?_)
          have qy5_0 : 0 ≤ y5.toInt := (i_at (N := 5) (lo := 0) (hi := 4) (i := p1) (a := p1.toInt) hF_Z7 (rfl) (by omega) (by omega) ey5).1
          have qy5_1 : y5.toInt ≤ 4 := (i_at (N := 5) (lo := 0) (hi := 4) (i := p1) (a := p1.toInt) hF_Z7 (rfl) (by omega) (by omega) ey5).2
          have qy5_2 : y5.toInt = (Z7 p1.toNatClampNeg).toInt := congrArg Int32.toInt ey5
          have py5_0 : y5.toInt = (Z7 p1.toInt.toNat).toInt := congrArg Int32.toInt ey5
          have hz : zAtold f3.toInt Z7 Z9 Z8 Z10 p1.toInt p2.toInt = y5.toInt := by
            unfold zAtold
            rw [if_neg (by omega), if_pos (by omega)] <;> omega
          have hP9 := hP.sub (ws' := [(h0, .inr (4, [.ref h1, .ref h2, .int f0, .ref h3, .ref h4, .ref h5, .ref h6, .int f1, .ref h7, .ref h8, .ref h9, .ref h10])), (h1, .inr (0, [.ref h11, .int f2, .ref h12, .int f3, .ref h13, .ref h14, .ref h15, .ref h16, .ref h17, .ref h18, .int f4])), (h11, .inl (zI g, 5, .inl Z5)), (h12, .inl (zI g, 6, .inl Z6)), (h13, .inl (zI g, 5, .inl Z7)), (h14, .inl (zI g, 5, .inl Z8)), (h15, .inl (zI g, 5, .inl Z9)), (h16, .inl (zI g, 20, .inl Z10))]) [0, 7, 1, 2, 3, 4, 5, 6] rfl
          have hD9 := hD.sub (ws' := [(h0, .inr (4, [.ref h1, .ref h2, .int f0, .ref h3, .ref h4, .ref h5, .ref h6, .int f1, .ref h7, .ref h8, .ref h9, .ref h10])), (h1, .inr (0, [.ref h11, .int f2, .ref h12, .int f3, .ref h13, .ref h14, .ref h15, .ref h16, .ref h17, .ref h18, .int f4])), (h11, .inl (zI g, 5, .inl Z5)), (h12, .inl (zI g, 6, .inl Z6)), (h13, .inl (zI g, 5, .inl Z7)), (h14, .inl (zI g, 5, .inl Z8)), (h15, .inl (zI g, 5, .inl Z9)), (h16, .inl (zI g, 20, .inl Z10))]) [0, 7, 1, 2, 3, 4, 5, 6] (by decide) rfl
          exact W.iret (v := y5) hx hb hr (fun t ht hW => ⟨⟨y5, (0 : Nat), rfl, (by first | omega | decide), by rw [ht]; exact hP9, hD9⟩, hS.F ht⟩) hS.2.2 dX4_told_37
      · have i_10 : 6 < p2.toInt := z_nle (rfl) (rfl) c_10
        refine lv_ldc (v := (-100001)) hx hb hown (hts _ m_k_RX4_93) dX4_told_21 ?_
        have : ((-100001) : Int32).toInt = (-100001) := rfl
        have hz : zAtold f3.toInt Z7 Z9 Z8 Z10 p1.toInt p2.toInt = (-100001) := by
          unfold zAtold
          rw [if_pos (by omega)]
        have hP9 := hP.sub (ws' := [(h0, .inr (4, [.ref h1, .ref h2, .int f0, .ref h3, .ref h4, .ref h5, .ref h6, .int f1, .ref h7, .ref h8, .ref h9, .ref h10])), (h1, .inr (0, [.ref h11, .int f2, .ref h12, .int f3, .ref h13, .ref h14, .ref h15, .ref h16, .ref h17, .ref h18, .int f4])), (h11, .inl (zI g, 5, .inl Z5)), (h12, .inl (zI g, 6, .inl Z6)), (h13, .inl (zI g, 5, .inl Z7)), (h14, .inl (zI g, 5, .inl Z8)), (h15, .inl (zI g, 5, .inl Z9)), (h16, .inl (zI g, 20, .inl Z10))]) [0, 7, 1, 2, 3, 4, 5, 6] rfl
        have hD9 := hD.sub (ws' := [(h0, .inr (4, [.ref h1, .ref h2, .int f0, .ref h3, .ref h4, .ref h5, .ref h6, .int f1, .ref h7, .ref h8, .ref h9, .ref h10])), (h1, .inr (0, [.ref h11, .int f2, .ref h12, .int f3, .ref h13, .ref h14, .ref h15, .ref h16, .ref h17, .ref h18, .int f4])), (h11, .inl (zI g, 5, .inl Z5)), (h12, .inl (zI g, 6, .inl Z6)), (h13, .inl (zI g, 5, .inl Z7)), (h14, .inl (zI g, 5, .inl Z8)), (h15, .inl (zI g, 5, .inl Z9)), (h16, .inl (zI g, 20, .inl Z10))]) [0, 7, 1, 2, 3, 4, 5, 6] (by decide) rfl
        exact W.iret (v := (-100001)) hx hb hr (fun t ht hW => ⟨⟨(-100001), (0 : Nat), rfl, (by first | omega | decide), by rw [ht]; exact hP9, hD9⟩, hS.F ht⟩) hS.2.2 dX4_told_23
set_option maxHeartbeats 8000000 in
set_option maxRecDepth 100000 in
theorem gX4_earn (l : Launch) (g : zG) (h0 h1 h2 h3 h4 h5 h6 h7 h8 h9 h10 h11 h12 h13 h14 h15 h16 h17 h18 : Nat) (sz : Nat) (p1 : Int32) (p2 : Int32) (f0 : Int32) (f1 : Int32) (f2 : Int32) (f3 : Int32) (f4 : Int32) (Z5 : Nat → Int32) (Z6 : Nat → Int32) (Z7 : Nat → Int32) (Z8 : Nat → Int32) (Z9 : Nat → Int32) (Z10 : Nat → Int32) (hf_f2 : 0 ≤ f2.toInt ∧ f2.toInt ≤ 6) (hf_f3 : 0 ≤ f3.toInt ∧ f3.toInt ≤ 5) (hf_f4 : 0 ≤ f4.toInt ∧ f4.toInt ≤ 9999) (hF_Z5 : iLaw Z5) (hF_Z6 : iKd Z6) (hF_Z7 : iSo Z7) (hF_Z8 : iPu Z8) (hF_Z9 : iMa Z9) (hF_Z10 : iWo Z10) : Met l yX4_earn (.code yX4_earn cX4_earn 4 (some .int) :: zBig) ({ frames := 1, cells := 0, slots := 0, locals := 21 }) (va_Pc [.ref h0, .int p1, .int p2] (zPre g [(h0, .inr (4, [.ref h1, .ref h2, .int f0, .ref h3, .ref h4, .ref h5, .ref h6, .int f1, .ref h7, .ref h8, .ref h9, .ref h10])), (h1, .inr (0, [.ref h11, .int f2, .ref h12, .int f3, .ref h13, .ref h14, .ref h15, .ref h16, .ref h17, .ref h18, .int f4])), (h11, .inl (zI g, 5, .inl Z5)), (h12, .inl (zI g, 6, .inl Z6)), (h13, .inl (zI g, 5, .inl Z7)), (h14, .inl (zI g, 5, .inl Z8)), (h15, .inl (zI g, 5, .inl Z9)), (h16, .inl (zI g, 20, .inl Z10))] sz)) (va_Qi (fun (r : Int32) (u : (Nat → Int32)) => (r.toInt = zAearn f3.toInt Z8 p1.toInt p2.toInt) ∧ iPu u ∧ u = (if (0 ≤ p1.toInt ∧ p1.toInt < 5 ∧ p1.toInt < f3.toInt ∧ 1 ≤ p2.toInt ∧ p2.toInt ≤ 999 ∧ (Z8 p1.toInt.toNat).toInt + p2.toInt ≤ 9999) then upd Z8 p1.toNatClampNeg (Z8 p1.toNatClampNeg + p2) else Z8)) (zPost g (fun u : (Nat → Int32) => [(h0, .inr (4, [.ref h1, .ref h2, .int f0, .ref h3, .ref h4, .ref h5, .ref h6, .int f1, .ref h7, .ref h8, .ref h9, .ref h10])), (h1, .inr (0, [.ref h11, .int f2, .ref h12, .int f3, .ref h13, .ref h14, .ref h15, .ref h16, .ref h17, .ref h18, .int f4])), (h11, .inl (zI g, 5, .inl Z5)), (h12, .inl (zI g, 6, .inl Z6)), (h13, .inl (zI g, 5, .inl Z7)), (h14, .inl (zI g, 5, .inl u)), (h15, .inl (zI g, 5, .inl Z9)), (h16, .inl (zI g, 20, .inl Z10))]) (va_A [(h0, .inr (4, [.ref h1, .ref h2, .int f0, .ref h3, .ref h4, .ref h5, .ref h6, .int f1, .ref h7, .ref h8, .ref h9, .ref h10])), (h1, .inr (0, [.ref h11, .int f2, .ref h12, .int f3, .ref h13, .ref h14, .ref h15, .ref h16, .ref h17, .ref h18, .int f4])), (h11, .inl (zI g, 5, .inl Z5)), (h12, .inl (zI g, 6, .inl Z6)), (h13, .inl (zI g, 5, .inl Z7)), (h14, .inl (zI g, 5, .inl Z8)), (h15, .inl (zI g, 5, .inl Z9)), (h16, .inl (zI g, 20, .inl Z10))] sz)) (va_A [(h0, .inr (4, [.ref h1, .ref h2, .int f0, .ref h3, .ref h4, .ref h5, .ref h6, .int f1, .ref h7, .ref h8, .ref h9, .ref h10])), (h1, .inr (0, [.ref h11, .int f2, .ref h12, .int f3, .ref h13, .ref h14, .ref h15, .ref h16, .ref h17, .ref h18, .int f4])), (h11, .inl (zI g, 5, .inl Z5)), (h12, .inl (zI g, 6, .inl Z6)), (h13, .inl (zI g, 5, .inl Z7)), (h14, .inl (zI g, 5, .inl Z8)), (h15, .inl (zI g, 5, .inl Z9)), (h16, .inl (zI g, 20, .inl Z10))] sz)) 0 0 (va_A [(h0, .inr (4, [.ref h1, .ref h2, .int f0, .ref h3, .ref h4, .ref h5, .ref h6, .int f1, .ref h7, .ref h8, .ref h9, .ref h10])), (h1, .inr (0, [.ref h11, .int f2, .ref h12, .int f3, .ref h13, .ref h14, .ref h15, .ref h16, .ref h17, .ref h18, .int f4])), (h11, .inl (zI g, 5, .inl Z5)), (h12, .inl (zI g, 6, .inl Z6)), (h13, .inl (zI g, 5, .inl Z7)), (h14, .inl (zI g, 5, .inl Z8)), (h15, .inl (zI g, 5, .inl Z9)), (h16, .inl (zI g, 20, .inl Z10))] sz) := by
  refine zMetI rfl (Nat.le_of_ble_eq_true rfl) ?_
  intro p e s m args below meth c A ls hx hb hml hr hlocks hin hown hts hK hN hZ hP hD hA hS hAe hl
  have hown : s.vm.findClass RX4 = some m.cls := hown
  have hl : lv_has ls 4 [(0, .ref h0), (1, .int p1), (2, .int p2)] := hl
  refine lv_aload_n hx hb dX4_earn_0 rfl (lv_at hl 0 rfl) ?_
  refine va_get (D := g.1) (ci := 4) (v := .ref h1) (C := RX4) (T := TX4) (N := 12) hx hb hts zl_X4 hown hK hP 0 rfl rfl 0 (by decide) (hts _ m_f_RX4_10) (fun _ h => h) rfl dX4_earn_1 ?_
  refine lv_iload_n hx hb dX4_earn_4 rfl (lv_at hl 1 rfl) ?_
  refine z_calli (wr := [(h0, .inr (4, [.ref h1, .ref h2, .int f0, .ref h3, .ref h4, .ref h5, .ref h6, .int f1, .ref h7, .ref h8, .ref h9, .ref h10])), (h11, .inl (zI g, 5, .inl Z5)), (h12, .inl (zI g, 6, .inl Z6)), (h13, .inl (zI g, 5, .inl Z7)), (h14, .inl (zI g, 5, .inl Z8)), (h15, .inl (zI g, 5, .inl Z9)), (h16, .inl (zI g, 20, .inl Z10))]) hP hD hS hA [1] [0, 2, 3, 4, 5, 6, 7] (by decide) rfl rfl (by decide) (va_runVN (As := [.int p1]) (rest := []) ⟨hx, hb, hml, hown, hts⟩ (gX0_isThere l g h1 h11 h12 h13 h14 h15 h16 h17 h18 s.heap.size p1 f2 f3 f4 (by constructor <;> omega) (by constructor <;> omega) (by constructor <;> omega)) ⟨va_cnB 1 hts (zGood m_o_yX0_isThere) rfl rfl rfl (hN.m 4 (q := (RX4, 80, yX0_isThere)) rfl) (hts _ m_z_RX0) ⟨by decide +kernel, by decide +kernel, by decide +kernel⟩ ⟨Nat.le_of_ble_eq_true rfl, Nat.le_of_ble_eq_true rfl⟩, hts _ m_i_yX0_isThere, hts _ m_e_yX0_isThere⟩ (zPreV hK hN hZ hP hD hS hA [1] (by decide) rfl rfl 0 1 rfl rfl) rfl rfl hl.1 rfl (lv_room (Nat.le_of_ble_eq_true rfl)) dX4_earn_5 ⟨Nat.le_of_ble_eq_true rfl, Nat.le_of_ble_eq_true rfl⟩) (fun r u H locs hw hP hD hS => ?_)
  rcases hw with ⟨i_0, rfl⟩ | ⟨i_1, i_2, rfl⟩ | ⟨i_3, i_4, i_5, rfl⟩ | ⟨i_6, i_7, i_8, rfl⟩
  · skip
    have i_0 : p1.toInt < 0 := i_0
    have hP : va_P g.1 vwCl [(h0, .inr (4, [.ref h1, .ref h2, .int f0, .ref h3, .ref h4, .ref h5, .ref h6, .int f1, .ref h7, .ref h8, .ref h9, .ref h10])), (h11, .inl (zI g, 5, .inl Z5)), (h12, .inl (zI g, 6, .inl Z6)), (h13, .inl (zI g, 5, .inl Z7)), (h14, .inl (zI g, 5, .inl Z8)), (h15, .inl (zI g, 5, .inl Z9)), (h16, .inl (zI g, 20, .inl Z10)), (h1, .inr (0, [.ref h11, .int f2, .ref h12, .int f3, .ref h13, .ref h14, .ref h15, .ref h16, .ref h17, .ref h18, .int f4]))] H := hP
    have hD : va_D A [(h0, .inr (4, [.ref h1, .ref h2, .int f0, .ref h3, .ref h4, .ref h5, .ref h6, .int f1, .ref h7, .ref h8, .ref h9, .ref h10])), (h11, .inl (zI g, 5, .inl Z5)), (h12, .inl (zI g, 6, .inl Z6)), (h13, .inl (zI g, 5, .inl Z7)), (h14, .inl (zI g, 5, .inl Z8)), (h15, .inl (zI g, 5, .inl Z9)), (h16, .inl (zI g, 20, .inl Z10)), (h1, .inr (0, [.ref h11, .int f2, .ref h12, .int f3, .ref h13, .ref h14, .ref h15, .ref h16, .ref h17, .ref h18, .int f4]))] := hD
    refine lv_if_eq (tgt := 23) hx hb dX4_earn_8 (by decide) (fun _ => ?_) (fun h => absurd h (by decide +kernel))
    refine lv_ldc (v := (-100001)) hx hb hown (hts _ m_k_RX4_93) dX4_earn_23 ?_
    have : ((-100001) : Int32).toInt = (-100001) := rfl
    have hz : zAearn f3.toInt Z8 p1.toInt p2.toInt = (-100001) := by
      unfold zAearn
      rw [if_pos (by omega)]
    have hP9 := hP.sub (ws' := [(h0, .inr (4, [.ref h1, .ref h2, .int f0, .ref h3, .ref h4, .ref h5, .ref h6, .int f1, .ref h7, .ref h8, .ref h9, .ref h10])), (h1, .inr (0, [.ref h11, .int f2, .ref h12, .int f3, .ref h13, .ref h14, .ref h15, .ref h16, .ref h17, .ref h18, .int f4])), (h11, .inl (zI g, 5, .inl Z5)), (h12, .inl (zI g, 6, .inl Z6)), (h13, .inl (zI g, 5, .inl Z7)), (h14, .inl (zI g, 5, .inl Z8)), (h15, .inl (zI g, 5, .inl Z9)), (h16, .inl (zI g, 20, .inl Z10))]) [0, 7, 1, 2, 3, 4, 5, 6] rfl
    have hD9 := hD.sub (ws' := [(h0, .inr (4, [.ref h1, .ref h2, .int f0, .ref h3, .ref h4, .ref h5, .ref h6, .int f1, .ref h7, .ref h8, .ref h9, .ref h10])), (h1, .inr (0, [.ref h11, .int f2, .ref h12, .int f3, .ref h13, .ref h14, .ref h15, .ref h16, .ref h17, .ref h18, .int f4])), (h11, .inl (zI g, 5, .inl Z5)), (h12, .inl (zI g, 6, .inl Z6)), (h13, .inl (zI g, 5, .inl Z7)), (h14, .inl (zI g, 5, .inl Z8)), (h15, .inl (zI g, 5, .inl Z9)), (h16, .inl (zI g, 20, .inl Z10))]) [0, 7, 1, 2, 3, 4, 5, 6] (by decide) rfl
    exact W.iret (v := (-100001)) hx hb hr (fun t ht hW => ⟨⟨(-100001), Z8, rfl, ⟨(by first | omega | decide), hF_Z8, (by rw [if_neg (by omega)])⟩, by rw [ht]; exact hP9, hD9⟩, hS.F ht⟩) hS.2.2 dX4_earn_25
  · skip
    have i_1 : 0 ≤ p1.toInt := i_1
    have i_2 : 5 ≤ p1.toInt := i_2
    have hP : va_P g.1 vwCl [(h0, .inr (4, [.ref h1, .ref h2, .int f0, .ref h3, .ref h4, .ref h5, .ref h6, .int f1, .ref h7, .ref h8, .ref h9, .ref h10])), (h11, .inl (zI g, 5, .inl Z5)), (h12, .inl (zI g, 6, .inl Z6)), (h13, .inl (zI g, 5, .inl Z7)), (h14, .inl (zI g, 5, .inl Z8)), (h15, .inl (zI g, 5, .inl Z9)), (h16, .inl (zI g, 20, .inl Z10)), (h1, .inr (0, [.ref h11, .int f2, .ref h12, .int f3, .ref h13, .ref h14, .ref h15, .ref h16, .ref h17, .ref h18, .int f4]))] H := hP
    have hD : va_D A [(h0, .inr (4, [.ref h1, .ref h2, .int f0, .ref h3, .ref h4, .ref h5, .ref h6, .int f1, .ref h7, .ref h8, .ref h9, .ref h10])), (h11, .inl (zI g, 5, .inl Z5)), (h12, .inl (zI g, 6, .inl Z6)), (h13, .inl (zI g, 5, .inl Z7)), (h14, .inl (zI g, 5, .inl Z8)), (h15, .inl (zI g, 5, .inl Z9)), (h16, .inl (zI g, 20, .inl Z10)), (h1, .inr (0, [.ref h11, .int f2, .ref h12, .int f3, .ref h13, .ref h14, .ref h15, .ref h16, .ref h17, .ref h18, .int f4]))] := hD
    refine lv_if_eq (tgt := 23) hx hb dX4_earn_8 (by decide) (fun _ => ?_) (fun h => absurd h (by decide +kernel))
    refine lv_ldc (v := (-100001)) hx hb hown (hts _ m_k_RX4_93) dX4_earn_23 ?_
    have : ((-100001) : Int32).toInt = (-100001) := rfl
    have hz : zAearn f3.toInt Z8 p1.toInt p2.toInt = (-100001) := by
      unfold zAearn
      rw [if_pos (by omega)]
    have hP9 := hP.sub (ws' := [(h0, .inr (4, [.ref h1, .ref h2, .int f0, .ref h3, .ref h4, .ref h5, .ref h6, .int f1, .ref h7, .ref h8, .ref h9, .ref h10])), (h1, .inr (0, [.ref h11, .int f2, .ref h12, .int f3, .ref h13, .ref h14, .ref h15, .ref h16, .ref h17, .ref h18, .int f4])), (h11, .inl (zI g, 5, .inl Z5)), (h12, .inl (zI g, 6, .inl Z6)), (h13, .inl (zI g, 5, .inl Z7)), (h14, .inl (zI g, 5, .inl Z8)), (h15, .inl (zI g, 5, .inl Z9)), (h16, .inl (zI g, 20, .inl Z10))]) [0, 7, 1, 2, 3, 4, 5, 6] rfl
    have hD9 := hD.sub (ws' := [(h0, .inr (4, [.ref h1, .ref h2, .int f0, .ref h3, .ref h4, .ref h5, .ref h6, .int f1, .ref h7, .ref h8, .ref h9, .ref h10])), (h1, .inr (0, [.ref h11, .int f2, .ref h12, .int f3, .ref h13, .ref h14, .ref h15, .ref h16, .ref h17, .ref h18, .int f4])), (h11, .inl (zI g, 5, .inl Z5)), (h12, .inl (zI g, 6, .inl Z6)), (h13, .inl (zI g, 5, .inl Z7)), (h14, .inl (zI g, 5, .inl Z8)), (h15, .inl (zI g, 5, .inl Z9)), (h16, .inl (zI g, 20, .inl Z10))]) [0, 7, 1, 2, 3, 4, 5, 6] (by decide) rfl
    exact W.iret (v := (-100001)) hx hb hr (fun t ht hW => ⟨⟨(-100001), Z8, rfl, ⟨(by first | omega | decide), hF_Z8, (by rw [if_neg (by omega)])⟩, by rw [ht]; exact hP9, hD9⟩, hS.F ht⟩) hS.2.2 dX4_earn_25
  · skip
    have i_3 : 0 ≤ p1.toInt := i_3
    have i_4 : p1.toInt < 5 := i_4
    have i_5 : f3.toInt ≤ p1.toInt := i_5
    have hP : va_P g.1 vwCl [(h0, .inr (4, [.ref h1, .ref h2, .int f0, .ref h3, .ref h4, .ref h5, .ref h6, .int f1, .ref h7, .ref h8, .ref h9, .ref h10])), (h11, .inl (zI g, 5, .inl Z5)), (h12, .inl (zI g, 6, .inl Z6)), (h13, .inl (zI g, 5, .inl Z7)), (h14, .inl (zI g, 5, .inl Z8)), (h15, .inl (zI g, 5, .inl Z9)), (h16, .inl (zI g, 20, .inl Z10)), (h1, .inr (0, [.ref h11, .int f2, .ref h12, .int f3, .ref h13, .ref h14, .ref h15, .ref h16, .ref h17, .ref h18, .int f4]))] H := hP
    have hD : va_D A [(h0, .inr (4, [.ref h1, .ref h2, .int f0, .ref h3, .ref h4, .ref h5, .ref h6, .int f1, .ref h7, .ref h8, .ref h9, .ref h10])), (h11, .inl (zI g, 5, .inl Z5)), (h12, .inl (zI g, 6, .inl Z6)), (h13, .inl (zI g, 5, .inl Z7)), (h14, .inl (zI g, 5, .inl Z8)), (h15, .inl (zI g, 5, .inl Z9)), (h16, .inl (zI g, 20, .inl Z10)), (h1, .inr (0, [.ref h11, .int f2, .ref h12, .int f3, .ref h13, .ref h14, .ref h15, .ref h16, .ref h17, .ref h18, .int f4]))] := hD
    refine lv_if_eq (tgt := 23) hx hb dX4_earn_8 (by decide) (fun _ => ?_) (fun h => absurd h (by decide +kernel))
    refine lv_ldc (v := (-100001)) hx hb hown (hts _ m_k_RX4_93) dX4_earn_23 ?_
    have : ((-100001) : Int32).toInt = (-100001) := rfl
    have hz : zAearn f3.toInt Z8 p1.toInt p2.toInt = (-100001) := by
      unfold zAearn
      rw [if_pos (by omega)]
    have hP9 := hP.sub (ws' := [(h0, .inr (4, [.ref h1, .ref h2, .int f0, .ref h3, .ref h4, .ref h5, .ref h6, .int f1, .ref h7, .ref h8, .ref h9, .ref h10])), (h1, .inr (0, [.ref h11, .int f2, .ref h12, .int f3, .ref h13, .ref h14, .ref h15, .ref h16, .ref h17, .ref h18, .int f4])), (h11, .inl (zI g, 5, .inl Z5)), (h12, .inl (zI g, 6, .inl Z6)), (h13, .inl (zI g, 5, .inl Z7)), (h14, .inl (zI g, 5, .inl Z8)), (h15, .inl (zI g, 5, .inl Z9)), (h16, .inl (zI g, 20, .inl Z10))]) [0, 7, 1, 2, 3, 4, 5, 6] rfl
    have hD9 := hD.sub (ws' := [(h0, .inr (4, [.ref h1, .ref h2, .int f0, .ref h3, .ref h4, .ref h5, .ref h6, .int f1, .ref h7, .ref h8, .ref h9, .ref h10])), (h1, .inr (0, [.ref h11, .int f2, .ref h12, .int f3, .ref h13, .ref h14, .ref h15, .ref h16, .ref h17, .ref h18, .int f4])), (h11, .inl (zI g, 5, .inl Z5)), (h12, .inl (zI g, 6, .inl Z6)), (h13, .inl (zI g, 5, .inl Z7)), (h14, .inl (zI g, 5, .inl Z8)), (h15, .inl (zI g, 5, .inl Z9)), (h16, .inl (zI g, 20, .inl Z10))]) [0, 7, 1, 2, 3, 4, 5, 6] (by decide) rfl
    exact W.iret (v := (-100001)) hx hb hr (fun t ht hW => ⟨⟨(-100001), Z8, rfl, ⟨(by first | omega | decide), hF_Z8, (by rw [if_neg (by omega)])⟩, by rw [ht]; exact hP9, hD9⟩, hS.F ht⟩) hS.2.2 dX4_earn_25
  · skip
    have i_6 : 0 ≤ p1.toInt := i_6
    have i_7 : p1.toInt < 5 := i_7
    have i_8 : p1.toInt < f3.toInt := i_8
    have hP : va_P g.1 vwCl [(h0, .inr (4, [.ref h1, .ref h2, .int f0, .ref h3, .ref h4, .ref h5, .ref h6, .int f1, .ref h7, .ref h8, .ref h9, .ref h10])), (h11, .inl (zI g, 5, .inl Z5)), (h12, .inl (zI g, 6, .inl Z6)), (h13, .inl (zI g, 5, .inl Z7)), (h14, .inl (zI g, 5, .inl Z8)), (h15, .inl (zI g, 5, .inl Z9)), (h16, .inl (zI g, 20, .inl Z10)), (h1, .inr (0, [.ref h11, .int f2, .ref h12, .int f3, .ref h13, .ref h14, .ref h15, .ref h16, .ref h17, .ref h18, .int f4]))] H := hP
    have hD : va_D A [(h0, .inr (4, [.ref h1, .ref h2, .int f0, .ref h3, .ref h4, .ref h5, .ref h6, .int f1, .ref h7, .ref h8, .ref h9, .ref h10])), (h11, .inl (zI g, 5, .inl Z5)), (h12, .inl (zI g, 6, .inl Z6)), (h13, .inl (zI g, 5, .inl Z7)), (h14, .inl (zI g, 5, .inl Z8)), (h15, .inl (zI g, 5, .inl Z9)), (h16, .inl (zI g, 20, .inl Z10)), (h1, .inr (0, [.ref h11, .int f2, .ref h12, .int f3, .ref h13, .ref h14, .ref h15, .ref h16, .ref h17, .ref h18, .int f4]))] := hD
    refine lv_if_eq (tgt := 23) hx hb dX4_earn_8 (by decide) (fun h => absurd h (by decide +kernel)) (fun _ => ?_)
    refine lv_iload_n hx hb dX4_earn_11 rfl (lv_at hl 2 rfl) ?_
    refine lv_iconst (v := 1) hx hb dX4_earn_12 (by decide) ?_
    refine lv_icmp_lt (tgt := 23) hx hb dX4_earn_13 (by decide) (fun c_9 => ?_) (fun c_9 => ?_)
    · have i_9 : p2.toInt < 1 := z_lt (rfl) (rfl) c_9
      refine lv_ldc (v := (-100001)) hx hb hown (hts _ m_k_RX4_93) dX4_earn_23 ?_
      have : ((-100001) : Int32).toInt = (-100001) := rfl
      have hz : zAearn f3.toInt Z8 p1.toInt p2.toInt = (-100001) := by
        unfold zAearn
        rw [if_pos (by omega)]
      have hP9 := hP.sub (ws' := [(h0, .inr (4, [.ref h1, .ref h2, .int f0, .ref h3, .ref h4, .ref h5, .ref h6, .int f1, .ref h7, .ref h8, .ref h9, .ref h10])), (h1, .inr (0, [.ref h11, .int f2, .ref h12, .int f3, .ref h13, .ref h14, .ref h15, .ref h16, .ref h17, .ref h18, .int f4])), (h11, .inl (zI g, 5, .inl Z5)), (h12, .inl (zI g, 6, .inl Z6)), (h13, .inl (zI g, 5, .inl Z7)), (h14, .inl (zI g, 5, .inl Z8)), (h15, .inl (zI g, 5, .inl Z9)), (h16, .inl (zI g, 20, .inl Z10))]) [0, 7, 1, 2, 3, 4, 5, 6] rfl
      have hD9 := hD.sub (ws' := [(h0, .inr (4, [.ref h1, .ref h2, .int f0, .ref h3, .ref h4, .ref h5, .ref h6, .int f1, .ref h7, .ref h8, .ref h9, .ref h10])), (h1, .inr (0, [.ref h11, .int f2, .ref h12, .int f3, .ref h13, .ref h14, .ref h15, .ref h16, .ref h17, .ref h18, .int f4])), (h11, .inl (zI g, 5, .inl Z5)), (h12, .inl (zI g, 6, .inl Z6)), (h13, .inl (zI g, 5, .inl Z7)), (h14, .inl (zI g, 5, .inl Z8)), (h15, .inl (zI g, 5, .inl Z9)), (h16, .inl (zI g, 20, .inl Z10))]) [0, 7, 1, 2, 3, 4, 5, 6] (by decide) rfl
      exact W.iret (v := (-100001)) hx hb hr (fun t ht hW => ⟨⟨(-100001), Z8, rfl, ⟨(by first | omega | decide), hF_Z8, (by rw [if_neg (by omega)])⟩, by rw [ht]; exact hP9, hD9⟩, hS.F ht⟩) hS.2.2 dX4_earn_25
    · have i_9 : 1 ≤ p2.toInt := z_nlt (rfl) (rfl) c_9
      refine lv_iload_n hx hb dX4_earn_16 rfl (lv_at hl 2 rfl) ?_
      refine lv_sipush (v := 999) hx hb dX4_earn_17 (by decide) ?_
      refine lv_icmp_le (tgt := 26) hx hb dX4_earn_20 (by decide) (fun c_10 => ?_) (fun c_10 => ?_)
      · have i_10 : p2.toInt ≤ 999 := z_le (rfl) (rfl) c_10
        refine lv_aload_n hx hb dX4_earn_26 rfl (lv_at hl 0 rfl) ?_
        refine va_get (D := g.1) (ci := 4) (v := .ref h1) (C := RX4) (T := TX4) (N := 12) hx hb hts zl_X4 hown hK hP 0 rfl rfl 0 (by decide) (hts _ m_f_RX4_10) (fun _ h => h) rfl dX4_earn_27 ?_
        refine va_getN (D := g.1) (ci := 0) (v := .ref h14) (C := RX0) (T := TX0) (N := 11) hx hb hts zl_X0 hown hK hP 7 rfl rfl 5 (by decide) (hN.f 12 (q := (RX4, 77, "FishSteps$Books", "purse", "[I")) rfl) (fun _ h => h) rfl dX4_earn_30 ?_
        refine lv_iload_n hx hb dX4_earn_33 rfl (lv_at hl 1 rfl) ?_
        refine va_iald (D := g.1) hx hb hK hP 4 0 rfl rfl (vp_in_iff.mpr ⟨by omega, by omega⟩) dX4_earn_34 ?_
        refine lv_topi (fun y0 ey0 => ?_)
        have qy0_0 : (-99) ≤ y0.toInt := (i_at (N := 5) (lo := (-99)) (hi := 9999) (i := p1) (a := p1.toInt) hF_Z8 (rfl) (by omega) (by omega) ey0).1
        have qy0_1 : y0.toInt ≤ 9999 := (i_at (N := 5) (lo := (-99)) (hi := 9999) (i := p1) (a := p1.toInt) hF_Z8 (rfl) (by omega) (by omega) ey0).2
        have qy0_2 : y0.toInt = (Z8 p1.toNatClampNeg).toInt := congrArg Int32.toInt ey0
        have py0_0 : y0.toInt = (Z8 p1.toInt.toNat).toInt := congrArg Int32.toInt ey0
        refine lv_iload_n hx hb dX4_earn_35 rfl (lv_at hl 2 rfl) ?_
        refine lv_iadd hx hb dX4_earn_36 ?_
        refine lv_topi (fun y1 ey1 => ?_)
        have qy1_0 : y1.toInt = y0.toInt + p2.toInt := zi_add ey1 (rfl) (rfl) (by omega) (by omega)
        refine lv_istore_n (lv' := [(3, .int y1), (0, .ref h0), (1, .int p1), (2, .int p2)]) hx hb dX4_earn_37 rfl hl (by decide) rfl (fun ls hl => ?_)
        refine lv_iload_n hx hb dX4_earn_38 rfl (lv_at hl 0 rfl) ?_
        refine lv_sipush (v := 9999) hx hb dX4_earn_39 (by decide) ?_
        refine lv_icmp_le (tgt := 48) hx hb dX4_earn_42 (by decide) (fun c_11 => ?_) (fun c_11 => ?_)
        · have i_11 : y1.toInt ≤ 9999 := z_le (rfl) (rfl) c_11
          refine lv_aload_n hx hb dX4_earn_48 rfl (lv_at hl 1 rfl) ?_
          refine va_get (D := g.1) (ci := 4) (v := .ref h1) (C := RX4) (T := TX4) (N := 12) hx hb hts zl_X4 hown hK hP 0 rfl rfl 0 (by decide) (hts _ m_f_RX4_10) (fun _ h => h) rfl dX4_earn_49 ?_
          refine va_getN (D := g.1) (ci := 0) (v := .ref h14) (C := RX0) (T := TX0) (N := 11) hx hb hts zl_X0 hown hK hP 7 rfl rfl 5 (by decide) (hN.f 12 (q := (RX4, 77, "FishSteps$Books", "purse", "[I")) rfl) (fun _ h => h) rfl dX4_earn_52 ?_
          refine lv_iload_n hx hb dX4_earn_55 rfl (lv_at hl 2 rfl) ?_
          refine lv_iload_n hx hb dX4_earn_56 rfl (lv_at hl 0 rfl) ?_
          refine va_iast (D := g.1) hx hb hK hP hD hS 4 0 rfl rfl (vp_in_iff.mpr ⟨by omega, by omega⟩) dX4_earn_57 (fun H locs hP hD hS => ?_)
          have hP : va_P g.1 vwCl [(h0, .inr (4, [.ref h1, .ref h2, .int f0, .ref h3, .ref h4, .ref h5, .ref h6, .int f1, .ref h7, .ref h8, .ref h9, .ref h10])), (h11, .inl (zI g, 5, .inl Z5)), (h12, .inl (zI g, 6, .inl Z6)), (h13, .inl (zI g, 5, .inl Z7)), (h14, .inl (zI g, 5, .inl (upd Z8 p1.toNatClampNeg y1))), (h15, .inl (zI g, 5, .inl Z9)), (h16, .inl (zI g, 20, .inl Z10)), (h1, .inr (0, [.ref h11, .int f2, .ref h12, .int f3, .ref h13, .ref h14, .ref h15, .ref h16, .ref h17, .ref h18, .int f4]))] H := hP
          have hD : va_D A [(h0, .inr (4, [.ref h1, .ref h2, .int f0, .ref h3, .ref h4, .ref h5, .ref h6, .int f1, .ref h7, .ref h8, .ref h9, .ref h10])), (h11, .inl (zI g, 5, .inl Z5)), (h12, .inl (zI g, 6, .inl Z6)), (h13, .inl (zI g, 5, .inl Z7)), (h14, .inl (zI g, 5, .inl (upd Z8 p1.toNatClampNeg y1))), (h15, .inl (zI g, 5, .inl Z9)), (h16, .inl (zI g, 20, .inl Z10)), (h1, .inr (0, [.ref h11, .int f2, .ref h12, .int f3, .ref h13, .ref h14, .ref h15, .ref h16, .ref h17, .ref h18, .int f4]))] := hD
          have hI2 : iPu (upd Z8 p1.toNatClampNeg y1) := i_put (N := 5) (lo := (-99)) (hi := 9999) hF_Z8 (by first | omega | decide) (by first | omega | decide)
          obtain ⟨R3, eR3⟩ : ∃ z : Nat → Int32, z = (upd Z8 p1.toNatClampNeg y1) := ⟨_, rfl⟩
          rw [← eR3] at hP hD hI2
          refine lv_iload_n hx hb dX4_earn_58 rfl (lv_at hl 0 rfl) ?_
          have hz : zAearn f3.toInt Z8 p1.toInt p2.toInt = y1.toInt := by
            unfold zAearn
            rw [if_neg (by omega), if_neg (by omega)] <;> omega
          have hP9 := hP.sub (ws' := [(h0, .inr (4, [.ref h1, .ref h2, .int f0, .ref h3, .ref h4, .ref h5, .ref h6, .int f1, .ref h7, .ref h8, .ref h9, .ref h10])), (h1, .inr (0, [.ref h11, .int f2, .ref h12, .int f3, .ref h13, .ref h14, .ref h15, .ref h16, .ref h17, .ref h18, .int f4])), (h11, .inl (zI g, 5, .inl Z5)), (h12, .inl (zI g, 6, .inl Z6)), (h13, .inl (zI g, 5, .inl Z7)), (h14, .inl (zI g, 5, .inl R3)), (h15, .inl (zI g, 5, .inl Z9)), (h16, .inl (zI g, 20, .inl Z10))]) [0, 7, 1, 2, 3, 4, 5, 6] rfl
          have hD9 := hD.sub (ws' := [(h0, .inr (4, [.ref h1, .ref h2, .int f0, .ref h3, .ref h4, .ref h5, .ref h6, .int f1, .ref h7, .ref h8, .ref h9, .ref h10])), (h1, .inr (0, [.ref h11, .int f2, .ref h12, .int f3, .ref h13, .ref h14, .ref h15, .ref h16, .ref h17, .ref h18, .int f4])), (h11, .inl (zI g, 5, .inl Z5)), (h12, .inl (zI g, 6, .inl Z6)), (h13, .inl (zI g, 5, .inl Z7)), (h14, .inl (zI g, 5, .inl R3)), (h15, .inl (zI g, 5, .inl Z9)), (h16, .inl (zI g, 20, .inl Z10))]) [0, 7, 1, 2, 3, 4, 5, 6] (by decide) rfl
          exact W.iret (v := y1) hx hb hr (fun t ht hW => ⟨⟨y1, R3, rfl, ⟨(by first | omega | decide), hI2, (by rw [if_pos (by omega), eR3, ey1, ey0])⟩, by rw [ht]; exact hP9, hD9⟩, hS.F ht⟩) hS.2.2 dX4_earn_59
        · have i_11 : 9999 < y1.toInt := z_nle (rfl) (rfl) c_11
          refine lv_ldc (v := (-100003)) hx hb hown (hts _ m_k_RX4_98) dX4_earn_45 ?_
          have : ((-100003) : Int32).toInt = (-100003) := rfl
          have hz : zAearn f3.toInt Z8 p1.toInt p2.toInt = (-100003) := by
            unfold zAearn
            rw [if_neg (by omega), if_pos (by omega)]
          have hP9 := hP.sub (ws' := [(h0, .inr (4, [.ref h1, .ref h2, .int f0, .ref h3, .ref h4, .ref h5, .ref h6, .int f1, .ref h7, .ref h8, .ref h9, .ref h10])), (h1, .inr (0, [.ref h11, .int f2, .ref h12, .int f3, .ref h13, .ref h14, .ref h15, .ref h16, .ref h17, .ref h18, .int f4])), (h11, .inl (zI g, 5, .inl Z5)), (h12, .inl (zI g, 6, .inl Z6)), (h13, .inl (zI g, 5, .inl Z7)), (h14, .inl (zI g, 5, .inl Z8)), (h15, .inl (zI g, 5, .inl Z9)), (h16, .inl (zI g, 20, .inl Z10))]) [0, 7, 1, 2, 3, 4, 5, 6] rfl
          have hD9 := hD.sub (ws' := [(h0, .inr (4, [.ref h1, .ref h2, .int f0, .ref h3, .ref h4, .ref h5, .ref h6, .int f1, .ref h7, .ref h8, .ref h9, .ref h10])), (h1, .inr (0, [.ref h11, .int f2, .ref h12, .int f3, .ref h13, .ref h14, .ref h15, .ref h16, .ref h17, .ref h18, .int f4])), (h11, .inl (zI g, 5, .inl Z5)), (h12, .inl (zI g, 6, .inl Z6)), (h13, .inl (zI g, 5, .inl Z7)), (h14, .inl (zI g, 5, .inl Z8)), (h15, .inl (zI g, 5, .inl Z9)), (h16, .inl (zI g, 20, .inl Z10))]) [0, 7, 1, 2, 3, 4, 5, 6] (by decide) rfl
          exact W.iret (v := (-100003)) hx hb hr (fun t ht hW => ⟨⟨(-100003), Z8, rfl, ⟨(by first | omega | decide), hF_Z8, (by rw [if_neg (by omega)])⟩, by rw [ht]; exact hP9, hD9⟩, hS.F ht⟩) hS.2.2 dX4_earn_47
      · have i_10 : 999 < p2.toInt := z_nle (rfl) (rfl) c_10
        refine lv_ldc (v := (-100001)) hx hb hown (hts _ m_k_RX4_93) dX4_earn_23 ?_
        have : ((-100001) : Int32).toInt = (-100001) := rfl
        have hz : zAearn f3.toInt Z8 p1.toInt p2.toInt = (-100001) := by
          unfold zAearn
          rw [if_pos (by omega)]
        have hP9 := hP.sub (ws' := [(h0, .inr (4, [.ref h1, .ref h2, .int f0, .ref h3, .ref h4, .ref h5, .ref h6, .int f1, .ref h7, .ref h8, .ref h9, .ref h10])), (h1, .inr (0, [.ref h11, .int f2, .ref h12, .int f3, .ref h13, .ref h14, .ref h15, .ref h16, .ref h17, .ref h18, .int f4])), (h11, .inl (zI g, 5, .inl Z5)), (h12, .inl (zI g, 6, .inl Z6)), (h13, .inl (zI g, 5, .inl Z7)), (h14, .inl (zI g, 5, .inl Z8)), (h15, .inl (zI g, 5, .inl Z9)), (h16, .inl (zI g, 20, .inl Z10))]) [0, 7, 1, 2, 3, 4, 5, 6] rfl
        have hD9 := hD.sub (ws' := [(h0, .inr (4, [.ref h1, .ref h2, .int f0, .ref h3, .ref h4, .ref h5, .ref h6, .int f1, .ref h7, .ref h8, .ref h9, .ref h10])), (h1, .inr (0, [.ref h11, .int f2, .ref h12, .int f3, .ref h13, .ref h14, .ref h15, .ref h16, .ref h17, .ref h18, .int f4])), (h11, .inl (zI g, 5, .inl Z5)), (h12, .inl (zI g, 6, .inl Z6)), (h13, .inl (zI g, 5, .inl Z7)), (h14, .inl (zI g, 5, .inl Z8)), (h15, .inl (zI g, 5, .inl Z9)), (h16, .inl (zI g, 20, .inl Z10))]) [0, 7, 1, 2, 3, 4, 5, 6] (by decide) rfl
        exact W.iret (v := (-100001)) hx hb hr (fun t ht hW => ⟨⟨(-100001), Z8, rfl, ⟨(by first | omega | decide), hF_Z8, (by rw [if_neg (by omega)])⟩, by rw [ht]; exact hP9, hD9⟩, hS.F ht⟩) hS.2.2 dX4_earn_25
set_option maxHeartbeats 8000000 in
set_option maxRecDepth 100000 in
theorem gX2_openSealed (l : Launch) (g : zG) (h0 h1 h2 h3 h4 h5 h6 h7 h8 h9 h10 h11 h12 h13 h14 h15 h16 h17 h18 h19 : Nat) (sz : Nat) (p2 : Int32) (f0 : Int32) (f1 : Int32) (f2 : Int32) (f3 : Int32) (f4 : Int32) (Z0 : Nat → Int32) (Z1 : Nat → Int32) (Z2 : Nat → Int32) (Z4 : Nat → Int32) (Z5 : Nat → Int32) (Z6 : Nat → Int32) (Z7 : Nat → Int32) (Z10 : Nat → Int32) (Z11 : Nat → Int32) (Z12 : Nat → Int32) (Z15 : Nat → Int32) (hp0 : 0 ≤ p2.toInt) (hp1 : p2.toInt ≤ 5) (hf_f2 : 0 ≤ f2.toInt ∧ f2.toInt ≤ 6) (hf_f3 : 0 ≤ f3.toInt ∧ f3.toInt ≤ 5) (hf_f4 : 0 ≤ f4.toInt ∧ f4.toInt ≤ 9999) (hF_Z0 : iMa Z0) (hF_Z1 : iPu Z1) (hF_Z2 : iHd Z2) (hF_Z4 : iLm Z4) (hF_Z5 : iMo Z5) (hF_Z10 : iLaw Z10) (hF_Z11 : iKd Z11) (hF_Z12 : iSo Z12) (hF_Z15 : iWo Z15) : Met l yX2_openSealed (.code yX2_openSealed cX2_openSealed 5 none :: zBig) ({ frames := 3, cells := 0, slots := 0, locals := 67 }) (va_Pc [.ref h0, .ref h1, .int p2] (zPre g [(h0, .inr (2, [.ref h2, .ref h3, .ref h4, .ref h5, .ref h6, .ref h7, .int f0, .int f1, .ref h8, .ref h9, .ref h10, .ref h11])), (h1, .inr (0, [.ref h12, .int f2, .ref h13, .int f3, .ref h14, .ref h15, .ref h16, .ref h17, .ref h18, .ref h19, .int f4])), (h2, .inl (zI g, 5, .inl Z0)), (h3, .inl (zI g, 5, .inl Z1)), (h4, .inl (zI g, 5, .inl Z2)), (h6, .inl (zI g, 5, .inl Z4)), (h7, .inl (zI g, 5, .inl Z5)), (h8, .inl (zI g, 6, .inl Z6)), (h9, .inl (zI g, 6, .inl Z7)), (h12, .inl (zI g, 5, .inl Z10)), (h13, .inl (zI g, 6, .inl Z11)), (h14, .inl (zI g, 5, .inl Z12)), (h17, .inl (zI g, 20, .inl Z15))] sz)) (va_Qv (fun u : Int32 × Int32 × (Nat → Int32) × (Nat → Int32) × (Nat → Int32) × (Nat → Int32) => ((u.2.2.2.2.1 p2.toNatClampNeg).toInt = (zSea Z10 f3.toInt Z12 Z15 (zRw f3.toInt Z0) ((Z11 p2.toNatClampNeg).toInt) (zRw f3.toInt Z1) (zRw f3.toInt Z2)).1 ∧ (0 ≤ (zSea Z10 f3.toInt Z12 Z15 (zRw f3.toInt Z0) ((Z11 p2.toNatClampNeg).toInt) (zRw f3.toInt Z1) (zRw f3.toInt Z2)).1 → (u.2.2.2.2.2 p2.toNatClampNeg).toInt = (zSea Z10 f3.toInt Z12 Z15 (zRw f3.toInt Z0) ((Z11 p2.toNatClampNeg).toInt) (zRw f3.toInt Z1) (zRw f3.toInt Z2)).2)) ∧ iLm u.2.2.1 ∧ iMo u.2.2.2.1 ∧ zNr p2.toInt Z6 u.2.2.2.2.1 ∧ zNr p2.toInt Z7 u.2.2.2.2.2) (zPost g (fun u : Int32 × Int32 × (Nat → Int32) × (Nat → Int32) × (Nat → Int32) × (Nat → Int32) => [(h0, .inr (2, [.ref h2, .ref h3, .ref h4, .ref h5, .ref h6, .ref h7, .int u.1, .int u.2.1, .ref h8, .ref h9, .ref h10, .ref h11])), (h1, .inr (0, [.ref h12, .int f2, .ref h13, .int f3, .ref h14, .ref h15, .ref h16, .ref h17, .ref h18, .ref h19, .int f4])), (h2, .inl (zI g, 5, .inl Z0)), (h3, .inl (zI g, 5, .inl Z1)), (h4, .inl (zI g, 5, .inl Z2)), (h6, .inl (zI g, 5, .inl u.2.2.1)), (h7, .inl (zI g, 5, .inl u.2.2.2.1)), (h8, .inl (zI g, 6, .inl u.2.2.2.2.1)), (h9, .inl (zI g, 6, .inl u.2.2.2.2.2)), (h12, .inl (zI g, 5, .inl Z10)), (h13, .inl (zI g, 6, .inl Z11)), (h14, .inl (zI g, 5, .inl Z12)), (h17, .inl (zI g, 20, .inl Z15))]) (va_A [(h0, .inr (2, [.ref h2, .ref h3, .ref h4, .ref h5, .ref h6, .ref h7, .int f0, .int f1, .ref h8, .ref h9, .ref h10, .ref h11])), (h1, .inr (0, [.ref h12, .int f2, .ref h13, .int f3, .ref h14, .ref h15, .ref h16, .ref h17, .ref h18, .ref h19, .int f4])), (h2, .inl (zI g, 5, .inl Z0)), (h3, .inl (zI g, 5, .inl Z1)), (h4, .inl (zI g, 5, .inl Z2)), (h6, .inl (zI g, 5, .inl Z4)), (h7, .inl (zI g, 5, .inl Z5)), (h8, .inl (zI g, 6, .inl Z6)), (h9, .inl (zI g, 6, .inl Z7)), (h12, .inl (zI g, 5, .inl Z10)), (h13, .inl (zI g, 6, .inl Z11)), (h14, .inl (zI g, 5, .inl Z12)), (h17, .inl (zI g, 20, .inl Z15))] sz)) (va_A [(h0, .inr (2, [.ref h2, .ref h3, .ref h4, .ref h5, .ref h6, .ref h7, .int f0, .int f1, .ref h8, .ref h9, .ref h10, .ref h11])), (h1, .inr (0, [.ref h12, .int f2, .ref h13, .int f3, .ref h14, .ref h15, .ref h16, .ref h17, .ref h18, .ref h19, .int f4])), (h2, .inl (zI g, 5, .inl Z0)), (h3, .inl (zI g, 5, .inl Z1)), (h4, .inl (zI g, 5, .inl Z2)), (h6, .inl (zI g, 5, .inl Z4)), (h7, .inl (zI g, 5, .inl Z5)), (h8, .inl (zI g, 6, .inl Z6)), (h9, .inl (zI g, 6, .inl Z7)), (h12, .inl (zI g, 5, .inl Z10)), (h13, .inl (zI g, 6, .inl Z11)), (h14, .inl (zI g, 5, .inl Z12)), (h17, .inl (zI g, 20, .inl Z15))] sz)) 0 0 (va_A [(h0, .inr (2, [.ref h2, .ref h3, .ref h4, .ref h5, .ref h6, .ref h7, .int f0, .int f1, .ref h8, .ref h9, .ref h10, .ref h11])), (h1, .inr (0, [.ref h12, .int f2, .ref h13, .int f3, .ref h14, .ref h15, .ref h16, .ref h17, .ref h18, .ref h19, .int f4])), (h2, .inl (zI g, 5, .inl Z0)), (h3, .inl (zI g, 5, .inl Z1)), (h4, .inl (zI g, 5, .inl Z2)), (h6, .inl (zI g, 5, .inl Z4)), (h7, .inl (zI g, 5, .inl Z5)), (h8, .inl (zI g, 6, .inl Z6)), (h9, .inl (zI g, 6, .inl Z7)), (h12, .inl (zI g, 5, .inl Z10)), (h13, .inl (zI g, 6, .inl Z11)), (h14, .inl (zI g, 5, .inl Z12)), (h17, .inl (zI g, 20, .inl Z15))] sz) := by
  refine zMetV rfl (Nat.le_of_ble_eq_true rfl) ?_
  intro p e s m args below meth c A ls hx hb hml hr hlocks hin hown hts hK hN hZ hP hD hA hS hAe hl
  have hown : s.vm.findClass RX2 = some m.cls := hown
  have hl : lv_has ls 5 [(0, .ref h0), (1, .ref h1), (2, .int p2)] := hl
  have hI0 : zNr p2.toInt Z6 Z6 := zNr_0
  have hI1 : zNr p2.toInt Z7 Z7 := zNr_0
  refine lv_iload_n hx hb dX2_openSealed_0 rfl (lv_at hl 2 rfl) ?_
  refine lv_if_lt (tgt := 10) hx hb dX2_openSealed_1 (by decide) (fun c_0 => absurd (show p2.toInt < 0 from z_lt (rfl) (rfl) c_0) (by omega)) (fun c_0 => ?_)
  have i_0 : 0 ≤ p2.toInt := z_nlt (rfl) (rfl) c_0
  refine lv_iload_n hx hb dX2_openSealed_4 rfl (lv_at hl 2 rfl) ?_
  refine lv_bipush (v := 6) hx hb dX2_openSealed_5 (by decide) ?_
  refine lv_icmp_lt (tgt := 11) hx hb dX2_openSealed_7 (by decide) (fun c_1 => ?_) (fun c_1 => absurd (show 6 ≤ p2.toInt from z_nlt (rfl) (rfl) c_1) (by omega))
  have i_1 : p2.toInt < 6 := z_lt (rfl) (rfl) c_1
  refine lv_aload_n hx hb dX2_openSealed_11 rfl (lv_at hl 0 rfl) ?_
  refine lv_aload_n hx hb dX2_openSealed_12 rfl (lv_at hl 1 rfl) ?_
  refine lv_aload_n hx hb dX2_openSealed_13 rfl (lv_at hl 1 rfl) ?_
  refine va_getN (D := g.1) (ci := 0) (v := .ref h13) (C := RX0) (T := TX0) (N := 11) hx hb hts zl_X0 hown hK hP 1 rfl rfl 2 (by decide) (hN.f 5 (q := (RX2, 97, "FishSteps$Books", "kind", "[I")) rfl) (fun _ h => h) rfl dX2_openSealed_14 ?_
  refine lv_iload_n hx hb dX2_openSealed_17 rfl (lv_at hl 2 rfl) ?_
  refine va_iald (D := g.1) hx hb hK hP 10 0 rfl rfl (vp_in_iff.mpr ⟨by omega, by omega⟩) dX2_openSealed_18 ?_
  refine lv_topi (fun y2 ey2 => ?_)
  have qy2_0 : 0 ≤ y2.toInt := (iKd_at (i := p2) (a := p2.toInt) hF_Z11 (rfl) (by omega) (by omega) ey2).1
  have qy2_1 : y2.toInt ≤ 3 := (iKd_at (i := p2) (a := p2.toInt) hF_Z11 (rfl) (by omega) (by omega) ey2).2
  have qy2_2 : y2.toInt = (Z11 p2.toNatClampNeg).toInt := congrArg Int32.toInt ey2
  refine z_callv (wr := [(h8, .inl (zI g, 6, .inl Z6)), (h9, .inl (zI g, 6, .inl Z7)), (h13, .inl (zI g, 6, .inl Z11))]) hP hD hS hA [0, 1, 2, 3, 4, 5, 6, 9, 11, 12] [7, 8, 10] (by decide) rfl rfl (by decide) (va_runV (As := [.ref h1, .int y2]) (rest := []) ⟨hx, hb, hml, hown, hts⟩ (gX2_ready l g h0 h1 h2 h3 h4 h5 h6 h7 h8 h9 h10 h11 h12 h13 h14 h15 h16 h17 h18 h19 s.heap.size y2 f0 f1 f2 f3 f4 Z0 Z1 Z2 Z4 Z5 Z10 Z12 Z15 (by constructor <;> omega) (by constructor <;> omega) (by constructor <;> omega) hF_Z0 hF_Z1 hF_Z2 hF_Z4 hF_Z5 hF_Z10 hF_Z12 hF_Z15) ⟨callB_of 2 hts (zGood m_o_yX2_ready) rfl rfl rfl (hts _ m_z_RX2) (hts _ m_m_RX2_100) ⟨by decide +kernel, by decide +kernel, by decide +kernel⟩ ⟨Nat.le_of_ble_eq_true rfl, Nat.le_of_ble_eq_true rfl⟩, hts _ m_i_yX2_ready, hts _ m_e_yX2_ready⟩ (zPreV hK hN hZ hP hD hS hA [0, 1, 2, 3, 4, 5, 6, 9, 11, 12] (by decide) rfl rfl 2 0 rfl rfl) rfl rfl hl.1 rfl (lv_room (Nat.le_of_ble_eq_true rfl)) dX2_openSealed_19 ⟨Nat.le_of_ble_eq_true rfl, Nat.le_of_ble_eq_true rfl⟩) (fun u H locs hw hP hD hS => ?_)
  obtain ⟨w3, w4, R5, R6⟩ := u
  obtain ⟨hw, hI7, hI8⟩ := hw
  have q9_0 := hw
  have q9_0 : w3.toInt = zS5 (zRm f3.toInt Z12 (zRw f3.toInt Z2)) := q9_0
  have hP : va_P g.1 vwCl [(h8, .inl (zI g, 6, .inl Z6)), (h9, .inl (zI g, 6, .inl Z7)), (h13, .inl (zI g, 6, .inl Z11)), (h0, .inr (2, [.ref h2, .ref h3, .ref h4, .ref h5, .ref h6, .ref h7, .int w3, .int w4, .ref h8, .ref h9, .ref h10, .ref h11])), (h1, .inr (0, [.ref h12, .int f2, .ref h13, .int f3, .ref h14, .ref h15, .ref h16, .ref h17, .ref h18, .ref h19, .int f4])), (h2, .inl (zI g, 5, .inl Z0)), (h3, .inl (zI g, 5, .inl Z1)), (h4, .inl (zI g, 5, .inl Z2)), (h6, .inl (zI g, 5, .inl R5)), (h7, .inl (zI g, 5, .inl R6)), (h12, .inl (zI g, 5, .inl Z10)), (h14, .inl (zI g, 5, .inl Z12)), (h17, .inl (zI g, 20, .inl Z15))] H := hP
  have hD : va_D A [(h8, .inl (zI g, 6, .inl Z6)), (h9, .inl (zI g, 6, .inl Z7)), (h13, .inl (zI g, 6, .inl Z11)), (h0, .inr (2, [.ref h2, .ref h3, .ref h4, .ref h5, .ref h6, .ref h7, .int w3, .int w4, .ref h8, .ref h9, .ref h10, .ref h11])), (h1, .inr (0, [.ref h12, .int f2, .ref h13, .int f3, .ref h14, .ref h15, .ref h16, .ref h17, .ref h18, .ref h19, .int f4])), (h2, .inl (zI g, 5, .inl Z0)), (h3, .inl (zI g, 5, .inl Z1)), (h4, .inl (zI g, 5, .inl Z2)), (h6, .inl (zI g, 5, .inl R5)), (h7, .inl (zI g, 5, .inl R6)), (h12, .inl (zI g, 5, .inl Z10)), (h14, .inl (zI g, 5, .inl Z12)), (h17, .inl (zI g, 20, .inl Z15))] := hD
  have hkk1 : y2.toInt = ((Z11 p2.toNatClampNeg).toInt) := by omega
  have hopn : w3.toInt = zS5 (zRm f3.toInt Z12 (zRw f3.toInt Z2)) := by omega
  have hmn : zRw f3.toInt R6 = (zMon Z10 f3.toInt Z12 (zRw f3.toInt Z1)) := hI8.2
  have hlm : zRw f3.toInt R5 = (zLim f3.toInt Z12 Z15 (zRw f3.toInt Z0) ((Z11 p2.toNatClampNeg).toInt)) := by
    rw [← hkk1]
    exact hI7.2
  refine lv_aload_n hx hb dX2_openSealed_22 rfl (lv_at hl 0 rfl) ?_
  refine va_get (D := g.1) (ci := 2) (v := .ref h8) (C := RX2) (T := TX2) (N := 12) hx hb hts zl_X2 hown hK hP 3 rfl rfl 8 (by decide) (hts _ m_f_RX2_37) (fun _ h => h) rfl dX2_openSealed_23 ?_
  refine lv_iload_n hx hb dX2_openSealed_26 rfl (lv_at hl 2 rfl) ?_
  refine lv_iconst (v := (-1)) hx hb dX2_openSealed_27 (by decide) ?_
  refine va_iast (D := g.1) hx hb hK hP hD hS 0 0 rfl rfl (vp_in_iff.mpr ⟨by omega, by omega⟩) dX2_openSealed_28 (fun H locs hP hD hS => ?_)
  have hP : va_P g.1 vwCl [(h8, .inl (zI g, 6, .inl (upd Z6 p2.toNatClampNeg (-1)))), (h9, .inl (zI g, 6, .inl Z7)), (h13, .inl (zI g, 6, .inl Z11)), (h0, .inr (2, [.ref h2, .ref h3, .ref h4, .ref h5, .ref h6, .ref h7, .int w3, .int w4, .ref h8, .ref h9, .ref h10, .ref h11])), (h1, .inr (0, [.ref h12, .int f2, .ref h13, .int f3, .ref h14, .ref h15, .ref h16, .ref h17, .ref h18, .ref h19, .int f4])), (h2, .inl (zI g, 5, .inl Z0)), (h3, .inl (zI g, 5, .inl Z1)), (h4, .inl (zI g, 5, .inl Z2)), (h6, .inl (zI g, 5, .inl R5)), (h7, .inl (zI g, 5, .inl R6)), (h12, .inl (zI g, 5, .inl Z10)), (h14, .inl (zI g, 5, .inl Z12)), (h17, .inl (zI g, 20, .inl Z15))] H := hP
  have hD : va_D A [(h8, .inl (zI g, 6, .inl (upd Z6 p2.toNatClampNeg (-1)))), (h9, .inl (zI g, 6, .inl Z7)), (h13, .inl (zI g, 6, .inl Z11)), (h0, .inr (2, [.ref h2, .ref h3, .ref h4, .ref h5, .ref h6, .ref h7, .int w3, .int w4, .ref h8, .ref h9, .ref h10, .ref h11])), (h1, .inr (0, [.ref h12, .int f2, .ref h13, .int f3, .ref h14, .ref h15, .ref h16, .ref h17, .ref h18, .ref h19, .int f4])), (h2, .inl (zI g, 5, .inl Z0)), (h3, .inl (zI g, 5, .inl Z1)), (h4, .inl (zI g, 5, .inl Z2)), (h6, .inl (zI g, 5, .inl R5)), (h7, .inl (zI g, 5, .inl R6)), (h12, .inl (zI g, 5, .inl Z10)), (h14, .inl (zI g, 5, .inl Z12)), (h17, .inl (zI g, 20, .inl Z15))] := hD
  have hI10 : zNr p2.toInt Z6 (upd Z6 p2.toNatClampNeg (-1)) := zNr_put (i := p2) hI0 (rfl) (by omega)
  obtain ⟨R11, eR11⟩ : ∃ z : Nat → Int32, z = (upd Z6 p2.toNatClampNeg (-1)) := ⟨_, rfl⟩
  rw [← eR11] at hP hD hI10
  have : ((-1) : Int32).toInt = (-1) := rfl
  have qR11 : (R11 p2.toNatClampNeg).toInt = (-1) := z_put eR11 (rfl)
  refine lv_aload_n hx hb dX2_openSealed_29 rfl (lv_at hl 0 rfl) ?_
  refine va_get (D := g.1) (ci := 2) (v := .ref h9) (C := RX2) (T := TX2) (N := 12) hx hb hts zl_X2 hown hK hP 3 rfl rfl 9 (by decide) (hts _ m_f_RX2_40) (fun _ h => h) rfl dX2_openSealed_30 ?_
  refine lv_iload_n hx hb dX2_openSealed_33 rfl (lv_at hl 2 rfl) ?_
  refine lv_aload_n hx hb dX2_openSealed_34 rfl (lv_at hl 1 rfl) ?_
  refine va_getN (D := g.1) (ci := 0) (v := .ref h12) (C := RX0) (T := TX0) (N := 11) hx hb hts zl_X0 hown hK hP 4 rfl rfl 0 (by decide) (hN.f 2 (q := (RX2, 107, "FishSteps$Books", "law", "[I")) rfl) (fun _ h => h) rfl dX2_openSealed_35 ?_
  refine lv_iconst (v := 2) hx hb dX2_openSealed_38 (by decide) ?_
  refine va_iald (D := g.1) hx hb hK hP 10 0 rfl rfl (vp_in_iff.mpr (by decide +kernel)) dX2_openSealed_39 ?_
  refine lv_topi (fun y12 ey12 => ?_)
  have qy12_0 : 0 ≤ y12.toInt := (iLaw_n (lo := 0) (hi := 99) (i := (2 : Int32)) (a := 2) hF_Z10 (rfl) (by omega) (by omega) ey12 (by decide) (by decide)).1
  have qy12_1 : y12.toInt ≤ 99 := (iLaw_n (lo := 0) (hi := 99) (i := (2 : Int32)) (a := 2) hF_Z10 (rfl) (by omega) (by omega) ey12 (by decide) (by decide)).2
  have qy12_2 : y12.toInt = (Z10 2).toInt := congrArg Int32.toInt ey12
  refine va_iast (D := g.1) hx hb hK hP hD hS 1 0 rfl rfl (vp_in_iff.mpr ⟨by omega, by omega⟩) dX2_openSealed_40 (fun H locs hP hD hS => ?_)
  have hP : va_P g.1 vwCl [(h8, .inl (zI g, 6, .inl R11)), (h9, .inl (zI g, 6, .inl (upd Z7 p2.toNatClampNeg y12))), (h13, .inl (zI g, 6, .inl Z11)), (h0, .inr (2, [.ref h2, .ref h3, .ref h4, .ref h5, .ref h6, .ref h7, .int w3, .int w4, .ref h8, .ref h9, .ref h10, .ref h11])), (h1, .inr (0, [.ref h12, .int f2, .ref h13, .int f3, .ref h14, .ref h15, .ref h16, .ref h17, .ref h18, .ref h19, .int f4])), (h2, .inl (zI g, 5, .inl Z0)), (h3, .inl (zI g, 5, .inl Z1)), (h4, .inl (zI g, 5, .inl Z2)), (h6, .inl (zI g, 5, .inl R5)), (h7, .inl (zI g, 5, .inl R6)), (h12, .inl (zI g, 5, .inl Z10)), (h14, .inl (zI g, 5, .inl Z12)), (h17, .inl (zI g, 20, .inl Z15))] H := hP
  have hD : va_D A [(h8, .inl (zI g, 6, .inl R11)), (h9, .inl (zI g, 6, .inl (upd Z7 p2.toNatClampNeg y12))), (h13, .inl (zI g, 6, .inl Z11)), (h0, .inr (2, [.ref h2, .ref h3, .ref h4, .ref h5, .ref h6, .ref h7, .int w3, .int w4, .ref h8, .ref h9, .ref h10, .ref h11])), (h1, .inr (0, [.ref h12, .int f2, .ref h13, .int f3, .ref h14, .ref h15, .ref h16, .ref h17, .ref h18, .ref h19, .int f4])), (h2, .inl (zI g, 5, .inl Z0)), (h3, .inl (zI g, 5, .inl Z1)), (h4, .inl (zI g, 5, .inl Z2)), (h6, .inl (zI g, 5, .inl R5)), (h7, .inl (zI g, 5, .inl R6)), (h12, .inl (zI g, 5, .inl Z10)), (h14, .inl (zI g, 5, .inl Z12)), (h17, .inl (zI g, 20, .inl Z15))] := hD
  have hI13 : zNr p2.toInt Z7 (upd Z7 p2.toNatClampNeg y12) := zNr_put (i := p2) hI1 (rfl) (by omega)
  obtain ⟨R14, eR14⟩ : ∃ z : Nat → Int32, z = (upd Z7 p2.toNatClampNeg y12) := ⟨_, rfl⟩
  rw [← eR14] at hP hD hI13
  have qR14 : (R14 p2.toNatClampNeg).toInt = y12.toInt := z_put eR14 (rfl)
  have ht0_0 : (zSl (zRm f3.toInt Z12 (zRw f3.toInt Z2)) (zLim f3.toInt Z12 Z15 (zRw f3.toInt Z0) ((Z11 p2.toNatClampNeg).toInt)) (zMon Z10 f3.toInt Z12 (zRw f3.toInt Z1)) (Z10 2).toInt (0 : Int32).toInt.toNat).1 = -1 := rfl
  have ht0_1 : (zSl (zRm f3.toInt Z12 (zRw f3.toInt Z2)) (zLim f3.toInt Z12 Z15 (zRw f3.toInt Z0) ((Z11 p2.toNatClampNeg).toInt)) (zMon Z10 f3.toInt Z12 (zRw f3.toInt Z1)) (Z10 2).toInt (0 : Int32).toInt.toNat).2 = (Z10 2).toInt := rfl
  refine lv_iconst (v := 0) hx hb dX2_openSealed_41 (by decide) ?_
  refine lv_istore_n (lv' := [(3, .int 0), (0, .ref h0), (1, .ref h1), (2, .int p2)]) hx hb dX2_openSealed_42 rfl hl (by decide) rfl (fun ls hl => ?_)
  have loop43_2 : ∀ (n3 : Nat) (v3_2 : Int32) (G0_2 : Nat → Int32) (G1_2 : Nat → Int32) (hG0_2 : zNr p2.toInt Z6 G0_2) (hG1_2 : zNr p2.toInt Z7 G1_2) (n3_0 : 0 ≤ v3_2.toInt) (n3_1 : v3_2.toInt ≤ 5) (n3_2 : -1 ≤ (G0_2 p2.toNatClampNeg).toInt) (n3_3 : (G0_2 p2.toNatClampNeg).toInt ≤ 4) (n3_4 : 0 ≤ (G1_2 p2.toNatClampNeg).toInt) (n3_5 : (G1_2 p2.toNatClampNeg).toInt ≤ 99) (n3_6 : (G0_2 p2.toNatClampNeg).toInt = (zSl (zRm f3.toInt Z12 (zRw f3.toInt Z2)) (zLim f3.toInt Z12 Z15 (zRw f3.toInt Z0) ((Z11 p2.toNatClampNeg).toInt)) (zMon Z10 f3.toInt Z12 (zRw f3.toInt Z1)) (Z10 2).toInt v3_2.toInt.toNat).1) (n3_7 : (G1_2 p2.toNatClampNeg).toInt = (zSl (zRm f3.toInt Z12 (zRw f3.toInt Z2)) (zLim f3.toInt Z12 Z15 (zRw f3.toInt Z0) ((Z11 p2.toNatClampNeg).toInt)) (zMon Z10 f3.toInt Z12 (zRw f3.toInt Z1)) (Z10 2).toInt v3_2.toInt.toNat).2) (hm3 : 5 - v3_2.toInt < (n3 : Int)) (H : Heap) (locs : List Loc), va_P g.1 vwCl [(h8, .inl (zI g, 6, .inl G0_2)), (h9, .inl (zI g, 6, .inl G1_2)), (h13, .inl (zI g, 6, .inl Z11)), (h0, .inr (2, [.ref h2, .ref h3, .ref h4, .ref h5, .ref h6, .ref h7, .int w3, .int w4, .ref h8, .ref h9, .ref h10, .ref h11])), (h1, .inr (0, [.ref h12, .int f2, .ref h13, .int f3, .ref h14, .ref h15, .ref h16, .ref h17, .ref h18, .ref h19, .int f4])), (h2, .inl (zI g, 5, .inl Z0)), (h3, .inl (zI g, 5, .inl Z1)), (h4, .inl (zI g, 5, .inl Z2)), (h6, .inl (zI g, 5, .inl R5)), (h7, .inl (zI g, 5, .inl R6)), (h12, .inl (zI g, 5, .inl Z10)), (h14, .inl (zI g, 5, .inl Z12)), (h17, .inl (zI g, 20, .inl Z15))] H → va_D A [(h8, .inl (zI g, 6, .inl G0_2)), (h9, .inl (zI g, 6, .inl G1_2)), (h13, .inl (zI g, 6, .inl Z11)), (h0, .inr (2, [.ref h2, .ref h3, .ref h4, .ref h5, .ref h6, .ref h7, .int w3, .int w4, .ref h8, .ref h9, .ref h10, .ref h11])), (h1, .inr (0, [.ref h12, .int f2, .ref h13, .int f3, .ref h14, .ref h15, .ref h16, .ref h17, .ref h18, .ref h19, .int f4])), (h2, .inl (zI g, 5, .inl Z0)), (h3, .inl (zI g, 5, .inl Z1)), (h4, .inl (zI g, 5, .inl Z2)), (h6, .inl (zI g, 5, .inl R5)), (h7, .inl (zI g, 5, .inl R6)), (h12, .inl (zI g, 5, .inl Z10)), (h14, .inl (zI g, 5, .inl Z12)), (h17, .inl (zI g, 20, .inl Z15))] → va_S A s.heap H locs → ∀ (ls : Array Slot), lv_has ls 5 [(0, .ref h0), (1, .ref h1), (2, .int p2), (3, .int v3_2)] → W p l e ({ frames := 3, cells := 0, slots := 0, locals := 67 }) s m args below meth c H locs 0 0 (MQ below (va_Qv (fun u : Int32 × Int32 × (Nat → Int32) × (Nat → Int32) × (Nat → Int32) × (Nat → Int32) => ((u.2.2.2.2.1 p2.toNatClampNeg).toInt = (zSea Z10 f3.toInt Z12 Z15 (zRw f3.toInt Z0) ((Z11 p2.toNatClampNeg).toInt) (zRw f3.toInt Z1) (zRw f3.toInt Z2)).1 ∧ (0 ≤ (zSea Z10 f3.toInt Z12 Z15 (zRw f3.toInt Z0) ((Z11 p2.toNatClampNeg).toInt) (zRw f3.toInt Z1) (zRw f3.toInt Z2)).1 → (u.2.2.2.2.2 p2.toNatClampNeg).toInt = (zSea Z10 f3.toInt Z12 Z15 (zRw f3.toInt Z0) ((Z11 p2.toNatClampNeg).toInt) (zRw f3.toInt Z1) (zRw f3.toInt Z2)).2)) ∧ iLm u.2.2.1 ∧ iMo u.2.2.2.1 ∧ zNr p2.toInt Z6 u.2.2.2.2.1 ∧ zNr p2.toInt Z7 u.2.2.2.2.2) (zPost g (fun u : Int32 × Int32 × (Nat → Int32) × (Nat → Int32) × (Nat → Int32) × (Nat → Int32) => [(h0, .inr (2, [.ref h2, .ref h3, .ref h4, .ref h5, .ref h6, .ref h7, .int u.1, .int u.2.1, .ref h8, .ref h9, .ref h10, .ref h11])), (h1, .inr (0, [.ref h12, .int f2, .ref h13, .int f3, .ref h14, .ref h15, .ref h16, .ref h17, .ref h18, .ref h19, .int f4])), (h2, .inl (zI g, 5, .inl Z0)), (h3, .inl (zI g, 5, .inl Z1)), (h4, .inl (zI g, 5, .inl Z2)), (h6, .inl (zI g, 5, .inl u.2.2.1)), (h7, .inl (zI g, 5, .inl u.2.2.2.1)), (h8, .inl (zI g, 6, .inl u.2.2.2.2.1)), (h9, .inl (zI g, 6, .inl u.2.2.2.2.2)), (h12, .inl (zI g, 5, .inl Z10)), (h13, .inl (zI g, 6, .inl Z11)), (h14, .inl (zI g, 5, .inl Z12)), (h17, .inl (zI g, 20, .inl Z15))]) A) A) args s 0 0 A) (F0 m 43 ls []) := by
    intro n3
    induction n3 with
    | zero => intro v3_2 G0_2 G1_2 hG0_2 hG1_2 n3_0 n3_1 n3_2 n3_3 n3_4 n3_5 n3_6 n3_7 hm3; exfalso; omega
    | succ n3 ih3 =>
      intro v3_2 G0_2 G1_2 hG0_2 hG1_2 n3_0 n3_1 n3_2 n3_3 n3_4 n3_5 n3_6 n3_7 hm3 H locs hP hD hS ls hl
      refine lv_iload_n hx hb dX2_openSealed_43 rfl (lv_at hl 3 rfl) ?_
      refine lv_iconst (v := 5) hx hb dX2_openSealed_44 (by decide) ?_
      refine lv_icmp_ge (tgt := 158) hx hb dX2_openSealed_45 (by decide) (fun c_3 => ?_) (fun c_3 => ?_)
      · have i_3 : 5 ≤ v3_2.toInt := z_le (rfl) (rfl) c_3
        have h5_0 : (zSl (zRm f3.toInt Z12 (zRw f3.toInt Z2)) (zLim f3.toInt Z12 Z15 (zRw f3.toInt Z0) ((Z11 p2.toNatClampNeg).toInt)) (zMon Z10 f3.toInt Z12 (zRw f3.toInt Z1)) (Z10 2).toInt 5).1 = (zSl (zRm f3.toInt Z12 (zRw f3.toInt Z2)) (zLim f3.toInt Z12 Z15 (zRw f3.toInt Z0) ((Z11 p2.toNatClampNeg).toInt)) (zMon Z10 f3.toInt Z12 (zRw f3.toInt Z1)) (Z10 2).toInt v3_2.toInt.toNat).1 := by rw [(by omega : v3_2.toInt.toNat = 5)]
        have h5_1 : (zSl (zRm f3.toInt Z12 (zRw f3.toInt Z2)) (zLim f3.toInt Z12 Z15 (zRw f3.toInt Z0) ((Z11 p2.toNatClampNeg).toInt)) (zMon Z10 f3.toInt Z12 (zRw f3.toInt Z1)) (Z10 2).toInt 5).2 = (zSl (zRm f3.toInt Z12 (zRw f3.toInt Z2)) (zLim f3.toInt Z12 Z15 (zRw f3.toInt Z0) ((Z11 p2.toNatClampNeg).toInt)) (zMon Z10 f3.toInt Z12 (zRw f3.toInt Z1)) (Z10 2).toInt v3_2.toInt.toNat).2 := by rw [(by omega : v3_2.toInt.toNat = 5)]
        have hr1 : (zSea Z10 f3.toInt Z12 Z15 (zRw f3.toInt Z0) ((Z11 p2.toNatClampNeg).toInt) (zRw f3.toInt Z1) (zRw f3.toInt Z2)).1 = (zSl (zRm f3.toInt Z12 (zRw f3.toInt Z2)) (zLim f3.toInt Z12 Z15 (zRw f3.toInt Z0) ((Z11 p2.toNatClampNeg).toInt)) (zMon Z10 f3.toInt Z12 (zRw f3.toInt Z1)) (Z10 2).toInt 5).1 := rfl
        have hr2 : (zSea Z10 f3.toInt Z12 Z15 (zRw f3.toInt Z0) ((Z11 p2.toNatClampNeg).toInt) (zRw f3.toInt Z1) (zRw f3.toInt Z2)).2 = (zSl (zRm f3.toInt Z12 (zRw f3.toInt Z2)) (zLim f3.toInt Z12 Z15 (zRw f3.toInt Z0) ((Z11 p2.toNatClampNeg).toInt)) (zMon Z10 f3.toInt Z12 (zRw f3.toInt Z1)) (Z10 2).toInt 5).2 := rfl
        have hP9 := hP.sub (ws' := [(h0, .inr (2, [.ref h2, .ref h3, .ref h4, .ref h5, .ref h6, .ref h7, .int w3, .int w4, .ref h8, .ref h9, .ref h10, .ref h11])), (h1, .inr (0, [.ref h12, .int f2, .ref h13, .int f3, .ref h14, .ref h15, .ref h16, .ref h17, .ref h18, .ref h19, .int f4])), (h2, .inl (zI g, 5, .inl Z0)), (h3, .inl (zI g, 5, .inl Z1)), (h4, .inl (zI g, 5, .inl Z2)), (h6, .inl (zI g, 5, .inl R5)), (h7, .inl (zI g, 5, .inl R6)), (h8, .inl (zI g, 6, .inl G0_2)), (h9, .inl (zI g, 6, .inl G1_2)), (h12, .inl (zI g, 5, .inl Z10)), (h13, .inl (zI g, 6, .inl Z11)), (h14, .inl (zI g, 5, .inl Z12)), (h17, .inl (zI g, 20, .inl Z15))]) [3, 4, 5, 6, 7, 8, 9, 0, 1, 10, 2, 11, 12] rfl
        have hD9 := hD.sub (ws' := [(h0, .inr (2, [.ref h2, .ref h3, .ref h4, .ref h5, .ref h6, .ref h7, .int w3, .int w4, .ref h8, .ref h9, .ref h10, .ref h11])), (h1, .inr (0, [.ref h12, .int f2, .ref h13, .int f3, .ref h14, .ref h15, .ref h16, .ref h17, .ref h18, .ref h19, .int f4])), (h2, .inl (zI g, 5, .inl Z0)), (h3, .inl (zI g, 5, .inl Z1)), (h4, .inl (zI g, 5, .inl Z2)), (h6, .inl (zI g, 5, .inl R5)), (h7, .inl (zI g, 5, .inl R6)), (h8, .inl (zI g, 6, .inl G0_2)), (h9, .inl (zI g, 6, .inl G1_2)), (h12, .inl (zI g, 5, .inl Z10)), (h13, .inl (zI g, 6, .inl Z11)), (h14, .inl (zI g, 5, .inl Z12)), (h17, .inl (zI g, 20, .inl Z15))]) [3, 4, 5, 6, 7, 8, 9, 0, 1, 10, 2, 11, 12] (by decide) rfl
        exact W.vret hx hb hr (fun t ht hW => ⟨⟨⟨w3, w4, R5, R6, G0_2, G1_2⟩, rfl, ⟨⟨(show (G0_2 p2.toNatClampNeg).toInt = (zSea Z10 f3.toInt Z12 Z15 (zRw f3.toInt Z0) ((Z11 p2.toNatClampNeg).toInt) (zRw f3.toInt Z1) (zRw f3.toInt Z2)).1 from by first | omega | decide), (show (0 ≤ (zSea Z10 f3.toInt Z12 Z15 (zRw f3.toInt Z0) ((Z11 p2.toNatClampNeg).toInt) (zRw f3.toInt Z1) (zRw f3.toInt Z2)).1 → (G1_2 p2.toNatClampNeg).toInt = (zSea Z10 f3.toInt Z12 Z15 (zRw f3.toInt Z0) ((Z11 p2.toNatClampNeg).toInt) (zRw f3.toInt Z1) (zRw f3.toInt Z2)).2) from by first | omega | decide)⟩, hI7.1, hI8.1, hG0_2, hG1_2⟩, by rw [ht]; exact hP9, hD9⟩, hS.F ht⟩) hS.2.2 dX2_openSealed_158
      · have i_3 : v3_2.toInt < 5 := z_nle (rfl) (rfl) c_3
        refine lv_aload_n hx hb dX2_openSealed_48 rfl (lv_at hl 0 rfl) ?_
        refine va_get (D := g.1) (ci := 2) (v := .ref h8) (C := RX2) (T := TX2) (N := 12) hx hb hts zl_X2 hown hK hP 3 rfl rfl 8 (by decide) (hts _ m_f_RX2_37) (fun _ h => h) rfl dX2_openSealed_49 ?_
        refine lv_iload_n hx hb dX2_openSealed_52 rfl (lv_at hl 2 rfl) ?_
        refine va_iald (D := g.1) hx hb hK hP 0 0 rfl rfl (vp_in_iff.mpr ⟨by omega, by omega⟩) dX2_openSealed_53 ?_
        refine lv_topi (fun y15 ey15 => ?_)
        have qy15_0 : y15.toInt = (G0_2 p2.toNatClampNeg).toInt := congrArg Int32.toInt ey15
        refine lv_if_ge (tgt := 80) hx hb dX2_openSealed_54 (by decide) (fun c_4 => ?_) (fun c_4 => ?_)
        · have i_4 : 0 ≤ y15.toInt := z_le (rfl) (rfl) c_4
          refine lv_aload_n hx hb dX2_openSealed_80 rfl (lv_at hl 0 rfl) ?_
          refine va_get (D := g.1) (ci := 2) (v := .ref h6) (C := RX2) (T := TX2) (N := 12) hx hb hts zl_X2 hown hK hP 3 rfl rfl 4 (by decide) (hts _ m_f_RX2_24) (fun _ h => h) rfl dX2_openSealed_81 ?_
          refine lv_iload_n hx hb dX2_openSealed_84 rfl (lv_at hl 3 rfl) ?_
          refine va_iald (D := g.1) hx hb hK hP 8 0 rfl rfl (vp_in_iff.mpr ⟨by omega, by omega⟩) dX2_openSealed_85 ?_
          refine lv_topi (fun y16 ey16 => ?_)
          have qy16_0 : (-40) ≤ y16.toInt := (i_at (N := 5) (lo := (-40)) (hi := 99) (i := v3_2) (a := v3_2.toInt) hI7.1 (rfl) (by omega) (by omega) ey16).1
          have qy16_1 : y16.toInt ≤ 99 := (i_at (N := 5) (lo := (-40)) (hi := 99) (i := v3_2) (a := v3_2.toInt) hI7.1 (rfl) (by omega) (by omega) ey16).2
          have qy16_2 : y16.toInt = (R5 v3_2.toNatClampNeg).toInt := congrArg Int32.toInt ey16
          refine lv_aload_n hx hb dX2_openSealed_86 rfl (lv_at hl 0 rfl) ?_
          refine va_get (D := g.1) (ci := 2) (v := .ref h9) (C := RX2) (T := TX2) (N := 12) hx hb hts zl_X2 hown hK hP 3 rfl rfl 9 (by decide) (hts _ m_f_RX2_40) (fun _ h => h) rfl dX2_openSealed_87 ?_
          refine lv_iload_n hx hb dX2_openSealed_90 rfl (lv_at hl 2 rfl) ?_
          refine va_iald (D := g.1) hx hb hK hP 1 0 rfl rfl (vp_in_iff.mpr ⟨by omega, by omega⟩) dX2_openSealed_91 ?_
          refine lv_topi (fun y17 ey17 => ?_)
          have qy17_0 : y17.toInt = (G1_2 p2.toNatClampNeg).toInt := congrArg Int32.toInt ey17
          refine lv_icmp_le (tgt := 99) hx hb dX2_openSealed_92 (by decide) (fun c_5 => ?_) (fun c_5 => ?_)
          · have i_5 : y16.toInt ≤ y17.toInt := z_le (rfl) (rfl) c_5
            refine lv_iconst (v := 0) hx hb dX2_openSealed_99 (by decide) ?_
            refine lv_istore (lv' := [(4, .int 0), (0, .ref h0), (1, .ref h1), (2, .int p2), (3, .int v3_2)]) hx hb dX2_openSealed_100 hl (by decide) rfl (fun ls hl => ?_)
            refine lv_aload_n hx hb dX2_openSealed_102 rfl (lv_at hl 1 rfl) ?_
            refine va_get (D := g.1) (ci := 2) (v := .int w3) (C := RX2) (T := TX2) (N := 12) hx hb hts zl_X2 hown hK hP 3 rfl rfl 6 (by decide) (hts _ m_f_RX2_30) (fun _ h => h) rfl dX2_openSealed_103 ?_
            refine lv_iload_n hx hb dX2_openSealed_106 rfl (lv_at hl 4 rfl) ?_
            refine z_calli (wr := [(h8, .inl (zI g, 6, .inl G0_2)), (h9, .inl (zI g, 6, .inl G1_2)), (h13, .inl (zI g, 6, .inl Z11)), (h0, .inr (2, [.ref h2, .ref h3, .ref h4, .ref h5, .ref h6, .ref h7, .int w3, .int w4, .ref h8, .ref h9, .ref h10, .ref h11])), (h1, .inr (0, [.ref h12, .int f2, .ref h13, .int f3, .ref h14, .ref h15, .ref h16, .ref h17, .ref h18, .ref h19, .int f4])), (h2, .inl (zI g, 5, .inl Z0)), (h3, .inl (zI g, 5, .inl Z1)), (h4, .inl (zI g, 5, .inl Z2)), (h6, .inl (zI g, 5, .inl R5)), (h7, .inl (zI g, 5, .inl R6)), (h12, .inl (zI g, 5, .inl Z10)), (h14, .inl (zI g, 5, .inl Z12)), (h17, .inl (zI g, 20, .inl Z15))]) hP hD hS hA [] [0, 1, 2, 3, 4, 5, 6, 7, 8, 9, 10, 11, 12] (by decide) rfl rfl (by decide) (va_runS (As := [.int w3, .int v3_2]) (rest := []) ⟨hx, hb, hml, hown, hts⟩ (gX2_isIn l g  H.size w3 v3_2) ⟨callB_of 2 hts (zGood m_o_yX2_isIn) rfl rfl rfl (hts _ m_z_RX2) (hts _ m_m_RX2_93) ⟨by decide +kernel, by decide +kernel, by decide +kernel⟩ ⟨Nat.le_of_ble_eq_true rfl, Nat.le_of_ble_eq_true rfl⟩, hts _ m_s_yX2_isIn⟩ (zPreS hK hN hZ hP hD hS hA [] (by decide) rfl rfl) rfl rfl hl.1 rfl (lv_room (Nat.le_of_ble_eq_true rfl)) dX2_openSealed_107 ⟨Nat.le_of_ble_eq_true rfl, Nat.le_of_ble_eq_true rfl⟩) (fun r u H locs hw hP hD hS => ?_)
            rcases hw with ⟨i_6, rfl⟩ | ⟨i_7, rfl⟩
            · skip
              have i_6 : zbit w3 v3_2 = 1 := i_6
              have hP : va_P g.1 vwCl [(h8, .inl (zI g, 6, .inl G0_2)), (h9, .inl (zI g, 6, .inl G1_2)), (h13, .inl (zI g, 6, .inl Z11)), (h0, .inr (2, [.ref h2, .ref h3, .ref h4, .ref h5, .ref h6, .ref h7, .int w3, .int w4, .ref h8, .ref h9, .ref h10, .ref h11])), (h1, .inr (0, [.ref h12, .int f2, .ref h13, .int f3, .ref h14, .ref h15, .ref h16, .ref h17, .ref h18, .ref h19, .int f4])), (h2, .inl (zI g, 5, .inl Z0)), (h3, .inl (zI g, 5, .inl Z1)), (h4, .inl (zI g, 5, .inl Z2)), (h6, .inl (zI g, 5, .inl R5)), (h7, .inl (zI g, 5, .inl R6)), (h12, .inl (zI g, 5, .inl Z10)), (h14, .inl (zI g, 5, .inl Z12)), (h17, .inl (zI g, 20, .inl Z15))] H := hP
              have hD : va_D A [(h8, .inl (zI g, 6, .inl G0_2)), (h9, .inl (zI g, 6, .inl G1_2)), (h13, .inl (zI g, 6, .inl Z11)), (h0, .inr (2, [.ref h2, .ref h3, .ref h4, .ref h5, .ref h6, .ref h7, .int w3, .int w4, .ref h8, .ref h9, .ref h10, .ref h11])), (h1, .inr (0, [.ref h12, .int f2, .ref h13, .int f3, .ref h14, .ref h15, .ref h16, .ref h17, .ref h18, .ref h19, .int f4])), (h2, .inl (zI g, 5, .inl Z0)), (h3, .inl (zI g, 5, .inl Z1)), (h4, .inl (zI g, 5, .inl Z2)), (h6, .inl (zI g, 5, .inl R5)), (h7, .inl (zI g, 5, .inl R6)), (h12, .inl (zI g, 5, .inl Z10)), (h14, .inl (zI g, 5, .inl Z12)), (h17, .inl (zI g, 20, .inl Z15))] := hD
              refine lv_if_eq (tgt := 152) hx hb dX2_openSealed_110 (by decide) (fun h => absurd h (by decide +kernel)) (fun _ => ?_)
              refine lv_iload hx hb dX2_openSealed_113 (lv_at hl 0 rfl) ?_
              refine lv_if_eq (tgt := 152) hx hb dX2_openSealed_115 (by decide) (fun _ => ?_) (fun h => absurd h (by decide +kernel))
              have hob : (zRm f3.toInt Z12 (zRw f3.toInt Z2)) v3_2.toInt.toNat = zbit w3 v3_2 := (zbit_S zRm_01 hopn (b := v3_2) rfl (by omega) (by omega)).symm
              have hbn := (zRm_n (hob.trans (by omega))).1
              have hmo : (zMon Z10 f3.toInt Z12 (zRw f3.toInt Z1)) v3_2.toInt.toNat = (R6 v3_2.toNatClampNeg).toInt := by rw [← hmn]; exact zRw_at hbn
              have hli : (zLim f3.toInt Z12 Z15 (zRw f3.toInt Z0) ((Z11 p2.toNatClampNeg).toInt)) v3_2.toInt.toNat = (R5 v3_2.toNatClampNeg).toInt := by rw [← hlm]; exact zRw_at hbn
              have ht : (zSl (zRm f3.toInt Z12 (zRw f3.toInt Z2)) (zLim f3.toInt Z12 Z15 (zRw f3.toInt Z0) ((Z11 p2.toNatClampNeg).toInt)) (zMon Z10 f3.toInt Z12 (zRw f3.toInt Z1)) (Z10 2).toInt (v3_2.toInt.toNat + 1)) = (zSl (zRm f3.toInt Z12 (zRw f3.toInt Z2)) (zLim f3.toInt Z12 Z15 (zRw f3.toInt Z0) ((Z11 p2.toNatClampNeg).toInt)) (zMon Z10 f3.toInt Z12 (zRw f3.toInt Z1)) (Z10 2).toInt v3_2.toInt.toNat) := zSl_n (fun q => by have h1 := q.1; have h2 := q.2.1; have h3 := q.2.2; omega)
              have ht_0 : (zSl (zRm f3.toInt Z12 (zRw f3.toInt Z2)) (zLim f3.toInt Z12 Z15 (zRw f3.toInt Z0) ((Z11 p2.toNatClampNeg).toInt)) (zMon Z10 f3.toInt Z12 (zRw f3.toInt Z1)) (Z10 2).toInt (v3_2.toInt.toNat + 1)).1 = (zSl (zRm f3.toInt Z12 (zRw f3.toInt Z2)) (zLim f3.toInt Z12 Z15 (zRw f3.toInt Z0) ((Z11 p2.toNatClampNeg).toInt)) (zMon Z10 f3.toInt Z12 (zRw f3.toInt Z1)) (Z10 2).toInt v3_2.toInt.toNat).1 := by rw [ht]
              have ht_1 : (zSl (zRm f3.toInt Z12 (zRw f3.toInt Z2)) (zLim f3.toInt Z12 Z15 (zRw f3.toInt Z0) ((Z11 p2.toNatClampNeg).toInt)) (zMon Z10 f3.toInt Z12 (zRw f3.toInt Z1)) (Z10 2).toInt (v3_2.toInt.toNat + 1)).2 = (zSl (zRm f3.toInt Z12 (zRw f3.toInt Z2)) (zLim f3.toInt Z12 Z15 (zRw f3.toInt Z0) ((Z11 p2.toNatClampNeg).toInt)) (zMon Z10 f3.toInt Z12 (zRw f3.toInt Z1)) (Z10 2).toInt v3_2.toInt.toNat).2 := by rw [ht]
              obtain ⟨y18, ey18⟩ : ∃ z : Int32, z = v3_2 + 1 := ⟨_, rfl⟩
              have qy18 : y18.toInt = v3_2.toInt + 1 := zi_add ey18 (rfl) rfl (by omega) (by omega)
              refine lv_iinc (v := y18) (lv' := [(3, .int y18), (4, .int 0), (0, .ref h0), (1, .ref h1), (2, .int p2)]) hx hb dX2_openSealed_152 hl (k := 4) rfl ey18.symm (by decide) rfl (fun ls hl => ?_)
              have htb_0 : (zSl (zRm f3.toInt Z12 (zRw f3.toInt Z2)) (zLim f3.toInt Z12 Z15 (zRw f3.toInt Z0) ((Z11 p2.toNatClampNeg).toInt)) (zMon Z10 f3.toInt Z12 (zRw f3.toInt Z1)) (Z10 2).toInt y18.toInt.toNat).1 = (zSl (zRm f3.toInt Z12 (zRw f3.toInt Z2)) (zLim f3.toInt Z12 Z15 (zRw f3.toInt Z0) ((Z11 p2.toNatClampNeg).toInt)) (zMon Z10 f3.toInt Z12 (zRw f3.toInt Z1)) (Z10 2).toInt (v3_2.toInt.toNat + 1)).1 := by rw [(by omega : y18.toInt.toNat = v3_2.toInt.toNat + 1)]
              have htb_1 : (zSl (zRm f3.toInt Z12 (zRw f3.toInt Z2)) (zLim f3.toInt Z12 Z15 (zRw f3.toInt Z0) ((Z11 p2.toNatClampNeg).toInt)) (zMon Z10 f3.toInt Z12 (zRw f3.toInt Z1)) (Z10 2).toInt y18.toInt.toNat).2 = (zSl (zRm f3.toInt Z12 (zRw f3.toInt Z2)) (zLim f3.toInt Z12 Z15 (zRw f3.toInt Z0) ((Z11 p2.toNatClampNeg).toInt)) (zMon Z10 f3.toInt Z12 (zRw f3.toInt Z1)) (Z10 2).toInt (v3_2.toInt.toNat + 1)).2 := by rw [(by omega : y18.toInt.toNat = v3_2.toInt.toNat + 1)]
              refine lv_goto (tgt := 43) hx hb dX2_openSealed_155 (by decide) ?_
              exact ih3 y18 G0_2 G1_2 (hG0_2) (hG1_2) (by omega) (by omega) (by omega) (by omega) (by omega) (by omega) (by omega) (by omega) (by omega) _ _ hP hD hS ls (lv_sub hl [2, 3, 4, 0] rfl)
            · skip
              have i_7 : zbit w3 v3_2 = 0 := i_7
              have hP : va_P g.1 vwCl [(h8, .inl (zI g, 6, .inl G0_2)), (h9, .inl (zI g, 6, .inl G1_2)), (h13, .inl (zI g, 6, .inl Z11)), (h0, .inr (2, [.ref h2, .ref h3, .ref h4, .ref h5, .ref h6, .ref h7, .int w3, .int w4, .ref h8, .ref h9, .ref h10, .ref h11])), (h1, .inr (0, [.ref h12, .int f2, .ref h13, .int f3, .ref h14, .ref h15, .ref h16, .ref h17, .ref h18, .ref h19, .int f4])), (h2, .inl (zI g, 5, .inl Z0)), (h3, .inl (zI g, 5, .inl Z1)), (h4, .inl (zI g, 5, .inl Z2)), (h6, .inl (zI g, 5, .inl R5)), (h7, .inl (zI g, 5, .inl R6)), (h12, .inl (zI g, 5, .inl Z10)), (h14, .inl (zI g, 5, .inl Z12)), (h17, .inl (zI g, 20, .inl Z15))] H := hP
              have hD : va_D A [(h8, .inl (zI g, 6, .inl G0_2)), (h9, .inl (zI g, 6, .inl G1_2)), (h13, .inl (zI g, 6, .inl Z11)), (h0, .inr (2, [.ref h2, .ref h3, .ref h4, .ref h5, .ref h6, .ref h7, .int w3, .int w4, .ref h8, .ref h9, .ref h10, .ref h11])), (h1, .inr (0, [.ref h12, .int f2, .ref h13, .int f3, .ref h14, .ref h15, .ref h16, .ref h17, .ref h18, .ref h19, .int f4])), (h2, .inl (zI g, 5, .inl Z0)), (h3, .inl (zI g, 5, .inl Z1)), (h4, .inl (zI g, 5, .inl Z2)), (h6, .inl (zI g, 5, .inl R5)), (h7, .inl (zI g, 5, .inl R6)), (h12, .inl (zI g, 5, .inl Z10)), (h14, .inl (zI g, 5, .inl Z12)), (h17, .inl (zI g, 20, .inl Z15))] := hD
              refine lv_if_eq (tgt := 152) hx hb dX2_openSealed_110 (by decide) (fun _ => ?_) (fun h => absurd h (by decide +kernel))
              have hob : (zRm f3.toInt Z12 (zRw f3.toInt Z2)) v3_2.toInt.toNat = zbit w3 v3_2 := (zbit_S zRm_01 hopn (b := v3_2) rfl (by omega) (by omega)).symm
              have ht : (zSl (zRm f3.toInt Z12 (zRw f3.toInt Z2)) (zLim f3.toInt Z12 Z15 (zRw f3.toInt Z0) ((Z11 p2.toNatClampNeg).toInt)) (zMon Z10 f3.toInt Z12 (zRw f3.toInt Z1)) (Z10 2).toInt (v3_2.toInt.toNat + 1)) = (zSl (zRm f3.toInt Z12 (zRw f3.toInt Z2)) (zLim f3.toInt Z12 Z15 (zRw f3.toInt Z0) ((Z11 p2.toNatClampNeg).toInt)) (zMon Z10 f3.toInt Z12 (zRw f3.toInt Z1)) (Z10 2).toInt v3_2.toInt.toNat) := zSl_n (fun q => by have h1 := q.1; have h2 := q.2.1; have h3 := q.2.2; omega)
              have ht_0 : (zSl (zRm f3.toInt Z12 (zRw f3.toInt Z2)) (zLim f3.toInt Z12 Z15 (zRw f3.toInt Z0) ((Z11 p2.toNatClampNeg).toInt)) (zMon Z10 f3.toInt Z12 (zRw f3.toInt Z1)) (Z10 2).toInt (v3_2.toInt.toNat + 1)).1 = (zSl (zRm f3.toInt Z12 (zRw f3.toInt Z2)) (zLim f3.toInt Z12 Z15 (zRw f3.toInt Z0) ((Z11 p2.toNatClampNeg).toInt)) (zMon Z10 f3.toInt Z12 (zRw f3.toInt Z1)) (Z10 2).toInt v3_2.toInt.toNat).1 := by rw [ht]
              have ht_1 : (zSl (zRm f3.toInt Z12 (zRw f3.toInt Z2)) (zLim f3.toInt Z12 Z15 (zRw f3.toInt Z0) ((Z11 p2.toNatClampNeg).toInt)) (zMon Z10 f3.toInt Z12 (zRw f3.toInt Z1)) (Z10 2).toInt (v3_2.toInt.toNat + 1)).2 = (zSl (zRm f3.toInt Z12 (zRw f3.toInt Z2)) (zLim f3.toInt Z12 Z15 (zRw f3.toInt Z0) ((Z11 p2.toNatClampNeg).toInt)) (zMon Z10 f3.toInt Z12 (zRw f3.toInt Z1)) (Z10 2).toInt v3_2.toInt.toNat).2 := by rw [ht]
              obtain ⟨y19, ey19⟩ : ∃ z : Int32, z = v3_2 + 1 := ⟨_, rfl⟩
              have qy19 : y19.toInt = v3_2.toInt + 1 := zi_add ey19 (rfl) rfl (by omega) (by omega)
              refine lv_iinc (v := y19) (lv' := [(3, .int y19), (4, .int 0), (0, .ref h0), (1, .ref h1), (2, .int p2)]) hx hb dX2_openSealed_152 hl (k := 4) rfl ey19.symm (by decide) rfl (fun ls hl => ?_)
              have htb_0 : (zSl (zRm f3.toInt Z12 (zRw f3.toInt Z2)) (zLim f3.toInt Z12 Z15 (zRw f3.toInt Z0) ((Z11 p2.toNatClampNeg).toInt)) (zMon Z10 f3.toInt Z12 (zRw f3.toInt Z1)) (Z10 2).toInt y19.toInt.toNat).1 = (zSl (zRm f3.toInt Z12 (zRw f3.toInt Z2)) (zLim f3.toInt Z12 Z15 (zRw f3.toInt Z0) ((Z11 p2.toNatClampNeg).toInt)) (zMon Z10 f3.toInt Z12 (zRw f3.toInt Z1)) (Z10 2).toInt (v3_2.toInt.toNat + 1)).1 := by rw [(by omega : y19.toInt.toNat = v3_2.toInt.toNat + 1)]
              have htb_1 : (zSl (zRm f3.toInt Z12 (zRw f3.toInt Z2)) (zLim f3.toInt Z12 Z15 (zRw f3.toInt Z0) ((Z11 p2.toNatClampNeg).toInt)) (zMon Z10 f3.toInt Z12 (zRw f3.toInt Z1)) (Z10 2).toInt y19.toInt.toNat).2 = (zSl (zRm f3.toInt Z12 (zRw f3.toInt Z2)) (zLim f3.toInt Z12 Z15 (zRw f3.toInt Z0) ((Z11 p2.toNatClampNeg).toInt)) (zMon Z10 f3.toInt Z12 (zRw f3.toInt Z1)) (Z10 2).toInt (v3_2.toInt.toNat + 1)).2 := by rw [(by omega : y19.toInt.toNat = v3_2.toInt.toNat + 1)]
              refine lv_goto (tgt := 43) hx hb dX2_openSealed_155 (by decide) ?_
              exact ih3 y19 G0_2 G1_2 (hG0_2) (hG1_2) (by omega) (by omega) (by omega) (by omega) (by omega) (by omega) (by omega) (by omega) (by omega) _ _ hP hD hS ls (lv_sub hl [2, 3, 4, 0] rfl)
          · have i_5 : y17.toInt < y16.toInt := z_nle (rfl) (rfl) c_5
            refine lv_iconst (v := 1) hx hb dX2_openSealed_95 (by decide) ?_
            refine lv_goto (tgt := 100) hx hb dX2_openSealed_96 (by decide) ?_
            refine lv_istore (lv' := [(4, .int 1), (0, .ref h0), (1, .ref h1), (2, .int p2), (3, .int v3_2)]) hx hb dX2_openSealed_100 hl (by decide) rfl (fun ls hl => ?_)
            refine lv_aload_n hx hb dX2_openSealed_102 rfl (lv_at hl 1 rfl) ?_
            refine va_get (D := g.1) (ci := 2) (v := .int w3) (C := RX2) (T := TX2) (N := 12) hx hb hts zl_X2 hown hK hP 3 rfl rfl 6 (by decide) (hts _ m_f_RX2_30) (fun _ h => h) rfl dX2_openSealed_103 ?_
            refine lv_iload_n hx hb dX2_openSealed_106 rfl (lv_at hl 4 rfl) ?_
            refine z_calli (wr := [(h8, .inl (zI g, 6, .inl G0_2)), (h9, .inl (zI g, 6, .inl G1_2)), (h13, .inl (zI g, 6, .inl Z11)), (h0, .inr (2, [.ref h2, .ref h3, .ref h4, .ref h5, .ref h6, .ref h7, .int w3, .int w4, .ref h8, .ref h9, .ref h10, .ref h11])), (h1, .inr (0, [.ref h12, .int f2, .ref h13, .int f3, .ref h14, .ref h15, .ref h16, .ref h17, .ref h18, .ref h19, .int f4])), (h2, .inl (zI g, 5, .inl Z0)), (h3, .inl (zI g, 5, .inl Z1)), (h4, .inl (zI g, 5, .inl Z2)), (h6, .inl (zI g, 5, .inl R5)), (h7, .inl (zI g, 5, .inl R6)), (h12, .inl (zI g, 5, .inl Z10)), (h14, .inl (zI g, 5, .inl Z12)), (h17, .inl (zI g, 20, .inl Z15))]) hP hD hS hA [] [0, 1, 2, 3, 4, 5, 6, 7, 8, 9, 10, 11, 12] (by decide) rfl rfl (by decide) (va_runS (As := [.int w3, .int v3_2]) (rest := []) ⟨hx, hb, hml, hown, hts⟩ (gX2_isIn l g  H.size w3 v3_2) ⟨callB_of 2 hts (zGood m_o_yX2_isIn) rfl rfl rfl (hts _ m_z_RX2) (hts _ m_m_RX2_93) ⟨by decide +kernel, by decide +kernel, by decide +kernel⟩ ⟨Nat.le_of_ble_eq_true rfl, Nat.le_of_ble_eq_true rfl⟩, hts _ m_s_yX2_isIn⟩ (zPreS hK hN hZ hP hD hS hA [] (by decide) rfl rfl) rfl rfl hl.1 rfl (lv_room (Nat.le_of_ble_eq_true rfl)) dX2_openSealed_107 ⟨Nat.le_of_ble_eq_true rfl, Nat.le_of_ble_eq_true rfl⟩) (fun r u H locs hw hP hD hS => ?_)
            rcases hw with ⟨i_8, rfl⟩ | ⟨i_9, rfl⟩
            · skip
              have i_8 : zbit w3 v3_2 = 1 := i_8
              have hP : va_P g.1 vwCl [(h8, .inl (zI g, 6, .inl G0_2)), (h9, .inl (zI g, 6, .inl G1_2)), (h13, .inl (zI g, 6, .inl Z11)), (h0, .inr (2, [.ref h2, .ref h3, .ref h4, .ref h5, .ref h6, .ref h7, .int w3, .int w4, .ref h8, .ref h9, .ref h10, .ref h11])), (h1, .inr (0, [.ref h12, .int f2, .ref h13, .int f3, .ref h14, .ref h15, .ref h16, .ref h17, .ref h18, .ref h19, .int f4])), (h2, .inl (zI g, 5, .inl Z0)), (h3, .inl (zI g, 5, .inl Z1)), (h4, .inl (zI g, 5, .inl Z2)), (h6, .inl (zI g, 5, .inl R5)), (h7, .inl (zI g, 5, .inl R6)), (h12, .inl (zI g, 5, .inl Z10)), (h14, .inl (zI g, 5, .inl Z12)), (h17, .inl (zI g, 20, .inl Z15))] H := hP
              have hD : va_D A [(h8, .inl (zI g, 6, .inl G0_2)), (h9, .inl (zI g, 6, .inl G1_2)), (h13, .inl (zI g, 6, .inl Z11)), (h0, .inr (2, [.ref h2, .ref h3, .ref h4, .ref h5, .ref h6, .ref h7, .int w3, .int w4, .ref h8, .ref h9, .ref h10, .ref h11])), (h1, .inr (0, [.ref h12, .int f2, .ref h13, .int f3, .ref h14, .ref h15, .ref h16, .ref h17, .ref h18, .ref h19, .int f4])), (h2, .inl (zI g, 5, .inl Z0)), (h3, .inl (zI g, 5, .inl Z1)), (h4, .inl (zI g, 5, .inl Z2)), (h6, .inl (zI g, 5, .inl R5)), (h7, .inl (zI g, 5, .inl R6)), (h12, .inl (zI g, 5, .inl Z10)), (h14, .inl (zI g, 5, .inl Z12)), (h17, .inl (zI g, 20, .inl Z15))] := hD
              refine lv_if_eq (tgt := 152) hx hb dX2_openSealed_110 (by decide) (fun h => absurd h (by decide +kernel)) (fun _ => ?_)
              refine lv_iload hx hb dX2_openSealed_113 (lv_at hl 0 rfl) ?_
              refine lv_if_eq (tgt := 152) hx hb dX2_openSealed_115 (by decide) (fun h => absurd h (by decide +kernel)) (fun _ => ?_)
              refine lv_aload_n hx hb dX2_openSealed_118 rfl (lv_at hl 1 rfl) ?_
              refine va_get (D := g.1) (ci := 2) (v := .ref h7) (C := RX2) (T := TX2) (N := 12) hx hb hts zl_X2 hown hK hP 3 rfl rfl 5 (by decide) (hts _ m_f_RX2_27) (fun _ h => h) rfl dX2_openSealed_119 ?_
              refine lv_iload_n hx hb dX2_openSealed_122 rfl (lv_at hl 4 rfl) ?_
              refine va_iald (D := g.1) hx hb hK hP 9 0 rfl rfl (vp_in_iff.mpr ⟨by omega, by omega⟩) dX2_openSealed_123 ?_
              refine lv_topi (fun y20 ey20 => ?_)
              have qy20_0 : (-99) ≤ y20.toInt := (i_at (N := 5) (lo := (-99)) (hi := 10098) (i := v3_2) (a := v3_2.toInt) hI8.1 (rfl) (by omega) (by omega) ey20).1
              have qy20_1 : y20.toInt ≤ 10098 := (i_at (N := 5) (lo := (-99)) (hi := 10098) (i := v3_2) (a := v3_2.toInt) hI8.1 (rfl) (by omega) (by omega) ey20).2
              have qy20_2 : y20.toInt = (R6 v3_2.toNatClampNeg).toInt := congrArg Int32.toInt ey20
              refine lv_aload_n hx hb dX2_openSealed_124 rfl (lv_at hl 1 rfl) ?_
              refine va_get (D := g.1) (ci := 2) (v := .ref h6) (C := RX2) (T := TX2) (N := 12) hx hb hts zl_X2 hown hK hP 3 rfl rfl 4 (by decide) (hts _ m_f_RX2_24) (fun _ h => h) rfl dX2_openSealed_125 ?_
              refine lv_iload_n hx hb dX2_openSealed_128 rfl (lv_at hl 4 rfl) ?_
              refine va_iald (D := g.1) hx hb hK hP 8 0 rfl rfl (vp_in_iff.mpr ⟨by omega, by omega⟩) dX2_openSealed_129 ?_
              refine lv_topi (fun y21 ey21 => ?_)
              have qy21_0 : (-40) ≤ y21.toInt := (i_at (N := 5) (lo := (-40)) (hi := 99) (i := v3_2) (a := v3_2.toInt) hI7.1 (rfl) (by omega) (by omega) ey21).1
              have qy21_1 : y21.toInt ≤ 99 := (i_at (N := 5) (lo := (-40)) (hi := 99) (i := v3_2) (a := v3_2.toInt) hI7.1 (rfl) (by omega) (by omega) ey21).2
              have qy21_2 : y21.toInt = (R5 v3_2.toNatClampNeg).toInt := congrArg Int32.toInt ey21
              refine lv_icmp_lt (tgt := 152) hx hb dX2_openSealed_130 (by decide) (fun c_10 => ?_) (fun c_10 => ?_)
              · have i_10 : y20.toInt < y21.toInt := z_lt (rfl) (rfl) c_10
                have hob : (zRm f3.toInt Z12 (zRw f3.toInt Z2)) v3_2.toInt.toNat = zbit w3 v3_2 := (zbit_S zRm_01 hopn (b := v3_2) rfl (by omega) (by omega)).symm
                have hbn := (zRm_n (hob.trans (by omega))).1
                have hmo : (zMon Z10 f3.toInt Z12 (zRw f3.toInt Z1)) v3_2.toInt.toNat = (R6 v3_2.toNatClampNeg).toInt := by rw [← hmn]; exact zRw_at hbn
                have hli : (zLim f3.toInt Z12 Z15 (zRw f3.toInt Z0) ((Z11 p2.toNatClampNeg).toInt)) v3_2.toInt.toNat = (R5 v3_2.toNatClampNeg).toInt := by rw [← hlm]; exact zRw_at hbn
                have ht : (zSl (zRm f3.toInt Z12 (zRw f3.toInt Z2)) (zLim f3.toInt Z12 Z15 (zRw f3.toInt Z0) ((Z11 p2.toNatClampNeg).toInt)) (zMon Z10 f3.toInt Z12 (zRw f3.toInt Z1)) (Z10 2).toInt (v3_2.toInt.toNat + 1)) = (zSl (zRm f3.toInt Z12 (zRw f3.toInt Z2)) (zLim f3.toInt Z12 Z15 (zRw f3.toInt Z0) ((Z11 p2.toNatClampNeg).toInt)) (zMon Z10 f3.toInt Z12 (zRw f3.toInt Z1)) (Z10 2).toInt v3_2.toInt.toNat) := zSl_n (fun q => by have h1 := q.1; have h2 := q.2.1; have h3 := q.2.2; omega)
                have ht_0 : (zSl (zRm f3.toInt Z12 (zRw f3.toInt Z2)) (zLim f3.toInt Z12 Z15 (zRw f3.toInt Z0) ((Z11 p2.toNatClampNeg).toInt)) (zMon Z10 f3.toInt Z12 (zRw f3.toInt Z1)) (Z10 2).toInt (v3_2.toInt.toNat + 1)).1 = (zSl (zRm f3.toInt Z12 (zRw f3.toInt Z2)) (zLim f3.toInt Z12 Z15 (zRw f3.toInt Z0) ((Z11 p2.toNatClampNeg).toInt)) (zMon Z10 f3.toInt Z12 (zRw f3.toInt Z1)) (Z10 2).toInt v3_2.toInt.toNat).1 := by rw [ht]
                have ht_1 : (zSl (zRm f3.toInt Z12 (zRw f3.toInt Z2)) (zLim f3.toInt Z12 Z15 (zRw f3.toInt Z0) ((Z11 p2.toNatClampNeg).toInt)) (zMon Z10 f3.toInt Z12 (zRw f3.toInt Z1)) (Z10 2).toInt (v3_2.toInt.toNat + 1)).2 = (zSl (zRm f3.toInt Z12 (zRw f3.toInt Z2)) (zLim f3.toInt Z12 Z15 (zRw f3.toInt Z0) ((Z11 p2.toNatClampNeg).toInt)) (zMon Z10 f3.toInt Z12 (zRw f3.toInt Z1)) (Z10 2).toInt v3_2.toInt.toNat).2 := by rw [ht]
                obtain ⟨y22, ey22⟩ : ∃ z : Int32, z = v3_2 + 1 := ⟨_, rfl⟩
                have qy22 : y22.toInt = v3_2.toInt + 1 := zi_add ey22 (rfl) rfl (by omega) (by omega)
                refine lv_iinc (v := y22) (lv' := [(3, .int y22), (4, .int 1), (0, .ref h0), (1, .ref h1), (2, .int p2)]) hx hb dX2_openSealed_152 hl (k := 4) rfl ey22.symm (by decide) rfl (fun ls hl => ?_)
                have htb_0 : (zSl (zRm f3.toInt Z12 (zRw f3.toInt Z2)) (zLim f3.toInt Z12 Z15 (zRw f3.toInt Z0) ((Z11 p2.toNatClampNeg).toInt)) (zMon Z10 f3.toInt Z12 (zRw f3.toInt Z1)) (Z10 2).toInt y22.toInt.toNat).1 = (zSl (zRm f3.toInt Z12 (zRw f3.toInt Z2)) (zLim f3.toInt Z12 Z15 (zRw f3.toInt Z0) ((Z11 p2.toNatClampNeg).toInt)) (zMon Z10 f3.toInt Z12 (zRw f3.toInt Z1)) (Z10 2).toInt (v3_2.toInt.toNat + 1)).1 := by rw [(by omega : y22.toInt.toNat = v3_2.toInt.toNat + 1)]
                have htb_1 : (zSl (zRm f3.toInt Z12 (zRw f3.toInt Z2)) (zLim f3.toInt Z12 Z15 (zRw f3.toInt Z0) ((Z11 p2.toNatClampNeg).toInt)) (zMon Z10 f3.toInt Z12 (zRw f3.toInt Z1)) (Z10 2).toInt y22.toInt.toNat).2 = (zSl (zRm f3.toInt Z12 (zRw f3.toInt Z2)) (zLim f3.toInt Z12 Z15 (zRw f3.toInt Z0) ((Z11 p2.toNatClampNeg).toInt)) (zMon Z10 f3.toInt Z12 (zRw f3.toInt Z1)) (Z10 2).toInt (v3_2.toInt.toNat + 1)).2 := by rw [(by omega : y22.toInt.toNat = v3_2.toInt.toNat + 1)]
                refine lv_goto (tgt := 43) hx hb dX2_openSealed_155 (by decide) ?_
                exact ih3 y22 G0_2 G1_2 (hG0_2) (hG1_2) (by omega) (by omega) (by omega) (by omega) (by omega) (by omega) (by omega) (by omega) (by omega) _ _ hP hD hS ls (lv_sub hl [2, 3, 4, 0] rfl)
              · have i_10 : y21.toInt ≤ y20.toInt := z_nlt (rfl) (rfl) c_10
                refine lv_aload_n hx hb dX2_openSealed_133 rfl (lv_at hl 1 rfl) ?_
                refine va_get (D := g.1) (ci := 2) (v := .ref h8) (C := RX2) (T := TX2) (N := 12) hx hb hts zl_X2 hown hK hP 3 rfl rfl 8 (by decide) (hts _ m_f_RX2_37) (fun _ h => h) rfl dX2_openSealed_134 ?_
                refine lv_iload_n hx hb dX2_openSealed_137 rfl (lv_at hl 3 rfl) ?_
                refine lv_iload_n hx hb dX2_openSealed_138 rfl (lv_at hl 4 rfl) ?_
                refine va_iast (D := g.1) hx hb hK hP hD hS 0 0 rfl rfl (vp_in_iff.mpr ⟨by omega, by omega⟩) dX2_openSealed_139 (fun H locs hP hD hS => ?_)
                have hP : va_P g.1 vwCl [(h8, .inl (zI g, 6, .inl (upd G0_2 p2.toNatClampNeg v3_2))), (h9, .inl (zI g, 6, .inl G1_2)), (h13, .inl (zI g, 6, .inl Z11)), (h0, .inr (2, [.ref h2, .ref h3, .ref h4, .ref h5, .ref h6, .ref h7, .int w3, .int w4, .ref h8, .ref h9, .ref h10, .ref h11])), (h1, .inr (0, [.ref h12, .int f2, .ref h13, .int f3, .ref h14, .ref h15, .ref h16, .ref h17, .ref h18, .ref h19, .int f4])), (h2, .inl (zI g, 5, .inl Z0)), (h3, .inl (zI g, 5, .inl Z1)), (h4, .inl (zI g, 5, .inl Z2)), (h6, .inl (zI g, 5, .inl R5)), (h7, .inl (zI g, 5, .inl R6)), (h12, .inl (zI g, 5, .inl Z10)), (h14, .inl (zI g, 5, .inl Z12)), (h17, .inl (zI g, 20, .inl Z15))] H := hP
                have hD : va_D A [(h8, .inl (zI g, 6, .inl (upd G0_2 p2.toNatClampNeg v3_2))), (h9, .inl (zI g, 6, .inl G1_2)), (h13, .inl (zI g, 6, .inl Z11)), (h0, .inr (2, [.ref h2, .ref h3, .ref h4, .ref h5, .ref h6, .ref h7, .int w3, .int w4, .ref h8, .ref h9, .ref h10, .ref h11])), (h1, .inr (0, [.ref h12, .int f2, .ref h13, .int f3, .ref h14, .ref h15, .ref h16, .ref h17, .ref h18, .ref h19, .int f4])), (h2, .inl (zI g, 5, .inl Z0)), (h3, .inl (zI g, 5, .inl Z1)), (h4, .inl (zI g, 5, .inl Z2)), (h6, .inl (zI g, 5, .inl R5)), (h7, .inl (zI g, 5, .inl R6)), (h12, .inl (zI g, 5, .inl Z10)), (h14, .inl (zI g, 5, .inl Z12)), (h17, .inl (zI g, 20, .inl Z15))] := hD
                have hI23 : zNr p2.toInt Z6 (upd G0_2 p2.toNatClampNeg v3_2) := zNr_put (i := p2) hG0_2 (rfl) (by omega)
                obtain ⟨R24, eR24⟩ : ∃ z : Nat → Int32, z = (upd G0_2 p2.toNatClampNeg v3_2) := ⟨_, rfl⟩
                rw [← eR24] at hP hD hI23
                have qR24 : (R24 p2.toNatClampNeg).toInt = v3_2.toInt := z_put eR24 (rfl)
                refine lv_aload_n hx hb dX2_openSealed_140 rfl (lv_at hl 1 rfl) ?_
                refine va_get (D := g.1) (ci := 2) (v := .ref h9) (C := RX2) (T := TX2) (N := 12) hx hb hts zl_X2 hown hK hP 3 rfl rfl 9 (by decide) (hts _ m_f_RX2_40) (fun _ h => h) rfl dX2_openSealed_141 ?_
                refine lv_iload_n hx hb dX2_openSealed_144 rfl (lv_at hl 3 rfl) ?_
                refine lv_aload_n hx hb dX2_openSealed_145 rfl (lv_at hl 1 rfl) ?_
                refine va_get (D := g.1) (ci := 2) (v := .ref h6) (C := RX2) (T := TX2) (N := 12) hx hb hts zl_X2 hown hK hP 3 rfl rfl 4 (by decide) (hts _ m_f_RX2_24) (fun _ h => h) rfl dX2_openSealed_146 ?_
                refine lv_iload_n hx hb dX2_openSealed_149 rfl (lv_at hl 4 rfl) ?_
                refine va_iald (D := g.1) hx hb hK hP 8 0 rfl rfl (vp_in_iff.mpr ⟨by omega, by omega⟩) dX2_openSealed_150 ?_
                refine lv_topi (fun y25 ey25 => ?_)
                have qy25_0 : (-40) ≤ y25.toInt := (i_at (N := 5) (lo := (-40)) (hi := 99) (i := v3_2) (a := v3_2.toInt) hI7.1 (rfl) (by omega) (by omega) ey25).1
                have qy25_1 : y25.toInt ≤ 99 := (i_at (N := 5) (lo := (-40)) (hi := 99) (i := v3_2) (a := v3_2.toInt) hI7.1 (rfl) (by omega) (by omega) ey25).2
                have qy25_2 : y25.toInt = (R5 v3_2.toNatClampNeg).toInt := congrArg Int32.toInt ey25
                refine va_iast (D := g.1) hx hb hK hP hD hS 1 0 rfl rfl (vp_in_iff.mpr ⟨by omega, by omega⟩) dX2_openSealed_151 (fun H locs hP hD hS => ?_)
                have hP : va_P g.1 vwCl [(h8, .inl (zI g, 6, .inl R24)), (h9, .inl (zI g, 6, .inl (upd G1_2 p2.toNatClampNeg y25))), (h13, .inl (zI g, 6, .inl Z11)), (h0, .inr (2, [.ref h2, .ref h3, .ref h4, .ref h5, .ref h6, .ref h7, .int w3, .int w4, .ref h8, .ref h9, .ref h10, .ref h11])), (h1, .inr (0, [.ref h12, .int f2, .ref h13, .int f3, .ref h14, .ref h15, .ref h16, .ref h17, .ref h18, .ref h19, .int f4])), (h2, .inl (zI g, 5, .inl Z0)), (h3, .inl (zI g, 5, .inl Z1)), (h4, .inl (zI g, 5, .inl Z2)), (h6, .inl (zI g, 5, .inl R5)), (h7, .inl (zI g, 5, .inl R6)), (h12, .inl (zI g, 5, .inl Z10)), (h14, .inl (zI g, 5, .inl Z12)), (h17, .inl (zI g, 20, .inl Z15))] H := hP
                have hD : va_D A [(h8, .inl (zI g, 6, .inl R24)), (h9, .inl (zI g, 6, .inl (upd G1_2 p2.toNatClampNeg y25))), (h13, .inl (zI g, 6, .inl Z11)), (h0, .inr (2, [.ref h2, .ref h3, .ref h4, .ref h5, .ref h6, .ref h7, .int w3, .int w4, .ref h8, .ref h9, .ref h10, .ref h11])), (h1, .inr (0, [.ref h12, .int f2, .ref h13, .int f3, .ref h14, .ref h15, .ref h16, .ref h17, .ref h18, .ref h19, .int f4])), (h2, .inl (zI g, 5, .inl Z0)), (h3, .inl (zI g, 5, .inl Z1)), (h4, .inl (zI g, 5, .inl Z2)), (h6, .inl (zI g, 5, .inl R5)), (h7, .inl (zI g, 5, .inl R6)), (h12, .inl (zI g, 5, .inl Z10)), (h14, .inl (zI g, 5, .inl Z12)), (h17, .inl (zI g, 20, .inl Z15))] := hD
                have hI26 : zNr p2.toInt Z7 (upd G1_2 p2.toNatClampNeg y25) := zNr_put (i := p2) hG1_2 (rfl) (by omega)
                obtain ⟨R27, eR27⟩ : ∃ z : Nat → Int32, z = (upd G1_2 p2.toNatClampNeg y25) := ⟨_, rfl⟩
                rw [← eR27] at hP hD hI26
                have qR27 : (R27 p2.toNatClampNeg).toInt = y25.toInt := z_put eR27 (rfl)
                have hob : (zRm f3.toInt Z12 (zRw f3.toInt Z2)) v3_2.toInt.toNat = zbit w3 v3_2 := (zbit_S zRm_01 hopn (b := v3_2) rfl (by omega) (by omega)).symm
                have hbn := (zRm_n (hob.trans (by omega))).1
                have hmo : (zMon Z10 f3.toInt Z12 (zRw f3.toInt Z1)) v3_2.toInt.toNat = (R6 v3_2.toNatClampNeg).toInt := by rw [← hmn]; exact zRw_at hbn
                have hli : (zLim f3.toInt Z12 Z15 (zRw f3.toInt Z0) ((Z11 p2.toNatClampNeg).toInt)) v3_2.toInt.toNat = (R5 v3_2.toNatClampNeg).toInt := by rw [← hlm]; exact zRw_at hbn
                have ht : (zSl (zRm f3.toInt Z12 (zRw f3.toInt Z2)) (zLim f3.toInt Z12 Z15 (zRw f3.toInt Z0) ((Z11 p2.toNatClampNeg).toInt)) (zMon Z10 f3.toInt Z12 (zRw f3.toInt Z1)) (Z10 2).toInt (v3_2.toInt.toNat + 1)) = (((v3_2.toInt.toNat : Nat) : Int), (zLim f3.toInt Z12 Z15 (zRw f3.toInt Z0) ((Z11 p2.toNatClampNeg).toInt)) v3_2.toInt.toNat) := zSl_1 ⟨by omega, by omega, by omega⟩
                have ht_0 : (zSl (zRm f3.toInt Z12 (zRw f3.toInt Z2)) (zLim f3.toInt Z12 Z15 (zRw f3.toInt Z0) ((Z11 p2.toNatClampNeg).toInt)) (zMon Z10 f3.toInt Z12 (zRw f3.toInt Z1)) (Z10 2).toInt (v3_2.toInt.toNat + 1)).1 = ((v3_2.toInt.toNat : Nat) : Int) := by rw [ht]
                have ht_1 : (zSl (zRm f3.toInt Z12 (zRw f3.toInt Z2)) (zLim f3.toInt Z12 Z15 (zRw f3.toInt Z0) ((Z11 p2.toNatClampNeg).toInt)) (zMon Z10 f3.toInt Z12 (zRw f3.toInt Z1)) (Z10 2).toInt (v3_2.toInt.toNat + 1)).2 = (zLim f3.toInt Z12 Z15 (zRw f3.toInt Z0) ((Z11 p2.toNatClampNeg).toInt)) v3_2.toInt.toNat := by rw [ht]
                obtain ⟨y28, ey28⟩ : ∃ z : Int32, z = v3_2 + 1 := ⟨_, rfl⟩
                have qy28 : y28.toInt = v3_2.toInt + 1 := zi_add ey28 (rfl) rfl (by omega) (by omega)
                refine lv_iinc (v := y28) (lv' := [(3, .int y28), (4, .int 1), (0, .ref h0), (1, .ref h1), (2, .int p2)]) hx hb dX2_openSealed_152 hl (k := 4) rfl ey28.symm (by decide) rfl (fun ls hl => ?_)
                have htb_0 : (zSl (zRm f3.toInt Z12 (zRw f3.toInt Z2)) (zLim f3.toInt Z12 Z15 (zRw f3.toInt Z0) ((Z11 p2.toNatClampNeg).toInt)) (zMon Z10 f3.toInt Z12 (zRw f3.toInt Z1)) (Z10 2).toInt y28.toInt.toNat).1 = (zSl (zRm f3.toInt Z12 (zRw f3.toInt Z2)) (zLim f3.toInt Z12 Z15 (zRw f3.toInt Z0) ((Z11 p2.toNatClampNeg).toInt)) (zMon Z10 f3.toInt Z12 (zRw f3.toInt Z1)) (Z10 2).toInt (v3_2.toInt.toNat + 1)).1 := by rw [(by omega : y28.toInt.toNat = v3_2.toInt.toNat + 1)]
                have htb_1 : (zSl (zRm f3.toInt Z12 (zRw f3.toInt Z2)) (zLim f3.toInt Z12 Z15 (zRw f3.toInt Z0) ((Z11 p2.toNatClampNeg).toInt)) (zMon Z10 f3.toInt Z12 (zRw f3.toInt Z1)) (Z10 2).toInt y28.toInt.toNat).2 = (zSl (zRm f3.toInt Z12 (zRw f3.toInt Z2)) (zLim f3.toInt Z12 Z15 (zRw f3.toInt Z0) ((Z11 p2.toNatClampNeg).toInt)) (zMon Z10 f3.toInt Z12 (zRw f3.toInt Z1)) (Z10 2).toInt (v3_2.toInt.toNat + 1)).2 := by rw [(by omega : y28.toInt.toNat = v3_2.toInt.toNat + 1)]
                refine lv_goto (tgt := 43) hx hb dX2_openSealed_155 (by decide) ?_
                exact ih3 y28 R24 R27 (hI23) (hI26) (by omega) (by omega) (by omega) (by omega) (by omega) (by omega) (by omega) (by omega) (by omega) _ _ hP hD hS ls (lv_sub hl [2, 3, 4, 0] rfl)
            · skip
              have i_9 : zbit w3 v3_2 = 0 := i_9
              have hP : va_P g.1 vwCl [(h8, .inl (zI g, 6, .inl G0_2)), (h9, .inl (zI g, 6, .inl G1_2)), (h13, .inl (zI g, 6, .inl Z11)), (h0, .inr (2, [.ref h2, .ref h3, .ref h4, .ref h5, .ref h6, .ref h7, .int w3, .int w4, .ref h8, .ref h9, .ref h10, .ref h11])), (h1, .inr (0, [.ref h12, .int f2, .ref h13, .int f3, .ref h14, .ref h15, .ref h16, .ref h17, .ref h18, .ref h19, .int f4])), (h2, .inl (zI g, 5, .inl Z0)), (h3, .inl (zI g, 5, .inl Z1)), (h4, .inl (zI g, 5, .inl Z2)), (h6, .inl (zI g, 5, .inl R5)), (h7, .inl (zI g, 5, .inl R6)), (h12, .inl (zI g, 5, .inl Z10)), (h14, .inl (zI g, 5, .inl Z12)), (h17, .inl (zI g, 20, .inl Z15))] H := hP
              have hD : va_D A [(h8, .inl (zI g, 6, .inl G0_2)), (h9, .inl (zI g, 6, .inl G1_2)), (h13, .inl (zI g, 6, .inl Z11)), (h0, .inr (2, [.ref h2, .ref h3, .ref h4, .ref h5, .ref h6, .ref h7, .int w3, .int w4, .ref h8, .ref h9, .ref h10, .ref h11])), (h1, .inr (0, [.ref h12, .int f2, .ref h13, .int f3, .ref h14, .ref h15, .ref h16, .ref h17, .ref h18, .ref h19, .int f4])), (h2, .inl (zI g, 5, .inl Z0)), (h3, .inl (zI g, 5, .inl Z1)), (h4, .inl (zI g, 5, .inl Z2)), (h6, .inl (zI g, 5, .inl R5)), (h7, .inl (zI g, 5, .inl R6)), (h12, .inl (zI g, 5, .inl Z10)), (h14, .inl (zI g, 5, .inl Z12)), (h17, .inl (zI g, 20, .inl Z15))] := hD
              refine lv_if_eq (tgt := 152) hx hb dX2_openSealed_110 (by decide) (fun _ => ?_) (fun h => absurd h (by decide +kernel))
              have hob : (zRm f3.toInt Z12 (zRw f3.toInt Z2)) v3_2.toInt.toNat = zbit w3 v3_2 := (zbit_S zRm_01 hopn (b := v3_2) rfl (by omega) (by omega)).symm
              have ht : (zSl (zRm f3.toInt Z12 (zRw f3.toInt Z2)) (zLim f3.toInt Z12 Z15 (zRw f3.toInt Z0) ((Z11 p2.toNatClampNeg).toInt)) (zMon Z10 f3.toInt Z12 (zRw f3.toInt Z1)) (Z10 2).toInt (v3_2.toInt.toNat + 1)) = (zSl (zRm f3.toInt Z12 (zRw f3.toInt Z2)) (zLim f3.toInt Z12 Z15 (zRw f3.toInt Z0) ((Z11 p2.toNatClampNeg).toInt)) (zMon Z10 f3.toInt Z12 (zRw f3.toInt Z1)) (Z10 2).toInt v3_2.toInt.toNat) := zSl_n (fun q => by have h1 := q.1; have h2 := q.2.1; have h3 := q.2.2; omega)
              have ht_0 : (zSl (zRm f3.toInt Z12 (zRw f3.toInt Z2)) (zLim f3.toInt Z12 Z15 (zRw f3.toInt Z0) ((Z11 p2.toNatClampNeg).toInt)) (zMon Z10 f3.toInt Z12 (zRw f3.toInt Z1)) (Z10 2).toInt (v3_2.toInt.toNat + 1)).1 = (zSl (zRm f3.toInt Z12 (zRw f3.toInt Z2)) (zLim f3.toInt Z12 Z15 (zRw f3.toInt Z0) ((Z11 p2.toNatClampNeg).toInt)) (zMon Z10 f3.toInt Z12 (zRw f3.toInt Z1)) (Z10 2).toInt v3_2.toInt.toNat).1 := by rw [ht]
              have ht_1 : (zSl (zRm f3.toInt Z12 (zRw f3.toInt Z2)) (zLim f3.toInt Z12 Z15 (zRw f3.toInt Z0) ((Z11 p2.toNatClampNeg).toInt)) (zMon Z10 f3.toInt Z12 (zRw f3.toInt Z1)) (Z10 2).toInt (v3_2.toInt.toNat + 1)).2 = (zSl (zRm f3.toInt Z12 (zRw f3.toInt Z2)) (zLim f3.toInt Z12 Z15 (zRw f3.toInt Z0) ((Z11 p2.toNatClampNeg).toInt)) (zMon Z10 f3.toInt Z12 (zRw f3.toInt Z1)) (Z10 2).toInt v3_2.toInt.toNat).2 := by rw [ht]
              obtain ⟨y29, ey29⟩ : ∃ z : Int32, z = v3_2 + 1 := ⟨_, rfl⟩
              have qy29 : y29.toInt = v3_2.toInt + 1 := zi_add ey29 (rfl) rfl (by omega) (by omega)
              refine lv_iinc (v := y29) (lv' := [(3, .int y29), (4, .int 1), (0, .ref h0), (1, .ref h1), (2, .int p2)]) hx hb dX2_openSealed_152 hl (k := 4) rfl ey29.symm (by decide) rfl (fun ls hl => ?_)
              have htb_0 : (zSl (zRm f3.toInt Z12 (zRw f3.toInt Z2)) (zLim f3.toInt Z12 Z15 (zRw f3.toInt Z0) ((Z11 p2.toNatClampNeg).toInt)) (zMon Z10 f3.toInt Z12 (zRw f3.toInt Z1)) (Z10 2).toInt y29.toInt.toNat).1 = (zSl (zRm f3.toInt Z12 (zRw f3.toInt Z2)) (zLim f3.toInt Z12 Z15 (zRw f3.toInt Z0) ((Z11 p2.toNatClampNeg).toInt)) (zMon Z10 f3.toInt Z12 (zRw f3.toInt Z1)) (Z10 2).toInt (v3_2.toInt.toNat + 1)).1 := by rw [(by omega : y29.toInt.toNat = v3_2.toInt.toNat + 1)]
              have htb_1 : (zSl (zRm f3.toInt Z12 (zRw f3.toInt Z2)) (zLim f3.toInt Z12 Z15 (zRw f3.toInt Z0) ((Z11 p2.toNatClampNeg).toInt)) (zMon Z10 f3.toInt Z12 (zRw f3.toInt Z1)) (Z10 2).toInt y29.toInt.toNat).2 = (zSl (zRm f3.toInt Z12 (zRw f3.toInt Z2)) (zLim f3.toInt Z12 Z15 (zRw f3.toInt Z0) ((Z11 p2.toNatClampNeg).toInt)) (zMon Z10 f3.toInt Z12 (zRw f3.toInt Z1)) (Z10 2).toInt (v3_2.toInt.toNat + 1)).2 := by rw [(by omega : y29.toInt.toNat = v3_2.toInt.toNat + 1)]
              refine lv_goto (tgt := 43) hx hb dX2_openSealed_155 (by decide) ?_
              exact ih3 y29 G0_2 G1_2 (hG0_2) (hG1_2) (by omega) (by omega) (by omega) (by omega) (by omega) (by omega) (by omega) (by omega) (by omega) _ _ hP hD hS ls (lv_sub hl [2, 3, 4, 0] rfl)
        · have i_4 : y15.toInt < 0 := z_nle (rfl) (rfl) c_4
          refine lv_aload_n hx hb dX2_openSealed_57 rfl (lv_at hl 0 rfl) ?_
          refine va_get (D := g.1) (ci := 2) (v := .ref h6) (C := RX2) (T := TX2) (N := 12) hx hb hts zl_X2 hown hK hP 3 rfl rfl 4 (by decide) (hts _ m_f_RX2_24) (fun _ h => h) rfl dX2_openSealed_58 ?_
          refine lv_iload_n hx hb dX2_openSealed_61 rfl (lv_at hl 3 rfl) ?_
          refine va_iald (D := g.1) hx hb hK hP 8 0 rfl rfl (vp_in_iff.mpr ⟨by omega, by omega⟩) dX2_openSealed_62 ?_
          refine lv_topi (fun y30 ey30 => ?_)
          have qy30_0 : (-40) ≤ y30.toInt := (i_at (N := 5) (lo := (-40)) (hi := 99) (i := v3_2) (a := v3_2.toInt) hI7.1 (rfl) (by omega) (by omega) ey30).1
          have qy30_1 : y30.toInt ≤ 99 := (i_at (N := 5) (lo := (-40)) (hi := 99) (i := v3_2) (a := v3_2.toInt) hI7.1 (rfl) (by omega) (by omega) ey30).2
          have qy30_2 : y30.toInt = (R5 v3_2.toNatClampNeg).toInt := congrArg Int32.toInt ey30
          refine lv_aload_n hx hb dX2_openSealed_63 rfl (lv_at hl 0 rfl) ?_
          refine va_get (D := g.1) (ci := 2) (v := .ref h9) (C := RX2) (T := TX2) (N := 12) hx hb hts zl_X2 hown hK hP 3 rfl rfl 9 (by decide) (hts _ m_f_RX2_40) (fun _ h => h) rfl dX2_openSealed_64 ?_
          refine lv_iload_n hx hb dX2_openSealed_67 rfl (lv_at hl 2 rfl) ?_
          refine va_iald (D := g.1) hx hb hK hP 1 0 rfl rfl (vp_in_iff.mpr ⟨by omega, by omega⟩) dX2_openSealed_68 ?_
          refine lv_topi (fun y31 ey31 => ?_)
          have qy31_0 : y31.toInt = (G1_2 p2.toNatClampNeg).toInt := congrArg Int32.toInt ey31
          refine lv_icmp_lt (tgt := 76) hx hb dX2_openSealed_69 (by decide) (fun c_11 => ?_) (fun c_11 => ?_)
          · have i_11 : y30.toInt < y31.toInt := z_lt (rfl) (rfl) c_11
            refine lv_iconst (v := 0) hx hb dX2_openSealed_76 (by decide) ?_
            refine lv_goto (tgt := 100) hx hb dX2_openSealed_77 (by decide) ?_
            refine lv_istore (lv' := [(4, .int 0), (0, .ref h0), (1, .ref h1), (2, .int p2), (3, .int v3_2)]) hx hb dX2_openSealed_100 hl (by decide) rfl (fun ls hl => ?_)
            refine lv_aload_n hx hb dX2_openSealed_102 rfl (lv_at hl 1 rfl) ?_
            refine va_get (D := g.1) (ci := 2) (v := .int w3) (C := RX2) (T := TX2) (N := 12) hx hb hts zl_X2 hown hK hP 3 rfl rfl 6 (by decide) (hts _ m_f_RX2_30) (fun _ h => h) rfl dX2_openSealed_103 ?_
            refine lv_iload_n hx hb dX2_openSealed_106 rfl (lv_at hl 4 rfl) ?_
            refine z_calli (wr := [(h8, .inl (zI g, 6, .inl G0_2)), (h9, .inl (zI g, 6, .inl G1_2)), (h13, .inl (zI g, 6, .inl Z11)), (h0, .inr (2, [.ref h2, .ref h3, .ref h4, .ref h5, .ref h6, .ref h7, .int w3, .int w4, .ref h8, .ref h9, .ref h10, .ref h11])), (h1, .inr (0, [.ref h12, .int f2, .ref h13, .int f3, .ref h14, .ref h15, .ref h16, .ref h17, .ref h18, .ref h19, .int f4])), (h2, .inl (zI g, 5, .inl Z0)), (h3, .inl (zI g, 5, .inl Z1)), (h4, .inl (zI g, 5, .inl Z2)), (h6, .inl (zI g, 5, .inl R5)), (h7, .inl (zI g, 5, .inl R6)), (h12, .inl (zI g, 5, .inl Z10)), (h14, .inl (zI g, 5, .inl Z12)), (h17, .inl (zI g, 20, .inl Z15))]) hP hD hS hA [] [0, 1, 2, 3, 4, 5, 6, 7, 8, 9, 10, 11, 12] (by decide) rfl rfl (by decide) (va_runS (As := [.int w3, .int v3_2]) (rest := []) ⟨hx, hb, hml, hown, hts⟩ (gX2_isIn l g  H.size w3 v3_2) ⟨callB_of 2 hts (zGood m_o_yX2_isIn) rfl rfl rfl (hts _ m_z_RX2) (hts _ m_m_RX2_93) ⟨by decide +kernel, by decide +kernel, by decide +kernel⟩ ⟨Nat.le_of_ble_eq_true rfl, Nat.le_of_ble_eq_true rfl⟩, hts _ m_s_yX2_isIn⟩ (zPreS hK hN hZ hP hD hS hA [] (by decide) rfl rfl) rfl rfl hl.1 rfl (lv_room (Nat.le_of_ble_eq_true rfl)) dX2_openSealed_107 ⟨Nat.le_of_ble_eq_true rfl, Nat.le_of_ble_eq_true rfl⟩) (fun r u H locs hw hP hD hS => ?_)
            rcases hw with ⟨i_12, rfl⟩ | ⟨i_13, rfl⟩
            · skip
              have i_12 : zbit w3 v3_2 = 1 := i_12
              have hP : va_P g.1 vwCl [(h8, .inl (zI g, 6, .inl G0_2)), (h9, .inl (zI g, 6, .inl G1_2)), (h13, .inl (zI g, 6, .inl Z11)), (h0, .inr (2, [.ref h2, .ref h3, .ref h4, .ref h5, .ref h6, .ref h7, .int w3, .int w4, .ref h8, .ref h9, .ref h10, .ref h11])), (h1, .inr (0, [.ref h12, .int f2, .ref h13, .int f3, .ref h14, .ref h15, .ref h16, .ref h17, .ref h18, .ref h19, .int f4])), (h2, .inl (zI g, 5, .inl Z0)), (h3, .inl (zI g, 5, .inl Z1)), (h4, .inl (zI g, 5, .inl Z2)), (h6, .inl (zI g, 5, .inl R5)), (h7, .inl (zI g, 5, .inl R6)), (h12, .inl (zI g, 5, .inl Z10)), (h14, .inl (zI g, 5, .inl Z12)), (h17, .inl (zI g, 20, .inl Z15))] H := hP
              have hD : va_D A [(h8, .inl (zI g, 6, .inl G0_2)), (h9, .inl (zI g, 6, .inl G1_2)), (h13, .inl (zI g, 6, .inl Z11)), (h0, .inr (2, [.ref h2, .ref h3, .ref h4, .ref h5, .ref h6, .ref h7, .int w3, .int w4, .ref h8, .ref h9, .ref h10, .ref h11])), (h1, .inr (0, [.ref h12, .int f2, .ref h13, .int f3, .ref h14, .ref h15, .ref h16, .ref h17, .ref h18, .ref h19, .int f4])), (h2, .inl (zI g, 5, .inl Z0)), (h3, .inl (zI g, 5, .inl Z1)), (h4, .inl (zI g, 5, .inl Z2)), (h6, .inl (zI g, 5, .inl R5)), (h7, .inl (zI g, 5, .inl R6)), (h12, .inl (zI g, 5, .inl Z10)), (h14, .inl (zI g, 5, .inl Z12)), (h17, .inl (zI g, 20, .inl Z15))] := hD
              refine lv_if_eq (tgt := 152) hx hb dX2_openSealed_110 (by decide) (fun h => absurd h (by decide +kernel)) (fun _ => ?_)
              refine lv_iload hx hb dX2_openSealed_113 (lv_at hl 0 rfl) ?_
              refine lv_if_eq (tgt := 152) hx hb dX2_openSealed_115 (by decide) (fun _ => ?_) (fun h => absurd h (by decide +kernel))
              have hob : (zRm f3.toInt Z12 (zRw f3.toInt Z2)) v3_2.toInt.toNat = zbit w3 v3_2 := (zbit_S zRm_01 hopn (b := v3_2) rfl (by omega) (by omega)).symm
              have hbn := (zRm_n (hob.trans (by omega))).1
              have hmo : (zMon Z10 f3.toInt Z12 (zRw f3.toInt Z1)) v3_2.toInt.toNat = (R6 v3_2.toNatClampNeg).toInt := by rw [← hmn]; exact zRw_at hbn
              have hli : (zLim f3.toInt Z12 Z15 (zRw f3.toInt Z0) ((Z11 p2.toNatClampNeg).toInt)) v3_2.toInt.toNat = (R5 v3_2.toNatClampNeg).toInt := by rw [← hlm]; exact zRw_at hbn
              have ht : (zSl (zRm f3.toInt Z12 (zRw f3.toInt Z2)) (zLim f3.toInt Z12 Z15 (zRw f3.toInt Z0) ((Z11 p2.toNatClampNeg).toInt)) (zMon Z10 f3.toInt Z12 (zRw f3.toInt Z1)) (Z10 2).toInt (v3_2.toInt.toNat + 1)) = (zSl (zRm f3.toInt Z12 (zRw f3.toInt Z2)) (zLim f3.toInt Z12 Z15 (zRw f3.toInt Z0) ((Z11 p2.toNatClampNeg).toInt)) (zMon Z10 f3.toInt Z12 (zRw f3.toInt Z1)) (Z10 2).toInt v3_2.toInt.toNat) := zSl_n (fun q => by have h1 := q.1; have h2 := q.2.1; have h3 := q.2.2; omega)
              have ht_0 : (zSl (zRm f3.toInt Z12 (zRw f3.toInt Z2)) (zLim f3.toInt Z12 Z15 (zRw f3.toInt Z0) ((Z11 p2.toNatClampNeg).toInt)) (zMon Z10 f3.toInt Z12 (zRw f3.toInt Z1)) (Z10 2).toInt (v3_2.toInt.toNat + 1)).1 = (zSl (zRm f3.toInt Z12 (zRw f3.toInt Z2)) (zLim f3.toInt Z12 Z15 (zRw f3.toInt Z0) ((Z11 p2.toNatClampNeg).toInt)) (zMon Z10 f3.toInt Z12 (zRw f3.toInt Z1)) (Z10 2).toInt v3_2.toInt.toNat).1 := by rw [ht]
              have ht_1 : (zSl (zRm f3.toInt Z12 (zRw f3.toInt Z2)) (zLim f3.toInt Z12 Z15 (zRw f3.toInt Z0) ((Z11 p2.toNatClampNeg).toInt)) (zMon Z10 f3.toInt Z12 (zRw f3.toInt Z1)) (Z10 2).toInt (v3_2.toInt.toNat + 1)).2 = (zSl (zRm f3.toInt Z12 (zRw f3.toInt Z2)) (zLim f3.toInt Z12 Z15 (zRw f3.toInt Z0) ((Z11 p2.toNatClampNeg).toInt)) (zMon Z10 f3.toInt Z12 (zRw f3.toInt Z1)) (Z10 2).toInt v3_2.toInt.toNat).2 := by rw [ht]
              obtain ⟨y32, ey32⟩ : ∃ z : Int32, z = v3_2 + 1 := ⟨_, rfl⟩
              have qy32 : y32.toInt = v3_2.toInt + 1 := zi_add ey32 (rfl) rfl (by omega) (by omega)
              refine lv_iinc (v := y32) (lv' := [(3, .int y32), (4, .int 0), (0, .ref h0), (1, .ref h1), (2, .int p2)]) hx hb dX2_openSealed_152 hl (k := 4) rfl ey32.symm (by decide) rfl (fun ls hl => ?_)
              have htb_0 : (zSl (zRm f3.toInt Z12 (zRw f3.toInt Z2)) (zLim f3.toInt Z12 Z15 (zRw f3.toInt Z0) ((Z11 p2.toNatClampNeg).toInt)) (zMon Z10 f3.toInt Z12 (zRw f3.toInt Z1)) (Z10 2).toInt y32.toInt.toNat).1 = (zSl (zRm f3.toInt Z12 (zRw f3.toInt Z2)) (zLim f3.toInt Z12 Z15 (zRw f3.toInt Z0) ((Z11 p2.toNatClampNeg).toInt)) (zMon Z10 f3.toInt Z12 (zRw f3.toInt Z1)) (Z10 2).toInt (v3_2.toInt.toNat + 1)).1 := by rw [(by omega : y32.toInt.toNat = v3_2.toInt.toNat + 1)]
              have htb_1 : (zSl (zRm f3.toInt Z12 (zRw f3.toInt Z2)) (zLim f3.toInt Z12 Z15 (zRw f3.toInt Z0) ((Z11 p2.toNatClampNeg).toInt)) (zMon Z10 f3.toInt Z12 (zRw f3.toInt Z1)) (Z10 2).toInt y32.toInt.toNat).2 = (zSl (zRm f3.toInt Z12 (zRw f3.toInt Z2)) (zLim f3.toInt Z12 Z15 (zRw f3.toInt Z0) ((Z11 p2.toNatClampNeg).toInt)) (zMon Z10 f3.toInt Z12 (zRw f3.toInt Z1)) (Z10 2).toInt (v3_2.toInt.toNat + 1)).2 := by rw [(by omega : y32.toInt.toNat = v3_2.toInt.toNat + 1)]
              refine lv_goto (tgt := 43) hx hb dX2_openSealed_155 (by decide) ?_
              exact ih3 y32 G0_2 G1_2 (hG0_2) (hG1_2) (by omega) (by omega) (by omega) (by omega) (by omega) (by omega) (by omega) (by omega) (by omega) _ _ hP hD hS ls (lv_sub hl [2, 3, 4, 0] rfl)
            · skip
              have i_13 : zbit w3 v3_2 = 0 := i_13
              have hP : va_P g.1 vwCl [(h8, .inl (zI g, 6, .inl G0_2)), (h9, .inl (zI g, 6, .inl G1_2)), (h13, .inl (zI g, 6, .inl Z11)), (h0, .inr (2, [.ref h2, .ref h3, .ref h4, .ref h5, .ref h6, .ref h7, .int w3, .int w4, .ref h8, .ref h9, .ref h10, .ref h11])), (h1, .inr (0, [.ref h12, .int f2, .ref h13, .int f3, .ref h14, .ref h15, .ref h16, .ref h17, .ref h18, .ref h19, .int f4])), (h2, .inl (zI g, 5, .inl Z0)), (h3, .inl (zI g, 5, .inl Z1)), (h4, .inl (zI g, 5, .inl Z2)), (h6, .inl (zI g, 5, .inl R5)), (h7, .inl (zI g, 5, .inl R6)), (h12, .inl (zI g, 5, .inl Z10)), (h14, .inl (zI g, 5, .inl Z12)), (h17, .inl (zI g, 20, .inl Z15))] H := hP
              have hD : va_D A [(h8, .inl (zI g, 6, .inl G0_2)), (h9, .inl (zI g, 6, .inl G1_2)), (h13, .inl (zI g, 6, .inl Z11)), (h0, .inr (2, [.ref h2, .ref h3, .ref h4, .ref h5, .ref h6, .ref h7, .int w3, .int w4, .ref h8, .ref h9, .ref h10, .ref h11])), (h1, .inr (0, [.ref h12, .int f2, .ref h13, .int f3, .ref h14, .ref h15, .ref h16, .ref h17, .ref h18, .ref h19, .int f4])), (h2, .inl (zI g, 5, .inl Z0)), (h3, .inl (zI g, 5, .inl Z1)), (h4, .inl (zI g, 5, .inl Z2)), (h6, .inl (zI g, 5, .inl R5)), (h7, .inl (zI g, 5, .inl R6)), (h12, .inl (zI g, 5, .inl Z10)), (h14, .inl (zI g, 5, .inl Z12)), (h17, .inl (zI g, 20, .inl Z15))] := hD
              refine lv_if_eq (tgt := 152) hx hb dX2_openSealed_110 (by decide) (fun _ => ?_) (fun h => absurd h (by decide +kernel))
              have hob : (zRm f3.toInt Z12 (zRw f3.toInt Z2)) v3_2.toInt.toNat = zbit w3 v3_2 := (zbit_S zRm_01 hopn (b := v3_2) rfl (by omega) (by omega)).symm
              have ht : (zSl (zRm f3.toInt Z12 (zRw f3.toInt Z2)) (zLim f3.toInt Z12 Z15 (zRw f3.toInt Z0) ((Z11 p2.toNatClampNeg).toInt)) (zMon Z10 f3.toInt Z12 (zRw f3.toInt Z1)) (Z10 2).toInt (v3_2.toInt.toNat + 1)) = (zSl (zRm f3.toInt Z12 (zRw f3.toInt Z2)) (zLim f3.toInt Z12 Z15 (zRw f3.toInt Z0) ((Z11 p2.toNatClampNeg).toInt)) (zMon Z10 f3.toInt Z12 (zRw f3.toInt Z1)) (Z10 2).toInt v3_2.toInt.toNat) := zSl_n (fun q => by have h1 := q.1; have h2 := q.2.1; have h3 := q.2.2; omega)
              have ht_0 : (zSl (zRm f3.toInt Z12 (zRw f3.toInt Z2)) (zLim f3.toInt Z12 Z15 (zRw f3.toInt Z0) ((Z11 p2.toNatClampNeg).toInt)) (zMon Z10 f3.toInt Z12 (zRw f3.toInt Z1)) (Z10 2).toInt (v3_2.toInt.toNat + 1)).1 = (zSl (zRm f3.toInt Z12 (zRw f3.toInt Z2)) (zLim f3.toInt Z12 Z15 (zRw f3.toInt Z0) ((Z11 p2.toNatClampNeg).toInt)) (zMon Z10 f3.toInt Z12 (zRw f3.toInt Z1)) (Z10 2).toInt v3_2.toInt.toNat).1 := by rw [ht]
              have ht_1 : (zSl (zRm f3.toInt Z12 (zRw f3.toInt Z2)) (zLim f3.toInt Z12 Z15 (zRw f3.toInt Z0) ((Z11 p2.toNatClampNeg).toInt)) (zMon Z10 f3.toInt Z12 (zRw f3.toInt Z1)) (Z10 2).toInt (v3_2.toInt.toNat + 1)).2 = (zSl (zRm f3.toInt Z12 (zRw f3.toInt Z2)) (zLim f3.toInt Z12 Z15 (zRw f3.toInt Z0) ((Z11 p2.toNatClampNeg).toInt)) (zMon Z10 f3.toInt Z12 (zRw f3.toInt Z1)) (Z10 2).toInt v3_2.toInt.toNat).2 := by rw [ht]
              obtain ⟨y33, ey33⟩ : ∃ z : Int32, z = v3_2 + 1 := ⟨_, rfl⟩
              have qy33 : y33.toInt = v3_2.toInt + 1 := zi_add ey33 (rfl) rfl (by omega) (by omega)
              refine lv_iinc (v := y33) (lv' := [(3, .int y33), (4, .int 0), (0, .ref h0), (1, .ref h1), (2, .int p2)]) hx hb dX2_openSealed_152 hl (k := 4) rfl ey33.symm (by decide) rfl (fun ls hl => ?_)
              have htb_0 : (zSl (zRm f3.toInt Z12 (zRw f3.toInt Z2)) (zLim f3.toInt Z12 Z15 (zRw f3.toInt Z0) ((Z11 p2.toNatClampNeg).toInt)) (zMon Z10 f3.toInt Z12 (zRw f3.toInt Z1)) (Z10 2).toInt y33.toInt.toNat).1 = (zSl (zRm f3.toInt Z12 (zRw f3.toInt Z2)) (zLim f3.toInt Z12 Z15 (zRw f3.toInt Z0) ((Z11 p2.toNatClampNeg).toInt)) (zMon Z10 f3.toInt Z12 (zRw f3.toInt Z1)) (Z10 2).toInt (v3_2.toInt.toNat + 1)).1 := by rw [(by omega : y33.toInt.toNat = v3_2.toInt.toNat + 1)]
              have htb_1 : (zSl (zRm f3.toInt Z12 (zRw f3.toInt Z2)) (zLim f3.toInt Z12 Z15 (zRw f3.toInt Z0) ((Z11 p2.toNatClampNeg).toInt)) (zMon Z10 f3.toInt Z12 (zRw f3.toInt Z1)) (Z10 2).toInt y33.toInt.toNat).2 = (zSl (zRm f3.toInt Z12 (zRw f3.toInt Z2)) (zLim f3.toInt Z12 Z15 (zRw f3.toInt Z0) ((Z11 p2.toNatClampNeg).toInt)) (zMon Z10 f3.toInt Z12 (zRw f3.toInt Z1)) (Z10 2).toInt (v3_2.toInt.toNat + 1)).2 := by rw [(by omega : y33.toInt.toNat = v3_2.toInt.toNat + 1)]
              refine lv_goto (tgt := 43) hx hb dX2_openSealed_155 (by decide) ?_
              exact ih3 y33 G0_2 G1_2 (hG0_2) (hG1_2) (by omega) (by omega) (by omega) (by omega) (by omega) (by omega) (by omega) (by omega) (by omega) _ _ hP hD hS ls (lv_sub hl [2, 3, 4, 0] rfl)
          · have i_11 : y31.toInt ≤ y30.toInt := z_nlt (rfl) (rfl) c_11
            refine lv_iconst (v := 1) hx hb dX2_openSealed_72 (by decide) ?_
            refine lv_goto (tgt := 100) hx hb dX2_openSealed_73 (by decide) ?_
            refine lv_istore (lv' := [(4, .int 1), (0, .ref h0), (1, .ref h1), (2, .int p2), (3, .int v3_2)]) hx hb dX2_openSealed_100 hl (by decide) rfl (fun ls hl => ?_)
            refine lv_aload_n hx hb dX2_openSealed_102 rfl (lv_at hl 1 rfl) ?_
            refine va_get (D := g.1) (ci := 2) (v := .int w3) (C := RX2) (T := TX2) (N := 12) hx hb hts zl_X2 hown hK hP 3 rfl rfl 6 (by decide) (hts _ m_f_RX2_30) (fun _ h => h) rfl dX2_openSealed_103 ?_
            refine lv_iload_n hx hb dX2_openSealed_106 rfl (lv_at hl 4 rfl) ?_
            refine z_calli (wr := [(h8, .inl (zI g, 6, .inl G0_2)), (h9, .inl (zI g, 6, .inl G1_2)), (h13, .inl (zI g, 6, .inl Z11)), (h0, .inr (2, [.ref h2, .ref h3, .ref h4, .ref h5, .ref h6, .ref h7, .int w3, .int w4, .ref h8, .ref h9, .ref h10, .ref h11])), (h1, .inr (0, [.ref h12, .int f2, .ref h13, .int f3, .ref h14, .ref h15, .ref h16, .ref h17, .ref h18, .ref h19, .int f4])), (h2, .inl (zI g, 5, .inl Z0)), (h3, .inl (zI g, 5, .inl Z1)), (h4, .inl (zI g, 5, .inl Z2)), (h6, .inl (zI g, 5, .inl R5)), (h7, .inl (zI g, 5, .inl R6)), (h12, .inl (zI g, 5, .inl Z10)), (h14, .inl (zI g, 5, .inl Z12)), (h17, .inl (zI g, 20, .inl Z15))]) hP hD hS hA [] [0, 1, 2, 3, 4, 5, 6, 7, 8, 9, 10, 11, 12] (by decide) rfl rfl (by decide) (va_runS (As := [.int w3, .int v3_2]) (rest := []) ⟨hx, hb, hml, hown, hts⟩ (gX2_isIn l g  H.size w3 v3_2) ⟨callB_of 2 hts (zGood m_o_yX2_isIn) rfl rfl rfl (hts _ m_z_RX2) (hts _ m_m_RX2_93) ⟨by decide +kernel, by decide +kernel, by decide +kernel⟩ ⟨Nat.le_of_ble_eq_true rfl, Nat.le_of_ble_eq_true rfl⟩, hts _ m_s_yX2_isIn⟩ (zPreS hK hN hZ hP hD hS hA [] (by decide) rfl rfl) rfl rfl hl.1 rfl (lv_room (Nat.le_of_ble_eq_true rfl)) dX2_openSealed_107 ⟨Nat.le_of_ble_eq_true rfl, Nat.le_of_ble_eq_true rfl⟩) (fun r u H locs hw hP hD hS => ?_)
            rcases hw with ⟨i_14, rfl⟩ | ⟨i_15, rfl⟩
            · skip
              have i_14 : zbit w3 v3_2 = 1 := i_14
              have hP : va_P g.1 vwCl [(h8, .inl (zI g, 6, .inl G0_2)), (h9, .inl (zI g, 6, .inl G1_2)), (h13, .inl (zI g, 6, .inl Z11)), (h0, .inr (2, [.ref h2, .ref h3, .ref h4, .ref h5, .ref h6, .ref h7, .int w3, .int w4, .ref h8, .ref h9, .ref h10, .ref h11])), (h1, .inr (0, [.ref h12, .int f2, .ref h13, .int f3, .ref h14, .ref h15, .ref h16, .ref h17, .ref h18, .ref h19, .int f4])), (h2, .inl (zI g, 5, .inl Z0)), (h3, .inl (zI g, 5, .inl Z1)), (h4, .inl (zI g, 5, .inl Z2)), (h6, .inl (zI g, 5, .inl R5)), (h7, .inl (zI g, 5, .inl R6)), (h12, .inl (zI g, 5, .inl Z10)), (h14, .inl (zI g, 5, .inl Z12)), (h17, .inl (zI g, 20, .inl Z15))] H := hP
              have hD : va_D A [(h8, .inl (zI g, 6, .inl G0_2)), (h9, .inl (zI g, 6, .inl G1_2)), (h13, .inl (zI g, 6, .inl Z11)), (h0, .inr (2, [.ref h2, .ref h3, .ref h4, .ref h5, .ref h6, .ref h7, .int w3, .int w4, .ref h8, .ref h9, .ref h10, .ref h11])), (h1, .inr (0, [.ref h12, .int f2, .ref h13, .int f3, .ref h14, .ref h15, .ref h16, .ref h17, .ref h18, .ref h19, .int f4])), (h2, .inl (zI g, 5, .inl Z0)), (h3, .inl (zI g, 5, .inl Z1)), (h4, .inl (zI g, 5, .inl Z2)), (h6, .inl (zI g, 5, .inl R5)), (h7, .inl (zI g, 5, .inl R6)), (h12, .inl (zI g, 5, .inl Z10)), (h14, .inl (zI g, 5, .inl Z12)), (h17, .inl (zI g, 20, .inl Z15))] := hD
              refine lv_if_eq (tgt := 152) hx hb dX2_openSealed_110 (by decide) (fun h => absurd h (by decide +kernel)) (fun _ => ?_)
              refine lv_iload hx hb dX2_openSealed_113 (lv_at hl 0 rfl) ?_
              refine lv_if_eq (tgt := 152) hx hb dX2_openSealed_115 (by decide) (fun h => absurd h (by decide +kernel)) (fun _ => ?_)
              refine lv_aload_n hx hb dX2_openSealed_118 rfl (lv_at hl 1 rfl) ?_
              refine va_get (D := g.1) (ci := 2) (v := .ref h7) (C := RX2) (T := TX2) (N := 12) hx hb hts zl_X2 hown hK hP 3 rfl rfl 5 (by decide) (hts _ m_f_RX2_27) (fun _ h => h) rfl dX2_openSealed_119 ?_
              refine lv_iload_n hx hb dX2_openSealed_122 rfl (lv_at hl 4 rfl) ?_
              refine va_iald (D := g.1) hx hb hK hP 9 0 rfl rfl (vp_in_iff.mpr ⟨by omega, by omega⟩) dX2_openSealed_123 ?_
              refine lv_topi (fun y34 ey34 => ?_)
              have qy34_0 : (-99) ≤ y34.toInt := (i_at (N := 5) (lo := (-99)) (hi := 10098) (i := v3_2) (a := v3_2.toInt) hI8.1 (rfl) (by omega) (by omega) ey34).1
              have qy34_1 : y34.toInt ≤ 10098 := (i_at (N := 5) (lo := (-99)) (hi := 10098) (i := v3_2) (a := v3_2.toInt) hI8.1 (rfl) (by omega) (by omega) ey34).2
              have qy34_2 : y34.toInt = (R6 v3_2.toNatClampNeg).toInt := congrArg Int32.toInt ey34
              refine lv_aload_n hx hb dX2_openSealed_124 rfl (lv_at hl 1 rfl) ?_
              refine va_get (D := g.1) (ci := 2) (v := .ref h6) (C := RX2) (T := TX2) (N := 12) hx hb hts zl_X2 hown hK hP 3 rfl rfl 4 (by decide) (hts _ m_f_RX2_24) (fun _ h => h) rfl dX2_openSealed_125 ?_
              refine lv_iload_n hx hb dX2_openSealed_128 rfl (lv_at hl 4 rfl) ?_
              refine va_iald (D := g.1) hx hb hK hP 8 0 rfl rfl (vp_in_iff.mpr ⟨by omega, by omega⟩) dX2_openSealed_129 ?_
              refine lv_topi (fun y35 ey35 => ?_)
              have qy35_0 : (-40) ≤ y35.toInt := (i_at (N := 5) (lo := (-40)) (hi := 99) (i := v3_2) (a := v3_2.toInt) hI7.1 (rfl) (by omega) (by omega) ey35).1
              have qy35_1 : y35.toInt ≤ 99 := (i_at (N := 5) (lo := (-40)) (hi := 99) (i := v3_2) (a := v3_2.toInt) hI7.1 (rfl) (by omega) (by omega) ey35).2
              have qy35_2 : y35.toInt = (R5 v3_2.toNatClampNeg).toInt := congrArg Int32.toInt ey35
              refine lv_icmp_lt (tgt := 152) hx hb dX2_openSealed_130 (by decide) (fun c_16 => ?_) (fun c_16 => ?_)
              · have i_16 : y34.toInt < y35.toInt := z_lt (rfl) (rfl) c_16
                have hob : (zRm f3.toInt Z12 (zRw f3.toInt Z2)) v3_2.toInt.toNat = zbit w3 v3_2 := (zbit_S zRm_01 hopn (b := v3_2) rfl (by omega) (by omega)).symm
                have hbn := (zRm_n (hob.trans (by omega))).1
                have hmo : (zMon Z10 f3.toInt Z12 (zRw f3.toInt Z1)) v3_2.toInt.toNat = (R6 v3_2.toNatClampNeg).toInt := by rw [← hmn]; exact zRw_at hbn
                have hli : (zLim f3.toInt Z12 Z15 (zRw f3.toInt Z0) ((Z11 p2.toNatClampNeg).toInt)) v3_2.toInt.toNat = (R5 v3_2.toNatClampNeg).toInt := by rw [← hlm]; exact zRw_at hbn
                have ht : (zSl (zRm f3.toInt Z12 (zRw f3.toInt Z2)) (zLim f3.toInt Z12 Z15 (zRw f3.toInt Z0) ((Z11 p2.toNatClampNeg).toInt)) (zMon Z10 f3.toInt Z12 (zRw f3.toInt Z1)) (Z10 2).toInt (v3_2.toInt.toNat + 1)) = (zSl (zRm f3.toInt Z12 (zRw f3.toInt Z2)) (zLim f3.toInt Z12 Z15 (zRw f3.toInt Z0) ((Z11 p2.toNatClampNeg).toInt)) (zMon Z10 f3.toInt Z12 (zRw f3.toInt Z1)) (Z10 2).toInt v3_2.toInt.toNat) := zSl_n (fun q => by have h1 := q.1; have h2 := q.2.1; have h3 := q.2.2; omega)
                have ht_0 : (zSl (zRm f3.toInt Z12 (zRw f3.toInt Z2)) (zLim f3.toInt Z12 Z15 (zRw f3.toInt Z0) ((Z11 p2.toNatClampNeg).toInt)) (zMon Z10 f3.toInt Z12 (zRw f3.toInt Z1)) (Z10 2).toInt (v3_2.toInt.toNat + 1)).1 = (zSl (zRm f3.toInt Z12 (zRw f3.toInt Z2)) (zLim f3.toInt Z12 Z15 (zRw f3.toInt Z0) ((Z11 p2.toNatClampNeg).toInt)) (zMon Z10 f3.toInt Z12 (zRw f3.toInt Z1)) (Z10 2).toInt v3_2.toInt.toNat).1 := by rw [ht]
                have ht_1 : (zSl (zRm f3.toInt Z12 (zRw f3.toInt Z2)) (zLim f3.toInt Z12 Z15 (zRw f3.toInt Z0) ((Z11 p2.toNatClampNeg).toInt)) (zMon Z10 f3.toInt Z12 (zRw f3.toInt Z1)) (Z10 2).toInt (v3_2.toInt.toNat + 1)).2 = (zSl (zRm f3.toInt Z12 (zRw f3.toInt Z2)) (zLim f3.toInt Z12 Z15 (zRw f3.toInt Z0) ((Z11 p2.toNatClampNeg).toInt)) (zMon Z10 f3.toInt Z12 (zRw f3.toInt Z1)) (Z10 2).toInt v3_2.toInt.toNat).2 := by rw [ht]
                obtain ⟨y36, ey36⟩ : ∃ z : Int32, z = v3_2 + 1 := ⟨_, rfl⟩
                have qy36 : y36.toInt = v3_2.toInt + 1 := zi_add ey36 (rfl) rfl (by omega) (by omega)
                refine lv_iinc (v := y36) (lv' := [(3, .int y36), (4, .int 1), (0, .ref h0), (1, .ref h1), (2, .int p2)]) hx hb dX2_openSealed_152 hl (k := 4) rfl ey36.symm (by decide) rfl (fun ls hl => ?_)
                have htb_0 : (zSl (zRm f3.toInt Z12 (zRw f3.toInt Z2)) (zLim f3.toInt Z12 Z15 (zRw f3.toInt Z0) ((Z11 p2.toNatClampNeg).toInt)) (zMon Z10 f3.toInt Z12 (zRw f3.toInt Z1)) (Z10 2).toInt y36.toInt.toNat).1 = (zSl (zRm f3.toInt Z12 (zRw f3.toInt Z2)) (zLim f3.toInt Z12 Z15 (zRw f3.toInt Z0) ((Z11 p2.toNatClampNeg).toInt)) (zMon Z10 f3.toInt Z12 (zRw f3.toInt Z1)) (Z10 2).toInt (v3_2.toInt.toNat + 1)).1 := by rw [(by omega : y36.toInt.toNat = v3_2.toInt.toNat + 1)]
                have htb_1 : (zSl (zRm f3.toInt Z12 (zRw f3.toInt Z2)) (zLim f3.toInt Z12 Z15 (zRw f3.toInt Z0) ((Z11 p2.toNatClampNeg).toInt)) (zMon Z10 f3.toInt Z12 (zRw f3.toInt Z1)) (Z10 2).toInt y36.toInt.toNat).2 = (zSl (zRm f3.toInt Z12 (zRw f3.toInt Z2)) (zLim f3.toInt Z12 Z15 (zRw f3.toInt Z0) ((Z11 p2.toNatClampNeg).toInt)) (zMon Z10 f3.toInt Z12 (zRw f3.toInt Z1)) (Z10 2).toInt (v3_2.toInt.toNat + 1)).2 := by rw [(by omega : y36.toInt.toNat = v3_2.toInt.toNat + 1)]
                refine lv_goto (tgt := 43) hx hb dX2_openSealed_155 (by decide) ?_
                exact ih3 y36 G0_2 G1_2 (hG0_2) (hG1_2) (by omega) (by omega) (by omega) (by omega) (by omega) (by omega) (by omega) (by omega) (by omega) _ _ hP hD hS ls (lv_sub hl [2, 3, 4, 0] rfl)
              · have i_16 : y35.toInt ≤ y34.toInt := z_nlt (rfl) (rfl) c_16
                refine lv_aload_n hx hb dX2_openSealed_133 rfl (lv_at hl 1 rfl) ?_
                refine va_get (D := g.1) (ci := 2) (v := .ref h8) (C := RX2) (T := TX2) (N := 12) hx hb hts zl_X2 hown hK hP 3 rfl rfl 8 (by decide) (hts _ m_f_RX2_37) (fun _ h => h) rfl dX2_openSealed_134 ?_
                refine lv_iload_n hx hb dX2_openSealed_137 rfl (lv_at hl 3 rfl) ?_
                refine lv_iload_n hx hb dX2_openSealed_138 rfl (lv_at hl 4 rfl) ?_
                refine va_iast (D := g.1) hx hb hK hP hD hS 0 0 rfl rfl (vp_in_iff.mpr ⟨by omega, by omega⟩) dX2_openSealed_139 (fun H locs hP hD hS => ?_)
                have hP : va_P g.1 vwCl [(h8, .inl (zI g, 6, .inl (upd G0_2 p2.toNatClampNeg v3_2))), (h9, .inl (zI g, 6, .inl G1_2)), (h13, .inl (zI g, 6, .inl Z11)), (h0, .inr (2, [.ref h2, .ref h3, .ref h4, .ref h5, .ref h6, .ref h7, .int w3, .int w4, .ref h8, .ref h9, .ref h10, .ref h11])), (h1, .inr (0, [.ref h12, .int f2, .ref h13, .int f3, .ref h14, .ref h15, .ref h16, .ref h17, .ref h18, .ref h19, .int f4])), (h2, .inl (zI g, 5, .inl Z0)), (h3, .inl (zI g, 5, .inl Z1)), (h4, .inl (zI g, 5, .inl Z2)), (h6, .inl (zI g, 5, .inl R5)), (h7, .inl (zI g, 5, .inl R6)), (h12, .inl (zI g, 5, .inl Z10)), (h14, .inl (zI g, 5, .inl Z12)), (h17, .inl (zI g, 20, .inl Z15))] H := hP
                have hD : va_D A [(h8, .inl (zI g, 6, .inl (upd G0_2 p2.toNatClampNeg v3_2))), (h9, .inl (zI g, 6, .inl G1_2)), (h13, .inl (zI g, 6, .inl Z11)), (h0, .inr (2, [.ref h2, .ref h3, .ref h4, .ref h5, .ref h6, .ref h7, .int w3, .int w4, .ref h8, .ref h9, .ref h10, .ref h11])), (h1, .inr (0, [.ref h12, .int f2, .ref h13, .int f3, .ref h14, .ref h15, .ref h16, .ref h17, .ref h18, .ref h19, .int f4])), (h2, .inl (zI g, 5, .inl Z0)), (h3, .inl (zI g, 5, .inl Z1)), (h4, .inl (zI g, 5, .inl Z2)), (h6, .inl (zI g, 5, .inl R5)), (h7, .inl (zI g, 5, .inl R6)), (h12, .inl (zI g, 5, .inl Z10)), (h14, .inl (zI g, 5, .inl Z12)), (h17, .inl (zI g, 20, .inl Z15))] := hD
                have hI37 : zNr p2.toInt Z6 (upd G0_2 p2.toNatClampNeg v3_2) := zNr_put (i := p2) hG0_2 (rfl) (by omega)
                obtain ⟨R38, eR38⟩ : ∃ z : Nat → Int32, z = (upd G0_2 p2.toNatClampNeg v3_2) := ⟨_, rfl⟩
                rw [← eR38] at hP hD hI37
                have qR38 : (R38 p2.toNatClampNeg).toInt = v3_2.toInt := z_put eR38 (rfl)
                refine lv_aload_n hx hb dX2_openSealed_140 rfl (lv_at hl 1 rfl) ?_
                refine va_get (D := g.1) (ci := 2) (v := .ref h9) (C := RX2) (T := TX2) (N := 12) hx hb hts zl_X2 hown hK hP 3 rfl rfl 9 (by decide) (hts _ m_f_RX2_40) (fun _ h => h) rfl dX2_openSealed_141 ?_
                refine lv_iload_n hx hb dX2_openSealed_144 rfl (lv_at hl 3 rfl) ?_
                refine lv_aload_n hx hb dX2_openSealed_145 rfl (lv_at hl 1 rfl) ?_
                refine va_get (D := g.1) (ci := 2) (v := .ref h6) (C := RX2) (T := TX2) (N := 12) hx hb hts zl_X2 hown hK hP 3 rfl rfl 4 (by decide) (hts _ m_f_RX2_24) (fun _ h => h) rfl dX2_openSealed_146 ?_
                refine lv_iload_n hx hb dX2_openSealed_149 rfl (lv_at hl 4 rfl) ?_
                refine va_iald (D := g.1) hx hb hK hP 8 0 rfl rfl (vp_in_iff.mpr ⟨by omega, by omega⟩) dX2_openSealed_150 ?_
                refine lv_topi (fun y39 ey39 => ?_)
                have qy39_0 : (-40) ≤ y39.toInt := (i_at (N := 5) (lo := (-40)) (hi := 99) (i := v3_2) (a := v3_2.toInt) hI7.1 (rfl) (by omega) (by omega) ey39).1
                have qy39_1 : y39.toInt ≤ 99 := (i_at (N := 5) (lo := (-40)) (hi := 99) (i := v3_2) (a := v3_2.toInt) hI7.1 (rfl) (by omega) (by omega) ey39).2
                have qy39_2 : y39.toInt = (R5 v3_2.toNatClampNeg).toInt := congrArg Int32.toInt ey39
                refine va_iast (D := g.1) hx hb hK hP hD hS 1 0 rfl rfl (vp_in_iff.mpr ⟨by omega, by omega⟩) dX2_openSealed_151 (fun H locs hP hD hS => ?_)
                have hP : va_P g.1 vwCl [(h8, .inl (zI g, 6, .inl R38)), (h9, .inl (zI g, 6, .inl (upd G1_2 p2.toNatClampNeg y39))), (h13, .inl (zI g, 6, .inl Z11)), (h0, .inr (2, [.ref h2, .ref h3, .ref h4, .ref h5, .ref h6, .ref h7, .int w3, .int w4, .ref h8, .ref h9, .ref h10, .ref h11])), (h1, .inr (0, [.ref h12, .int f2, .ref h13, .int f3, .ref h14, .ref h15, .ref h16, .ref h17, .ref h18, .ref h19, .int f4])), (h2, .inl (zI g, 5, .inl Z0)), (h3, .inl (zI g, 5, .inl Z1)), (h4, .inl (zI g, 5, .inl Z2)), (h6, .inl (zI g, 5, .inl R5)), (h7, .inl (zI g, 5, .inl R6)), (h12, .inl (zI g, 5, .inl Z10)), (h14, .inl (zI g, 5, .inl Z12)), (h17, .inl (zI g, 20, .inl Z15))] H := hP
                have hD : va_D A [(h8, .inl (zI g, 6, .inl R38)), (h9, .inl (zI g, 6, .inl (upd G1_2 p2.toNatClampNeg y39))), (h13, .inl (zI g, 6, .inl Z11)), (h0, .inr (2, [.ref h2, .ref h3, .ref h4, .ref h5, .ref h6, .ref h7, .int w3, .int w4, .ref h8, .ref h9, .ref h10, .ref h11])), (h1, .inr (0, [.ref h12, .int f2, .ref h13, .int f3, .ref h14, .ref h15, .ref h16, .ref h17, .ref h18, .ref h19, .int f4])), (h2, .inl (zI g, 5, .inl Z0)), (h3, .inl (zI g, 5, .inl Z1)), (h4, .inl (zI g, 5, .inl Z2)), (h6, .inl (zI g, 5, .inl R5)), (h7, .inl (zI g, 5, .inl R6)), (h12, .inl (zI g, 5, .inl Z10)), (h14, .inl (zI g, 5, .inl Z12)), (h17, .inl (zI g, 20, .inl Z15))] := hD
                have hI40 : zNr p2.toInt Z7 (upd G1_2 p2.toNatClampNeg y39) := zNr_put (i := p2) hG1_2 (rfl) (by omega)
                obtain ⟨R41, eR41⟩ : ∃ z : Nat → Int32, z = (upd G1_2 p2.toNatClampNeg y39) := ⟨_, rfl⟩
                rw [← eR41] at hP hD hI40
                have qR41 : (R41 p2.toNatClampNeg).toInt = y39.toInt := z_put eR41 (rfl)
                have hob : (zRm f3.toInt Z12 (zRw f3.toInt Z2)) v3_2.toInt.toNat = zbit w3 v3_2 := (zbit_S zRm_01 hopn (b := v3_2) rfl (by omega) (by omega)).symm
                have hbn := (zRm_n (hob.trans (by omega))).1
                have hmo : (zMon Z10 f3.toInt Z12 (zRw f3.toInt Z1)) v3_2.toInt.toNat = (R6 v3_2.toNatClampNeg).toInt := by rw [← hmn]; exact zRw_at hbn
                have hli : (zLim f3.toInt Z12 Z15 (zRw f3.toInt Z0) ((Z11 p2.toNatClampNeg).toInt)) v3_2.toInt.toNat = (R5 v3_2.toNatClampNeg).toInt := by rw [← hlm]; exact zRw_at hbn
                have ht : (zSl (zRm f3.toInt Z12 (zRw f3.toInt Z2)) (zLim f3.toInt Z12 Z15 (zRw f3.toInt Z0) ((Z11 p2.toNatClampNeg).toInt)) (zMon Z10 f3.toInt Z12 (zRw f3.toInt Z1)) (Z10 2).toInt (v3_2.toInt.toNat + 1)) = (((v3_2.toInt.toNat : Nat) : Int), (zLim f3.toInt Z12 Z15 (zRw f3.toInt Z0) ((Z11 p2.toNatClampNeg).toInt)) v3_2.toInt.toNat) := zSl_1 ⟨by omega, by omega, by omega⟩
                have ht_0 : (zSl (zRm f3.toInt Z12 (zRw f3.toInt Z2)) (zLim f3.toInt Z12 Z15 (zRw f3.toInt Z0) ((Z11 p2.toNatClampNeg).toInt)) (zMon Z10 f3.toInt Z12 (zRw f3.toInt Z1)) (Z10 2).toInt (v3_2.toInt.toNat + 1)).1 = ((v3_2.toInt.toNat : Nat) : Int) := by rw [ht]
                have ht_1 : (zSl (zRm f3.toInt Z12 (zRw f3.toInt Z2)) (zLim f3.toInt Z12 Z15 (zRw f3.toInt Z0) ((Z11 p2.toNatClampNeg).toInt)) (zMon Z10 f3.toInt Z12 (zRw f3.toInt Z1)) (Z10 2).toInt (v3_2.toInt.toNat + 1)).2 = (zLim f3.toInt Z12 Z15 (zRw f3.toInt Z0) ((Z11 p2.toNatClampNeg).toInt)) v3_2.toInt.toNat := by rw [ht]
                obtain ⟨y42, ey42⟩ : ∃ z : Int32, z = v3_2 + 1 := ⟨_, rfl⟩
                have qy42 : y42.toInt = v3_2.toInt + 1 := zi_add ey42 (rfl) rfl (by omega) (by omega)
                refine lv_iinc (v := y42) (lv' := [(3, .int y42), (4, .int 1), (0, .ref h0), (1, .ref h1), (2, .int p2)]) hx hb dX2_openSealed_152 hl (k := 4) rfl ey42.symm (by decide) rfl (fun ls hl => ?_)
                have htb_0 : (zSl (zRm f3.toInt Z12 (zRw f3.toInt Z2)) (zLim f3.toInt Z12 Z15 (zRw f3.toInt Z0) ((Z11 p2.toNatClampNeg).toInt)) (zMon Z10 f3.toInt Z12 (zRw f3.toInt Z1)) (Z10 2).toInt y42.toInt.toNat).1 = (zSl (zRm f3.toInt Z12 (zRw f3.toInt Z2)) (zLim f3.toInt Z12 Z15 (zRw f3.toInt Z0) ((Z11 p2.toNatClampNeg).toInt)) (zMon Z10 f3.toInt Z12 (zRw f3.toInt Z1)) (Z10 2).toInt (v3_2.toInt.toNat + 1)).1 := by rw [(by omega : y42.toInt.toNat = v3_2.toInt.toNat + 1)]
                have htb_1 : (zSl (zRm f3.toInt Z12 (zRw f3.toInt Z2)) (zLim f3.toInt Z12 Z15 (zRw f3.toInt Z0) ((Z11 p2.toNatClampNeg).toInt)) (zMon Z10 f3.toInt Z12 (zRw f3.toInt Z1)) (Z10 2).toInt y42.toInt.toNat).2 = (zSl (zRm f3.toInt Z12 (zRw f3.toInt Z2)) (zLim f3.toInt Z12 Z15 (zRw f3.toInt Z0) ((Z11 p2.toNatClampNeg).toInt)) (zMon Z10 f3.toInt Z12 (zRw f3.toInt Z1)) (Z10 2).toInt (v3_2.toInt.toNat + 1)).2 := by rw [(by omega : y42.toInt.toNat = v3_2.toInt.toNat + 1)]
                refine lv_goto (tgt := 43) hx hb dX2_openSealed_155 (by decide) ?_
                exact ih3 y42 R38 R41 (hI37) (hI40) (by omega) (by omega) (by omega) (by omega) (by omega) (by omega) (by omega) (by omega) (by omega) _ _ hP hD hS ls (lv_sub hl [2, 3, 4, 0] rfl)
            · skip
              have i_15 : zbit w3 v3_2 = 0 := i_15
              have hP : va_P g.1 vwCl [(h8, .inl (zI g, 6, .inl G0_2)), (h9, .inl (zI g, 6, .inl G1_2)), (h13, .inl (zI g, 6, .inl Z11)), (h0, .inr (2, [.ref h2, .ref h3, .ref h4, .ref h5, .ref h6, .ref h7, .int w3, .int w4, .ref h8, .ref h9, .ref h10, .ref h11])), (h1, .inr (0, [.ref h12, .int f2, .ref h13, .int f3, .ref h14, .ref h15, .ref h16, .ref h17, .ref h18, .ref h19, .int f4])), (h2, .inl (zI g, 5, .inl Z0)), (h3, .inl (zI g, 5, .inl Z1)), (h4, .inl (zI g, 5, .inl Z2)), (h6, .inl (zI g, 5, .inl R5)), (h7, .inl (zI g, 5, .inl R6)), (h12, .inl (zI g, 5, .inl Z10)), (h14, .inl (zI g, 5, .inl Z12)), (h17, .inl (zI g, 20, .inl Z15))] H := hP
              have hD : va_D A [(h8, .inl (zI g, 6, .inl G0_2)), (h9, .inl (zI g, 6, .inl G1_2)), (h13, .inl (zI g, 6, .inl Z11)), (h0, .inr (2, [.ref h2, .ref h3, .ref h4, .ref h5, .ref h6, .ref h7, .int w3, .int w4, .ref h8, .ref h9, .ref h10, .ref h11])), (h1, .inr (0, [.ref h12, .int f2, .ref h13, .int f3, .ref h14, .ref h15, .ref h16, .ref h17, .ref h18, .ref h19, .int f4])), (h2, .inl (zI g, 5, .inl Z0)), (h3, .inl (zI g, 5, .inl Z1)), (h4, .inl (zI g, 5, .inl Z2)), (h6, .inl (zI g, 5, .inl R5)), (h7, .inl (zI g, 5, .inl R6)), (h12, .inl (zI g, 5, .inl Z10)), (h14, .inl (zI g, 5, .inl Z12)), (h17, .inl (zI g, 20, .inl Z15))] := hD
              refine lv_if_eq (tgt := 152) hx hb dX2_openSealed_110 (by decide) (fun _ => ?_) (fun h => absurd h (by decide +kernel))
              have hob : (zRm f3.toInt Z12 (zRw f3.toInt Z2)) v3_2.toInt.toNat = zbit w3 v3_2 := (zbit_S zRm_01 hopn (b := v3_2) rfl (by omega) (by omega)).symm
              have ht : (zSl (zRm f3.toInt Z12 (zRw f3.toInt Z2)) (zLim f3.toInt Z12 Z15 (zRw f3.toInt Z0) ((Z11 p2.toNatClampNeg).toInt)) (zMon Z10 f3.toInt Z12 (zRw f3.toInt Z1)) (Z10 2).toInt (v3_2.toInt.toNat + 1)) = (zSl (zRm f3.toInt Z12 (zRw f3.toInt Z2)) (zLim f3.toInt Z12 Z15 (zRw f3.toInt Z0) ((Z11 p2.toNatClampNeg).toInt)) (zMon Z10 f3.toInt Z12 (zRw f3.toInt Z1)) (Z10 2).toInt v3_2.toInt.toNat) := zSl_n (fun q => by have h1 := q.1; have h2 := q.2.1; have h3 := q.2.2; omega)
              have ht_0 : (zSl (zRm f3.toInt Z12 (zRw f3.toInt Z2)) (zLim f3.toInt Z12 Z15 (zRw f3.toInt Z0) ((Z11 p2.toNatClampNeg).toInt)) (zMon Z10 f3.toInt Z12 (zRw f3.toInt Z1)) (Z10 2).toInt (v3_2.toInt.toNat + 1)).1 = (zSl (zRm f3.toInt Z12 (zRw f3.toInt Z2)) (zLim f3.toInt Z12 Z15 (zRw f3.toInt Z0) ((Z11 p2.toNatClampNeg).toInt)) (zMon Z10 f3.toInt Z12 (zRw f3.toInt Z1)) (Z10 2).toInt v3_2.toInt.toNat).1 := by rw [ht]
              have ht_1 : (zSl (zRm f3.toInt Z12 (zRw f3.toInt Z2)) (zLim f3.toInt Z12 Z15 (zRw f3.toInt Z0) ((Z11 p2.toNatClampNeg).toInt)) (zMon Z10 f3.toInt Z12 (zRw f3.toInt Z1)) (Z10 2).toInt (v3_2.toInt.toNat + 1)).2 = (zSl (zRm f3.toInt Z12 (zRw f3.toInt Z2)) (zLim f3.toInt Z12 Z15 (zRw f3.toInt Z0) ((Z11 p2.toNatClampNeg).toInt)) (zMon Z10 f3.toInt Z12 (zRw f3.toInt Z1)) (Z10 2).toInt v3_2.toInt.toNat).2 := by rw [ht]
              obtain ⟨y43, ey43⟩ : ∃ z : Int32, z = v3_2 + 1 := ⟨_, rfl⟩
              have qy43 : y43.toInt = v3_2.toInt + 1 := zi_add ey43 (rfl) rfl (by omega) (by omega)
              refine lv_iinc (v := y43) (lv' := [(3, .int y43), (4, .int 1), (0, .ref h0), (1, .ref h1), (2, .int p2)]) hx hb dX2_openSealed_152 hl (k := 4) rfl ey43.symm (by decide) rfl (fun ls hl => ?_)
              have htb_0 : (zSl (zRm f3.toInt Z12 (zRw f3.toInt Z2)) (zLim f3.toInt Z12 Z15 (zRw f3.toInt Z0) ((Z11 p2.toNatClampNeg).toInt)) (zMon Z10 f3.toInt Z12 (zRw f3.toInt Z1)) (Z10 2).toInt y43.toInt.toNat).1 = (zSl (zRm f3.toInt Z12 (zRw f3.toInt Z2)) (zLim f3.toInt Z12 Z15 (zRw f3.toInt Z0) ((Z11 p2.toNatClampNeg).toInt)) (zMon Z10 f3.toInt Z12 (zRw f3.toInt Z1)) (Z10 2).toInt (v3_2.toInt.toNat + 1)).1 := by rw [(by omega : y43.toInt.toNat = v3_2.toInt.toNat + 1)]
              have htb_1 : (zSl (zRm f3.toInt Z12 (zRw f3.toInt Z2)) (zLim f3.toInt Z12 Z15 (zRw f3.toInt Z0) ((Z11 p2.toNatClampNeg).toInt)) (zMon Z10 f3.toInt Z12 (zRw f3.toInt Z1)) (Z10 2).toInt y43.toInt.toNat).2 = (zSl (zRm f3.toInt Z12 (zRw f3.toInt Z2)) (zLim f3.toInt Z12 Z15 (zRw f3.toInt Z0) ((Z11 p2.toNatClampNeg).toInt)) (zMon Z10 f3.toInt Z12 (zRw f3.toInt Z1)) (Z10 2).toInt (v3_2.toInt.toNat + 1)).2 := by rw [(by omega : y43.toInt.toNat = v3_2.toInt.toNat + 1)]
              refine lv_goto (tgt := 43) hx hb dX2_openSealed_155 (by decide) ?_
              exact ih3 y43 G0_2 G1_2 (hG0_2) (hG1_2) (by omega) (by omega) (by omega) (by omega) (by omega) (by omega) (by omega) (by omega) (by omega) _ _ hP hD hS ls (lv_sub hl [2, 3, 4, 0] rfl)
  have : (0 : Int32).toInt = 0 := rfl
  exact loop43_2 ((5 - 0 : Int).toNat + 1) (0 : Int32) R11 R14 (hI10) (hI13) (by omega) (by omega) (by omega) (by omega) (by omega) (by omega) (by omega) (by omega) (by omega) _ _ hP hD hS ls (lv_sub hl [1, 2, 3, 0] rfl)

set_option maxHeartbeats 8000000 in
set_option maxRecDepth 100000 in
theorem gX3_append (l : Launch) (g : zG) (h0 h1 : Nat) (sz : Nat) (p1 : Int64) (p2 : Int32) (f0 : Int32) (Z0 : Nat → Int32) (hf_f0 : 0 ≤ f0.toInt ∧ f0.toInt ≤ 60) : Met l yX3_append (.code yX3_append cX3_append 6 (some .int) :: zBig) ({ frames := 1, cells := 0, slots := 0, locals := 22 }) (va_Pc [.ref h0, .long p1, .int p2] (zPre g [(h0, .inr (3, [.ref h1, .int f0])), (h1, .inl (zB g, 60, .inl Z0))] sz)) (va_Qi (fun (r : Int32) (u : Int32 × (Nat → Int32)) => (r.toInt = zTR p1 p2.toInt f0.toInt ∧ u.1.toInt = zTL p1 p2.toInt f0.toInt) ∧ (0 ≤ u.1.toInt ∧ u.1.toInt ≤ 60) ∧ zTy p1 p2.toInt f0.toInt u.1.toInt Z0 u.2) (zPost g (fun u : Int32 × (Nat → Int32) => [(h0, .inr (3, [.ref h1, .int u.1])), (h1, .inl (zB g, 60, .inl u.2))]) (va_A [(h0, .inr (3, [.ref h1, .int f0])), (h1, .inl (zB g, 60, .inl Z0))] sz)) (va_A [(h0, .inr (3, [.ref h1, .int f0])), (h1, .inl (zB g, 60, .inl Z0))] sz)) 0 0 (va_A [(h0, .inr (3, [.ref h1, .int f0])), (h1, .inl (zB g, 60, .inl Z0))] sz) := by
  refine zMetI rfl (Nat.le_of_ble_eq_true rfl) ?_
  intro p e s m args below meth c A ls hx hb hml hr hlocks hin hown hts hK hN hZ hP hD hA hS hAe hl
  have hown : s.vm.findClass RX3 = some m.cls := hown
  have hl : lv_has ls 6 [(0, .ref h0), (1, .long p1), (3, .int p2)] := hl
  have hz01 := zOK_01 p1 p2.toInt
  have hty0 : zTy p1 p2.toInt f0.toInt f0.toInt Z0 Z0 := zTy_0
  refine lv_iload_n hx hb dX3_append_0 rfl (lv_at hl 2 rfl) ?_
  refine lv_iconst (v := 1) hx hb dX3_append_1 (by decide) ?_
  refine lv_icmp_lt (tgt := 11) hx hb dX3_append_2 (by decide) (fun c_0 => ?_) (fun c_0 => ?_)
  · have i_0 : p2.toInt < 1 := z_lt (rfl) (rfl) c_0
    refine lv_iconst (v := (-1)) hx hb dX3_append_11 (by decide) ?_
    have hzR : zTR p1 p2.toInt f0.toInt = (-1) := by unfold zTR; first | rw [if_pos (by omega)] | rw [if_neg (by omega), if_pos (by omega)] | (rw [if_neg (by omega), if_neg (by omega)]; omega)
    have hzL : zTL p1 p2.toInt f0.toInt = f0.toInt := by unfold zTL; first | (rw [if_pos (by omega)]; omega) | rw [if_neg (by omega)]
    have : ((-1) : Int32).toInt = (-1) := rfl
    have hP9 := hP.sub (ws' := [(h0, .inr (3, [.ref h1, .int f0])), (h1, .inl (zB g, 60, .inl Z0))]) [0, 1] rfl
    have hD9 := hD.sub (ws' := [(h0, .inr (3, [.ref h1, .int f0])), (h1, .inl (zB g, 60, .inl Z0))]) [0, 1] (by decide) rfl
    exact W.iret (v := (-1)) hx hb hr (fun t ht hW => ⟨⟨(-1), ⟨f0, Z0⟩, rfl, ⟨⟨(by first | omega | decide), (show f0.toInt = zTL p1 p2.toInt f0.toInt from by first | omega | decide)⟩, ⟨show 0 ≤ f0.toInt from by omega, show f0.toInt ≤ 60 from by omega⟩, hty0⟩, by rw [ht]; exact hP9, hD9⟩, hS.F ht⟩) hS.2.2 dX3_append_12
  · have i_0 : 1 ≤ p2.toInt := z_nlt (rfl) (rfl) c_0
    refine lv_iload_n hx hb dX3_append_5 rfl (lv_at hl 2 rfl) ?_
    refine lv_bipush (v := 8) hx hb dX3_append_6 (by decide) ?_
    refine lv_icmp_le (tgt := 13) hx hb dX3_append_8 (by decide) (fun c_1 => ?_) (fun c_1 => ?_)
    · have i_1 : p2.toInt ≤ 8 := z_le (rfl) (rfl) c_1
      have hz0 : zOK p1 (0 : Int32).toInt = 1 := zOK_0 p1
      refine lv_iconst (v := 0) hx hb dX3_append_13 (by decide) ?_
      refine lv_istore (lv' := [(4, .int 0), (0, .ref h0), (1, .long p1), (3, .int p2)]) hx hb dX3_append_14 hl (by decide) rfl (fun ls hl => ?_)
      have loop16_2 : ∀ (n3 : Nat) (v4_2 : Int32) (n3_0 : 0 ≤ v4_2.toInt) (n3_1 : v4_2.toInt ≤ p2.toInt) (n3_2 : zOK p1 v4_2.toInt = 1) (hm3 : p2.toInt - v4_2.toInt < (n3 : Int)) (H : Heap) (locs : List Loc), va_P g.1 vwCl [(h0, .inr (3, [.ref h1, .int f0])), (h1, .inl (zB g, 60, .inl Z0))] H → va_D A [(h0, .inr (3, [.ref h1, .int f0])), (h1, .inl (zB g, 60, .inl Z0))] → va_S A s.heap H locs → ∀ (ls : Array Slot), lv_has ls 6 [(0, .ref h0), (1, .long p1), (3, .int p2), (4, .int v4_2)] → W p l e ({ frames := 1, cells := 0, slots := 0, locals := 22 }) s m args below meth c H locs 0 0 (MQ below (va_Qi (fun (r : Int32) (u : Int32 × (Nat → Int32)) => (r.toInt = zTR p1 p2.toInt f0.toInt ∧ u.1.toInt = zTL p1 p2.toInt f0.toInt) ∧ (0 ≤ u.1.toInt ∧ u.1.toInt ≤ 60) ∧ zTy p1 p2.toInt f0.toInt u.1.toInt Z0 u.2) (zPost g (fun u : Int32 × (Nat → Int32) => [(h0, .inr (3, [.ref h1, .int u.1])), (h1, .inl (zB g, 60, .inl u.2))]) A) A) args s 0 0 A) (F0 m 16 ls []) := by
        intro n3
        induction n3 with
        | zero => intro v4_2 n3_0 n3_1 n3_2 hm3; exfalso; omega
        | succ n3 ih3 =>
          intro v4_2 n3_0 n3_1 n3_2 hm3 H locs hP hD hS ls hl
          refine lv_iload hx hb dX3_append_16 (lv_at hl 3 rfl) ?_
          refine lv_iload_n hx hb dX3_append_18 rfl (lv_at hl 2 rfl) ?_
          refine lv_icmp_ge (tgt := 52) hx hb dX3_append_19 (by decide) (fun c_3 => ?_) (fun c_3 => ?_)
          · have i_3 : p2.toInt ≤ v4_2.toInt := z_le (rfl) (rfl) c_3
            have hze : p2.toInt = v4_2.toInt := by omega
            have hzn : zOK p1 p2.toInt = 1 := by rw [hze]; assumption
            refine lv_aload_n hx hb dX3_append_52 rfl (lv_at hl 0 rfl) ?_
            refine va_get (D := g.1) (ci := 3) (v := .int f0) (C := RX3) (T := TX3) (N := 2) hx hb hts zl_X3 hown hK hP 0 rfl rfl 1 (by decide) (hts _ m_f_RX3_15) (fun _ h => h) rfl dX3_append_53 ?_
            refine lv_if_lt (tgt := 70) hx hb dX3_append_56 (by decide) (fun c_4 => absurd (show f0.toInt < 0 from z_lt (rfl) (rfl) c_4) (by omega)) (fun c_4 => ?_)
            have i_4 : 0 ≤ f0.toInt := z_nlt (rfl) (rfl) c_4
            refine lv_aload_n hx hb dX3_append_59 rfl (lv_at hl 0 rfl) ?_
            refine va_get (D := g.1) (ci := 3) (v := .int f0) (C := RX3) (T := TX3) (N := 2) hx hb hts zl_X3 hown hK hP 0 rfl rfl 1 (by decide) (hts _ m_f_RX3_15) (fun _ h => h) rfl dX3_append_60 ?_
            refine lv_iload_n hx hb dX3_append_63 rfl (lv_at hl 2 rfl) ?_
            refine lv_iadd hx hb dX3_append_64 ?_
            refine lv_topi (fun y0 ey0 => ?_)
            have qy0_0 : y0.toInt = f0.toInt + p2.toInt := zi_add ey0 (rfl) (rfl) (by omega) (by omega)
            refine lv_bipush (v := 60) hx hb dX3_append_65 (by decide) ?_
            refine lv_icmp_le (tgt := 73) hx hb dX3_append_67 (by decide) (fun c_5 => ?_) (fun c_5 => ?_)
            · have i_5 : y0.toInt ≤ 60 := z_le (rfl) (rfl) c_5
              refine lv_iload_n hx hb dX3_append_73 rfl (lv_at hl 2 rfl) ?_
              refine lv_iconst (v := 1) hx hb dX3_append_74 (by decide) ?_
              refine lv_isub hx hb dX3_append_75 ?_
              refine lv_topi (fun y1 ey1 => ?_)
              have qy1_0 : y1.toInt = p2.toInt - 1 := zi_sub ey1 (rfl) (rfl) (by omega) (by omega)
              refine lv_istore (lv' := [(4, .int y1), (0, .ref h0), (1, .long p1), (3, .int p2)]) hx hb dX3_append_76 hl (by decide) rfl (fun ls hl => ?_)
              have loop78_6 : ∀ (n7 : Nat) (v4_6 : Int32) (g0_6 : Int32) (G1_6 : Nat → Int32) (hg0_6a : 0 ≤ g0_6.toInt) (hg0_6b : g0_6.toInt ≤ 60) (hG1_6 : zTy p1 p2.toInt f0.toInt g0_6.toInt Z0 G1_6) (n7_0 : -1 ≤ v4_6.toInt) (n7_1 : v4_6.toInt ≤ 7) (n7_2 : g0_6.toInt + v4_6.toInt + 1 ≤ 60) (n7_3 : g0_6.toInt + v4_6.toInt + 1 = f0.toInt + p2.toInt) (n7_4 : f0.toInt ≤ g0_6.toInt) (hm7 : v4_6.toInt + 1 < (n7 : Int)) (H : Heap) (locs : List Loc), va_P g.1 vwCl [(h0, .inr (3, [.ref h1, .int g0_6])), (h1, .inl (zB g, 60, .inl G1_6))] H → va_D A [(h0, .inr (3, [.ref h1, .int g0_6])), (h1, .inl (zB g, 60, .inl G1_6))] → va_S A s.heap H locs → ∀ (ls : Array Slot), lv_has ls 6 [(0, .ref h0), (1, .long p1), (3, .int p2), (4, .int v4_6)] → W p l e ({ frames := 1, cells := 0, slots := 0, locals := 22 }) s m args below meth c H locs 0 0 (MQ below (va_Qi (fun (r : Int32) (u : Int32 × (Nat → Int32)) => (r.toInt = zTR p1 p2.toInt f0.toInt ∧ u.1.toInt = zTL p1 p2.toInt f0.toInt) ∧ (0 ≤ u.1.toInt ∧ u.1.toInt ≤ 60) ∧ zTy p1 p2.toInt f0.toInt u.1.toInt Z0 u.2) (zPost g (fun u : Int32 × (Nat → Int32) => [(h0, .inr (3, [.ref h1, .int u.1])), (h1, .inl (zB g, 60, .inl u.2))]) A) A) args s 0 0 A) (F0 m 78 ls []) := by
                intro n7
                induction n7 with
                | zero => intro v4_6 g0_6 G1_6 hg0_6a hg0_6b hG1_6 n7_0 n7_1 n7_2 n7_3 n7_4 hm7; exfalso; omega
                | succ n7 ih7 =>
                  intro v4_6 g0_6 G1_6 hg0_6a hg0_6b hG1_6 n7_0 n7_1 n7_2 n7_3 n7_4 hm7 H locs hP hD hS ls hl
                  refine lv_iload hx hb dX3_append_78 (lv_at hl 3 rfl) ?_
                  refine lv_if_lt (tgt := 115) hx hb dX3_append_80 (by decide) (fun c_7 => ?_) (fun c_7 => ?_)
                  · have i_7 : v4_6.toInt < 0 := z_lt (rfl) (rfl) c_7
                    refine lv_aload_n hx hb dX3_append_115 rfl (lv_at hl 0 rfl) ?_
                    refine va_get (D := g.1) (ci := 3) (v := .int g0_6) (C := RX3) (T := TX3) (N := 2) hx hb hts zl_X3 hown hK hP 0 rfl rfl 1 (by decide) (hts _ m_f_RX3_15) (fun _ h => h) rfl dX3_append_116 ?_
                    have hzR : zTR p1 p2.toInt f0.toInt = g0_6.toInt := by unfold zTR; first | rw [if_pos (by omega)] | rw [if_neg (by omega), if_pos (by omega)] | (rw [if_neg (by omega), if_neg (by omega)]; omega)
                    have hzL : zTL p1 p2.toInt f0.toInt = g0_6.toInt := by unfold zTL; first | (rw [if_pos (by omega)]; omega) | rw [if_neg (by omega)]
                    have hP9 := hP.sub (ws' := [(h0, .inr (3, [.ref h1, .int g0_6])), (h1, .inl (zB g, 60, .inl G1_6))]) [0, 1] rfl
                    have hD9 := hD.sub (ws' := [(h0, .inr (3, [.ref h1, .int g0_6])), (h1, .inl (zB g, 60, .inl G1_6))]) [0, 1] (by decide) rfl
                    exact W.iret (v := g0_6) hx hb hr (fun t ht hW => ⟨⟨g0_6, ⟨g0_6, G1_6⟩, rfl, ⟨⟨(by first | omega | decide), (show g0_6.toInt = zTL p1 p2.toInt f0.toInt from by first | omega | decide)⟩, ⟨show 0 ≤ g0_6.toInt from by omega, show g0_6.toInt ≤ 60 from by omega⟩, hG1_6⟩, by rw [ht]; exact hP9, hD9⟩, hS.F ht⟩) hS.2.2 dX3_append_119
                  · have i_7 : 0 ≤ v4_6.toInt := z_nlt (rfl) (rfl) c_7
                    refine lv_aload_n hx hb dX3_append_83 rfl (lv_at hl 0 rfl) ?_
                    refine va_get (D := g.1) (ci := 3) (v := .ref h1) (C := RX3) (T := TX3) (N := 2) hx hb hts zl_X3 hown hK hP 0 rfl rfl 0 (by decide) (hts _ m_f_RX3_11) (fun _ h => h) rfl dX3_append_84 ?_
                    refine lv_aload_n hx hb dX3_append_87 rfl (lv_at hl 0 rfl) ?_
                    refine va_get (D := g.1) (ci := 3) (v := .int g0_6) (C := RX3) (T := TX3) (N := 2) hx hb hts zl_X3 hown hK hP 0 rfl rfl 1 (by decide) (hts _ m_f_RX3_15) (fun _ h => h) rfl dX3_append_88 ?_
                    refine lv_lload_n hx hb dX3_append_91 rfl (lv_at hl 1 rfl) ?_
                    refine lv_iload hx hb dX3_append_92 (lv_at hl 3 rfl) ?_
                    refine z_calli (wr := [(h0, .inr (3, [.ref h1, .int g0_6])), (h1, .inl (zB g, 60, .inl G1_6))]) hP hD hS hA [] [0, 1] (by decide) rfl rfl (by decide) (va_runS (As := [.long p1, .int v4_6]) (rest := [.int g0_6, .ref h1]) ⟨hx, hb, hml, hown, hts⟩ (gX3_byteOf l g  H.size p1 v4_6) ⟨callB_of 2 hts (zGood m_o_yX3_byteOf) rfl rfl rfl (hts _ m_z_RX3) (hts _ m_m_RX3_19) ⟨by decide +kernel, by decide +kernel, by decide +kernel⟩ ⟨Nat.le_of_ble_eq_true rfl, Nat.le_of_ble_eq_true rfl⟩, hts _ m_s_yX3_byteOf⟩ (zPreS hK hN hZ hP hD hS hA [] (by decide) rfl rfl) rfl rfl hl.1 rfl (lv_room (Nat.le_of_ble_eq_true rfl)) dX3_append_94 ⟨Nat.le_of_ble_eq_true rfl, Nat.le_of_ble_eq_true rfl⟩) (fun r u H locs hw hP hD hS => ?_)
                    obtain ⟨y2, rfl⟩ : ∃ z, z = r := ⟨_, rfl⟩
                    have q3_0 := hw
                    have q3_0 : y2.toInt = zb8 p1 v4_6 := q3_0
                    have hP : va_P g.1 vwCl [(h0, .inr (3, [.ref h1, .int g0_6])), (h1, .inl (zB g, 60, .inl G1_6))] H := hP
                    have hD : va_D A [(h0, .inr (3, [.ref h1, .int g0_6])), (h1, .inl (zB g, 60, .inl G1_6))] := hD
                    have hb1 := zOK_at hzn v4_6 (by omega) (by omega)
                    have hb2 : (vp_nar .byte y2.toInt8.toInt32).toInt = zbI p1 (f0.toInt + p2.toInt - 1 - g0_6.toInt) := by
                      rw [z_nar (by omega) (by omega), show f0.toInt + p2.toInt - 1 - g0_6.toInt = v4_6.toInt by omega, zbI_eq]
                      omega
                    refine lv_i2b (v := y2.toInt8.toInt32) hx hb dX3_append_97 rfl ?_
                    refine va_bast (D := g.1) hx hb hK hP hD hS 1 2 rfl rfl (vp_in_iff.mpr ⟨by omega, by omega⟩) dX3_append_98 (fun H locs hP hD hS => ?_)
                    have hP : va_P g.1 vwCl [(h0, .inr (3, [.ref h1, .int g0_6])), (h1, .inl (zB g, 60, .inl (upd G1_6 g0_6.toNatClampNeg (vp_nar .byte y2.toInt8.toInt32))))] H := hP
                    have hD : va_D A [(h0, .inr (3, [.ref h1, .int g0_6])), (h1, .inl (zB g, 60, .inl (upd G1_6 g0_6.toNatClampNeg (vp_nar .byte y2.toInt8.toInt32))))] := hD
                    have hI4 : zTy p1 p2.toInt f0.toInt (g0_6.toInt + 1) Z0 (upd G1_6 g0_6.toNatClampNeg (vp_nar .byte y2.toInt8.toInt32)) := zTy_put (i := g0_6) (l1 := g0_6.toInt) hG1_6 rfl (by omega) (by omega) hb2
                    obtain ⟨R5, eR5⟩ : ∃ z : Nat → Int32, z = (upd G1_6 g0_6.toNatClampNeg (vp_nar .byte y2.toInt8.toInt32)) := ⟨_, rfl⟩
                    rw [← eR5] at hP hD hI4
                    refine lv_aload_n hx hb dX3_append_99 rfl (lv_at hl 0 rfl) ?_
                    refine lv_dup hx hb dX3_append_100 rfl ?_
                    refine va_get (D := g.1) (ci := 3) (v := .int g0_6) (C := RX3) (T := TX3) (N := 2) hx hb hts zl_X3 hown hK hP 0 rfl rfl 1 (by decide) (hts _ m_f_RX3_15) (fun _ h => h) rfl dX3_append_101 ?_
                    refine lv_iconst (v := 1) hx hb dX3_append_104 (by decide) ?_
                    refine lv_iadd hx hb dX3_append_105 ?_
                    refine lv_topi (fun y6 ey6 => ?_)
                    have qy6_0 : y6.toInt = g0_6.toInt + 1 := zi_add ey6 (rfl) (rfl) (by omega) (by omega)
                    refine va_put (D := g.1) (ci := 3) (v := .int y6) (ty := .int) (C := RX3) (T := TX3) (N := 2) hx hb hts zl_X3 tyX3 tyX3_ok nmX3 hown hK hP hD hS 0 rfl rfl 1 (by decide) (hts _ m_f_RX3_15) (fun _ h => h) rfl (by decide +kernel) rfl rfl (Nat.le_of_ble_eq_true rfl) dX3_append_106 (fun H locs hP hD hS => ?_)
                    have hP : va_P g.1 vwCl [(h0, .inr (3, [.ref h1, .int y6])), (h1, .inl (zB g, 60, .inl R5))] H := hP
                    have hD : va_D A [(h0, .inr (3, [.ref h1, .int y6])), (h1, .inl (zB g, 60, .inl R5))] := hD
                    obtain ⟨y7, ey7⟩ : ∃ z : Int32, z = v4_6 + (-1) := ⟨_, rfl⟩
                    have qy7 : y7.toInt = v4_6.toInt + (-1) := zi_add ey7 (rfl) rfl (by omega) (by omega)
                    refine lv_iinc (v := y7) (lv' := [(4, .int y7), (0, .ref h0), (1, .long p1), (3, .int p2)]) hx hb dX3_append_109 hl (k := 3) rfl ey7.symm (by decide) rfl (fun ls hl => ?_)
                    refine lv_goto (tgt := 78) hx hb dX3_append_112 (by decide) ?_
                    exact ih7 y7 y6 R5 (by omega) (by omega) (zTy_eq hI4 (by omega)) (by omega) (by omega) (by omega) (by omega) (by omega) (by omega) _ _ hP hD hS ls (lv_sub hl [1, 2, 3, 0] rfl)
              exact loop78_6 ((y1.toInt + 1 : Int).toNat + 1) y1 f0 Z0 (by omega) (by omega) (zTy_eq hty0 (by omega)) (by omega) (by omega) (by omega) (by omega) (by omega) (by omega) _ _ hP hD hS ls (lv_sub hl [1, 2, 3, 0] rfl)
            · have i_5 : 60 < y0.toInt := z_nle (rfl) (rfl) c_5
              refine lv_bipush (v := (-3)) hx hb dX3_append_70 (by decide) ?_
              have hzR : zTR p1 p2.toInt f0.toInt = (-3) := by unfold zTR; first | rw [if_pos (by omega)] | rw [if_neg (by omega), if_pos (by omega)] | (rw [if_neg (by omega), if_neg (by omega)]; omega)
              have hzL : zTL p1 p2.toInt f0.toInt = f0.toInt := by unfold zTL; first | (rw [if_pos (by omega)]; omega) | rw [if_neg (by omega)]
              have : ((-3) : Int32).toInt = (-3) := rfl
              have hP9 := hP.sub (ws' := [(h0, .inr (3, [.ref h1, .int f0])), (h1, .inl (zB g, 60, .inl Z0))]) [0, 1] rfl
              have hD9 := hD.sub (ws' := [(h0, .inr (3, [.ref h1, .int f0])), (h1, .inl (zB g, 60, .inl Z0))]) [0, 1] (by decide) rfl
              exact W.iret (v := (-3)) hx hb hr (fun t ht hW => ⟨⟨(-3), ⟨f0, Z0⟩, rfl, ⟨⟨(by first | omega | decide), (show f0.toInt = zTL p1 p2.toInt f0.toInt from by first | omega | decide)⟩, ⟨show 0 ≤ f0.toInt from by omega, show f0.toInt ≤ 60 from by omega⟩, hty0⟩, by rw [ht]; exact hP9, hD9⟩, hS.F ht⟩) hS.2.2 dX3_append_72
          · have i_3 : v4_2.toInt < p2.toInt := z_nle (rfl) (rfl) c_3
            refine lv_lload_n hx hb dX3_append_22 rfl (lv_at hl 1 rfl) ?_
            refine lv_iload hx hb dX3_append_23 (lv_at hl 3 rfl) ?_
            refine z_calli (wr := [(h0, .inr (3, [.ref h1, .int f0])), (h1, .inl (zB g, 60, .inl Z0))]) hP hD hS hA [] [0, 1] (by decide) rfl rfl (by decide) (va_runS (As := [.long p1, .int v4_2]) (rest := []) ⟨hx, hb, hml, hown, hts⟩ (gX3_byteOf l g  H.size p1 v4_2) ⟨callB_of 2 hts (zGood m_o_yX3_byteOf) rfl rfl rfl (hts _ m_z_RX3) (hts _ m_m_RX3_19) ⟨by decide +kernel, by decide +kernel, by decide +kernel⟩ ⟨Nat.le_of_ble_eq_true rfl, Nat.le_of_ble_eq_true rfl⟩, hts _ m_s_yX3_byteOf⟩ (zPreS hK hN hZ hP hD hS hA [] (by decide) rfl rfl) rfl rfl hl.1 rfl (lv_room (Nat.le_of_ble_eq_true rfl)) dX3_append_25 ⟨Nat.le_of_ble_eq_true rfl, Nat.le_of_ble_eq_true rfl⟩) (fun r u H locs hw hP hD hS => ?_)
            obtain ⟨y8, rfl⟩ : ∃ z, z = r := ⟨_, rfl⟩
            have q9_0 := hw
            have q9_0 : y8.toInt = zb8 p1 v4_2 := q9_0
            have hP : va_P g.1 vwCl [(h0, .inr (3, [.ref h1, .int f0])), (h1, .inl (zB g, 60, .inl Z0))] H := hP
            have hD : va_D A [(h0, .inr (3, [.ref h1, .int f0])), (h1, .inl (zB g, 60, .inl Z0))] := hD
            refine lv_istore (lv' := [(5, .int y8), (0, .ref h0), (1, .long p1), (3, .int p2), (4, .int v4_2)]) hx hb dX3_append_28 hl (by decide) rfl (fun ls hl => ?_)
            refine lv_iload hx hb dX3_append_30 (lv_at hl 0 rfl) ?_
            refine lv_bipush (v := 32) hx hb dX3_append_32 (by decide) ?_
            refine lv_icmp_lt (tgt := 44) hx hb dX3_append_34 (by decide) (fun c_8 => ?_) (fun c_8 => ?_)
            · have i_8 : y8.toInt < 32 := z_lt (rfl) (rfl) c_8
              have hzb : zOK p1 p2.toInt = 0 := zOK_b v4_2 (by omega) (by omega) (by omega)
              refine lv_iconst (v := (-1)) hx hb dX3_append_44 (by decide) ?_
              have hzR : zTR p1 p2.toInt f0.toInt = (-1) := by unfold zTR; first | rw [if_pos (by omega)] | rw [if_neg (by omega), if_pos (by omega)] | (rw [if_neg (by omega), if_neg (by omega)]; omega)
              have hzL : zTL p1 p2.toInt f0.toInt = f0.toInt := by unfold zTL; first | (rw [if_pos (by omega)]; omega) | rw [if_neg (by omega)]
              have : ((-1) : Int32).toInt = (-1) := rfl
              have hP9 := hP.sub (ws' := [(h0, .inr (3, [.ref h1, .int f0])), (h1, .inl (zB g, 60, .inl Z0))]) [0, 1] rfl
              have hD9 := hD.sub (ws' := [(h0, .inr (3, [.ref h1, .int f0])), (h1, .inl (zB g, 60, .inl Z0))]) [0, 1] (by decide) rfl
              exact W.iret (v := (-1)) hx hb hr (fun t ht hW => ⟨⟨(-1), ⟨f0, Z0⟩, rfl, ⟨⟨(by first | omega | decide), (show f0.toInt = zTL p1 p2.toInt f0.toInt from by first | omega | decide)⟩, ⟨show 0 ≤ f0.toInt from by omega, show f0.toInt ≤ 60 from by omega⟩, hty0⟩, by rw [ht]; exact hP9, hD9⟩, hS.F ht⟩) hS.2.2 dX3_append_45
            · have i_8 : 32 ≤ y8.toInt := z_nlt (rfl) (rfl) c_8
              refine lv_iload hx hb dX3_append_37 (lv_at hl 0 rfl) ?_
              refine lv_bipush (v := 126) hx hb dX3_append_39 (by decide) ?_
              refine lv_icmp_le (tgt := 46) hx hb dX3_append_41 (by decide) (fun c_9 => ?_) (fun c_9 => ?_)
              · have i_9 : y8.toInt ≤ 126 := z_le (rfl) (rfl) c_9
                obtain ⟨y10, ey10⟩ : ∃ z : Int32, z = v4_2 + 1 := ⟨_, rfl⟩
                have qy10 : y10.toInt = v4_2.toInt + 1 := zi_add ey10 (rfl) rfl (by omega) (by omega)
                refine lv_iinc (v := y10) (lv' := [(4, .int y10), (5, .int y8), (0, .ref h0), (1, .long p1), (3, .int p2)]) hx hb dX3_append_46 hl (k := 4) rfl ey10.symm (by decide) rfl (fun ls hl => ?_)
                have hzs : zOK p1 y10.toInt = 1 := zOK_s (a := v4_2.toInt) (by assumption) v4_2 rfl (by omega) (by omega) (by omega)
                refine lv_goto (tgt := 16) hx hb dX3_append_49 (by decide) ?_
                exact ih3 y10 (by omega) (by omega) (by omega) (by omega) _ _ hP hD hS ls (lv_sub hl [2, 3, 4, 0] rfl)
              · have i_9 : 126 < y8.toInt := z_nle (rfl) (rfl) c_9
                have hzb : zOK p1 p2.toInt = 0 := zOK_b v4_2 (by omega) (by omega) (by omega)
                refine lv_iconst (v := (-1)) hx hb dX3_append_44 (by decide) ?_
                have hzR : zTR p1 p2.toInt f0.toInt = (-1) := by unfold zTR; first | rw [if_pos (by omega)] | rw [if_neg (by omega), if_pos (by omega)] | (rw [if_neg (by omega), if_neg (by omega)]; omega)
                have hzL : zTL p1 p2.toInt f0.toInt = f0.toInt := by unfold zTL; first | (rw [if_pos (by omega)]; omega) | rw [if_neg (by omega)]
                have : ((-1) : Int32).toInt = (-1) := rfl
                have hP9 := hP.sub (ws' := [(h0, .inr (3, [.ref h1, .int f0])), (h1, .inl (zB g, 60, .inl Z0))]) [0, 1] rfl
                have hD9 := hD.sub (ws' := [(h0, .inr (3, [.ref h1, .int f0])), (h1, .inl (zB g, 60, .inl Z0))]) [0, 1] (by decide) rfl
                exact W.iret (v := (-1)) hx hb hr (fun t ht hW => ⟨⟨(-1), ⟨f0, Z0⟩, rfl, ⟨⟨(by first | omega | decide), (show f0.toInt = zTL p1 p2.toInt f0.toInt from by first | omega | decide)⟩, ⟨show 0 ≤ f0.toInt from by omega, show f0.toInt ≤ 60 from by omega⟩, hty0⟩, by rw [ht]; exact hP9, hD9⟩, hS.F ht⟩) hS.2.2 dX3_append_45
      have : (0 : Int32).toInt = 0 := rfl
      exact loop16_2 ((p2.toInt - 0 : Int).toNat + 1) (0 : Int32) (by omega) (by omega) (by omega) (by omega) _ _ hP hD hS ls (lv_sub hl [1, 2, 3, 0] rfl)
    · have i_1 : 8 < p2.toInt := z_nle (rfl) (rfl) c_1
      refine lv_iconst (v := (-1)) hx hb dX3_append_11 (by decide) ?_
      have hzR : zTR p1 p2.toInt f0.toInt = (-1) := by unfold zTR; first | rw [if_pos (by omega)] | rw [if_neg (by omega), if_pos (by omega)] | (rw [if_neg (by omega), if_neg (by omega)]; omega)
      have hzL : zTL p1 p2.toInt f0.toInt = f0.toInt := by unfold zTL; first | (rw [if_pos (by omega)]; omega) | rw [if_neg (by omega)]
      have : ((-1) : Int32).toInt = (-1) := rfl
      have hP9 := hP.sub (ws' := [(h0, .inr (3, [.ref h1, .int f0])), (h1, .inl (zB g, 60, .inl Z0))]) [0, 1] rfl
      have hD9 := hD.sub (ws' := [(h0, .inr (3, [.ref h1, .int f0])), (h1, .inl (zB g, 60, .inl Z0))]) [0, 1] (by decide) rfl
      exact W.iret (v := (-1)) hx hb hr (fun t ht hW => ⟨⟨(-1), ⟨f0, Z0⟩, rfl, ⟨⟨(by first | omega | decide), (show f0.toInt = zTL p1 p2.toInt f0.toInt from by first | omega | decide)⟩, ⟨show 0 ≤ f0.toInt from by omega, show f0.toInt ≤ 60 from by omega⟩, hty0⟩, by rw [ht]; exact hP9, hD9⟩, hS.F ht⟩) hS.2.2 dX3_append_12
set_option maxHeartbeats 8000000 in
set_option maxRecDepth 100000 in
theorem gX4_type (l : Launch) (g : zG) (h0 h1 h2 h3 h4 h5 h6 h7 h8 h9 h10 h37 : Nat) (sz : Nat) (p1 : Int64) (p2 : Int32) (f0 : Int32) (f1 : Int32) (f10 : Int32) (Z31 : Nat → Int32) (hf_f10 : 0 ≤ f10.toInt ∧ f10.toInt ≤ 60) : Met l yX4_type (.code yX4_type cX4_type 4 (some .int) :: zBig) ({ frames := 2, cells := 0, slots := 0, locals := 47 }) (va_Pc [.ref h0, .long p1, .int p2] (zPre g [(h0, .inr (4, [.ref h1, .ref h2, .int f0, .ref h3, .ref h4, .ref h5, .ref h6, .int f1, .ref h7, .ref h8, .ref h9, .ref h10])), (h4, .inr (3, [.ref h37, .int f10])), (h37, .inl (zB g, 60, .inl Z31))] sz)) (va_Qi (fun (r : Int32) (u : Int32 × (Nat → Int32)) => (r.toInt = zTR p1 p2.toInt f10.toInt ∧ u.1.toInt = zTL p1 p2.toInt f10.toInt) ∧ (0 ≤ u.1.toInt ∧ u.1.toInt ≤ 60) ∧ zTy p1 p2.toInt f10.toInt u.1.toInt Z31 u.2) (zPost g (fun u : Int32 × (Nat → Int32) => [(h0, .inr (4, [.ref h1, .ref h2, .int f0, .ref h3, .ref h4, .ref h5, .ref h6, .int f1, .ref h7, .ref h8, .ref h9, .ref h10])), (h4, .inr (3, [.ref h37, .int u.1])), (h37, .inl (zB g, 60, .inl u.2))]) (va_A [(h0, .inr (4, [.ref h1, .ref h2, .int f0, .ref h3, .ref h4, .ref h5, .ref h6, .int f1, .ref h7, .ref h8, .ref h9, .ref h10])), (h4, .inr (3, [.ref h37, .int f10])), (h37, .inl (zB g, 60, .inl Z31))] sz)) (va_A [(h0, .inr (4, [.ref h1, .ref h2, .int f0, .ref h3, .ref h4, .ref h5, .ref h6, .int f1, .ref h7, .ref h8, .ref h9, .ref h10])), (h4, .inr (3, [.ref h37, .int f10])), (h37, .inl (zB g, 60, .inl Z31))] sz)) 0 0 (va_A [(h0, .inr (4, [.ref h1, .ref h2, .int f0, .ref h3, .ref h4, .ref h5, .ref h6, .int f1, .ref h7, .ref h8, .ref h9, .ref h10])), (h4, .inr (3, [.ref h37, .int f10])), (h37, .inl (zB g, 60, .inl Z31))] sz) := by
  refine zMetI rfl (Nat.le_of_ble_eq_true rfl) ?_
  intro p e s m args below meth c A ls hx hb hml hr hlocks hin hown hts hK hN hZ hP hD hA hS hAe hl
  have hown : s.vm.findClass RX4 = some m.cls := hown
  have hl : lv_has ls 4 [(0, .ref h0), (1, .long p1), (3, .int p2)] := hl
  refine lv_aload_n hx hb dX4_type_0 rfl (lv_at hl 0 rfl) ?_
  refine va_get (D := g.1) (ci := 4) (v := .ref h4) (C := RX4) (T := TX4) (N := 12) hx hb hts zl_X4 hown hK hP 0 rfl rfl 4 (by decide) (hts _ m_f_RX4_33) (fun _ h => h) rfl dX4_type_1 ?_
  refine lv_lload_n hx hb dX4_type_4 rfl (lv_at hl 1 rfl) ?_
  refine lv_iload_n hx hb dX4_type_5 rfl (lv_at hl 2 rfl) ?_
  refine z_calli (wr := [(h0, .inr (4, [.ref h1, .ref h2, .int f0, .ref h3, .ref h4, .ref h5, .ref h6, .int f1, .ref h7, .ref h8, .ref h9, .ref h10]))]) hP hD hS hA [1, 2] [0] (by decide) rfl rfl (by decide) (va_runVN (As := [.long p1, .int p2]) (rest := []) ⟨hx, hb, hml, hown, hts⟩ (gX3_append l g h4 h37 s.heap.size p1 p2 f10 Z31 (by constructor <;> omega)) ⟨va_cnB 2 hts (zGood m_o_yX3_append) rfl rfl rfl (hN.m 7 (q := (RX4, 99, yX3_append)) rfl) (hts _ m_z_RX3) ⟨by decide +kernel, by decide +kernel, by decide +kernel⟩ ⟨Nat.le_of_ble_eq_true rfl, Nat.le_of_ble_eq_true rfl⟩, hts _ m_i_yX3_append, hts _ m_e_yX3_append⟩ (zPreV hK hN hZ hP hD hS hA [1, 2] (by decide) rfl rfl 3 1 rfl rfl) rfl rfl hl.1 rfl (lv_room (Nat.le_of_ble_eq_true rfl)) dX4_type_6 ⟨Nat.le_of_ble_eq_true rfl, Nat.le_of_ble_eq_true rfl⟩) (fun r u H locs hw hP hD hS => ?_)
  obtain ⟨w0, R1⟩ := u
  obtain ⟨hw, hI2, hI3⟩ := hw
  obtain ⟨hI2a, hI2b⟩ := hI2
  obtain ⟨y4, rfl⟩ : ∃ z, z = r := ⟨_, rfl⟩
  obtain ⟨q5_0, q5_1⟩ := hw
  have q5_0 : y4.toInt = zTR p1 p2.toInt f10.toInt := q5_0
  have q5_1 : w0.toInt = zTL p1 p2.toInt f10.toInt := q5_1
  have hP : va_P g.1 vwCl [(h0, .inr (4, [.ref h1, .ref h2, .int f0, .ref h3, .ref h4, .ref h5, .ref h6, .int f1, .ref h7, .ref h8, .ref h9, .ref h10])), (h4, .inr (3, [.ref h37, .int w0])), (h37, .inl (zB g, 60, .inl R1))] H := hP
  have hD : va_D A [(h0, .inr (4, [.ref h1, .ref h2, .int f0, .ref h3, .ref h4, .ref h5, .ref h6, .int f1, .ref h7, .ref h8, .ref h9, .ref h10])), (h4, .inr (3, [.ref h37, .int w0])), (h37, .inl (zB g, 60, .inl R1))] := hD
  have hP9 := hP.sub (ws' := [(h0, .inr (4, [.ref h1, .ref h2, .int f0, .ref h3, .ref h4, .ref h5, .ref h6, .int f1, .ref h7, .ref h8, .ref h9, .ref h10])), (h4, .inr (3, [.ref h37, .int w0])), (h37, .inl (zB g, 60, .inl R1))]) [0, 1, 2] rfl
  have hD9 := hD.sub (ws' := [(h0, .inr (4, [.ref h1, .ref h2, .int f0, .ref h3, .ref h4, .ref h5, .ref h6, .int f1, .ref h7, .ref h8, .ref h9, .ref h10])), (h4, .inr (3, [.ref h37, .int w0])), (h37, .inl (zB g, 60, .inl R1))]) [0, 1, 2] (by decide) rfl
  exact W.iret (v := y4) hx hb hr (fun t ht hW => ⟨⟨y4, ⟨w0, R1⟩, rfl, ⟨⟨(by first | omega | decide), (show w0.toInt = zTL p1 p2.toInt f10.toInt from by first | omega | decide)⟩, ⟨show 0 ≤ w0.toInt from by omega, show w0.toInt ≤ 60 from by omega⟩, hI3⟩, by rw [ht]; exact hP9, hD9⟩, hS.F ht⟩) hS.2.2 dX4_type_9
set_option maxHeartbeats 8000000 in
set_option maxRecDepth 100000 in
theorem gJ7_fill_53178_n5 (l : Launch) (g : zG) (h0 : Nat) (sz : Nat) (p1 : Int32) (Z0 : Nat → Int32) : Met l yJ7_fill_53178 (.code yJ7_fill_53178 cJ7_fill_53178 4 none :: zBig) ({ frames := 0, cells := 0, slots := 0, locals := 0 }) (va_Pc [.ref h0, .int p1] (zPre g [(h0, .inl (zI g, 5, .inl Z0))] sz)) (va_Qv (fun u : (Nat → Int32) => (True) ∧ zFilK p1 5 u) (zPost g (fun u : (Nat → Int32) => [(h0, .inl (zI g, 5, .inl u))]) (va_A [(h0, .inl (zI g, 5, .inl Z0))] sz)) (va_A [(h0, .inl (zI g, 5, .inl Z0))] sz)) 0 0 (va_A [(h0, .inl (zI g, 5, .inl Z0))] sz) := by
  refine zMetV rfl (Nat.le_of_ble_eq_true rfl) ?_
  intro p e s m args below meth c A ls hx hb hml hr hlocks hin hown hts hK hN hZ hP hD hA hS hAe hl
  have hown : s.vm.findClass RJ7 = some m.cls := hown
  have hl : lv_has ls 4 [(0, .ref h0), (1, .int p1)] := hl
  refine lv_iconst (v := 0) hx hb dJ7_fill_53178_0 (by decide) ?_
  refine lv_istore_n (lv' := [(2, .int 0), (0, .ref h0), (1, .int p1)]) hx hb dJ7_fill_53178_1 rfl hl (by decide) rfl (fun ls hl => ?_)
  have hI0 : zFilK p1 0 Z0 := zFilK_0
  refine lv_aload_n hx hb dJ7_fill_53178_2 rfl (lv_at hl 1 rfl) ?_
  refine va_alen (D := g.1) hx hb hK hP 0 0 rfl rfl (v := 5) rfl dJ7_fill_53178_3 ?_
  refine lv_istore_n (lv' := [(3, .int 5), (2, .int 0), (0, .ref h0), (1, .int p1)]) hx hb dJ7_fill_53178_4 rfl hl (by decide) rfl (fun ls hl => ?_)
  have loop5_0 : ∀ (n1 : Nat) (v2_0 : Int32) (G0_0 : Nat → Int32) (hG0_0 : zFilK p1 (v2_0.toInt) G0_0) (n1_0 : 0 ≤ v2_0.toInt) (n1_1 : v2_0.toInt ≤ 5) (hm1 : 5 - v2_0.toInt < (n1 : Int)) (H : Heap) (locs : List Loc), va_P g.1 vwCl [(h0, .inl (zI g, 5, .inl G0_0))] H → va_D A [(h0, .inl (zI g, 5, .inl G0_0))] → va_S A s.heap H locs → ∀ (ls : Array Slot), lv_has ls 4 [(0, .ref h0), (1, .int p1), (2, .int v2_0), (3, .int 5)] → W p l e ({ frames := 0, cells := 0, slots := 0, locals := 0 }) s m args below meth c H locs 0 0 (MQ below (va_Qv (fun u : (Nat → Int32) => (True) ∧ zFilK p1 5 u) (zPost g (fun u : (Nat → Int32) => [(h0, .inl (zI g, 5, .inl u))]) A) A) args s 0 0 A) (F0 m 5 ls []) := by
    intro n1
    induction n1 with
    | zero => intro v2_0 G0_0 hG0_0 n1_0 n1_1 hm1; exfalso; omega
    | succ n1 ih1 =>
      intro v2_0 G0_0 hG0_0 n1_0 n1_1 hm1 H locs hP hD hS ls hl
      refine lv_iload_n hx hb dJ7_fill_53178_5 rfl (lv_at hl 2 rfl) ?_
      refine lv_iload_n hx hb dJ7_fill_53178_6 rfl (lv_at hl 3 rfl) ?_
      refine lv_icmp_ge (tgt := 20) hx hb dJ7_fill_53178_7 (by decide) (fun c_1 => ?_) (fun c_1 => ?_)
      · have i_1 : 5 ≤ v2_0.toInt := z_le (rfl) (rfl) c_1
        have hI1 : zFilK p1 5 G0_0 := zFilK_eq hG0_0 (by omega)
        have hP9 := hP.sub (ws' := [(h0, .inl (zI g, 5, .inl G0_0))]) [0] rfl
        have hD9 := hD.sub (ws' := [(h0, .inl (zI g, 5, .inl G0_0))]) [0] (by decide) rfl
        exact W.vret hx hb hr (fun t ht hW => ⟨⟨G0_0, rfl, ⟨trivial, hI1⟩, by rw [ht]; exact hP9, hD9⟩, hS.F ht⟩) hS.2.2 dJ7_fill_53178_20
      · have i_1 : v2_0.toInt < 5 := z_nle (rfl) (rfl) c_1
        refine lv_aload_n hx hb dJ7_fill_53178_10 rfl (lv_at hl 0 rfl) ?_
        refine lv_iload_n hx hb dJ7_fill_53178_11 rfl (lv_at hl 2 rfl) ?_
        refine lv_iload_n hx hb dJ7_fill_53178_12 rfl (lv_at hl 1 rfl) ?_
        refine va_iast (D := g.1) hx hb hK hP hD hS 0 0 rfl rfl (vp_in_iff.mpr ⟨by omega, by omega⟩) dJ7_fill_53178_13 (fun H locs hP hD hS => ?_)
        have hP : va_P g.1 vwCl [(h0, .inl (zI g, 5, .inl (upd G0_0 v2_0.toNatClampNeg p1)))] H := hP
        have hD : va_D A [(h0, .inl (zI g, 5, .inl (upd G0_0 v2_0.toNatClampNeg p1)))] := hD
        have hI2 : zFilK p1 (v2_0.toInt + 1) (upd G0_0 v2_0.toNatClampNeg p1) := zFilK_put (i := v2_0) hG0_0 (rfl)
        obtain ⟨R3, eR3⟩ : ∃ z : Nat → Int32, z = (upd G0_0 v2_0.toNatClampNeg p1) := ⟨_, rfl⟩
        rw [← eR3] at hP hD hI2
        obtain ⟨y4, ey4⟩ : ∃ z : Int32, z = v2_0 + 1 := ⟨_, rfl⟩
        have qy4 : y4.toInt = v2_0.toInt + 1 := zi_add ey4 (rfl) rfl (by omega) (by omega)
        refine lv_iinc (v := y4) (lv' := [(2, .int y4), (0, .ref h0), (1, .int p1), (3, .int 5)]) hx hb dJ7_fill_53178_14 hl (k := 2) rfl ey4.symm (by decide) rfl (fun ls hl => ?_)
        refine lv_goto (tgt := 5) hx hb dJ7_fill_53178_17 (by decide) ?_
        exact ih1 y4 R3 (zFilK_eq hI2 (by omega)) (by omega) (by omega) (by omega) _ _ hP hD hS ls (lv_sub hl [1, 2, 0, 3] rfl)
  have : (0 : Int32).toInt = 0 := rfl
  exact loop5_0 ((5 - 0 : Int).toNat + 1) (0 : Int32) Z0 (zFilK_eq hI0 (by omega)) (by omega) (by omega) (by omega) _ _ hP hD hS ls (lv_sub hl [2, 3, 1, 0] rfl)
set_option maxHeartbeats 8000000 in
set_option maxRecDepth 100000 in
theorem gX3_charAt (l : Launch) (g : zG) (h0 h1 : Nat) (sz : Nat) (p1 : Int32) (f0 : Int32) (Z0 : Nat → Int32) (hf_f0 : 0 ≤ f0.toInt ∧ f0.toInt ≤ 60) : Met l yX3_charAt (.code yX3_charAt cX3_charAt 2 (some .int) :: zBig) ({ frames := 0, cells := 0, slots := 0, locals := 0 }) (va_Pc [.ref h0, .int p1] (zPre g [(h0, .inr (3, [.ref h1, .int f0])), (h1, .inl (zB g, 60, .inl Z0))] sz)) (va_Qi (fun (r : Int32) (u : Nat) => (0 ≤ p1.toInt → p1.toInt < f0.toInt → r.toInt = zc Z0 p1.toInt) ∧ (p1.toInt < 0 ∨ f0.toInt ≤ p1.toInt → r.toInt = 0)) (zPost g (fun u : Nat => [(h0, .inr (3, [.ref h1, .int f0])), (h1, .inl (zB g, 60, .inl Z0))]) (va_A [(h0, .inr (3, [.ref h1, .int f0])), (h1, .inl (zB g, 60, .inl Z0))] sz)) (va_A [(h0, .inr (3, [.ref h1, .int f0])), (h1, .inl (zB g, 60, .inl Z0))] sz)) 0 0 (va_A [(h0, .inr (3, [.ref h1, .int f0])), (h1, .inl (zB g, 60, .inl Z0))] sz) := by
  refine zMetI rfl (Nat.le_of_ble_eq_true rfl) ?_
  intro p e s m args below meth c A ls hx hb hml hr hlocks hin hown hts hK hN hZ hP hD hA hS hAe hl
  have hown : s.vm.findClass RX3 = some m.cls := hown
  have hl : lv_has ls 2 [(0, .ref h0), (1, .int p1)] := hl
  refine lv_iload_n hx hb dX3_charAt_0 rfl (lv_at hl 1 rfl) ?_
  refine lv_if_lt (tgt := 27) hx hb dX3_charAt_1 (by decide) (fun c_0 => ?_) (fun c_0 => ?_)
  · have i_0 : p1.toInt < 0 := z_lt (rfl) (rfl) c_0
    refine lv_iconst (v := 0) hx hb dX3_charAt_27 (by decide) ?_
    have : (0 : Int32).toInt = 0 := rfl
    have hP9 := hP.sub (ws' := [(h0, .inr (3, [.ref h1, .int f0])), (h1, .inl (zB g, 60, .inl Z0))]) [0, 1] rfl
    have hD9 := hD.sub (ws' := [(h0, .inr (3, [.ref h1, .int f0])), (h1, .inl (zB g, 60, .inl Z0))]) [0, 1] (by decide) rfl
    exact W.iret (v := 0) hx hb hr (fun t ht hW => ⟨⟨0, (0 : Nat), rfl, ⟨(by first | omega | decide), (by first | omega | decide)⟩, by rw [ht]; exact hP9, hD9⟩, hS.F ht⟩) hS.2.2 dX3_charAt_28
  · have i_0 : 0 ≤ p1.toInt := z_nlt (rfl) (rfl) c_0
    refine lv_iload_n hx hb dX3_charAt_4 rfl (lv_at hl 1 rfl) ?_
    refine lv_aload_n hx hb dX3_charAt_5 rfl (lv_at hl 0 rfl) ?_
    refine va_get (D := g.1) (ci := 3) (v := .int f0) (C := RX3) (T := TX3) (N := 2) hx hb hts zl_X3 hown hK hP 0 rfl rfl 1 (by decide) (hts _ m_f_RX3_15) (fun _ h => h) rfl dX3_charAt_6 ?_
    refine lv_icmp_ge (tgt := 27) hx hb dX3_charAt_9 (by decide) (fun c_1 => ?_) (fun c_1 => ?_)
    · have i_1 : f0.toInt ≤ p1.toInt := z_le (rfl) (rfl) c_1
      refine lv_iconst (v := 0) hx hb dX3_charAt_27 (by decide) ?_
      have : (0 : Int32).toInt = 0 := rfl
      have hP9 := hP.sub (ws' := [(h0, .inr (3, [.ref h1, .int f0])), (h1, .inl (zB g, 60, .inl Z0))]) [0, 1] rfl
      have hD9 := hD.sub (ws' := [(h0, .inr (3, [.ref h1, .int f0])), (h1, .inl (zB g, 60, .inl Z0))]) [0, 1] (by decide) rfl
      exact W.iret (v := 0) hx hb hr (fun t ht hW => ⟨⟨0, (0 : Nat), rfl, ⟨(by first | omega | decide), (by first | omega | decide)⟩, by rw [ht]; exact hP9, hD9⟩, hS.F ht⟩) hS.2.2 dX3_charAt_28
    · have i_1 : p1.toInt < f0.toInt := z_nle (rfl) (rfl) c_1
      refine lv_iload_n hx hb dX3_charAt_12 rfl (lv_at hl 1 rfl) ?_
      refine lv_bipush (v := 60) hx hb dX3_charAt_13 (by decide) ?_
      refine lv_icmp_ge (tgt := 27) hx hb dX3_charAt_15 (by decide) (fun c_2 => absurd (show 60 ≤ p1.toInt from z_le (rfl) (rfl) c_2) (by omega)) (fun c_2 => ?_)
      have i_2 : p1.toInt < 60 := z_nle (rfl) (rfl) c_2
      refine lv_aload_n hx hb dX3_charAt_18 rfl (lv_at hl 0 rfl) ?_
      refine va_get (D := g.1) (ci := 3) (v := .ref h1) (C := RX3) (T := TX3) (N := 2) hx hb hts zl_X3 hown hK hP 0 rfl rfl 0 (by decide) (hts _ m_f_RX3_11) (fun _ h => h) rfl dX3_charAt_19 ?_
      refine lv_iload_n hx hb dX3_charAt_22 rfl (lv_at hl 1 rfl) ?_
      refine va_bald (D := g.1) hx hb hK hP 1 2 rfl rfl (vp_in_iff.mpr ⟨by omega, by omega⟩) dX3_charAt_23 ?_
      refine lv_topi (fun y0 ey0 => ?_)
      have qy0_0 : y0.toInt = (Z0 p1.toNatClampNeg).toInt := congrArg Int32.toInt ey0
      have py0_0 : y0.toInt = zc Z0 p1.toInt := congrArg Int32.toInt ey0
      refine lv_goto (tgt := 28) hx hb dX3_charAt_24 (by decide) ?_
      have hP9 := hP.sub (ws' := [(h0, .inr (3, [.ref h1, .int f0])), (h1, .inl (zB g, 60, .inl Z0))]) [0, 1] rfl
      have hD9 := hD.sub (ws' := [(h0, .inr (3, [.ref h1, .int f0])), (h1, .inl (zB g, 60, .inl Z0))]) [0, 1] (by decide) rfl
      exact W.iret (v := y0) hx hb hr (fun t ht hW => ⟨⟨y0, (0 : Nat), rfl, ⟨(by first | omega | decide), (by first | omega | decide)⟩, by rw [ht]; exact hP9, hD9⟩, hS.F ht⟩) hS.2.2 dX3_charAt_28
set_option maxHeartbeats 8000000 in
set_option maxRecDepth 100000 in
theorem gX3_behindBlanks (l : Launch) (g : zG) (h0 h1 : Nat) (sz : Nat) (p1 : Int32) (f0 : Int32) (Z0 : Nat → Int32) (hf_f0 : 0 ≤ f0.toInt ∧ f0.toInt ≤ 60) : Met l yX3_behindBlanks (.code yX3_behindBlanks cX3_behindBlanks 3 (some .int) :: zBig) ({ frames := 1, cells := 0, slots := 0, locals := 21 }) (va_Pc [.ref h0, .int p1] (zPre g [(h0, .inr (3, [.ref h1, .int f0])), (h1, .inl (zB g, 60, .inl Z0))] sz)) (va_Qi (fun (r : Int32) (u : Nat) => (0 ≤ p1.toInt → r.toInt = zsk Z0 f0.toInt p1.toInt)) (zPost g (fun u : Nat => [(h0, .inr (3, [.ref h1, .int f0])), (h1, .inl (zB g, 60, .inl Z0))]) (va_A [(h0, .inr (3, [.ref h1, .int f0])), (h1, .inl (zB g, 60, .inl Z0))] sz)) (va_A [(h0, .inr (3, [.ref h1, .int f0])), (h1, .inl (zB g, 60, .inl Z0))] sz)) 0 0 (va_A [(h0, .inr (3, [.ref h1, .int f0])), (h1, .inl (zB g, 60, .inl Z0))] sz) := by
  refine zMetI rfl (Nat.le_of_ble_eq_true rfl) ?_
  intro p e s m args below meth c A ls hx hb hml hr hlocks hin hown hts hK hN hZ hP hD hA hS hAe hl
  have hown : s.vm.findClass RX3 = some m.cls := hown
  have hl : lv_has ls 3 [(0, .ref h0), (1, .int p1)] := hl
  refine lv_iload_n hx hb dX3_behindBlanks_0 rfl (lv_at hl 1 rfl) ?_
  refine lv_istore_n (lv' := [(2, .int p1), (0, .ref h0), (1, .int p1)]) hx hb dX3_behindBlanks_1 rfl hl (by decide) rfl (fun ls hl => ?_)
  have loop2_0 : ∀ (n1 : Nat) (v2_0 : Int32) (n1_0 : (0 ≤ p1.toInt → p1.toInt ≤ v2_0.toInt)) (n1_1 : (0 ≤ p1.toInt → zsk Z0 f0.toInt v2_0.toInt = zsk Z0 f0.toInt p1.toInt)) (hm1 : ((f0.toInt - v2_0.toInt).toNat : Int) < (n1 : Int)) (H : Heap) (locs : List Loc), va_P g.1 vwCl [(h0, .inr (3, [.ref h1, .int f0])), (h1, .inl (zB g, 60, .inl Z0))] H → va_D A [(h0, .inr (3, [.ref h1, .int f0])), (h1, .inl (zB g, 60, .inl Z0))] → va_S A s.heap H locs → ∀ (ls : Array Slot), lv_has ls 3 [(0, .ref h0), (1, .int p1), (2, .int v2_0)] → W p l e ({ frames := 1, cells := 0, slots := 0, locals := 21 }) s m args below meth c H locs 0 0 (MQ below (va_Qi (fun (r : Int32) (u : Nat) => (0 ≤ p1.toInt → r.toInt = zsk Z0 f0.toInt p1.toInt)) (zPost g (fun u : Nat => [(h0, .inr (3, [.ref h1, .int f0])), (h1, .inl (zB g, 60, .inl Z0))]) A) A) args s 0 0 A) (F0 m 2 ls []) := by
    intro n1
    induction n1 with
    | zero => intro v2_0 n1_0 n1_1 hm1; exfalso; omega
    | succ n1 ih1 =>
      intro v2_0 n1_0 n1_1 hm1 H locs hP hD hS ls hl
      refine lv_iload_n hx hb dX3_behindBlanks_2 rfl (lv_at hl 2 rfl) ?_
      refine lv_aload_n hx hb dX3_behindBlanks_3 rfl (lv_at hl 0 rfl) ?_
      refine va_get (D := g.1) (ci := 3) (v := .int f0) (C := RX3) (T := TX3) (N := 2) hx hb hts zl_X3 hown hK hP 0 rfl rfl 1 (by decide) (hts _ m_f_RX3_15) (fun _ h => h) rfl dX3_behindBlanks_4 ?_
      refine lv_icmp_ge (tgt := 26) hx hb dX3_behindBlanks_7 (by decide) (fun c_1 => ?_) (fun c_1 => ?_)
      · have i_1 : f0.toInt ≤ v2_0.toInt := z_le (rfl) (rfl) c_1
        have hze : 0 ≤ p1.toInt → v2_0.toInt = zsk Z0 f0.toInt p1.toInt := fun h0 => by
          rw [← (by assumption : 0 ≤ p1.toInt → zsk Z0 f0.toInt v2_0.toInt = zsk Z0 f0.toInt p1.toInt) h0]
          first | exact (zsk_end (by omega)).symm | exact (zsk_stop (by omega) (by omega)).symm
        refine lv_iload_n hx hb dX3_behindBlanks_26 rfl (lv_at hl 2 rfl) ?_
        have hP9 := hP.sub (ws' := [(h0, .inr (3, [.ref h1, .int f0])), (h1, .inl (zB g, 60, .inl Z0))]) [0, 1] rfl
        have hD9 := hD.sub (ws' := [(h0, .inr (3, [.ref h1, .int f0])), (h1, .inl (zB g, 60, .inl Z0))]) [0, 1] (by decide) rfl
        exact W.iret (v := v2_0) hx hb hr (fun t ht hW => ⟨⟨v2_0, (0 : Nat), rfl, (by first | omega | decide), by rw [ht]; exact hP9, hD9⟩, hS.F ht⟩) hS.2.2 dX3_behindBlanks_27
      · have i_1 : v2_0.toInt < f0.toInt := z_nle (rfl) (rfl) c_1
        refine lv_aload_n hx hb dX3_behindBlanks_10 rfl (lv_at hl 0 rfl) ?_
        refine lv_iload_n hx hb dX3_behindBlanks_11 rfl (lv_at hl 2 rfl) ?_
        refine z_calli (wr := []) hP hD hS hA [0, 1] [] (by decide) rfl rfl (by decide) (va_runV (As := [.int v2_0]) (rest := []) ⟨hx, hb, hml, hown, hts⟩ (gX3_charAt l g h0 h1 H.size v2_0 f0 Z0 (by constructor <;> omega)) ⟨callB_of 1 hts (zGood m_o_yX3_charAt) rfl rfl rfl (hts _ m_z_RX3) (hts _ m_m_RX3_49) ⟨by decide +kernel, by decide +kernel, by decide +kernel⟩ ⟨Nat.le_of_ble_eq_true rfl, Nat.le_of_ble_eq_true rfl⟩, hts _ m_i_yX3_charAt, hts _ m_e_yX3_charAt⟩ (zPreV hK hN hZ hP hD hS hA [0, 1] (by decide) rfl rfl 3 0 rfl rfl) rfl rfl hl.1 rfl (lv_room (Nat.le_of_ble_eq_true rfl)) dX3_behindBlanks_12 ⟨Nat.le_of_ble_eq_true rfl, Nat.le_of_ble_eq_true rfl⟩) (fun r u H locs hw hP hD hS => ?_)
        obtain ⟨y0, rfl⟩ : ∃ z, z = r := ⟨_, rfl⟩
        obtain ⟨q1_0, q1_1⟩ := hw
        have q1_0 : (0 ≤ v2_0.toInt → v2_0.toInt < f0.toInt → y0.toInt = zc Z0 v2_0.toInt) := q1_0
        have q1_1 : (v2_0.toInt < 0 ∨ f0.toInt ≤ v2_0.toInt → y0.toInt = 0) := q1_1
        have hP : va_P g.1 vwCl [(h0, .inr (3, [.ref h1, .int f0])), (h1, .inl (zB g, 60, .inl Z0))] H := hP
        have hD : va_D A [(h0, .inr (3, [.ref h1, .int f0])), (h1, .inl (zB g, 60, .inl Z0))] := hD
        refine lv_bipush (v := 32) hx hb dX3_behindBlanks_15 (by decide) ?_
        refine lv_icmp_ne (tgt := 26) hx hb dX3_behindBlanks_17 (by decide) (fun c_2 => ?_) (fun c_2 => ?_)
        · have i_2 : y0.toInt ≠ 32 := z_ne (rfl) (rfl) c_2
          have hze : 0 ≤ p1.toInt → v2_0.toInt = zsk Z0 f0.toInt p1.toInt := fun h0 => by
            rw [← (by assumption : 0 ≤ p1.toInt → zsk Z0 f0.toInt v2_0.toInt = zsk Z0 f0.toInt p1.toInt) h0]
            first | exact (zsk_end (by omega)).symm | exact (zsk_stop (by omega) (by omega)).symm
          refine lv_iload_n hx hb dX3_behindBlanks_26 rfl (lv_at hl 2 rfl) ?_
          have hP9 := hP.sub (ws' := [(h0, .inr (3, [.ref h1, .int f0])), (h1, .inl (zB g, 60, .inl Z0))]) [0, 1] rfl
          have hD9 := hD.sub (ws' := [(h0, .inr (3, [.ref h1, .int f0])), (h1, .inl (zB g, 60, .inl Z0))]) [0, 1] (by decide) rfl
          exact W.iret (v := v2_0) hx hb hr (fun t ht hW => ⟨⟨v2_0, (0 : Nat), rfl, (by first | omega | decide), by rw [ht]; exact hP9, hD9⟩, hS.F ht⟩) hS.2.2 dX3_behindBlanks_27
        · have i_2 : y0.toInt = 32 := z_eq (rfl) (rfl) c_2
          obtain ⟨y2, ey2⟩ : ∃ z : Int32, z = v2_0 + 1 := ⟨_, rfl⟩
          have := z_rng v2_0
          have := z_rng f0
          have qy2 : y2.toInt = v2_0.toInt + 1 := zi_add ey2 (rfl) rfl (by omega) (by omega)
          refine lv_iinc (v := y2) (lv' := [(2, .int y2), (0, .ref h0), (1, .int p1)]) hx hb dX3_behindBlanks_20 hl (k := 2) rfl ey2.symm (by decide) rfl (fun ls hl => ?_)
          have hzk : 0 ≤ p1.toInt → zsk Z0 f0.toInt y2.toInt = zsk Z0 f0.toInt p1.toInt := fun h0 => by
            have h3 := zsk_blank (F := Z0) (len := f0.toInt) (a := v2_0.toInt) (by omega) (by omega)
            have h4 : y2.toInt = v2_0.toInt + 1 := by omega
            rw [h4, ← h3]
            exact (by assumption : 0 ≤ p1.toInt → zsk Z0 f0.toInt v2_0.toInt = zsk Z0 f0.toInt p1.toInt) h0
          refine lv_goto (tgt := 2) hx hb dX3_behindBlanks_23 (by decide) ?_
          exact ih1 y2 (by omega) (by omega) (by omega) _ _ hP hD hS ls (lv_sub hl [1, 2, 0] rfl)
  exact loop2_0 ((((f0.toInt - p1.toInt).toNat : Int) : Int).toNat + 1) p1 (by omega) (by omega) (by omega) _ _ hP hD hS ls (lv_sub hl [1, 2, 0] rfl)
set_option maxHeartbeats 8000000 in
set_option maxRecDepth 100000 in
theorem gX3_ruleAt (l : Launch) (g : zG) (h0 h1 : Nat) (sz : Nat) (p1 : Int32) (f0 : Int32) (Z0 : Nat → Int32) (hf_f0 : 0 ≤ f0.toInt ∧ f0.toInt ≤ 60) : Met l yX3_ruleAt (.code yX3_ruleAt cX3_ruleAt 2 (some .int) :: zBig) ({ frames := 1, cells := 0, slots := 0, locals := 21 }) (va_Pc [.ref h0, .int p1] (zPre g [(h0, .inr (3, [.ref h1, .int f0])), (h1, .inl (zB g, 60, .inl Z0))] sz)) (va_Qi (fun (r : Int32) (u : Nat) => (0 ≤ p1.toInt → r.toInt = zr Z0 f0.toInt p1.toInt) ∧ -1 ≤ r.toInt ∧ r.toInt ≤ 4) (zPost g (fun u : Nat => [(h0, .inr (3, [.ref h1, .int f0])), (h1, .inl (zB g, 60, .inl Z0))]) (va_A [(h0, .inr (3, [.ref h1, .int f0])), (h1, .inl (zB g, 60, .inl Z0))] sz)) (va_A [(h0, .inr (3, [.ref h1, .int f0])), (h1, .inl (zB g, 60, .inl Z0))] sz)) 0 0 (va_A [(h0, .inr (3, [.ref h1, .int f0])), (h1, .inl (zB g, 60, .inl Z0))] sz) := by
  refine zMetI rfl (Nat.le_of_ble_eq_true rfl) ?_
  intro p e s m args below meth c A ls hx hb hml hr hlocks hin hown hts hK hN hZ hP hD hA hS hAe hl
  have hown : s.vm.findClass RX3 = some m.cls := hown
  have hl : lv_has ls 2 [(0, .ref h0), (1, .int p1)] := hl
  refine lv_aload_n hx hb dX3_ruleAt_0 rfl (lv_at hl 0 rfl) ?_
  refine lv_iload_n hx hb dX3_ruleAt_1 rfl (lv_at hl 1 rfl) ?_
  refine z_calli (wr := []) hP hD hS hA [0, 1] [] (by decide) rfl rfl (by decide) (va_runV (As := [.int p1]) (rest := []) ⟨hx, hb, hml, hown, hts⟩ (gX3_charAt l g h0 h1 s.heap.size p1 f0 Z0 (by constructor <;> omega)) ⟨callB_of 1 hts (zGood m_o_yX3_charAt) rfl rfl rfl (hts _ m_z_RX3) (hts _ m_m_RX3_49) ⟨by decide +kernel, by decide +kernel, by decide +kernel⟩ ⟨Nat.le_of_ble_eq_true rfl, Nat.le_of_ble_eq_true rfl⟩, hts _ m_i_yX3_charAt, hts _ m_e_yX3_charAt⟩ (zPreV hK hN hZ hP hD hS hA [0, 1] (by decide) rfl rfl 3 0 rfl rfl) rfl rfl hl.1 rfl (lv_room (Nat.le_of_ble_eq_true rfl)) dX3_ruleAt_2 ⟨Nat.le_of_ble_eq_true rfl, Nat.le_of_ble_eq_true rfl⟩) (fun r u H locs hw hP hD hS => ?_)
  obtain ⟨y0, rfl⟩ : ∃ z, z = r := ⟨_, rfl⟩
  obtain ⟨q1_0, q1_1⟩ := hw
  have q1_0 : (0 ≤ p1.toInt → p1.toInt < f0.toInt → y0.toInt = zc Z0 p1.toInt) := q1_0
  have q1_1 : (p1.toInt < 0 ∨ f0.toInt ≤ p1.toInt → y0.toInt = 0) := q1_1
  have hP : va_P g.1 vwCl [(h0, .inr (3, [.ref h1, .int f0])), (h1, .inl (zB g, 60, .inl Z0))] H := hP
  have hD : va_D A [(h0, .inr (3, [.ref h1, .int f0])), (h1, .inl (zB g, 60, .inl Z0))] := hD
  by_cases j_0 : y0 = 98
  · refine lv_lookup (x := y0) (off := 57) (tgt := 62) hx hb dX3_ruleAt_5 (by decide) (by rw [j_0]; decide) (by decide) ?_
    refine lv_iconst (v := 3) hx hb dX3_ruleAt_62 (by decide) ?_
    have hzr : 0 ≤ p1.toInt → zr Z0 f0.toInt p1.toInt = 3 := fun h0 => by
      have hc : (if p1.toInt < f0.toInt then zc Z0 p1.toInt else 0) = y0.toInt := by split <;> omega
      unfold zr
      rw [hc]
      rw [j_0]
      decide
    have : (3 : Int32).toInt = 3 := rfl
    have : (3 : Int32).toInt = 3 := rfl
    have hP9 := hP.sub (ws' := [(h0, .inr (3, [.ref h1, .int f0])), (h1, .inl (zB g, 60, .inl Z0))]) [0, 1] rfl
    have hD9 := hD.sub (ws' := [(h0, .inr (3, [.ref h1, .int f0])), (h1, .inl (zB g, 60, .inl Z0))]) [0, 1] (by decide) rfl
    exact W.iret (v := 3) hx hb hr (fun t ht hW => ⟨⟨3, (0 : Nat), rfl, ⟨(by first | omega | decide), (by first | omega | decide), (by first | omega | decide)⟩, by rw [ht]; exact hP9, hD9⟩, hS.F ht⟩) hS.2.2 dX3_ruleAt_63
  by_cases j_1 : y0 = 99
  · refine lv_lookup (x := y0) (off := 59) (tgt := 64) hx hb dX3_ruleAt_5 (by decide) (by rw [j_1]; decide) (by decide) ?_
    refine lv_iconst (v := 4) hx hb dX3_ruleAt_64 (by decide) ?_
    have hzr : 0 ≤ p1.toInt → zr Z0 f0.toInt p1.toInt = 4 := fun h0 => by
      have hc : (if p1.toInt < f0.toInt then zc Z0 p1.toInt else 0) = y0.toInt := by split <;> omega
      unfold zr
      rw [hc]
      rw [j_1]
      decide
    have : (4 : Int32).toInt = 4 := rfl
    have : (4 : Int32).toInt = 4 := rfl
    have hP9 := hP.sub (ws' := [(h0, .inr (3, [.ref h1, .int f0])), (h1, .inl (zB g, 60, .inl Z0))]) [0, 1] rfl
    have hD9 := hD.sub (ws' := [(h0, .inr (3, [.ref h1, .int f0])), (h1, .inl (zB g, 60, .inl Z0))]) [0, 1] (by decide) rfl
    exact W.iret (v := 4) hx hb hr (fun t ht hW => ⟨⟨4, (0 : Nat), rfl, ⟨(by first | omega | decide), (by first | omega | decide), (by first | omega | decide)⟩, by rw [ht]; exact hP9, hD9⟩, hS.F ht⟩) hS.2.2 dX3_ruleAt_65
  by_cases j_2 : y0 = 100
  · refine lv_lookup (x := y0) (off := 53) (tgt := 58) hx hb dX3_ruleAt_5 (by decide) (by rw [j_2]; decide) (by decide) ?_
    refine lv_iconst (v := 1) hx hb dX3_ruleAt_58 (by decide) ?_
    have hzr : 0 ≤ p1.toInt → zr Z0 f0.toInt p1.toInt = 1 := fun h0 => by
      have hc : (if p1.toInt < f0.toInt then zc Z0 p1.toInt else 0) = y0.toInt := by split <;> omega
      unfold zr
      rw [hc]
      rw [j_2]
      decide
    have : (1 : Int32).toInt = 1 := rfl
    have : (1 : Int32).toInt = 1 := rfl
    have hP9 := hP.sub (ws' := [(h0, .inr (3, [.ref h1, .int f0])), (h1, .inl (zB g, 60, .inl Z0))]) [0, 1] rfl
    have hD9 := hD.sub (ws' := [(h0, .inr (3, [.ref h1, .int f0])), (h1, .inl (zB g, 60, .inl Z0))]) [0, 1] (by decide) rfl
    exact W.iret (v := 1) hx hb hr (fun t ht hW => ⟨⟨1, (0 : Nat), rfl, ⟨(by first | omega | decide), (by first | omega | decide), (by first | omega | decide)⟩, by rw [ht]; exact hP9, hD9⟩, hS.F ht⟩) hS.2.2 dX3_ruleAt_59
  by_cases j_3 : y0 = 102
  · refine lv_lookup (x := y0) (off := 55) (tgt := 60) hx hb dX3_ruleAt_5 (by decide) (by rw [j_3]; decide) (by decide) ?_
    refine lv_iconst (v := 2) hx hb dX3_ruleAt_60 (by decide) ?_
    have hzr : 0 ≤ p1.toInt → zr Z0 f0.toInt p1.toInt = 2 := fun h0 => by
      have hc : (if p1.toInt < f0.toInt then zc Z0 p1.toInt else 0) = y0.toInt := by split <;> omega
      unfold zr
      rw [hc]
      rw [j_3]
      decide
    have : (2 : Int32).toInt = 2 := rfl
    have : (2 : Int32).toInt = 2 := rfl
    have hP9 := hP.sub (ws' := [(h0, .inr (3, [.ref h1, .int f0])), (h1, .inl (zB g, 60, .inl Z0))]) [0, 1] rfl
    have hD9 := hD.sub (ws' := [(h0, .inr (3, [.ref h1, .int f0])), (h1, .inl (zB g, 60, .inl Z0))]) [0, 1] (by decide) rfl
    exact W.iret (v := 2) hx hb hr (fun t ht hW => ⟨⟨2, (0 : Nat), rfl, ⟨(by first | omega | decide), (by first | omega | decide), (by first | omega | decide)⟩, by rw [ht]; exact hP9, hD9⟩, hS.F ht⟩) hS.2.2 dX3_ruleAt_61
  by_cases j_4 : y0 = 115
  · refine lv_lookup (x := y0) (off := 51) (tgt := 56) hx hb dX3_ruleAt_5 (by decide) (by rw [j_4]; decide) (by decide) ?_
    refine lv_iconst (v := 0) hx hb dX3_ruleAt_56 (by decide) ?_
    have hzr : 0 ≤ p1.toInt → zr Z0 f0.toInt p1.toInt = 0 := fun h0 => by
      have hc : (if p1.toInt < f0.toInt then zc Z0 p1.toInt else 0) = y0.toInt := by split <;> omega
      unfold zr
      rw [hc]
      rw [j_4]
      decide
    have : (0 : Int32).toInt = 0 := rfl
    have : (0 : Int32).toInt = 0 := rfl
    have hP9 := hP.sub (ws' := [(h0, .inr (3, [.ref h1, .int f0])), (h1, .inl (zB g, 60, .inl Z0))]) [0, 1] rfl
    have hD9 := hD.sub (ws' := [(h0, .inr (3, [.ref h1, .int f0])), (h1, .inl (zB g, 60, .inl Z0))]) [0, 1] (by decide) rfl
    exact W.iret (v := 0) hx hb hr (fun t ht hW => ⟨⟨0, (0 : Nat), rfl, ⟨(by first | omega | decide), (by first | omega | decide), (by first | omega | decide)⟩, by rw [ht]; exact hP9, hD9⟩, hS.F ht⟩) hS.2.2 dX3_ruleAt_57
  refine lv_lookup (x := y0) (off := 61) (tgt := 66) hx hb dX3_ruleAt_5 (by decide) (by rw [lv_osw j_0 (by decide), lv_osw j_1 (by decide), lv_osw j_2 (by decide), lv_osw j_3 (by decide), lv_osw j_4 (by decide)]; rfl) (by decide) ?_
  refine lv_iconst (v := (-1)) hx hb dX3_ruleAt_66 (by decide) ?_
  have hzr : 0 ≤ p1.toInt → zr Z0 f0.toInt p1.toInt = (-1) := fun h0 => by
    have hc : (if p1.toInt < f0.toInt then zc Z0 p1.toInt else 0) = y0.toInt := by split <;> omega
    unfold zr
    rw [hc]
    have n98 : y0.toInt ≠ 98 := fun h => j_0 (Int32.toInt_inj.mp (h.trans rfl))
    have n99 : y0.toInt ≠ 99 := fun h => j_1 (Int32.toInt_inj.mp (h.trans rfl))
    have n100 : y0.toInt ≠ 100 := fun h => j_2 (Int32.toInt_inj.mp (h.trans rfl))
    have n102 : y0.toInt ≠ 102 := fun h => j_3 (Int32.toInt_inj.mp (h.trans rfl))
    have n115 : y0.toInt ≠ 115 := fun h => j_4 (Int32.toInt_inj.mp (h.trans rfl))
    unfold zrl
    rw [if_neg n115, if_neg n100, if_neg n102, if_neg n98, if_neg n99]
  have : ((-1) : Int32).toInt = (-1) := rfl
  have : ((-1) : Int32).toInt = (-1) := rfl
  have hP9 := hP.sub (ws' := [(h0, .inr (3, [.ref h1, .int f0])), (h1, .inl (zB g, 60, .inl Z0))]) [0, 1] rfl
  have hD9 := hD.sub (ws' := [(h0, .inr (3, [.ref h1, .int f0])), (h1, .inl (zB g, 60, .inl Z0))]) [0, 1] (by decide) rfl
  exact W.iret (v := (-1)) hx hb hr (fun t ht hW => ⟨⟨(-1), (0 : Nat), rfl, ⟨(by first | omega | decide), (by first | omega | decide), (by first | omega | decide)⟩, by rw [ht]; exact hP9, hD9⟩, hS.F ht⟩) hS.2.2 dX3_ruleAt_67
set_option maxHeartbeats 8000000 in
set_option maxRecDepth 100000 in
theorem gX3_behindDigits (l : Launch) (g : zG) (h0 h1 : Nat) (sz : Nat) (p1 : Int32) (f0 : Int32) (Z0 : Nat → Int32) (hf_f0 : 0 ≤ f0.toInt ∧ f0.toInt ≤ 60) : Met l yX3_behindDigits (.code yX3_behindDigits cX3_behindDigits 3 (some .int) :: zBig) ({ frames := 1, cells := 0, slots := 0, locals := 21 }) (va_Pc [.ref h0, .int p1] (zPre g [(h0, .inr (3, [.ref h1, .int f0])), (h1, .inl (zB g, 60, .inl Z0))] sz)) (va_Qi (fun (r : Int32) (u : Nat) => (0 ≤ p1.toInt → r.toInt = zdg Z0 f0.toInt p1.toInt)) (zPost g (fun u : Nat => [(h0, .inr (3, [.ref h1, .int f0])), (h1, .inl (zB g, 60, .inl Z0))]) (va_A [(h0, .inr (3, [.ref h1, .int f0])), (h1, .inl (zB g, 60, .inl Z0))] sz)) (va_A [(h0, .inr (3, [.ref h1, .int f0])), (h1, .inl (zB g, 60, .inl Z0))] sz)) 0 0 (va_A [(h0, .inr (3, [.ref h1, .int f0])), (h1, .inl (zB g, 60, .inl Z0))] sz) := by
  refine zMetI rfl (Nat.le_of_ble_eq_true rfl) ?_
  intro p e s m args below meth c A ls hx hb hml hr hlocks hin hown hts hK hN hZ hP hD hA hS hAe hl
  have hown : s.vm.findClass RX3 = some m.cls := hown
  have hl : lv_has ls 3 [(0, .ref h0), (1, .int p1)] := hl
  refine lv_iload_n hx hb dX3_behindDigits_0 rfl (lv_at hl 1 rfl) ?_
  refine lv_istore_n (lv' := [(2, .int p1), (0, .ref h0), (1, .int p1)]) hx hb dX3_behindDigits_1 rfl hl (by decide) rfl (fun ls hl => ?_)
  have loop2_0 : ∀ (n1 : Nat) (v2_0 : Int32) (n1_0 : (0 ≤ p1.toInt → p1.toInt ≤ v2_0.toInt)) (n1_1 : (0 ≤ p1.toInt → zdg Z0 f0.toInt v2_0.toInt = zdg Z0 f0.toInt p1.toInt)) (hm1 : ((f0.toInt - v2_0.toInt).toNat : Int) < (n1 : Int)) (H : Heap) (locs : List Loc), va_P g.1 vwCl [(h0, .inr (3, [.ref h1, .int f0])), (h1, .inl (zB g, 60, .inl Z0))] H → va_D A [(h0, .inr (3, [.ref h1, .int f0])), (h1, .inl (zB g, 60, .inl Z0))] → va_S A s.heap H locs → ∀ (ls : Array Slot), lv_has ls 3 [(0, .ref h0), (1, .int p1), (2, .int v2_0)] → W p l e ({ frames := 1, cells := 0, slots := 0, locals := 21 }) s m args below meth c H locs 0 0 (MQ below (va_Qi (fun (r : Int32) (u : Nat) => (0 ≤ p1.toInt → r.toInt = zdg Z0 f0.toInt p1.toInt)) (zPost g (fun u : Nat => [(h0, .inr (3, [.ref h1, .int f0])), (h1, .inl (zB g, 60, .inl Z0))]) A) A) args s 0 0 A) (F0 m 2 ls []) := by
    intro n1
    induction n1 with
    | zero => intro v2_0 n1_0 n1_1 hm1; exfalso; omega
    | succ n1 ih1 =>
      intro v2_0 n1_0 n1_1 hm1 H locs hP hD hS ls hl
      refine lv_iload_n hx hb dX3_behindDigits_2 rfl (lv_at hl 2 rfl) ?_
      refine lv_aload_n hx hb dX3_behindDigits_3 rfl (lv_at hl 0 rfl) ?_
      refine va_get (D := g.1) (ci := 3) (v := .int f0) (C := RX3) (T := TX3) (N := 2) hx hb hts zl_X3 hown hK hP 0 rfl rfl 1 (by decide) (hts _ m_f_RX3_15) (fun _ h => h) rfl dX3_behindDigits_4 ?_
      refine lv_icmp_ge (tgt := 36) hx hb dX3_behindDigits_7 (by decide) (fun c_1 => ?_) (fun c_1 => ?_)
      · have i_1 : f0.toInt ≤ v2_0.toInt := z_le (rfl) (rfl) c_1
        have hze : 0 ≤ p1.toInt → v2_0.toInt = zdg Z0 f0.toInt p1.toInt := fun h0 => by
          rw [← (by assumption : 0 ≤ p1.toInt → zdg Z0 f0.toInt v2_0.toInt = zdg Z0 f0.toInt p1.toInt) h0]
          first | exact (zdg_end (by omega)).symm | exact (zdg_stop (by omega) (by omega)).symm
        refine lv_iload_n hx hb dX3_behindDigits_36 rfl (lv_at hl 2 rfl) ?_
        have hP9 := hP.sub (ws' := [(h0, .inr (3, [.ref h1, .int f0])), (h1, .inl (zB g, 60, .inl Z0))]) [0, 1] rfl
        have hD9 := hD.sub (ws' := [(h0, .inr (3, [.ref h1, .int f0])), (h1, .inl (zB g, 60, .inl Z0))]) [0, 1] (by decide) rfl
        exact W.iret (v := v2_0) hx hb hr (fun t ht hW => ⟨⟨v2_0, (0 : Nat), rfl, (by first | omega | decide), by rw [ht]; exact hP9, hD9⟩, hS.F ht⟩) hS.2.2 dX3_behindDigits_37
      · have i_1 : v2_0.toInt < f0.toInt := z_nle (rfl) (rfl) c_1
        refine lv_aload_n hx hb dX3_behindDigits_10 rfl (lv_at hl 0 rfl) ?_
        refine lv_iload_n hx hb dX3_behindDigits_11 rfl (lv_at hl 2 rfl) ?_
        refine z_calli (wr := []) hP hD hS hA [0, 1] [] (by decide) rfl rfl (by decide) (va_runV (As := [.int v2_0]) (rest := []) ⟨hx, hb, hml, hown, hts⟩ (gX3_charAt l g h0 h1 H.size v2_0 f0 Z0 (by constructor <;> omega)) ⟨callB_of 1 hts (zGood m_o_yX3_charAt) rfl rfl rfl (hts _ m_z_RX3) (hts _ m_m_RX3_49) ⟨by decide +kernel, by decide +kernel, by decide +kernel⟩ ⟨Nat.le_of_ble_eq_true rfl, Nat.le_of_ble_eq_true rfl⟩, hts _ m_i_yX3_charAt, hts _ m_e_yX3_charAt⟩ (zPreV hK hN hZ hP hD hS hA [0, 1] (by decide) rfl rfl 3 0 rfl rfl) rfl rfl hl.1 rfl (lv_room (Nat.le_of_ble_eq_true rfl)) dX3_behindDigits_12 ⟨Nat.le_of_ble_eq_true rfl, Nat.le_of_ble_eq_true rfl⟩) (fun r u H locs hw hP hD hS => ?_)
        obtain ⟨y0, rfl⟩ : ∃ z, z = r := ⟨_, rfl⟩
        obtain ⟨q1_0, q1_1⟩ := hw
        have q1_0 : (0 ≤ v2_0.toInt → v2_0.toInt < f0.toInt → y0.toInt = zc Z0 v2_0.toInt) := q1_0
        have q1_1 : (v2_0.toInt < 0 ∨ f0.toInt ≤ v2_0.toInt → y0.toInt = 0) := q1_1
        have hP : va_P g.1 vwCl [(h0, .inr (3, [.ref h1, .int f0])), (h1, .inl (zB g, 60, .inl Z0))] H := hP
        have hD : va_D A [(h0, .inr (3, [.ref h1, .int f0])), (h1, .inl (zB g, 60, .inl Z0))] := hD
        refine lv_bipush (v := 48) hx hb dX3_behindDigits_15 (by decide) ?_
        refine lv_icmp_lt (tgt := 36) hx hb dX3_behindDigits_17 (by decide) (fun c_2 => ?_) (fun c_2 => ?_)
        · have i_2 : y0.toInt < 48 := z_lt (rfl) (rfl) c_2
          have hze : 0 ≤ p1.toInt → v2_0.toInt = zdg Z0 f0.toInt p1.toInt := fun h0 => by
            rw [← (by assumption : 0 ≤ p1.toInt → zdg Z0 f0.toInt v2_0.toInt = zdg Z0 f0.toInt p1.toInt) h0]
            first | exact (zdg_end (by omega)).symm | exact (zdg_stop (by omega) (by omega)).symm
          refine lv_iload_n hx hb dX3_behindDigits_36 rfl (lv_at hl 2 rfl) ?_
          have hP9 := hP.sub (ws' := [(h0, .inr (3, [.ref h1, .int f0])), (h1, .inl (zB g, 60, .inl Z0))]) [0, 1] rfl
          have hD9 := hD.sub (ws' := [(h0, .inr (3, [.ref h1, .int f0])), (h1, .inl (zB g, 60, .inl Z0))]) [0, 1] (by decide) rfl
          exact W.iret (v := v2_0) hx hb hr (fun t ht hW => ⟨⟨v2_0, (0 : Nat), rfl, (by first | omega | decide), by rw [ht]; exact hP9, hD9⟩, hS.F ht⟩) hS.2.2 dX3_behindDigits_37
        · have i_2 : 48 ≤ y0.toInt := z_nlt (rfl) (rfl) c_2
          refine lv_aload_n hx hb dX3_behindDigits_20 rfl (lv_at hl 0 rfl) ?_
          refine lv_iload_n hx hb dX3_behindDigits_21 rfl (lv_at hl 2 rfl) ?_
          refine z_calli (wr := []) hP hD hS hA [0, 1] [] (by decide) rfl rfl (by decide) (va_runV (As := [.int v2_0]) (rest := []) ⟨hx, hb, hml, hown, hts⟩ (gX3_charAt l g h0 h1 H.size v2_0 f0 Z0 (by constructor <;> omega)) ⟨callB_of 1 hts (zGood m_o_yX3_charAt) rfl rfl rfl (hts _ m_z_RX3) (hts _ m_m_RX3_49) ⟨by decide +kernel, by decide +kernel, by decide +kernel⟩ ⟨Nat.le_of_ble_eq_true rfl, Nat.le_of_ble_eq_true rfl⟩, hts _ m_i_yX3_charAt, hts _ m_e_yX3_charAt⟩ (zPreV hK hN hZ hP hD hS hA [0, 1] (by decide) rfl rfl 3 0 rfl rfl) rfl rfl hl.1 rfl (lv_room (Nat.le_of_ble_eq_true rfl)) dX3_behindDigits_22 ⟨Nat.le_of_ble_eq_true rfl, Nat.le_of_ble_eq_true rfl⟩) (fun r u H locs hw hP hD hS => ?_)
          obtain ⟨y2, rfl⟩ : ∃ z, z = r := ⟨_, rfl⟩
          obtain ⟨q3_0, q3_1⟩ := hw
          have q3_0 : (0 ≤ v2_0.toInt → v2_0.toInt < f0.toInt → y2.toInt = zc Z0 v2_0.toInt) := q3_0
          have q3_1 : (v2_0.toInt < 0 ∨ f0.toInt ≤ v2_0.toInt → y2.toInt = 0) := q3_1
          have hP : va_P g.1 vwCl [(h0, .inr (3, [.ref h1, .int f0])), (h1, .inl (zB g, 60, .inl Z0))] H := hP
          have hD : va_D A [(h0, .inr (3, [.ref h1, .int f0])), (h1, .inl (zB g, 60, .inl Z0))] := hD
          refine lv_bipush (v := 57) hx hb dX3_behindDigits_25 (by decide) ?_
          refine lv_icmp_gt (tgt := 36) hx hb dX3_behindDigits_27 (by decide) (fun c_3 => ?_) (fun c_3 => ?_)
          · have i_3 : 57 < y2.toInt := z_lt (rfl) (rfl) c_3
            have hze : 0 ≤ p1.toInt → v2_0.toInt = zdg Z0 f0.toInt p1.toInt := fun h0 => by
              rw [← (by assumption : 0 ≤ p1.toInt → zdg Z0 f0.toInt v2_0.toInt = zdg Z0 f0.toInt p1.toInt) h0]
              first | exact (zdg_end (by omega)).symm | exact (zdg_stop (by omega) (by omega)).symm
            refine lv_iload_n hx hb dX3_behindDigits_36 rfl (lv_at hl 2 rfl) ?_
            have hP9 := hP.sub (ws' := [(h0, .inr (3, [.ref h1, .int f0])), (h1, .inl (zB g, 60, .inl Z0))]) [0, 1] rfl
            have hD9 := hD.sub (ws' := [(h0, .inr (3, [.ref h1, .int f0])), (h1, .inl (zB g, 60, .inl Z0))]) [0, 1] (by decide) rfl
            exact W.iret (v := v2_0) hx hb hr (fun t ht hW => ⟨⟨v2_0, (0 : Nat), rfl, (by first | omega | decide), by rw [ht]; exact hP9, hD9⟩, hS.F ht⟩) hS.2.2 dX3_behindDigits_37
          · have i_3 : y2.toInt ≤ 57 := z_nlt (rfl) (rfl) c_3
            obtain ⟨y4, ey4⟩ : ∃ z : Int32, z = v2_0 + 1 := ⟨_, rfl⟩
            have := z_rng v2_0
            have := z_rng f0
            have qy4 : y4.toInt = v2_0.toInt + 1 := zi_add ey4 (rfl) rfl (by omega) (by omega)
            refine lv_iinc (v := y4) (lv' := [(2, .int y4), (0, .ref h0), (1, .int p1)]) hx hb dX3_behindDigits_30 hl (k := 2) rfl ey4.symm (by decide) rfl (fun ls hl => ?_)
            have hzk : 0 ≤ p1.toInt → zdg Z0 f0.toInt y4.toInt = zdg Z0 f0.toInt p1.toInt := fun h0 => by
              have h3 := zdg_dig (F := Z0) (len := f0.toInt) (a := v2_0.toInt) (by omega) (by omega)
              have h4 : y4.toInt = v2_0.toInt + 1 := by omega
              rw [h4, ← h3]
              exact (by assumption : 0 ≤ p1.toInt → zdg Z0 f0.toInt v2_0.toInt = zdg Z0 f0.toInt p1.toInt) h0
            refine lv_goto (tgt := 2) hx hb dX3_behindDigits_33 (by decide) ?_
            exact ih1 y4 (by omega) (by omega) (by omega) _ _ hP hD hS ls (lv_sub hl [1, 2, 0] rfl)
  exact loop2_0 ((((f0.toInt - p1.toInt).toNat : Int) : Int).toNat + 1) p1 (by omega) (by omega) (by omega) _ _ hP hD hS ls (lv_sub hl [1, 2, 0] rfl)
set_option maxHeartbeats 8000000 in
set_option maxRecDepth 100000 in
theorem gX3_numberAt (l : Launch) (g : zG) (h0 h1 : Nat) (sz : Nat) (p1 : Int32) (p2 : Int32) (f0 : Int32) (Z0 : Nat → Int32) (hp0 : zDi Z0 p1.toInt p2.toInt = 1) (hp1 : 0 ≤ p1.toInt) (hp2 : p1.toInt ≤ p2.toInt) (hp3 : p2.toInt ≤ f0.toInt) (hf_f0 : 0 ≤ f0.toInt ∧ f0.toInt ≤ 60) : Met l yX3_numberAt (.code yX3_numberAt cX3_numberAt 5 (some .int) :: zBig) ({ frames := 1, cells := 0, slots := 0, locals := 21 }) (va_Pc [.ref h0, .int p1, .int p2] (zPre g [(h0, .inr (3, [.ref h1, .int f0])), (h1, .inl (zB g, 60, .inl Z0))] sz)) (va_Qi (fun (r : Int32) (u : Nat) => r.toInt = zNu Z0 p2.toInt p1.toInt 0 ∧ 0 ≤ r.toInt ∧ r.toInt ≤ 1000) (zPost g (fun u : Nat => [(h0, .inr (3, [.ref h1, .int f0])), (h1, .inl (zB g, 60, .inl Z0))]) (va_A [(h0, .inr (3, [.ref h1, .int f0])), (h1, .inl (zB g, 60, .inl Z0))] sz)) (va_A [(h0, .inr (3, [.ref h1, .int f0])), (h1, .inl (zB g, 60, .inl Z0))] sz)) 0 0 (va_A [(h0, .inr (3, [.ref h1, .int f0])), (h1, .inl (zB g, 60, .inl Z0))] sz) := by
  refine zMetI rfl (Nat.le_of_ble_eq_true rfl) ?_
  intro p e s m args below meth c A ls hx hb hml hr hlocks hin hown hts hK hN hZ hP hD hA hS hAe hl
  have hown : s.vm.findClass RX3 = some m.cls := hown
  have hl : lv_has ls 5 [(0, .ref h0), (1, .int p1), (2, .int p2)] := hl
  have hz0 : zNu Z0 p2.toInt p1.toInt (0 : Int32).toInt = zNu Z0 p2.toInt p1.toInt 0 := rfl
  refine lv_iconst (v := 0) hx hb dX3_numberAt_0 (by decide) ?_
  refine lv_istore_n (lv' := [(3, .int 0), (0, .ref h0), (1, .int p1), (2, .int p2)]) hx hb dX3_numberAt_1 rfl hl (by decide) rfl (fun ls hl => ?_)
  refine lv_iload_n hx hb dX3_numberAt_2 rfl (lv_at hl 2 rfl) ?_
  refine lv_istore (lv' := [(4, .int p1), (3, .int 0), (0, .ref h0), (1, .int p1), (2, .int p2)]) hx hb dX3_numberAt_3 hl (by decide) rfl (fun ls hl => ?_)
  have loop5_0 : ∀ (n1 : Nat) (v3_0 : Int32) (v4_0 : Int32) (n1_0 : 0 ≤ v3_0.toInt) (n1_1 : v3_0.toInt ≤ 1000) (n1_2 : p1.toInt ≤ v4_0.toInt) (n1_3 : v4_0.toInt ≤ p2.toInt) (n1_4 : zNu Z0 p2.toInt v4_0.toInt v3_0.toInt = zNu Z0 p2.toInt p1.toInt 0) (hm1 : ((p2.toInt - v4_0.toInt).toNat : Int) < (n1 : Int)) (H : Heap) (locs : List Loc), va_P g.1 vwCl [(h0, .inr (3, [.ref h1, .int f0])), (h1, .inl (zB g, 60, .inl Z0))] H → va_D A [(h0, .inr (3, [.ref h1, .int f0])), (h1, .inl (zB g, 60, .inl Z0))] → va_S A s.heap H locs → ∀ (ls : Array Slot), lv_has ls 5 [(0, .ref h0), (1, .int p1), (2, .int p2), (3, .int v3_0), (4, .int v4_0)] → W p l e ({ frames := 1, cells := 0, slots := 0, locals := 21 }) s m args below meth c H locs 0 0 (MQ below (va_Qi (fun (r : Int32) (u : Nat) => r.toInt = zNu Z0 p2.toInt p1.toInt 0 ∧ 0 ≤ r.toInt ∧ r.toInt ≤ 1000) (zPost g (fun u : Nat => [(h0, .inr (3, [.ref h1, .int f0])), (h1, .inl (zB g, 60, .inl Z0))]) A) A) args s 0 0 A) (F0 m 5 ls []) := by
    intro n1
    induction n1 with
    | zero => intro v3_0 v4_0 n1_0 n1_1 n1_2 n1_3 n1_4 hm1; exfalso; omega
    | succ n1 ih1 =>
      intro v3_0 v4_0 n1_0 n1_1 n1_2 n1_3 n1_4 hm1 H locs hP hD hS ls hl
      refine lv_iload hx hb dX3_numberAt_5 (lv_at hl 4 rfl) ?_
      refine lv_iload_n hx hb dX3_numberAt_7 rfl (lv_at hl 2 rfl) ?_
      refine lv_icmp_ge (tgt := 38) hx hb dX3_numberAt_8 (by decide) (fun c_1 => ?_) (fun c_1 => ?_)
      · have i_1 : p2.toInt ≤ v4_0.toInt := z_le (rfl) (rfl) c_1
        have hzf : v3_0.toInt = zNu Z0 p2.toInt p1.toInt 0 := by
          have h1 := zNu_end (F := Z0) (b := p2.toInt) (a := v4_0.toInt) (v := v3_0.toInt) (by omega)
          rw [← h1]
          assumption
        refine lv_iload_n hx hb dX3_numberAt_38 rfl (lv_at hl 3 rfl) ?_
        have hP9 := hP.sub (ws' := [(h0, .inr (3, [.ref h1, .int f0])), (h1, .inl (zB g, 60, .inl Z0))]) [0, 1] rfl
        have hD9 := hD.sub (ws' := [(h0, .inr (3, [.ref h1, .int f0])), (h1, .inl (zB g, 60, .inl Z0))]) [0, 1] (by decide) rfl
        exact W.iret (v := v3_0) hx hb hr (fun t ht hW => ⟨⟨v3_0, (0 : Nat), rfl, ⟨(by first | omega | decide), (by first | omega | decide), (by first | omega | decide)⟩, by rw [ht]; exact hP9, hD9⟩, hS.F ht⟩) hS.2.2 dX3_numberAt_39
      · have i_1 : v4_0.toInt < p2.toInt := z_nle (rfl) (rfl) c_1
        refine lv_sipush (v := 1000) hx hb dX3_numberAt_11 (by decide) ?_
        refine lv_iload_n hx hb dX3_numberAt_14 rfl (lv_at hl 3 rfl) ?_
        refine lv_bipush (v := 10) hx hb dX3_numberAt_15 (by decide) ?_
        refine lv_imul hx hb dX3_numberAt_17 ?_
        refine lv_topi (fun y0 ey0 => ?_)
        have qy0_0 : y0.toInt = v3_0.toInt * 10 := zi_mul ey0 (rfl) (rfl) (by omega) (by omega)
        refine lv_aload_n hx hb dX3_numberAt_18 rfl (lv_at hl 0 rfl) ?_
        refine lv_iload hx hb dX3_numberAt_19 (lv_at hl 4 rfl) ?_
        refine z_calli (wr := []) hP hD hS hA [0, 1] [] (by decide) rfl rfl (by decide) (va_runV (As := [.int v4_0]) (rest := [.int y0, .int 1000]) ⟨hx, hb, hml, hown, hts⟩ (gX3_charAt l g h0 h1 H.size v4_0 f0 Z0 (by constructor <;> omega)) ⟨callB_of 1 hts (zGood m_o_yX3_charAt) rfl rfl rfl (hts _ m_z_RX3) (hts _ m_m_RX3_49) ⟨by decide +kernel, by decide +kernel, by decide +kernel⟩ ⟨Nat.le_of_ble_eq_true rfl, Nat.le_of_ble_eq_true rfl⟩, hts _ m_i_yX3_charAt, hts _ m_e_yX3_charAt⟩ (zPreV hK hN hZ hP hD hS hA [0, 1] (by decide) rfl rfl 3 0 rfl rfl) rfl rfl hl.1 rfl (lv_room (Nat.le_of_ble_eq_true rfl)) dX3_numberAt_21 ⟨Nat.le_of_ble_eq_true rfl, Nat.le_of_ble_eq_true rfl⟩) (fun r u H locs hw hP hD hS => ?_)
        obtain ⟨y1, rfl⟩ : ∃ z, z = r := ⟨_, rfl⟩
        obtain ⟨q2_0, q2_1⟩ := hw
        have q2_0 : (0 ≤ v4_0.toInt → v4_0.toInt < f0.toInt → y1.toInt = zc Z0 v4_0.toInt) := q2_0
        have q2_1 : (v4_0.toInt < 0 ∨ f0.toInt ≤ v4_0.toInt → y1.toInt = 0) := q2_1
        have hP : va_P g.1 vwCl [(h0, .inr (3, [.ref h1, .int f0])), (h1, .inl (zB g, 60, .inl Z0))] H := hP
        have hD : va_D A [(h0, .inr (3, [.ref h1, .int f0])), (h1, .inl (zB g, 60, .inl Z0))] := hD
        have hd := zDi_at (F := Z0) hp0 v4_0.toInt (by omega) (by omega)
        have hd0 : 48 ≤ y1.toInt := by omega
        have hd1 : y1.toInt ≤ 57 := by omega
        refine lv_iadd hx hb dX3_numberAt_24 ?_
        refine lv_topi (fun y3 ey3 => ?_)
        have qy3_0 : y3.toInt = y0.toInt + y1.toInt := zi_add ey3 (rfl) (rfl) (by omega) (by omega)
        refine lv_bipush (v := 48) hx hb dX3_numberAt_25 (by decide) ?_
        refine lv_isub hx hb dX3_numberAt_27 ?_
        refine lv_topi (fun y4 ey4 => ?_)
        have qy4_0 : y4.toInt = y3.toInt - 48 := zi_sub ey4 (rfl) (rfl) (by omega) (by omega)
        refine va_mmin hx hb (hml.trans hl.1.symm) hown (hts _ m_m_RX3_56) (hts _ m_s_Lib_Math_min_name) (hts _ m_z_RJ9) (hts _ m_o_Lib_Math_min_name) (Nat.le_of_ble_eq_true rfl) (Nat.le_of_ble_eq_true rfl) (Nat.le_of_ble_eq_true rfl) (Nat.le_of_ble_eq_true rfl) dX3_numberAt_28 ?_
        refine lv_topi (fun y5 ey5 => ?_)
        have qy5_0 : y5.toInt ≤ 1000 := (zi_min ey5 (rfl) (rfl)).1
        have qy5_1 : y5.toInt ≤ y4.toInt := (zi_min ey5 (rfl) (rfl)).2.1
        have qy5_2 : y5.toInt = 1000 ∨ y5.toInt = y4.toInt := (zi_min ey5 (rfl) (rfl)).2.2
        refine lv_istore_n (lv' := [(3, .int y5), (0, .ref h0), (1, .int p1), (2, .int p2), (4, .int v4_0)]) hx hb dX3_numberAt_31 rfl hl (by decide) rfl (fun ls hl => ?_)
        obtain ⟨y6, ey6⟩ : ∃ z : Int32, z = v4_0 + 1 := ⟨_, rfl⟩
        have qy6 : y6.toInt = v4_0.toInt + 1 := zi_add ey6 (rfl) rfl (by omega) (by omega)
        refine lv_iinc (v := y6) (lv' := [(4, .int y6), (3, .int y5), (0, .ref h0), (1, .int p1), (2, .int p2)]) hx hb dX3_numberAt_32 hl (k := 4) rfl ey6.symm (by decide) rfl (fun ls hl => ?_)
        have hzn9 : zNu Z0 p2.toInt y6.toInt y5.toInt = zNu Z0 p2.toInt p1.toInt 0 := by
          have h1 := zNu_s (F := Z0) (b := p2.toInt) (a := v4_0.toInt) (v := v3_0.toInt) (by omega)
          have e1 : y6.toInt = v4_0.toInt + 1 := by omega
          have e2 : y5.toInt = min 1000 (10 * v3_0.toInt + zc Z0 v4_0.toInt - 48) := by omega
          rw [e1, e2, ← h1]
          assumption
        refine lv_goto (tgt := 5) hx hb dX3_numberAt_35 (by decide) ?_
        exact ih1 y5 y6 (by omega) (by omega) (by omega) (by omega) (by omega) (by omega) _ _ hP hD hS ls (lv_sub hl [2, 3, 4, 1, 0] rfl)
  have : (0 : Int32).toInt = 0 := rfl
  exact loop5_0 ((((p2.toInt - p1.toInt).toNat : Int) : Int).toNat + 1) (0 : Int32) p1 (by omega) (by omega) (by omega) (by omega) (by omega) (by omega) _ _ hP hD hS ls (lv_sub hl [2, 3, 4, 1, 0] rfl)
set_option maxHeartbeats 8000000 in
set_option maxRecDepth 100000 in
theorem gX3_readLaw (l : Launch) (g : zG) (h0 h1 h2 : Nat) (sz : Nat) (f0 : Int32) (Z0 : Nat → Int32) (Z1 : Nat → Int32) (hf_f0 : 0 ≤ f0.toInt ∧ f0.toInt ≤ 60) : Met l yX3_readLaw (.code yX3_readLaw cX3_readLaw 8 (some .int) :: zBig) ({ frames := 2, cells := 0, slots := 0, locals := 45 }) (va_Pc [.ref h0, .ref h1] (zPre g [(h0, .inr (3, [.ref h2, .int f0])), (h1, .inl (zI g, 5, .inl Z0)), (h2, .inl (zB g, 60, .inl Z1))] sz)) (va_Qi (fun (r : Int32) (u : (Nat → Int32)) => (r.toInt = zLaw Z1 f0.toInt) ∧ zTold Z1 f0.toInt u) (zPost g (fun u : (Nat → Int32) => [(h0, .inr (3, [.ref h2, .int f0])), (h1, .inl (zI g, 5, .inl u)), (h2, .inl (zB g, 60, .inl Z1))]) (va_A [(h0, .inr (3, [.ref h2, .int f0])), (h1, .inl (zI g, 5, .inl Z0)), (h2, .inl (zB g, 60, .inl Z1))] sz)) (va_A [(h0, .inr (3, [.ref h2, .int f0])), (h1, .inl (zI g, 5, .inl Z0)), (h2, .inl (zB g, 60, .inl Z1))] sz)) 0 0 (va_A [(h0, .inr (3, [.ref h2, .int f0])), (h1, .inl (zI g, 5, .inl Z0)), (h2, .inl (zB g, 60, .inl Z1))] sz) := by
  refine zMetI rfl (Nat.le_of_ble_eq_true rfl) ?_
  intro p e s m args below meth c A ls hx hb hml hr hlocks hin hown hts hK hN hZ hP hD hA hS hAe hl
  have hown : s.vm.findClass RX3 = some m.cls := hown
  have hl : lv_has ls 8 [(0, .ref h0), (1, .ref h1)] := hl
  refine lv_aload_n hx hb dX3_readLaw_0 rfl (lv_at hl 1 rfl) ?_
  refine lv_iconst (v := (-1)) hx hb dX3_readLaw_1 (by decide) ?_
  refine z_callv (wr := [(h0, .inr (3, [.ref h2, .int f0])), (h2, .inl (zB g, 60, .inl Z1))]) hP hD hS hA [1] [0, 2] (by decide) rfl rfl (by decide) (va_runS (As := [.ref h1, .int (-1)]) (rest := []) ⟨hx, hb, hml, hown, hts⟩ (gJ7_fill_53178_n5 l g h1 s.heap.size ((-1) : Int32) Z0) ⟨callB_of 2 hts (zGood m_o_yJ7_fill_53178) rfl rfl rfl (hts _ m_z_RJ7) (hts _ m_m_RX3_25) ⟨by decide +kernel, by decide +kernel, by decide +kernel⟩ ⟨Nat.le_of_ble_eq_true rfl, Nat.le_of_ble_eq_true rfl⟩, hts _ m_s_yJ7_fill_53178⟩ (zPreS hK hN hZ hP hD hS hA [1] (by decide) rfl rfl) rfl rfl hl.1 rfl (lv_room (Nat.le_of_ble_eq_true rfl)) dX3_readLaw_2 ⟨Nat.le_of_ble_eq_true rfl, Nat.le_of_ble_eq_true rfl⟩) (fun u H locs hw hP hD hS => ?_)
  obtain ⟨R0, rfl⟩ : ∃ z, z = u := ⟨_, rfl⟩
  obtain ⟨hw, hI1⟩ := hw
  have hP : va_P g.1 vwCl [(h0, .inr (3, [.ref h2, .int f0])), (h2, .inl (zB g, 60, .inl Z1)), (h1, .inl (zI g, 5, .inl R0))] H := hP
  have hD : va_D A [(h0, .inr (3, [.ref h2, .int f0])), (h2, .inl (zB g, 60, .inl Z1)), (h1, .inl (zI g, 5, .inl R0))] := hD
  refine lv_iconst (v := 0) hx hb dX3_readLaw_5 (by decide) ?_
  refine lv_istore_n (lv' := [(2, .int 0), (0, .ref h0), (1, .ref h1)]) hx hb dX3_readLaw_6 rfl hl (by decide) rfl (fun ls hl => ?_)
  refine lv_aload_n hx hb dX3_readLaw_7 rfl (lv_at hl 1 rfl) ?_
  refine lv_iconst (v := 0) hx hb dX3_readLaw_8 (by decide) ?_
  have : (0 : Int32).toInt = 0 := rfl
  refine z_calli (wr := [(h1, .inl (zI g, 5, .inl R0))]) hP hD hS hA [0, 1] [2] (by decide) rfl rfl (by decide) (va_runV (As := [.int 0]) (rest := []) ⟨hx, hb, hml, hown, hts⟩ (gX3_behindBlanks l g h0 h2 H.size (0 : Int32) f0 Z1 (by constructor <;> omega)) ⟨callB_of 1 hts (zGood m_o_yX3_behindBlanks) rfl rfl rfl (hts _ m_z_RX3) (hts _ m_m_RX3_31) ⟨by decide +kernel, by decide +kernel, by decide +kernel⟩ ⟨Nat.le_of_ble_eq_true rfl, Nat.le_of_ble_eq_true rfl⟩, hts _ m_i_yX3_behindBlanks, hts _ m_e_yX3_behindBlanks⟩ (zPreV hK hN hZ hP hD hS hA [0, 1] (by decide) rfl rfl 3 0 rfl rfl) rfl rfl hl.1 rfl (lv_room (Nat.le_of_ble_eq_true rfl)) dX3_readLaw_9 ⟨Nat.le_of_ble_eq_true rfl, Nat.le_of_ble_eq_true rfl⟩) (fun r u H locs hw hP hD hS => ?_)
  obtain ⟨y2, rfl⟩ : ∃ z, z = r := ⟨_, rfl⟩
  have q3_0 := hw
  have q3_0 : (0 ≤ (0 : Int) → y2.toInt = zsk Z1 f0.toInt (0 : Int)) := q3_0
  have hP : va_P g.1 vwCl [(h1, .inl (zI g, 5, .inl R0)), (h0, .inr (3, [.ref h2, .int f0])), (h2, .inl (zB g, 60, .inl Z1))] H := hP
  have hD : va_D A [(h1, .inl (zI g, 5, .inl R0)), (h0, .inr (3, [.ref h2, .int f0])), (h2, .inl (zB g, 60, .inl Z1))] := hD
  have hz1 : y2.toInt = zsk Z1 f0.toInt 0 := by omega
  have hzr0 := zsk_r (F := Z1) (len := f0.toInt) (a := 0) (by omega)
  have hzq0 : 0 ≤ y2.toInt := by omega
  have hzq1 : y2.toInt ≤ 60 := by omega
  have hI4 : zRL Z1 f0.toInt y2.toInt 0 R0 := zRL_0 hI1 hz1 hzq0
  refine lv_istore_n (lv' := [(3, .int y2), (2, .int 0), (0, .ref h0), (1, .ref h1)]) hx hb dX3_readLaw_12 rfl hl (by decide) rfl (fun ls hl => ?_)
  have loop13_0 : ∀ (n1 : Nat) (v2_0 : Int32) (v3_0 : Int32) (G0_0 : Nat → Int32) (hG0_0 : zRL Z1 f0.toInt (v3_0.toInt) (v2_0.toInt) G0_0) (n1_0 : 0 ≤ v2_0.toInt) (n1_1 : v2_0.toInt ≤ 5) (n1_2 : 0 ≤ v3_0.toInt) (n1_3 : v3_0.toInt ≤ 60) (n1_4 : v3_0.toInt ≤ f0.toInt) (hm1 : 6 - v2_0.toInt < (n1 : Int)) (H : Heap) (locs : List Loc), va_P g.1 vwCl [(h1, .inl (zI g, 5, .inl G0_0)), (h0, .inr (3, [.ref h2, .int f0])), (h2, .inl (zB g, 60, .inl Z1))] H → va_D A [(h1, .inl (zI g, 5, .inl G0_0)), (h0, .inr (3, [.ref h2, .int f0])), (h2, .inl (zB g, 60, .inl Z1))] → va_S A s.heap H locs → ∀ (ls : Array Slot), lv_has ls 8 [(0, .ref h0), (1, .ref h1), (2, .int v2_0), (3, .int v3_0)] → W p l e ({ frames := 2, cells := 0, slots := 0, locals := 45 }) s m args below meth c H locs 0 0 (MQ below (va_Qi (fun (r : Int32) (u : (Nat → Int32)) => (r.toInt = zLaw Z1 f0.toInt) ∧ zTold Z1 f0.toInt u) (zPost g (fun u : (Nat → Int32) => [(h0, .inr (3, [.ref h2, .int f0])), (h1, .inl (zI g, 5, .inl u)), (h2, .inl (zB g, 60, .inl Z1))]) A) A) args s 0 0 A) (F0 m 13 ls []) := by
    intro n1
    induction n1 with
    | zero => intro v2_0 v3_0 G0_0 hG0_0 n1_0 n1_1 n1_2 n1_3 n1_4 hm1; exfalso; omega
    | succ n1 ih1 =>
      intro v2_0 v3_0 G0_0 hG0_0 n1_0 n1_1 n1_2 n1_3 n1_4 hm1 H locs hP hD hS ls hl
      refine lv_aload_n hx hb dX3_readLaw_13 rfl (lv_at hl 0 rfl) ?_
      refine lv_iload_n hx hb dX3_readLaw_14 rfl (lv_at hl 3 rfl) ?_
      refine z_calli (wr := [(h1, .inl (zI g, 5, .inl G0_0))]) hP hD hS hA [1, 2] [0] (by decide) rfl rfl (by decide) (va_runV (As := [.int v3_0]) (rest := []) ⟨hx, hb, hml, hown, hts⟩ (gX3_ruleAt l g h0 h2 H.size v3_0 f0 Z1 (by constructor <;> omega)) ⟨callB_of 1 hts (zGood m_o_yX3_ruleAt) rfl rfl rfl (hts _ m_z_RX3) (hts _ m_m_RX3_35) ⟨by decide +kernel, by decide +kernel, by decide +kernel⟩ ⟨Nat.le_of_ble_eq_true rfl, Nat.le_of_ble_eq_true rfl⟩, hts _ m_i_yX3_ruleAt, hts _ m_e_yX3_ruleAt⟩ (zPreV hK hN hZ hP hD hS hA [1, 2] (by decide) rfl rfl 3 1 rfl rfl) rfl rfl hl.1 rfl (lv_room (Nat.le_of_ble_eq_true rfl)) dX3_readLaw_15 ⟨Nat.le_of_ble_eq_true rfl, Nat.le_of_ble_eq_true rfl⟩) (fun r u H locs hw hP hD hS => ?_)
      obtain ⟨y5, rfl⟩ : ∃ z, z = r := ⟨_, rfl⟩
      obtain ⟨q6_0, q6_1, q6_2⟩ := hw
      have q6_0 : (0 ≤ v3_0.toInt → y5.toInt = zr Z1 f0.toInt v3_0.toInt) := q6_0
      have q6_1 : -1 ≤ y5.toInt := q6_1
      have q6_2 : y5.toInt ≤ 4 := q6_2
      have hP : va_P g.1 vwCl [(h1, .inl (zI g, 5, .inl G0_0)), (h0, .inr (3, [.ref h2, .int f0])), (h2, .inl (zB g, 60, .inl Z1))] H := hP
      have hD : va_D A [(h1, .inl (zI g, 5, .inl G0_0)), (h0, .inr (3, [.ref h2, .int f0])), (h2, .inl (zB g, 60, .inl Z1))] := hD
      refine lv_istore (lv' := [(4, .int y5), (0, .ref h0), (1, .ref h1), (2, .int v2_0), (3, .int v3_0)]) hx hb dX3_readLaw_18 hl (by decide) rfl (fun ls hl => ?_)
      refine lv_iload hx hb dX3_readLaw_20 (lv_at hl 0 rfl) ?_
      refine lv_if_lt (tgt := 39) hx hb dX3_readLaw_22 (by decide) (fun c_1 => ?_) (fun c_1 => ?_)
      · have i_1 : y5.toInt < 0 := z_lt (rfl) (rfl) c_1
        have hzr : y5.toInt = zr Z1 f0.toInt v3_0.toInt := by omega
        have c1 : (zr Z1 f0.toInt v3_0.toInt < 0 ∨ 0 ≤ (G0_0 (zr Z1 f0.toInt v3_0.toInt).toNat).toInt) := Or.inl (by omega)
        have hzb := zRL_bad1 hG0_0 c1
        have hI7 : zTold Z1 f0.toInt G0_0 := zTold_neg (by omega)
        refine lv_bipush (v := (-20)) hx hb dX3_readLaw_39 (by decide) ?_
        refine lv_iload_n hx hb dX3_readLaw_41 rfl (lv_at hl 4 rfl) ?_
        refine lv_isub hx hb dX3_readLaw_42 ?_
        refine lv_topi (fun y8 ey8 => ?_)
        have qy8_0 : y8.toInt = (-20) - v3_0.toInt := zi_sub ey8 (rfl) (rfl) (by omega) (by omega)
        have hP9 := hP.sub (ws' := [(h0, .inr (3, [.ref h2, .int f0])), (h1, .inl (zI g, 5, .inl G0_0)), (h2, .inl (zB g, 60, .inl Z1))]) [1, 0, 2] rfl
        have hD9 := hD.sub (ws' := [(h0, .inr (3, [.ref h2, .int f0])), (h1, .inl (zI g, 5, .inl G0_0)), (h2, .inl (zB g, 60, .inl Z1))]) [1, 0, 2] (by decide) rfl
        exact W.iret (v := y8) hx hb hr (fun t ht hW => ⟨⟨y8, G0_0, rfl, ⟨(by first | omega | decide), hI7⟩, by rw [ht]; exact hP9, hD9⟩, hS.F ht⟩) hS.2.2 dX3_readLaw_43
      · have i_1 : 0 ≤ y5.toInt := z_nlt (rfl) (rfl) c_1
        refine lv_iload hx hb dX3_readLaw_25 (lv_at hl 0 rfl) ?_
        refine lv_aload_n hx hb dX3_readLaw_27 rfl (lv_at hl 2 rfl) ?_
        refine va_alen (D := g.1) hx hb hK hP 0 0 rfl rfl (v := 5) rfl dX3_readLaw_28 ?_
        refine lv_icmp_ge (tgt := 39) hx hb dX3_readLaw_29 (by decide) (fun c_2 => absurd (show 5 ≤ y5.toInt from z_le (rfl) (rfl) c_2) (by omega)) (fun c_2 => ?_)
        have i_2 : y5.toInt < 5 := z_nle (rfl) (rfl) c_2
        refine lv_aload_n hx hb dX3_readLaw_32 rfl (lv_at hl 2 rfl) ?_
        refine lv_iload hx hb dX3_readLaw_33 (lv_at hl 0 rfl) ?_
        refine va_iald (D := g.1) hx hb hK hP 0 0 rfl rfl (vp_in_iff.mpr ⟨by omega, by omega⟩) dX3_readLaw_35 ?_
        refine lv_topi (fun y9 ey9 => ?_)
        have qy9_0 : y9.toInt = (G0_0 y5.toNatClampNeg).toInt := congrArg Int32.toInt ey9
        refine lv_if_lt (tgt := 44) hx hb dX3_readLaw_36 (by decide) (fun c_3 => ?_) (fun c_3 => ?_)
        · have i_3 : y9.toInt < 0 := z_lt (rfl) (rfl) c_3
          have hzr : y5.toInt = zr Z1 f0.toInt v3_0.toInt := by omega
          have c1n : ¬ (zr Z1 f0.toInt v3_0.toInt < 0 ∨ 0 ≤ (G0_0 (zr Z1 f0.toInt v3_0.toInt).toNat).toInt) := by rw [← z_tn (i := y5) hzr (by omega)]; omega
          have hpl : v3_0.toInt < f0.toInt := zr_lt (fun q => c1n (Or.inl q))
          have hp59 : v3_0.toInt ≤ 59 := by omega
          have hs := zstep (F := Z1) (len := f0.toInt) (p := v3_0.toInt) hpl
          refine lv_aload_n hx hb dX3_readLaw_44 rfl (lv_at hl 1 rfl) ?_
          refine lv_iload_n hx hb dX3_readLaw_45 rfl (lv_at hl 4 rfl) ?_
          refine lv_iconst (v := 1) hx hb dX3_readLaw_46 (by decide) ?_
          refine lv_iadd hx hb dX3_readLaw_47 ?_
          refine lv_topi (fun y10 ey10 => ?_)
          have qy10_0 : y10.toInt = v3_0.toInt + 1 := zi_add ey10 (rfl) (rfl) (by omega) (by omega)
          refine z_calli (wr := [(h1, .inl (zI g, 5, .inl G0_0))]) hP hD hS hA [1, 2] [0] (by decide) rfl rfl (by decide) (va_runV (As := [.int y10]) (rest := []) ⟨hx, hb, hml, hown, hts⟩ (gX3_behindBlanks l g h0 h2 H.size y10 f0 Z1 (by constructor <;> omega)) ⟨callB_of 1 hts (zGood m_o_yX3_behindBlanks) rfl rfl rfl (hts _ m_z_RX3) (hts _ m_m_RX3_31) ⟨by decide +kernel, by decide +kernel, by decide +kernel⟩ ⟨Nat.le_of_ble_eq_true rfl, Nat.le_of_ble_eq_true rfl⟩, hts _ m_i_yX3_behindBlanks, hts _ m_e_yX3_behindBlanks⟩ (zPreV hK hN hZ hP hD hS hA [1, 2] (by decide) rfl rfl 3 1 rfl rfl) rfl rfl hl.1 rfl (lv_room (Nat.le_of_ble_eq_true rfl)) dX3_readLaw_48 ⟨Nat.le_of_ble_eq_true rfl, Nat.le_of_ble_eq_true rfl⟩) (fun r u H locs hw hP hD hS => ?_)
          obtain ⟨y11, rfl⟩ : ∃ z, z = r := ⟨_, rfl⟩
          have q12_0 := hw
          have q12_0 : (0 ≤ y10.toInt → y11.toInt = zsk Z1 f0.toInt y10.toInt) := q12_0
          have hP : va_P g.1 vwCl [(h1, .inl (zI g, 5, .inl G0_0)), (h0, .inr (3, [.ref h2, .int f0])), (h2, .inl (zB g, 60, .inl Z1))] H := hP
          have hD : va_D A [(h1, .inl (zI g, 5, .inl G0_0)), (h0, .inr (3, [.ref h2, .int f0])), (h2, .inl (zB g, 60, .inl Z1))] := hD
          have hq : y11.toInt = zq Z1 f0.toInt v3_0.toInt := by
            show y11.toInt = zsk Z1 f0.toInt (v3_0.toInt + 1)
            rw [← (by omega : y10.toInt = v3_0.toInt + 1)]
            omega
          have hq0 : 0 ≤ y11.toInt := by omega
          have hq6 : y11.toInt ≤ 60 := by omega
          refine lv_istore (lv' := [(5, .int y11), (4, .int y5), (0, .ref h0), (1, .ref h1), (2, .int v2_0), (3, .int v3_0)]) hx hb dX3_readLaw_51 hl (by decide) rfl (fun ls hl => ?_)
          refine lv_aload_n hx hb dX3_readLaw_53 rfl (lv_at hl 2 rfl) ?_
          refine lv_iload hx hb dX3_readLaw_54 (lv_at hl 0 rfl) ?_
          refine z_calli (wr := [(h1, .inl (zI g, 5, .inl G0_0))]) hP hD hS hA [1, 2] [0] (by decide) rfl rfl (by decide) (va_runV (As := [.int y11]) (rest := []) ⟨hx, hb, hml, hown, hts⟩ (gX3_behindDigits l g h0 h2 H.size y11 f0 Z1 (by constructor <;> omega)) ⟨callB_of 1 hts (zGood m_o_yX3_behindDigits) rfl rfl rfl (hts _ m_z_RX3) (hts _ m_m_RX3_38) ⟨by decide +kernel, by decide +kernel, by decide +kernel⟩ ⟨Nat.le_of_ble_eq_true rfl, Nat.le_of_ble_eq_true rfl⟩, hts _ m_i_yX3_behindDigits, hts _ m_e_yX3_behindDigits⟩ (zPreV hK hN hZ hP hD hS hA [1, 2] (by decide) rfl rfl 3 1 rfl rfl) rfl rfl hl.1 rfl (lv_room (Nat.le_of_ble_eq_true rfl)) dX3_readLaw_56 ⟨Nat.le_of_ble_eq_true rfl, Nat.le_of_ble_eq_true rfl⟩) (fun r u H locs hw hP hD hS => ?_)
          obtain ⟨y13, rfl⟩ : ∃ z, z = r := ⟨_, rfl⟩
          have q14_0 := hw
          have q14_0 : (0 ≤ y11.toInt → y13.toInt = zdg Z1 f0.toInt y11.toInt) := q14_0
          have hP : va_P g.1 vwCl [(h1, .inl (zI g, 5, .inl G0_0)), (h0, .inr (3, [.ref h2, .int f0])), (h2, .inl (zB g, 60, .inl Z1))] H := hP
          have hD : va_D A [(h1, .inl (zI g, 5, .inl G0_0)), (h0, .inr (3, [.ref h2, .int f0])), (h2, .inl (zB g, 60, .inl Z1))] := hD
          have hed : y13.toInt = zdg Z1 f0.toInt y11.toInt := by omega
          have he : y13.toInt = ze Z1 f0.toInt v3_0.toInt := by
            show y13.toInt = zdg Z1 f0.toInt (zq Z1 f0.toInt v3_0.toInt)
            rw [← hq]
            exact hed
          have he0 : y11.toInt ≤ y13.toInt := by omega
          have he6 : y13.toInt ≤ 60 := by omega
          have he1 : 0 ≤ y13.toInt := by omega
          have hdi : zDi Z1 y11.toInt y13.toInt = 1 := by
            rw [hed]
            exact zDi_1
          refine lv_istore (lv' := [(6, .int y13), (5, .int y11), (4, .int y5), (0, .ref h0), (1, .ref h1), (2, .int v2_0), (3, .int v3_0)]) hx hb dX3_readLaw_59 hl (by decide) rfl (fun ls hl => ?_)
          refine lv_aload_n hx hb dX3_readLaw_61 rfl (lv_at hl 3 rfl) ?_
          refine lv_iload hx hb dX3_readLaw_62 (lv_at hl 1 rfl) ?_
          refine lv_iload hx hb dX3_readLaw_64 (lv_at hl 0 rfl) ?_
          refine z_calli (wr := [(h1, .inl (zI g, 5, .inl G0_0))]) hP hD hS hA [1, 2] [0] (by decide) rfl rfl (by decide) (va_runV (As := [.int y11, .int y13]) (rest := []) ⟨hx, hb, hml, hown, hts⟩ (gX3_numberAt l g h0 h2 H.size y11 y13 f0 Z1 (by omega) (by omega) (by omega) (by omega) (by constructor <;> omega)) ⟨callB_of 2 hts (zGood m_o_yX3_numberAt) rfl rfl rfl (hts _ m_z_RX3) (hts _ m_m_RX3_41) ⟨by decide +kernel, by decide +kernel, by decide +kernel⟩ ⟨Nat.le_of_ble_eq_true rfl, Nat.le_of_ble_eq_true rfl⟩, hts _ m_i_yX3_numberAt, hts _ m_e_yX3_numberAt⟩ (zPreV hK hN hZ hP hD hS hA [1, 2] (by decide) rfl rfl 3 1 rfl rfl) rfl rfl hl.1 rfl (lv_room (Nat.le_of_ble_eq_true rfl)) dX3_readLaw_66 ⟨Nat.le_of_ble_eq_true rfl, Nat.le_of_ble_eq_true rfl⟩) (fun r u H locs hw hP hD hS => ?_)
          obtain ⟨y15, rfl⟩ : ∃ z, z = r := ⟨_, rfl⟩
          obtain ⟨q16_0, q16_1, q16_2⟩ := hw
          have q16_0 : y15.toInt = zNu Z1 y13.toInt y11.toInt 0 := q16_0
          have q16_1 : 0 ≤ y15.toInt := q16_1
          have q16_2 : y15.toInt ≤ 1000 := q16_2
          have hP : va_P g.1 vwCl [(h1, .inl (zI g, 5, .inl G0_0)), (h0, .inr (3, [.ref h2, .int f0])), (h2, .inl (zB g, 60, .inl Z1))] H := hP
          have hD : va_D A [(h1, .inl (zI g, 5, .inl G0_0)), (h0, .inr (3, [.ref h2, .int f0])), (h2, .inl (zB g, 60, .inl Z1))] := hD
          have hv : y15.toInt = zv Z1 f0.toInt v3_0.toInt := by
            show y15.toInt = zNu Z1 (ze Z1 f0.toInt v3_0.toInt) (zq Z1 f0.toInt v3_0.toInt) 0
            rw [← he, ← hq]
            omega
          refine lv_istore (lv' := [(7, .int y15), (6, .int y13), (5, .int y11), (4, .int y5), (0, .ref h0), (1, .ref h1), (2, .int v2_0), (3, .int v3_0)]) hx hb dX3_readLaw_69 hl (by decide) rfl (fun ls hl => ?_)
          refine lv_iload hx hb dX3_readLaw_71 (lv_at hl 1 rfl) ?_
          refine lv_iload hx hb dX3_readLaw_73 (lv_at hl 2 rfl) ?_
          refine lv_icmp_eq (tgt := 88) hx hb dX3_readLaw_75 (by decide) (fun c_4 => ?_) (fun c_4 => ?_)
          · have i_4 : y13.toInt = y11.toInt := z_eq (rfl) (rfl) c_4
            have c2 : (ze Z1 f0.toInt v3_0.toInt = zq Z1 f0.toInt v3_0.toInt ∨ ¬ zft (zr Z1 f0.toInt v3_0.toInt) (zv Z1 f0.toInt v3_0.toInt)) := Or.inl (by omega)
            have hzb := zRL_bad2 hG0_0 c1n c2
            have hI17 : zTold Z1 f0.toInt G0_0 := zTold_neg (by omega)
            refine lv_bipush (v := (-20)) hx hb dX3_readLaw_88 (by decide) ?_
            refine lv_iload hx hb dX3_readLaw_90 (lv_at hl 2 rfl) ?_
            refine lv_isub hx hb dX3_readLaw_92 ?_
            refine lv_topi (fun y18 ey18 => ?_)
            have qy18_0 : y18.toInt = (-20) - y11.toInt := zi_sub ey18 (rfl) (rfl) (by omega) (by omega)
            have hP9 := hP.sub (ws' := [(h0, .inr (3, [.ref h2, .int f0])), (h1, .inl (zI g, 5, .inl G0_0)), (h2, .inl (zB g, 60, .inl Z1))]) [1, 0, 2] rfl
            have hD9 := hD.sub (ws' := [(h0, .inr (3, [.ref h2, .int f0])), (h1, .inl (zI g, 5, .inl G0_0)), (h2, .inl (zB g, 60, .inl Z1))]) [1, 0, 2] (by decide) rfl
            exact W.iret (v := y18) hx hb hr (fun t ht hW => ⟨⟨y18, G0_0, rfl, ⟨(by first | omega | decide), hI17⟩, by rw [ht]; exact hP9, hD9⟩, hS.F ht⟩) hS.2.2 dX3_readLaw_93
          · have i_4 : y13.toInt ≠ y11.toInt := z_ne (rfl) (rfl) c_4
            refine lv_iload hx hb dX3_readLaw_78 (lv_at hl 3 rfl) ?_
            refine lv_iload hx hb dX3_readLaw_80 (lv_at hl 0 rfl) ?_
            refine z_calli (wr := [(h1, .inl (zI g, 5, .inl G0_0)), (h0, .inr (3, [.ref h2, .int f0])), (h2, .inl (zB g, 60, .inl Z1))]) hP hD hS hA [] [0, 1, 2] (by decide) rfl rfl (by decide) (va_runSN (As := [.int y5, .int y15]) (rest := []) ⟨hx, hb, hml, hown, hts⟩ (gX4_fitsRule l g  H.size y5 y15) ⟨va_cnB 2 hts (zGood m_o_yX4_fitsRule) rfl rfl rfl (hN.m 9 (q := (RX3, 45, yX4_fitsRule)) rfl) (hts _ m_z_RX4) ⟨by decide +kernel, by decide +kernel, by decide +kernel⟩ ⟨Nat.le_of_ble_eq_true rfl, Nat.le_of_ble_eq_true rfl⟩, hts _ m_s_yX4_fitsRule, trivial⟩ (zPreS hK hN hZ hP hD hS hA [] (by decide) rfl rfl) rfl rfl hl.1 rfl (lv_room (Nat.le_of_ble_eq_true rfl)) dX3_readLaw_82 ⟨Nat.le_of_ble_eq_true rfl, Nat.le_of_ble_eq_true rfl⟩) (fun r u H locs hw hP hD hS => ?_)
            rcases hw with ⟨i_5, i_6, i_7, rfl⟩ | ⟨i_8, rfl⟩
            · skip
              have i_5 : 0 ≤ y5.toInt := i_5
              have i_6 : y5.toInt ≤ 4 := i_6
              have i_7 : zfI y5.toInt y15.toInt = 1 := i_7
              have hP : va_P g.1 vwCl [(h1, .inl (zI g, 5, .inl G0_0)), (h0, .inr (3, [.ref h2, .int f0])), (h2, .inl (zB g, 60, .inl Z1))] H := hP
              have hD : va_D A [(h1, .inl (zI g, 5, .inl G0_0)), (h0, .inr (3, [.ref h2, .int f0])), (h2, .inl (zB g, 60, .inl Z1))] := hD
              refine lv_if_ne (tgt := 94) hx hb dX3_readLaw_85 (by decide) (fun _ => ?_) (fun h => absurd h (by decide +kernel))
              have c2n : ¬ (ze Z1 f0.toInt v3_0.toInt = zq Z1 f0.toInt v3_0.toInt ∨ ¬ zft (zr Z1 f0.toInt v3_0.toInt) (zv Z1 f0.toInt v3_0.toInt)) := fun h => h.elim (fun h => by omega) (fun h => h (zfI_yes (r := y5.toInt) (v := y15.toInt) (by omega) hzr hv))
              refine lv_aload_n hx hb dX3_readLaw_94 rfl (lv_at hl 5 rfl) ?_
              refine lv_iload hx hb dX3_readLaw_95 (lv_at hl 3 rfl) ?_
              refine lv_iload hx hb dX3_readLaw_97 (lv_at hl 0 rfl) ?_
              refine va_iast (D := g.1) hx hb hK hP hD hS 0 0 rfl rfl (vp_in_iff.mpr ⟨by omega, by omega⟩) dX3_readLaw_99 (fun H locs hP hD hS => ?_)
              have hP : va_P g.1 vwCl [(h1, .inl (zI g, 5, .inl (upd G0_0 y5.toNatClampNeg y15))), (h0, .inr (3, [.ref h2, .int f0])), (h2, .inl (zB g, 60, .inl Z1))] H := hP
              have hD : va_D A [(h1, .inl (zI g, 5, .inl (upd G0_0 y5.toNatClampNeg y15))), (h0, .inr (3, [.ref h2, .int f0])), (h2, .inl (zB g, 60, .inl Z1))] := hD
              have hI19 : zRQ Z1 f0.toInt v3_0.toInt v2_0.toInt (upd G0_0 y5.toNatClampNeg y15) := zRL_put (r := y5) (v := y15) hG0_0 c1n c2n hzr hv (by omega)
              obtain ⟨R20, eR20⟩ : ∃ z : Nat → Int32, z = (upd G0_0 y5.toNatClampNeg y15) := ⟨_, rfl⟩
              rw [← eR20] at hP hD hI19
              obtain ⟨y21, ey21⟩ : ∃ z : Int32, z = v2_0 + 1 := ⟨_, rfl⟩
              have qy21 : y21.toInt = v2_0.toInt + 1 := zi_add ey21 (rfl) rfl (by omega) (by omega)
              refine lv_iinc (v := y21) (lv' := [(2, .int y21), (7, .int y15), (6, .int y13), (5, .int y11), (4, .int y5), (0, .ref h0), (1, .ref h1), (3, .int v3_0)]) hx hb dX3_readLaw_100 hl (k := 6) rfl ey21.symm (by decide) rfl (fun ls hl => ?_)
              have hc5 := zCt_le R20
              have hcn := hI19.1
              have hm5 : y21.toInt ≤ 5 := by omega
              refine lv_aload_n hx hb dX3_readLaw_103 rfl (lv_at hl 5 rfl) ?_
              refine lv_iload hx hb dX3_readLaw_104 (lv_at hl 2 rfl) ?_
              refine z_calli (wr := [(h1, .inl (zI g, 5, .inl R20))]) hP hD hS hA [1, 2] [0] (by decide) rfl rfl (by decide) (va_runV (As := [.int y13]) (rest := []) ⟨hx, hb, hml, hown, hts⟩ (gX3_behindBlanks l g h0 h2 H.size y13 f0 Z1 (by constructor <;> omega)) ⟨callB_of 1 hts (zGood m_o_yX3_behindBlanks) rfl rfl rfl (hts _ m_z_RX3) (hts _ m_m_RX3_31) ⟨by decide +kernel, by decide +kernel, by decide +kernel⟩ ⟨Nat.le_of_ble_eq_true rfl, Nat.le_of_ble_eq_true rfl⟩, hts _ m_i_yX3_behindBlanks, hts _ m_e_yX3_behindBlanks⟩ (zPreV hK hN hZ hP hD hS hA [1, 2] (by decide) rfl rfl 3 1 rfl rfl) rfl rfl hl.1 rfl (lv_room (Nat.le_of_ble_eq_true rfl)) dX3_readLaw_106 ⟨Nat.le_of_ble_eq_true rfl, Nat.le_of_ble_eq_true rfl⟩) (fun r u H locs hw hP hD hS => ?_)
              obtain ⟨y22, rfl⟩ : ∃ z, z = r := ⟨_, rfl⟩
              have q23_0 := hw
              have q23_0 : (0 ≤ y13.toInt → y22.toInt = zsk Z1 f0.toInt y13.toInt) := q23_0
              have hP : va_P g.1 vwCl [(h1, .inl (zI g, 5, .inl R20)), (h0, .inr (3, [.ref h2, .int f0])), (h2, .inl (zB g, 60, .inl Z1))] H := hP
              have hD : va_D A [(h1, .inl (zI g, 5, .inl R20)), (h0, .inr (3, [.ref h2, .int f0])), (h2, .inl (zB g, 60, .inl Z1))] := hD
              have hk : y22.toInt = zsk Z1 f0.toInt (ze Z1 f0.toInt v3_0.toInt) := by
                rw [← he]
                omega
              have hk0 : 0 ≤ y22.toInt := by omega
              have hk6 : y22.toInt ≤ 60 := by omega
              refine lv_istore_n (lv' := [(3, .int y22), (2, .int y21), (7, .int y15), (6, .int y13), (5, .int y11), (4, .int y5), (0, .ref h0), (1, .ref h1)]) hx hb dX3_readLaw_109 rfl hl (by decide) rfl (fun ls hl => ?_)
              refine lv_iload_n hx hb dX3_readLaw_110 rfl (lv_at hl 0 rfl) ?_
              refine lv_aload_n hx hb dX3_readLaw_111 rfl (lv_at hl 6 rfl) ?_
              refine va_get (D := g.1) (ci := 3) (v := .int f0) (C := RX3) (T := TX3) (N := 2) hx hb hts zl_X3 hown hK hP 1 rfl rfl 1 (by decide) (hts _ m_f_RX3_15) (fun _ h => h) rfl dX3_readLaw_112 ?_
              refine lv_icmp_ge (tgt := 123) hx hb dX3_readLaw_115 (by decide) (fun c_9 => ?_) (fun c_9 => ?_)
              · have i_9 : f0.toInt ≤ y22.toInt := z_le (rfl) (rfl) c_9
                have hl9 := hI19.2.2 (by omega)
                have hl1 := hl9.1
                have hI24 : zTold Z1 f0.toInt R20 := fun _ => hl9.2
                refine lv_iload_n hx hb dX3_readLaw_123 rfl (lv_at hl 1 rfl) ?_
                have hP9 := hP.sub (ws' := [(h0, .inr (3, [.ref h2, .int f0])), (h1, .inl (zI g, 5, .inl R20)), (h2, .inl (zB g, 60, .inl Z1))]) [1, 0, 2] rfl
                have hD9 := hD.sub (ws' := [(h0, .inr (3, [.ref h2, .int f0])), (h1, .inl (zI g, 5, .inl R20)), (h2, .inl (zB g, 60, .inl Z1))]) [1, 0, 2] (by decide) rfl
                exact W.iret (v := y21) hx hb hr (fun t ht hW => ⟨⟨y21, R20, rfl, ⟨(by first | omega | decide), hI24⟩, by rw [ht]; exact hP9, hD9⟩, hS.F ht⟩) hS.2.2 dX3_readLaw_124
              · have i_9 : y22.toInt < f0.toInt := z_nle (rfl) (rfl) c_9
                have hI25 : zRL Z1 f0.toInt (zsk Z1 f0.toInt (ze Z1 f0.toInt v3_0.toInt)) (v2_0.toInt + 1) R20 := hI19.2.1 (by omega)
                refine lv_iload_n hx hb dX3_readLaw_118 rfl (lv_at hl 1 rfl) ?_
                refine lv_iconst (v := 5) hx hb dX3_readLaw_119 (by decide) ?_
                refine lv_icmp_le (tgt := 13) hx hb dX3_readLaw_120 (by decide) (fun c_10 => ?_) (fun c_10 => absurd (show 5 < y21.toInt from z_nle (rfl) (rfl) c_10) (by omega))
                have i_10 : y21.toInt ≤ 5 := z_le (rfl) (rfl) c_10
                exact ih1 y21 y22 R20 (zRL_eq hI25 (by omega) (by omega)) (by omega) (by omega) (by omega) (by omega) (by omega) (by omega) _ _ hP hD hS ls (lv_sub hl [6, 7, 1, 0] rfl)
            · skip
              have i_8 : zfI y5.toInt y15.toInt = 0 := i_8
              have hP : va_P g.1 vwCl [(h1, .inl (zI g, 5, .inl G0_0)), (h0, .inr (3, [.ref h2, .int f0])), (h2, .inl (zB g, 60, .inl Z1))] H := hP
              have hD : va_D A [(h1, .inl (zI g, 5, .inl G0_0)), (h0, .inr (3, [.ref h2, .int f0])), (h2, .inl (zB g, 60, .inl Z1))] := hD
              refine lv_if_ne (tgt := 94) hx hb dX3_readLaw_85 (by decide) (fun h => absurd h (by decide +kernel)) (fun _ => ?_)
              have c2 : (ze Z1 f0.toInt v3_0.toInt = zq Z1 f0.toInt v3_0.toInt ∨ ¬ zft (zr Z1 f0.toInt v3_0.toInt) (zv Z1 f0.toInt v3_0.toInt)) := Or.inr (zfI_not (r := y5.toInt) (v := y15.toInt) (by omega) (by omega) (by omega) hzr hv)
              have hzb := zRL_bad2 hG0_0 c1n c2
              have hI26 : zTold Z1 f0.toInt G0_0 := zTold_neg (by omega)
              refine lv_bipush (v := (-20)) hx hb dX3_readLaw_88 (by decide) ?_
              refine lv_iload hx hb dX3_readLaw_90 (lv_at hl 2 rfl) ?_
              refine lv_isub hx hb dX3_readLaw_92 ?_
              refine lv_topi (fun y27 ey27 => ?_)
              have qy27_0 : y27.toInt = (-20) - y11.toInt := zi_sub ey27 (rfl) (rfl) (by omega) (by omega)
              have hP9 := hP.sub (ws' := [(h0, .inr (3, [.ref h2, .int f0])), (h1, .inl (zI g, 5, .inl G0_0)), (h2, .inl (zB g, 60, .inl Z1))]) [1, 0, 2] rfl
              have hD9 := hD.sub (ws' := [(h0, .inr (3, [.ref h2, .int f0])), (h1, .inl (zI g, 5, .inl G0_0)), (h2, .inl (zB g, 60, .inl Z1))]) [1, 0, 2] (by decide) rfl
              exact W.iret (v := y27) hx hb hr (fun t ht hW => ⟨⟨y27, G0_0, rfl, ⟨(by first | omega | decide), hI26⟩, by rw [ht]; exact hP9, hD9⟩, hS.F ht⟩) hS.2.2 dX3_readLaw_93
        · have i_3 : 0 ≤ y9.toInt := z_nlt (rfl) (rfl) c_3
          have hzr : y5.toInt = zr Z1 f0.toInt v3_0.toInt := by omega
          have c1 : (zr Z1 f0.toInt v3_0.toInt < 0 ∨ 0 ≤ (G0_0 (zr Z1 f0.toInt v3_0.toInt).toNat).toInt) := Or.inr (by rw [← z_tn (i := y5) hzr (by omega)]; omega)
          have hzb := zRL_bad1 hG0_0 c1
          have hI28 : zTold Z1 f0.toInt G0_0 := zTold_neg (by omega)
          refine lv_bipush (v := (-20)) hx hb dX3_readLaw_39 (by decide) ?_
          refine lv_iload_n hx hb dX3_readLaw_41 rfl (lv_at hl 4 rfl) ?_
          refine lv_isub hx hb dX3_readLaw_42 ?_
          refine lv_topi (fun y29 ey29 => ?_)
          have qy29_0 : y29.toInt = (-20) - v3_0.toInt := zi_sub ey29 (rfl) (rfl) (by omega) (by omega)
          have hP9 := hP.sub (ws' := [(h0, .inr (3, [.ref h2, .int f0])), (h1, .inl (zI g, 5, .inl G0_0)), (h2, .inl (zB g, 60, .inl Z1))]) [1, 0, 2] rfl
          have hD9 := hD.sub (ws' := [(h0, .inr (3, [.ref h2, .int f0])), (h1, .inl (zI g, 5, .inl G0_0)), (h2, .inl (zB g, 60, .inl Z1))]) [1, 0, 2] (by decide) rfl
          exact W.iret (v := y29) hx hb hr (fun t ht hW => ⟨⟨y29, G0_0, rfl, ⟨(by first | omega | decide), hI28⟩, by rw [ht]; exact hP9, hD9⟩, hS.F ht⟩) hS.2.2 dX3_readLaw_43
  have : (0 : Int32).toInt = 0 := rfl
  exact loop13_0 ((6 - 0 : Int).toNat + 1) (0 : Int32) y2 R0 (zRL_eq hI4 (by omega) (by omega)) (by omega) (by omega) (by omega) (by omega) (by omega) (by omega) _ _ hP hD hS ls (lv_sub hl [2, 3, 1, 0] rfl)
set_option maxHeartbeats 8000000 in
set_option maxRecDepth 100000 in
theorem gX4_rules (l : Launch) (g : zG) (h0 h1 h2 h3 h4 h5 h6 h7 h8 h9 h10 h11 h12 h13 h14 h15 h16 h17 h18 h37 : Nat) (sz : Nat) (f0 : Int32) (f1 : Int32) (f2 : Int32) (f3 : Int32) (f4 : Int32) (f10 : Int32) (Z3 : Nat → Int32) (Z5 : Nat → Int32) (Z31 : Nat → Int32) (hf_f2 : 0 ≤ f2.toInt ∧ f2.toInt ≤ 6) (hf_f3 : 0 ≤ f3.toInt ∧ f3.toInt ≤ 5) (hf_f4 : 0 ≤ f4.toInt ∧ f4.toInt ≤ 9999) (hf_f10 : 0 ≤ f10.toInt ∧ f10.toInt ≤ 60) (hF_Z5 : iLaw Z5) : Met l yX4_rules (.code yX4_rules cX4_rules 3 (some .int) :: zBig) ({ frames := 3, cells := 0, slots := 0, locals := 72 }) (va_Pc [.ref h0] (zPre g [(h0, .inr (4, [.ref h1, .ref h2, .int f0, .ref h3, .ref h4, .ref h5, .ref h6, .int f1, .ref h7, .ref h8, .ref h9, .ref h10])), (h1, .inr (0, [.ref h11, .int f2, .ref h12, .int f3, .ref h13, .ref h14, .ref h15, .ref h16, .ref h17, .ref h18, .int f4])), (h4, .inr (3, [.ref h37, .int f10])), (h9, .inl (zI g, 5, .inl Z3)), (h11, .inl (zI g, 5, .inl Z5)), (h37, .inl (zB g, 60, .inl Z31))] sz)) (va_Qi (fun (r : Int32) (u : Int32 × (Nat → Int32) × (Nat → Int32)) => (u.1.toInt = 0 ∧ r.toInt = zLaw Z31 f10.toInt) ∧ (0 ≤ u.1.toInt ∧ u.1.toInt ≤ 60) ∧ zLwP Z31 f10.toInt Z5 u.2.2) (zPost g (fun u : Int32 × (Nat → Int32) × (Nat → Int32) => [(h0, .inr (4, [.ref h1, .ref h2, .int f0, .ref h3, .ref h4, .ref h5, .ref h6, .int f1, .ref h7, .ref h8, .ref h9, .ref h10])), (h1, .inr (0, [.ref h11, .int f2, .ref h12, .int f3, .ref h13, .ref h14, .ref h15, .ref h16, .ref h17, .ref h18, .int f4])), (h4, .inr (3, [.ref h37, .int u.1])), (h9, .inl (zI g, 5, .inl u.2.1)), (h11, .inl (zI g, 5, .inl u.2.2)), (h37, .inl (zB g, 60, .inl Z31))]) (va_A [(h0, .inr (4, [.ref h1, .ref h2, .int f0, .ref h3, .ref h4, .ref h5, .ref h6, .int f1, .ref h7, .ref h8, .ref h9, .ref h10])), (h1, .inr (0, [.ref h11, .int f2, .ref h12, .int f3, .ref h13, .ref h14, .ref h15, .ref h16, .ref h17, .ref h18, .int f4])), (h4, .inr (3, [.ref h37, .int f10])), (h9, .inl (zI g, 5, .inl Z3)), (h11, .inl (zI g, 5, .inl Z5)), (h37, .inl (zB g, 60, .inl Z31))] sz)) (va_A [(h0, .inr (4, [.ref h1, .ref h2, .int f0, .ref h3, .ref h4, .ref h5, .ref h6, .int f1, .ref h7, .ref h8, .ref h9, .ref h10])), (h1, .inr (0, [.ref h11, .int f2, .ref h12, .int f3, .ref h13, .ref h14, .ref h15, .ref h16, .ref h17, .ref h18, .int f4])), (h4, .inr (3, [.ref h37, .int f10])), (h9, .inl (zI g, 5, .inl Z3)), (h11, .inl (zI g, 5, .inl Z5)), (h37, .inl (zB g, 60, .inl Z31))] sz)) 0 0 (va_A [(h0, .inr (4, [.ref h1, .ref h2, .int f0, .ref h3, .ref h4, .ref h5, .ref h6, .int f1, .ref h7, .ref h8, .ref h9, .ref h10])), (h1, .inr (0, [.ref h11, .int f2, .ref h12, .int f3, .ref h13, .ref h14, .ref h15, .ref h16, .ref h17, .ref h18, .int f4])), (h4, .inr (3, [.ref h37, .int f10])), (h9, .inl (zI g, 5, .inl Z3)), (h11, .inl (zI g, 5, .inl Z5)), (h37, .inl (zB g, 60, .inl Z31))] sz) := by
  refine zMetI rfl (Nat.le_of_ble_eq_true rfl) ?_
  intro p e s m args below meth c A ls hx hb hml hr hlocks hin hown hts hK hN hZ hP hD hA hS hAe hl
  have hown : s.vm.findClass RX4 = some m.cls := hown
  have hl : lv_has ls 3 [(0, .ref h0)] := hl
  refine lv_aload_n hx hb dX4_rules_0 rfl (lv_at hl 0 rfl) ?_
  refine va_get (D := g.1) (ci := 4) (v := .ref h4) (C := RX4) (T := TX4) (N := 12) hx hb hts zl_X4 hown hK hP 0 rfl rfl 4 (by decide) (hts _ m_f_RX4_33) (fun _ h => h) rfl dX4_rules_1 ?_
  refine lv_aload_n hx hb dX4_rules_4 rfl (lv_at hl 0 rfl) ?_
  refine va_get (D := g.1) (ci := 4) (v := .ref h9) (C := RX4) (T := TX4) (N := 12) hx hb hts zl_X4 hown hK hP 0 rfl rfl 10 (by decide) (hts _ m_f_RX4_58) (fun _ h => h) rfl dX4_rules_5 ?_
  refine z_calli (wr := [(h0, .inr (4, [.ref h1, .ref h2, .int f0, .ref h3, .ref h4, .ref h5, .ref h6, .int f1, .ref h7, .ref h8, .ref h9, .ref h10])), (h1, .inr (0, [.ref h11, .int f2, .ref h12, .int f3, .ref h13, .ref h14, .ref h15, .ref h16, .ref h17, .ref h18, .int f4])), (h11, .inl (zI g, 5, .inl Z5))]) hP hD hS hA [2, 3, 5] [0, 1, 4] (by decide) rfl rfl (by decide) (va_runVN (As := [.ref h9]) (rest := []) ⟨hx, hb, hml, hown, hts⟩ (gX3_readLaw l g h4 h9 h37 s.heap.size f10 Z3 Z31 (by constructor <;> omega)) ⟨va_cnB 1 hts (zGood m_o_yX3_readLaw) rfl rfl rfl (hN.m 8 (q := (RX4, 103, yX3_readLaw)) rfl) (hts _ m_z_RX3) ⟨by decide +kernel, by decide +kernel, by decide +kernel⟩ ⟨Nat.le_of_ble_eq_true rfl, Nat.le_of_ble_eq_true rfl⟩, hts _ m_i_yX3_readLaw, hts _ m_e_yX3_readLaw⟩ (zPreV hK hN hZ hP hD hS hA [2, 3, 5] (by decide) rfl rfl 3 2 rfl rfl) rfl rfl hl.1 rfl (lv_room (Nat.le_of_ble_eq_true rfl)) dX4_rules_8 ⟨Nat.le_of_ble_eq_true rfl, Nat.le_of_ble_eq_true rfl⟩) (fun r u H locs hw hP hD hS => ?_)
  obtain ⟨R0, rfl⟩ : ∃ z, z = u := ⟨_, rfl⟩
  obtain ⟨hw, hI1⟩ := hw
  obtain ⟨y2, rfl⟩ : ∃ z, z = r := ⟨_, rfl⟩
  have q3_0 := hw
  have q3_0 : y2.toInt = zLaw Z31 f10.toInt := q3_0
  have hP : va_P g.1 vwCl [(h0, .inr (4, [.ref h1, .ref h2, .int f0, .ref h3, .ref h4, .ref h5, .ref h6, .int f1, .ref h7, .ref h8, .ref h9, .ref h10])), (h1, .inr (0, [.ref h11, .int f2, .ref h12, .int f3, .ref h13, .ref h14, .ref h15, .ref h16, .ref h17, .ref h18, .int f4])), (h11, .inl (zI g, 5, .inl Z5)), (h4, .inr (3, [.ref h37, .int f10])), (h9, .inl (zI g, 5, .inl R0)), (h37, .inl (zB g, 60, .inl Z31))] H := hP
  have hD : va_D A [(h0, .inr (4, [.ref h1, .ref h2, .int f0, .ref h3, .ref h4, .ref h5, .ref h6, .int f1, .ref h7, .ref h8, .ref h9, .ref h10])), (h1, .inr (0, [.ref h11, .int f2, .ref h12, .int f3, .ref h13, .ref h14, .ref h15, .ref h16, .ref h17, .ref h18, .int f4])), (h11, .inl (zI g, 5, .inl Z5)), (h4, .inr (3, [.ref h37, .int f10])), (h9, .inl (zI g, 5, .inl R0)), (h37, .inl (zB g, 60, .inl Z31))] := hD
  refine lv_istore_n (lv' := [(1, .int y2), (0, .ref h0)]) hx hb dX4_rules_11 rfl hl (by decide) rfl (fun ls hl => ?_)
  refine lv_aload_n hx hb dX4_rules_12 rfl (lv_at hl 1 rfl) ?_
  refine va_get (D := g.1) (ci := 4) (v := .ref h4) (C := RX4) (T := TX4) (N := 12) hx hb hts zl_X4 hown hK hP 0 rfl rfl 4 (by decide) (hts _ m_f_RX4_33) (fun _ h => h) rfl dX4_rules_13 ?_
  refine lv_iconst (v := 0) hx hb dX4_rules_16 (by decide) ?_
  refine va_putN (D := g.1) (ci := 3) (v := .int 0) (ty := .int) (C := RX3) (T := TX3) (N := 2) hx hb hts zl_X3 tyX3 tyX3_ok nmX3 hown hK hP hD hS 3 rfl rfl 1 (by decide) (hN.f 26 (q := (RX4, 107, "FishSteps$Tape", "length", "I")) rfl) (fun _ h => h) rfl (by decide +kernel) rfl rfl (Nat.le_of_ble_eq_true rfl) dX4_rules_17 (fun H locs hP hD hS => ?_)
  have hP : va_P g.1 vwCl [(h0, .inr (4, [.ref h1, .ref h2, .int f0, .ref h3, .ref h4, .ref h5, .ref h6, .int f1, .ref h7, .ref h8, .ref h9, .ref h10])), (h1, .inr (0, [.ref h11, .int f2, .ref h12, .int f3, .ref h13, .ref h14, .ref h15, .ref h16, .ref h17, .ref h18, .int f4])), (h11, .inl (zI g, 5, .inl Z5)), (h4, .inr (3, [.ref h37, .int 0])), (h9, .inl (zI g, 5, .inl R0)), (h37, .inl (zB g, 60, .inl Z31))] H := hP
  have hD : va_D A [(h0, .inr (4, [.ref h1, .ref h2, .int f0, .ref h3, .ref h4, .ref h5, .ref h6, .int f1, .ref h7, .ref h8, .ref h9, .ref h10])), (h1, .inr (0, [.ref h11, .int f2, .ref h12, .int f3, .ref h13, .ref h14, .ref h15, .ref h16, .ref h17, .ref h18, .int f4])), (h11, .inl (zI g, 5, .inl Z5)), (h4, .inr (3, [.ref h37, .int 0])), (h9, .inl (zI g, 5, .inl R0)), (h37, .inl (zB g, 60, .inl Z31))] := hD
  have hI4 : zNL R0 0 Z5 Z5 := zNL_0
  refine lv_iconst (v := 0) hx hb dX4_rules_20 (by decide) ?_
  refine lv_istore_n (lv' := [(2, .int 0), (1, .int y2), (0, .ref h0)]) hx hb dX4_rules_21 rfl hl (by decide) rfl (fun ls hl => ?_)
  have loop22_0 : ∀ (n1 : Nat) (v2_0 : Int32) (G0_0 : Nat → Int32) (hG0_0 : zNL R0 (v2_0.toInt) Z5 G0_0) (n1_0 : 0 ≤ v2_0.toInt) (n1_1 : v2_0.toInt ≤ 5) (n1_2 : (y2.toInt ≤ 0 → v2_0.toInt = 0)) (hm1 : 5 - v2_0.toInt < (n1 : Int)) (H : Heap) (locs : List Loc), va_P g.1 vwCl [(h0, .inr (4, [.ref h1, .ref h2, .int f0, .ref h3, .ref h4, .ref h5, .ref h6, .int f1, .ref h7, .ref h8, .ref h9, .ref h10])), (h1, .inr (0, [.ref h11, .int f2, .ref h12, .int f3, .ref h13, .ref h14, .ref h15, .ref h16, .ref h17, .ref h18, .int f4])), (h11, .inl (zI g, 5, .inl G0_0)), (h4, .inr (3, [.ref h37, .int 0])), (h9, .inl (zI g, 5, .inl R0)), (h37, .inl (zB g, 60, .inl Z31))] H → va_D A [(h0, .inr (4, [.ref h1, .ref h2, .int f0, .ref h3, .ref h4, .ref h5, .ref h6, .int f1, .ref h7, .ref h8, .ref h9, .ref h10])), (h1, .inr (0, [.ref h11, .int f2, .ref h12, .int f3, .ref h13, .ref h14, .ref h15, .ref h16, .ref h17, .ref h18, .int f4])), (h11, .inl (zI g, 5, .inl G0_0)), (h4, .inr (3, [.ref h37, .int 0])), (h9, .inl (zI g, 5, .inl R0)), (h37, .inl (zB g, 60, .inl Z31))] → va_S A s.heap H locs → ∀ (ls : Array Slot), lv_has ls 3 [(0, .ref h0), (1, .int y2), (2, .int v2_0)] → W p l e ({ frames := 3, cells := 0, slots := 0, locals := 72 }) s m args below meth c H locs 0 0 (MQ below (va_Qi (fun (r : Int32) (u : Int32 × (Nat → Int32) × (Nat → Int32)) => (u.1.toInt = 0 ∧ r.toInt = zLaw Z31 f10.toInt) ∧ (0 ≤ u.1.toInt ∧ u.1.toInt ≤ 60) ∧ zLwP Z31 f10.toInt Z5 u.2.2) (zPost g (fun u : Int32 × (Nat → Int32) × (Nat → Int32) => [(h0, .inr (4, [.ref h1, .ref h2, .int f0, .ref h3, .ref h4, .ref h5, .ref h6, .int f1, .ref h7, .ref h8, .ref h9, .ref h10])), (h1, .inr (0, [.ref h11, .int f2, .ref h12, .int f3, .ref h13, .ref h14, .ref h15, .ref h16, .ref h17, .ref h18, .int f4])), (h4, .inr (3, [.ref h37, .int u.1])), (h9, .inl (zI g, 5, .inl u.2.1)), (h11, .inl (zI g, 5, .inl u.2.2)), (h37, .inl (zB g, 60, .inl Z31))]) A) A) args s 0 0 A) (F0 m 22 ls []) := by
    intro n1
    induction n1 with
    | zero => intro v2_0 G0_0 hG0_0 n1_0 n1_1 n1_2 hm1; exfalso; omega
    | succ n1 ih1 =>
      intro v2_0 G0_0 hG0_0 n1_0 n1_1 n1_2 hm1 H locs hP hD hS ls hl
      refine lv_iload_n hx hb dX4_rules_22 rfl (lv_at hl 1 rfl) ?_
      refine lv_if_le (tgt := 65) hx hb dX4_rules_23 (by decide) (fun c_1 => ?_) (fun c_1 => ?_)
      · have i_1 : y2.toInt ≤ 0 := z_le (rfl) (rfl) c_1
        have hI5 : zLwP Z31 f10.toInt Z5 G0_0 := zLwP_of0 (zNL_eq hG0_0 (show _ = (0 : Int) by omega)) (by omega)
        refine lv_iload_n hx hb dX4_rules_65 rfl (lv_at hl 1 rfl) ?_
        have hP9 := hP.sub (ws' := [(h0, .inr (4, [.ref h1, .ref h2, .int f0, .ref h3, .ref h4, .ref h5, .ref h6, .int f1, .ref h7, .ref h8, .ref h9, .ref h10])), (h1, .inr (0, [.ref h11, .int f2, .ref h12, .int f3, .ref h13, .ref h14, .ref h15, .ref h16, .ref h17, .ref h18, .int f4])), (h4, .inr (3, [.ref h37, .int 0])), (h9, .inl (zI g, 5, .inl R0)), (h11, .inl (zI g, 5, .inl G0_0)), (h37, .inl (zB g, 60, .inl Z31))]) [0, 1, 3, 4, 2, 5] rfl
        have hD9 := hD.sub (ws' := [(h0, .inr (4, [.ref h1, .ref h2, .int f0, .ref h3, .ref h4, .ref h5, .ref h6, .int f1, .ref h7, .ref h8, .ref h9, .ref h10])), (h1, .inr (0, [.ref h11, .int f2, .ref h12, .int f3, .ref h13, .ref h14, .ref h15, .ref h16, .ref h17, .ref h18, .int f4])), (h4, .inr (3, [.ref h37, .int 0])), (h9, .inl (zI g, 5, .inl R0)), (h11, .inl (zI g, 5, .inl G0_0)), (h37, .inl (zB g, 60, .inl Z31))]) [0, 1, 3, 4, 2, 5] (by decide) rfl
        exact W.iret (v := y2) hx hb hr (fun t ht hW => ⟨⟨y2, ⟨0, R0, G0_0⟩, rfl, ⟨⟨(show 0 = 0 from by first | omega | decide), (by first | omega | decide)⟩, ⟨show 0 ≤ (0 : Int32).toInt from by decide, show (0 : Int32).toInt ≤ 60 from by decide⟩, hI5⟩, by rw [ht]; exact hP9, hD9⟩, hS.F ht⟩) hS.2.2 dX4_rules_66
      · have i_1 : 0 < y2.toInt := z_nle (rfl) (rfl) c_1
        refine lv_iload_n hx hb dX4_rules_26 rfl (lv_at hl 2 rfl) ?_
        refine lv_iconst (v := 5) hx hb dX4_rules_27 (by decide) ?_
        refine lv_icmp_ge (tgt := 65) hx hb dX4_rules_28 (by decide) (fun c_2 => ?_) (fun c_2 => ?_)
        · have i_2 : 5 ≤ v2_0.toInt := z_le (rfl) (rfl) c_2
          have hI6 : zLwP Z31 f10.toInt Z5 G0_0 := zLwP_of hG0_0 hI1 (by omega) (by omega)
          refine lv_iload_n hx hb dX4_rules_65 rfl (lv_at hl 1 rfl) ?_
          have hP9 := hP.sub (ws' := [(h0, .inr (4, [.ref h1, .ref h2, .int f0, .ref h3, .ref h4, .ref h5, .ref h6, .int f1, .ref h7, .ref h8, .ref h9, .ref h10])), (h1, .inr (0, [.ref h11, .int f2, .ref h12, .int f3, .ref h13, .ref h14, .ref h15, .ref h16, .ref h17, .ref h18, .int f4])), (h4, .inr (3, [.ref h37, .int 0])), (h9, .inl (zI g, 5, .inl R0)), (h11, .inl (zI g, 5, .inl G0_0)), (h37, .inl (zB g, 60, .inl Z31))]) [0, 1, 3, 4, 2, 5] rfl
          have hD9 := hD.sub (ws' := [(h0, .inr (4, [.ref h1, .ref h2, .int f0, .ref h3, .ref h4, .ref h5, .ref h6, .int f1, .ref h7, .ref h8, .ref h9, .ref h10])), (h1, .inr (0, [.ref h11, .int f2, .ref h12, .int f3, .ref h13, .ref h14, .ref h15, .ref h16, .ref h17, .ref h18, .int f4])), (h4, .inr (3, [.ref h37, .int 0])), (h9, .inl (zI g, 5, .inl R0)), (h11, .inl (zI g, 5, .inl G0_0)), (h37, .inl (zB g, 60, .inl Z31))]) [0, 1, 3, 4, 2, 5] (by decide) rfl
          exact W.iret (v := y2) hx hb hr (fun t ht hW => ⟨⟨y2, ⟨0, R0, G0_0⟩, rfl, ⟨⟨(show 0 = 0 from by first | omega | decide), (by first | omega | decide)⟩, ⟨show 0 ≤ (0 : Int32).toInt from by decide, show (0 : Int32).toInt ≤ 60 from by decide⟩, hI6⟩, by rw [ht]; exact hP9, hD9⟩, hS.F ht⟩) hS.2.2 dX4_rules_66
        · have i_2 : v2_0.toInt < 5 := z_nle (rfl) (rfl) c_2
          refine lv_iload_n hx hb dX4_rules_31 rfl (lv_at hl 2 rfl) ?_
          refine lv_aload_n hx hb dX4_rules_32 rfl (lv_at hl 0 rfl) ?_
          refine va_get (D := g.1) (ci := 4) (v := .ref h9) (C := RX4) (T := TX4) (N := 12) hx hb hts zl_X4 hown hK hP 0 rfl rfl 10 (by decide) (hts _ m_f_RX4_58) (fun _ h => h) rfl dX4_rules_33 ?_
          refine lv_iload_n hx hb dX4_rules_36 rfl (lv_at hl 2 rfl) ?_
          refine va_iald (D := g.1) hx hb hK hP 4 0 rfl rfl (vp_in_iff.mpr ⟨by omega, by omega⟩) dX4_rules_37 ?_
          refine lv_topi (fun y7 ey7 => ?_)
          have qy7_0 : y7.toInt = (R0 v2_0.toNatClampNeg).toInt := congrArg Int32.toInt ey7
          refine z_calli (wr := [(h0, .inr (4, [.ref h1, .ref h2, .int f0, .ref h3, .ref h4, .ref h5, .ref h6, .int f1, .ref h7, .ref h8, .ref h9, .ref h10])), (h1, .inr (0, [.ref h11, .int f2, .ref h12, .int f3, .ref h13, .ref h14, .ref h15, .ref h16, .ref h17, .ref h18, .int f4])), (h11, .inl (zI g, 5, .inl G0_0)), (h4, .inr (3, [.ref h37, .int 0])), (h9, .inl (zI g, 5, .inl R0)), (h37, .inl (zB g, 60, .inl Z31))]) hP hD hS hA [] [0, 1, 2, 3, 4, 5] (by decide) rfl rfl (by decide) (va_runS (As := [.int v2_0, .int y7]) (rest := []) ⟨hx, hb, hml, hown, hts⟩ (gX4_fitsRule l g  H.size v2_0 y7) ⟨callB_of 2 hts (zGood m_o_yX4_fitsRule) rfl rfl rfl (hts _ m_z_RX4) (hts _ m_m_RX4_64) ⟨by decide +kernel, by decide +kernel, by decide +kernel⟩ ⟨Nat.le_of_ble_eq_true rfl, Nat.le_of_ble_eq_true rfl⟩, hts _ m_s_yX4_fitsRule⟩ (zPreS hK hN hZ hP hD hS hA [] (by decide) rfl rfl) rfl rfl hl.1 rfl (lv_room (Nat.le_of_ble_eq_true rfl)) dX4_rules_38 ⟨Nat.le_of_ble_eq_true rfl, Nat.le_of_ble_eq_true rfl⟩) (fun r u H locs hw hP hD hS => ?_)
          rcases hw with ⟨i_3, i_4, i_5, rfl⟩ | ⟨i_6, rfl⟩
          · skip
            have i_3 : 0 ≤ v2_0.toInt := i_3
            have i_4 : v2_0.toInt ≤ 4 := i_4
            have i_5 : zfI v2_0.toInt y7.toInt = 1 := i_5
            have hP : va_P g.1 vwCl [(h0, .inr (4, [.ref h1, .ref h2, .int f0, .ref h3, .ref h4, .ref h5, .ref h6, .int f1, .ref h7, .ref h8, .ref h9, .ref h10])), (h1, .inr (0, [.ref h11, .int f2, .ref h12, .int f3, .ref h13, .ref h14, .ref h15, .ref h16, .ref h17, .ref h18, .int f4])), (h11, .inl (zI g, 5, .inl G0_0)), (h4, .inr (3, [.ref h37, .int 0])), (h9, .inl (zI g, 5, .inl R0)), (h37, .inl (zB g, 60, .inl Z31))] H := hP
            have hD : va_D A [(h0, .inr (4, [.ref h1, .ref h2, .int f0, .ref h3, .ref h4, .ref h5, .ref h6, .int f1, .ref h7, .ref h8, .ref h9, .ref h10])), (h1, .inr (0, [.ref h11, .int f2, .ref h12, .int f3, .ref h13, .ref h14, .ref h15, .ref h16, .ref h17, .ref h18, .int f4])), (h11, .inl (zI g, 5, .inl G0_0)), (h4, .inr (3, [.ref h37, .int 0])), (h9, .inl (zI g, 5, .inl R0)), (h37, .inl (zB g, 60, .inl Z31))] := hD
            refine lv_if_eq (tgt := 59) hx hb dX4_rules_41 (by decide) (fun h => absurd h (by decide +kernel)) (fun _ => ?_)
            refine lv_aload_n hx hb dX4_rules_44 rfl (lv_at hl 0 rfl) ?_
            refine va_get (D := g.1) (ci := 4) (v := .ref h1) (C := RX4) (T := TX4) (N := 12) hx hb hts zl_X4 hown hK hP 0 rfl rfl 0 (by decide) (hts _ m_f_RX4_10) (fun _ h => h) rfl dX4_rules_45 ?_
            refine va_getN (D := g.1) (ci := 0) (v := .ref h11) (C := RX0) (T := TX0) (N := 11) hx hb hts zl_X0 hown hK hP 1 rfl rfl 0 (by decide) (hN.f 1 (q := (RX4, 68, "FishSteps$Books", "law", "[I")) rfl) (fun _ h => h) rfl dX4_rules_48 ?_
            refine lv_iload_n hx hb dX4_rules_51 rfl (lv_at hl 2 rfl) ?_
            refine lv_aload_n hx hb dX4_rules_52 rfl (lv_at hl 0 rfl) ?_
            refine va_get (D := g.1) (ci := 4) (v := .ref h9) (C := RX4) (T := TX4) (N := 12) hx hb hts zl_X4 hown hK hP 0 rfl rfl 10 (by decide) (hts _ m_f_RX4_58) (fun _ h => h) rfl dX4_rules_53 ?_
            refine lv_iload_n hx hb dX4_rules_56 rfl (lv_at hl 2 rfl) ?_
            refine va_iald (D := g.1) hx hb hK hP 4 0 rfl rfl (vp_in_iff.mpr ⟨by omega, by omega⟩) dX4_rules_57 ?_
            refine lv_topi (fun y8 ey8 => ?_)
            have qy8_0 : y8.toInt = (R0 v2_0.toNatClampNeg).toInt := congrArg Int32.toInt ey8
            refine va_iast (D := g.1) hx hb hK hP hD hS 2 0 rfl rfl (vp_in_iff.mpr ⟨by omega, by omega⟩) dX4_rules_58 (fun H locs hP hD hS => ?_)
            have hP : va_P g.1 vwCl [(h0, .inr (4, [.ref h1, .ref h2, .int f0, .ref h3, .ref h4, .ref h5, .ref h6, .int f1, .ref h7, .ref h8, .ref h9, .ref h10])), (h1, .inr (0, [.ref h11, .int f2, .ref h12, .int f3, .ref h13, .ref h14, .ref h15, .ref h16, .ref h17, .ref h18, .int f4])), (h11, .inl (zI g, 5, .inl (upd G0_0 v2_0.toNatClampNeg y8))), (h4, .inr (3, [.ref h37, .int 0])), (h9, .inl (zI g, 5, .inl R0)), (h37, .inl (zB g, 60, .inl Z31))] H := hP
            have hD : va_D A [(h0, .inr (4, [.ref h1, .ref h2, .int f0, .ref h3, .ref h4, .ref h5, .ref h6, .int f1, .ref h7, .ref h8, .ref h9, .ref h10])), (h1, .inr (0, [.ref h11, .int f2, .ref h12, .int f3, .ref h13, .ref h14, .ref h15, .ref h16, .ref h17, .ref h18, .int f4])), (h11, .inl (zI g, 5, .inl (upd G0_0 v2_0.toNatClampNeg y8))), (h4, .inr (3, [.ref h37, .int 0])), (h9, .inl (zI g, 5, .inl R0)), (h37, .inl (zB g, 60, .inl Z31))] := hD
            have hI9 : zNL R0 (v2_0.toInt + 1) Z5 (upd G0_0 v2_0.toNatClampNeg y8) := zNL_put (i := v2_0) hG0_0 (rfl) (by omega) ey8 (by have := zfI_yes4 (r := v2_0.toInt) (v := y7.toInt) (by omega); omega)
            obtain ⟨R10, eR10⟩ : ∃ z : Nat → Int32, z = (upd G0_0 v2_0.toNatClampNeg y8) := ⟨_, rfl⟩
            rw [← eR10] at hP hD hI9
            obtain ⟨y11, ey11⟩ : ∃ z : Int32, z = v2_0 + 1 := ⟨_, rfl⟩
            have qy11 : y11.toInt = v2_0.toInt + 1 := zi_add ey11 (rfl) rfl (by omega) (by omega)
            refine lv_iinc (v := y11) (lv' := [(2, .int y11), (0, .ref h0), (1, .int y2)]) hx hb dX4_rules_59 hl (k := 2) rfl ey11.symm (by decide) rfl (fun ls hl => ?_)
            refine lv_goto (tgt := 22) hx hb dX4_rules_62 (by decide) ?_
            exact ih1 y11 R10 (zNL_eq hI9 (by omega)) (by omega) (by omega) (by omega) (by omega) _ _ hP hD hS ls (lv_sub hl [1, 2, 0] rfl)
          · skip
            have i_6 : zfI v2_0.toInt y7.toInt = 0 := i_6
            have hP : va_P g.1 vwCl [(h0, .inr (4, [.ref h1, .ref h2, .int f0, .ref h3, .ref h4, .ref h5, .ref h6, .int f1, .ref h7, .ref h8, .ref h9, .ref h10])), (h1, .inr (0, [.ref h11, .int f2, .ref h12, .int f3, .ref h13, .ref h14, .ref h15, .ref h16, .ref h17, .ref h18, .int f4])), (h11, .inl (zI g, 5, .inl G0_0)), (h4, .inr (3, [.ref h37, .int 0])), (h9, .inl (zI g, 5, .inl R0)), (h37, .inl (zB g, 60, .inl Z31))] H := hP
            have hD : va_D A [(h0, .inr (4, [.ref h1, .ref h2, .int f0, .ref h3, .ref h4, .ref h5, .ref h6, .int f1, .ref h7, .ref h8, .ref h9, .ref h10])), (h1, .inr (0, [.ref h11, .int f2, .ref h12, .int f3, .ref h13, .ref h14, .ref h15, .ref h16, .ref h17, .ref h18, .int f4])), (h11, .inl (zI g, 5, .inl G0_0)), (h4, .inr (3, [.ref h37, .int 0])), (h9, .inl (zI g, 5, .inl R0)), (h37, .inl (zB g, 60, .inl Z31))] := hD
            refine lv_if_eq (tgt := 59) hx hb dX4_rules_41 (by decide) (fun _ => ?_) (fun h => absurd h (by decide +kernel))
            have ht := zTold_rng (i := v2_0) (a := v2_0.toInt) hI1 (by omega) rfl (by omega) (by omega) ey7
            have hneg : (R0 v2_0.toNatClampNeg).toInt < 0 := by
              rw [← ey7]
              rcases ht with h | h
              · omega
              · exact absurd h.2 (zfI_not (r := v2_0.toInt) (v := y7.toInt) (by omega) (by omega) (by omega) rfl rfl)
            have hI12 : zNL R0 (v2_0.toInt + 1) Z5 G0_0 := zNL_not (i := v2_0) hG0_0 rfl (by omega) hneg
            obtain ⟨y13, ey13⟩ : ∃ z : Int32, z = v2_0 + 1 := ⟨_, rfl⟩
            have qy13 : y13.toInt = v2_0.toInt + 1 := zi_add ey13 (rfl) rfl (by omega) (by omega)
            refine lv_iinc (v := y13) (lv' := [(2, .int y13), (0, .ref h0), (1, .int y2)]) hx hb dX4_rules_59 hl (k := 2) rfl ey13.symm (by decide) rfl (fun ls hl => ?_)
            refine lv_goto (tgt := 22) hx hb dX4_rules_62 (by decide) ?_
            exact ih1 y13 G0_0 (zNL_eq hI12 (by omega)) (by omega) (by omega) (by omega) (by omega) _ _ hP hD hS ls (lv_sub hl [1, 2, 0] rfl)
  have : (0 : Int32).toInt = 0 := rfl
  exact loop22_0 ((5 - 0 : Int).toNat + 1) (0 : Int32) Z5 (zNL_eq hI4 (by omega)) (by omega) (by omega) (by omega) (by omega) _ _ hP hD hS ls (lv_sub hl [2, 1, 0] rfl)

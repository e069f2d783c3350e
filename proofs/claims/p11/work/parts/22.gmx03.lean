set_option maxHeartbeats 8000000 in
set_option maxRecDepth 100000 in
theorem gX5_rules (l : Launch) (g : zG) (K : Prop) (B C : zBk) (hB : bOk B) (h0 h1 h2 h3 h4 h5 h6 h7 h8 h9 h10 h11 h12 h13 h14 h15 h16 h17 h18 h19 h20 h21 h22 : Nat) (sz : Nat) (f0 : Int32) (f1 : Int32) (f2 : Int32) (f3 : Int32) (f4 : Int32) (Z0 : Nat → Int32) (Z1 : Nat → Int32) (Z2 : Nat → Int32) (hp0 : zPos Z1 f1.toInt = 1) (hf_f1 : 0 ≤ f1.toInt ∧ f1.toInt ≤ 60) (hf_f2 : 0 ≤ f2.toInt ∧ f2.toInt ≤ 60) (hf_f3 : 0 ≤ f3.toInt ∧ f3.toInt ≤ 31) (hf_f4 : 0 ≤ f4.toInt ∧ f4.toInt ≤ 1000) (hF_Z0 : iW K B C Z0) : Met l yX5_rules (.code yX5_rules cX5_rules 4 (some .int) :: zBig) ({ frames := 2, cells := 0, slots := 0, locals := 49 }) (va_Pc [.ref h0] (zPre g [(h0, .inr (5, [.ref h1, .int f0, .ref h2, .int f1, .int f2, .ref h3, .ref h4, .ref h5, .ref h6, .int f3, .ref h7, .ref h8, .ref h9, .int f4, .ref h10, .ref h11, .ref h12, .ref h13, .ref h14, .ref h15, .ref h16, .ref h17, .ref h18, .ref h19, .ref h20, .ref h21, .ref h22])), (h1, .inl (zI g, 180, .inl Z0)), (h2, .inl (zI g, 60, .inl Z1)), (h3, .inl (zI g, 5, .inl Z2))] sz)) (va_Qi (fun (r : Int32) (u : Int32 × Int32 × (Nat → Int32) × (Nat → Int32)) => (u.1.toInt = 0 ∧ r.toInt = zLaw Z1 f1.toInt) ∧ (0 ≤ u.1.toInt ∧ u.1.toInt ≤ 60) ∧ (0 ≤ u.2.1.toInt ∧ u.2.1.toInt ≤ 60) ∧ iW K (zBk.setL B (zLwF Z1 f1.toInt B.L)) C u.2.2.1) (zPost g (fun u : Int32 × Int32 × (Nat → Int32) × (Nat → Int32) => [(h0, .inr (5, [.ref h1, .int f0, .ref h2, .int u.1, .int u.2.1, .ref h3, .ref h4, .ref h5, .ref h6, .int f3, .ref h7, .ref h8, .ref h9, .int f4, .ref h10, .ref h11, .ref h12, .ref h13, .ref h14, .ref h15, .ref h16, .ref h17, .ref h18, .ref h19, .ref h20, .ref h21, .ref h22])), (h1, .inl (zI g, 180, .inl u.2.2.1)), (h2, .inl (zI g, 60, .inl Z1)), (h3, .inl (zI g, 5, .inl u.2.2.2))]) (va_A [(h0, .inr (5, [.ref h1, .int f0, .ref h2, .int f1, .int f2, .ref h3, .ref h4, .ref h5, .ref h6, .int f3, .ref h7, .ref h8, .ref h9, .int f4, .ref h10, .ref h11, .ref h12, .ref h13, .ref h14, .ref h15, .ref h16, .ref h17, .ref h18, .ref h19, .ref h20, .ref h21, .ref h22])), (h1, .inl (zI g, 180, .inl Z0)), (h2, .inl (zI g, 60, .inl Z1)), (h3, .inl (zI g, 5, .inl Z2))] sz)) (va_A [(h0, .inr (5, [.ref h1, .int f0, .ref h2, .int f1, .int f2, .ref h3, .ref h4, .ref h5, .ref h6, .int f3, .ref h7, .ref h8, .ref h9, .int f4, .ref h10, .ref h11, .ref h12, .ref h13, .ref h14, .ref h15, .ref h16, .ref h17, .ref h18, .ref h19, .ref h20, .ref h21, .ref h22])), (h1, .inl (zI g, 180, .inl Z0)), (h2, .inl (zI g, 60, .inl Z1)), (h3, .inl (zI g, 5, .inl Z2))] sz)) 0 0 (va_A [(h0, .inr (5, [.ref h1, .int f0, .ref h2, .int f1, .int f2, .ref h3, .ref h4, .ref h5, .ref h6, .int f3, .ref h7, .ref h8, .ref h9, .int f4, .ref h10, .ref h11, .ref h12, .ref h13, .ref h14, .ref h15, .ref h16, .ref h17, .ref h18, .ref h19, .ref h20, .ref h21, .ref h22])), (h1, .inl (zI g, 180, .inl Z0)), (h2, .inl (zI g, 60, .inl Z1)), (h3, .inl (zI g, 5, .inl Z2))] sz) := by
  refine zMetI rfl (Nat.le_of_ble_eq_true rfl) ?_
  intro p e s m args below meth c A ls hx hb hml hr hlocks hin hown hts hK hN hZ hP hD hA hS hAe hl
  have hown : s.vm.findClass RX5 = some m.cls := hown
  have hl : lv_has ls 4 [(0, .ref h0)] := hl
  refine lv_aload_n hx hb dX5_rules_0 rfl (lv_at hl 0 rfl) ?_
  refine z_calli (wr := [(h1, .inl (zI g, 180, .inl Z0))]) hP hD hS hA [0, 2, 3] [1] (by decide) rfl rfl (by decide) (va_runV (As := []) (rest := []) ⟨hx, hb, hml, hown, hts⟩ (gX5_lawFault l g h0 h1 h2 h3 h4 h5 h6 h7 h8 h9 h10 h11 h12 h13 h14 h15 h16 h17 h18 h19 h20 h21 h22 s.heap.size f0 f1 f2 f3 f4 Z1 Z2 (by omega) (by constructor <;> omega) (by constructor <;> omega) (by constructor <;> omega) (by constructor <;> omega)) ⟨callB_of 0 hts (zGood m_o_yX5_lawFault) rfl rfl rfl (hts _ m_z_RX5) (hts _ m_m_RX5_136) ⟨by decide +kernel, by decide +kernel, by decide +kernel⟩ ⟨Nat.le_of_ble_eq_true rfl, Nat.le_of_ble_eq_true rfl⟩, hts _ m_i_yX5_lawFault, hts _ m_e_yX5_lawFault⟩ (zPreV hK hN hZ hP hD hS hA [0, 2, 3] (by decide) rfl rfl 5 0 rfl rfl) rfl rfl hl.1 rfl (lv_room (Nat.le_of_ble_eq_true rfl)) dX5_rules_1 ⟨Nat.le_of_ble_eq_true rfl, Nat.le_of_ble_eq_true rfl⟩) (fun r u H locs hw hP hD hS => ?_)
  obtain ⟨w0, R1⟩ := u
  obtain ⟨hw, hI2, hI3⟩ := hw
  obtain ⟨hI2a, hI2b⟩ := hI2
  obtain ⟨y4, rfl⟩ : ∃ z, z = r := ⟨_, rfl⟩
  obtain ⟨q5_0, q5_1, q5_2, q5_3⟩ := hw
  have q5_0 : -1 ≤ y4.toInt := q5_0
  have q5_1 : y4.toInt ≤ 60 := q5_1
  have q5_2 : (y4.toInt = -1 → 0 < zLaw Z1 f1.toInt) := q5_2
  have q5_3 : (0 ≤ y4.toInt → zLaw Z1 f1.toInt = -20 - y4.toInt) := q5_3
  have hP : va_P g.1 vwCl [(h1, .inl (zI g, 180, .inl Z0)), (h0, .inr (5, [.ref h1, .int f0, .ref h2, .int f1, .int w0, .ref h3, .ref h4, .ref h5, .ref h6, .int f3, .ref h7, .ref h8, .ref h9, .int f4, .ref h10, .ref h11, .ref h12, .ref h13, .ref h14, .ref h15, .ref h16, .ref h17, .ref h18, .ref h19, .ref h20, .ref h21, .ref h22])), (h2, .inl (zI g, 60, .inl Z1)), (h3, .inl (zI g, 5, .inl R1))] H := hP
  have hD : va_D A [(h1, .inl (zI g, 180, .inl Z0)), (h0, .inr (5, [.ref h1, .int f0, .ref h2, .int f1, .int w0, .ref h3, .ref h4, .ref h5, .ref h6, .int f3, .ref h7, .ref h8, .ref h9, .int f4, .ref h10, .ref h11, .ref h12, .ref h13, .ref h14, .ref h15, .ref h16, .ref h17, .ref h18, .ref h19, .ref h20, .ref h21, .ref h22])), (h2, .inl (zI g, 60, .inl Z1)), (h3, .inl (zI g, 5, .inl R1))] := hD
  refine lv_istore_n (lv' := [(1, .int y4), (0, .ref h0)]) hx hb dX5_rules_4 rfl hl (by decide) rfl (fun ls hl => ?_)
  refine lv_aload_n hx hb dX5_rules_5 rfl (lv_at hl 1 rfl) ?_
  refine lv_iconst (v := 0) hx hb dX5_rules_6 (by decide) ?_
  refine va_put (D := g.1) (ci := 5) (v := .int 0) (ty := .int) (C := RX5) (T := TX5) (N := 27) hx hb hts zl_X5 tyX5 tyX5_ok nmX5 hown hK hP hD hS 1 rfl rfl 3 (by decide) (hts _ m_f_RX5_114) (fun _ h => h) rfl (by decide +kernel) rfl rfl (Nat.le_of_ble_eq_true rfl) dX5_rules_7 (fun H locs hP hD hS => ?_)
  have hP : va_P g.1 vwCl [(h1, .inl (zI g, 180, .inl Z0)), (h0, .inr (5, [.ref h1, .int f0, .ref h2, .int 0, .int w0, .ref h3, .ref h4, .ref h5, .ref h6, .int f3, .ref h7, .ref h8, .ref h9, .int f4, .ref h10, .ref h11, .ref h12, .ref h13, .ref h14, .ref h15, .ref h16, .ref h17, .ref h18, .ref h19, .ref h20, .ref h21, .ref h22])), (h2, .inl (zI g, 60, .inl Z1)), (h3, .inl (zI g, 5, .inl R1))] H := hP
  have hD : va_D A [(h1, .inl (zI g, 180, .inl Z0)), (h0, .inr (5, [.ref h1, .int f0, .ref h2, .int 0, .int w0, .ref h3, .ref h4, .ref h5, .ref h6, .int f3, .ref h7, .ref h8, .ref h9, .int f4, .ref h10, .ref h11, .ref h12, .ref h13, .ref h14, .ref h15, .ref h16, .ref h17, .ref h18, .ref h19, .ref h20, .ref h21, .ref h22])), (h2, .inl (zI g, 60, .inl Z1)), (h3, .inl (zI g, 5, .inl R1))] := hD
  refine lv_iload_n hx hb dX5_rules_10 rfl (lv_at hl 0 rfl) ?_
  refine lv_if_lt (tgt := 19) hx hb dX5_rules_11 (by decide) (fun c_0 => ?_) (fun c_0 => ?_)
  · have i_0 : y4.toInt < 0 := z_lt (rfl) (rfl) c_0
    have hI6 : zNW K B C R1 0 Z0 := zNW_0 hF_Z0
    have hck0 : zCk R1 (0 : Int32).toInt = 0 := zCk_0
    refine lv_iconst (v := 0) hx hb dX5_rules_19 (by decide) ?_
    refine lv_istore_n (lv' := [(2, .int 0), (1, .int y4), (0, .ref h0)]) hx hb dX5_rules_20 rfl hl (by decide) rfl (fun ls hl => ?_)
    refine lv_iconst (v := 0) hx hb dX5_rules_21 (by decide) ?_
    refine lv_istore_n (lv' := [(3, .int 0), (2, .int 0), (1, .int y4), (0, .ref h0)]) hx hb dX5_rules_22 rfl hl (by decide) rfl (fun ls hl => ?_)
    have loop23_1 : ∀ (n2 : Nat) (v2_1 : Int32) (v3_1 : Int32) (G0_1 : Nat → Int32) (hG0_1 : zNW K B C R1 (v3_1.toInt) G0_1) (n2_0 : 0 ≤ v3_1.toInt) (n2_1 : v3_1.toInt ≤ 5) (n2_2 : 0 ≤ v2_1.toInt) (n2_3 : v2_1.toInt ≤ v3_1.toInt) (n2_4 : v2_1.toInt = zCk R1 v3_1.toInt) (hm2 : 5 - v3_1.toInt < (n2 : Int)) (H : Heap) (locs : List Loc), va_P g.1 vwCl [(h1, .inl (zI g, 180, .inl G0_1)), (h0, .inr (5, [.ref h1, .int f0, .ref h2, .int 0, .int w0, .ref h3, .ref h4, .ref h5, .ref h6, .int f3, .ref h7, .ref h8, .ref h9, .int f4, .ref h10, .ref h11, .ref h12, .ref h13, .ref h14, .ref h15, .ref h16, .ref h17, .ref h18, .ref h19, .ref h20, .ref h21, .ref h22])), (h2, .inl (zI g, 60, .inl Z1)), (h3, .inl (zI g, 5, .inl R1))] H → va_D A [(h1, .inl (zI g, 180, .inl G0_1)), (h0, .inr (5, [.ref h1, .int f0, .ref h2, .int 0, .int w0, .ref h3, .ref h4, .ref h5, .ref h6, .int f3, .ref h7, .ref h8, .ref h9, .int f4, .ref h10, .ref h11, .ref h12, .ref h13, .ref h14, .ref h15, .ref h16, .ref h17, .ref h18, .ref h19, .ref h20, .ref h21, .ref h22])), (h2, .inl (zI g, 60, .inl Z1)), (h3, .inl (zI g, 5, .inl R1))] → va_S A s.heap H locs → ∀ (ls : Array Slot), lv_has ls 4 [(0, .ref h0), (1, .int y4), (2, .int v2_1), (3, .int v3_1)] → W p l e ({ frames := 2, cells := 0, slots := 0, locals := 49 }) s m args below meth c H locs 0 0 (MQ below (va_Qi (fun (r : Int32) (u : Int32 × Int32 × (Nat → Int32) × (Nat → Int32)) => (u.1.toInt = 0 ∧ r.toInt = zLaw Z1 f1.toInt) ∧ (0 ≤ u.1.toInt ∧ u.1.toInt ≤ 60) ∧ (0 ≤ u.2.1.toInt ∧ u.2.1.toInt ≤ 60) ∧ iW K (zBk.setL B (zLwF Z1 f1.toInt B.L)) C u.2.2.1) (zPost g (fun u : Int32 × Int32 × (Nat → Int32) × (Nat → Int32) => [(h0, .inr (5, [.ref h1, .int f0, .ref h2, .int u.1, .int u.2.1, .ref h3, .ref h4, .ref h5, .ref h6, .int f3, .ref h7, .ref h8, .ref h9, .int f4, .ref h10, .ref h11, .ref h12, .ref h13, .ref h14, .ref h15, .ref h16, .ref h17, .ref h18, .ref h19, .ref h20, .ref h21, .ref h22])), (h1, .inl (zI g, 180, .inl u.2.2.1)), (h2, .inl (zI g, 60, .inl Z1)), (h3, .inl (zI g, 5, .inl u.2.2.2))]) A) A) args s 0 0 A) (F0 m 23 ls []) := by
      intro n2
      induction n2 with
      | zero => intro v2_1 v3_1 G0_1 hG0_1 n2_0 n2_1 n2_2 n2_3 n2_4 hm2; exfalso; omega
      | succ n2 ih2 =>
        intro v2_1 v3_1 G0_1 hG0_1 n2_0 n2_1 n2_2 n2_3 n2_4 hm2 H locs hP hD hS ls hl
        refine lv_iload_n hx hb dX5_rules_23 rfl (lv_at hl 3 rfl) ?_
        refine lv_iconst (v := 5) hx hb dX5_rules_24 (by decide) ?_
        refine lv_icmp_ge (tgt := 81) hx hb dX5_rules_25 (by decide) (fun c_2 => ?_) (fun c_2 => ?_)
        · have i_2 : 5 ≤ v3_1.toInt := z_le (rfl) (rfl) c_2
          have hc5 : zCk R1 v3_1.toInt = zCt R1 := zCk_5 (by omega)
          have hzl : zLaw Z1 f1.toInt = zCt R1 := (zLaw_ct (by omega) (by omega)).trans (zCt_congr fun j hj => (hI3 (by omega) j hj).symm)
          have hI7 : iW K (zBk.setL B (zLwF Z1 f1.toInt B.L)) C G0_1 := zNW_end hG0_1 (by omega) hI3 (by omega)
          refine lv_iload_n hx hb dX5_rules_81 rfl (lv_at hl 2 rfl) ?_
          have hP9 := hP.sub (ws' := [(h0, .inr (5, [.ref h1, .int f0, .ref h2, .int 0, .int w0, .ref h3, .ref h4, .ref h5, .ref h6, .int f3, .ref h7, .ref h8, .ref h9, .int f4, .ref h10, .ref h11, .ref h12, .ref h13, .ref h14, .ref h15, .ref h16, .ref h17, .ref h18, .ref h19, .ref h20, .ref h21, .ref h22])), (h1, .inl (zI g, 180, .inl G0_1)), (h2, .inl (zI g, 60, .inl Z1)), (h3, .inl (zI g, 5, .inl R1))]) [1, 0, 2, 3] rfl
          have hD9 := hD.sub (ws' := [(h0, .inr (5, [.ref h1, .int f0, .ref h2, .int 0, .int w0, .ref h3, .ref h4, .ref h5, .ref h6, .int f3, .ref h7, .ref h8, .ref h9, .int f4, .ref h10, .ref h11, .ref h12, .ref h13, .ref h14, .ref h15, .ref h16, .ref h17, .ref h18, .ref h19, .ref h20, .ref h21, .ref h22])), (h1, .inl (zI g, 180, .inl G0_1)), (h2, .inl (zI g, 60, .inl Z1)), (h3, .inl (zI g, 5, .inl R1))]) [1, 0, 2, 3] (by decide) rfl
          exact W.iret (v := v2_1) hx hb hr (fun t ht hW => ⟨⟨v2_1, ⟨0, w0, G0_1, R1⟩, rfl, ⟨⟨(show 0 = 0 from by first | omega | decide), (by first | omega | decide)⟩, ⟨show 0 ≤ (0 : Int32).toInt from by decide, show (0 : Int32).toInt ≤ 60 from by decide⟩, ⟨show 0 ≤ w0.toInt from by omega, show w0.toInt ≤ 60 from by omega⟩, hI7⟩, by rw [ht]; exact hP9, hD9⟩, hS.F ht⟩) hS.2.2 dX5_rules_82
        · have i_2 : v3_1.toInt < 5 := z_nle (rfl) (rfl) c_2
          refine lv_aload_n hx hb dX5_rules_28 rfl (lv_at hl 0 rfl) ?_
          refine va_get (D := g.1) (ci := 5) (v := .ref h1) (C := RX5) (T := TX5) (N := 27) hx hb hts zl_X5 hown hK hP 1 rfl rfl 0 (by decide) (hts _ m_f_RX5_7) (fun _ h => h) rfl dX5_rules_29 ?_
          refine lv_iload_n hx hb dX5_rules_32 rfl (lv_at hl 3 rfl) ?_
          refine lv_aload_n hx hb dX5_rules_33 rfl (lv_at hl 0 rfl) ?_
          refine va_get (D := g.1) (ci := 5) (v := .ref h3) (C := RX5) (T := TX5) (N := 27) hx hb hts zl_X5 hown hK hP 1 rfl rfl 5 (by decide) (hts _ m_f_RX5_16) (fun _ h => h) rfl dX5_rules_34 ?_
          refine lv_iload_n hx hb dX5_rules_37 rfl (lv_at hl 3 rfl) ?_
          refine va_iald (D := g.1) hx hb hK hP 3 0 rfl rfl (vp_in_iff.mpr ⟨by omega, by omega⟩) dX5_rules_38 ?_
          refine lv_topi (fun y8 ey8 => ?_)
          have qy8_0 : y8.toInt = (R1 v3_1.toNatClampNeg).toInt := congrArg Int32.toInt ey8
          refine lv_if_lt (tgt := 51) hx hb dX5_rules_39 (by decide) (fun c_3 => ?_) (fun c_3 => ?_)
          · have i_3 : y8.toInt < 0 := z_lt (rfl) (rfl) c_3
            refine lv_aload_n hx hb dX5_rules_51 rfl (lv_at hl 0 rfl) ?_
            refine va_get (D := g.1) (ci := 5) (v := .ref h1) (C := RX5) (T := TX5) (N := 27) hx hb hts zl_X5 hown hK hP 1 rfl rfl 0 (by decide) (hts _ m_f_RX5_7) (fun _ h => h) rfl dX5_rules_52 ?_
            refine lv_iload_n hx hb dX5_rules_55 rfl (lv_at hl 3 rfl) ?_
            refine va_iald (D := g.1) hx hb hK hP 0 0 rfl rfl (vp_in_iff.mpr ⟨by omega, by omega⟩) dX5_rules_56 ?_
            refine lv_topi (fun y9 ey9 => ?_)
            have qy9_0 : (v3_1.toInt = 0 → 0 ≤ y9.toInt ∧ y9.toInt ≤ 99) := (iW_at (i := v3_1) (a := v3_1.toInt) hG0_1 (rfl) (by omega) (by omega) ey9).1
            have qy9_1 : (v3_1.toInt = 1 → 1 ≤ y9.toInt ∧ y9.toInt ≤ 9) := (iW_at (i := v3_1) (a := v3_1.toInt) hG0_1 (rfl) (by omega) (by omega) ey9).2.1
            have qy9_2 : (v3_1.toInt = 2 → 0 ≤ y9.toInt ∧ y9.toInt ≤ 99) := (iW_at (i := v3_1) (a := v3_1.toInt) hG0_1 (rfl) (by omega) (by omega) ey9).2.2.1
            have qy9_3 : y9.toInt = (G0_1 v3_1.toNatClampNeg).toInt := congrArg Int32.toInt ey9
            refine va_iast (D := g.1) hx hb hK hP hD hS 0 0 rfl rfl (vp_in_iff.mpr ⟨by omega, by omega⟩) dX5_rules_57 (fun H locs hP hD hS => ?_)
            have hP : va_P g.1 vwCl [(h1, .inl (zI g, 180, .inl (upd G0_1 v3_1.toNatClampNeg y9))), (h0, .inr (5, [.ref h1, .int f0, .ref h2, .int 0, .int w0, .ref h3, .ref h4, .ref h5, .ref h6, .int f3, .ref h7, .ref h8, .ref h9, .int f4, .ref h10, .ref h11, .ref h12, .ref h13, .ref h14, .ref h15, .ref h16, .ref h17, .ref h18, .ref h19, .ref h20, .ref h21, .ref h22])), (h2, .inl (zI g, 60, .inl Z1)), (h3, .inl (zI g, 5, .inl R1))] H := hP
            have hD : va_D A [(h1, .inl (zI g, 180, .inl (upd G0_1 v3_1.toNatClampNeg y9))), (h0, .inr (5, [.ref h1, .int f0, .ref h2, .int 0, .int w0, .ref h3, .ref h4, .ref h5, .ref h6, .int f3, .ref h7, .ref h8, .ref h9, .int f4, .ref h10, .ref h11, .ref h12, .ref h13, .ref h14, .ref h15, .ref h16, .ref h17, .ref h18, .ref h19, .ref h20, .ref h21, .ref h22])), (h2, .inl (zI g, 60, .inl Z1)), (h3, .inl (zI g, 5, .inl R1))] := hD
            have hI10 : zNW K B C R1 (v3_1.toInt + 1) (upd G0_1 v3_1.toNatClampNeg y9) := zNW_keep (i := v3_1) (k := v3_1.toInt) hG0_1 rfl (by omega) ey9 (by rw [← ey8]; omega)
            obtain ⟨R11, eR11⟩ : ∃ z : Nat → Int32, z = (upd G0_1 v3_1.toNatClampNeg y9) := ⟨_, rfl⟩
            rw [← eR11] at hP hD hI10
            refine lv_iload_n hx hb dX5_rules_58 rfl (lv_at hl 2 rfl) ?_
            refine lv_aload_n hx hb dX5_rules_59 rfl (lv_at hl 0 rfl) ?_
            refine va_get (D := g.1) (ci := 5) (v := .ref h3) (C := RX5) (T := TX5) (N := 27) hx hb hts zl_X5 hown hK hP 1 rfl rfl 5 (by decide) (hts _ m_f_RX5_16) (fun _ h => h) rfl dX5_rules_60 ?_
            refine lv_iload_n hx hb dX5_rules_63 rfl (lv_at hl 3 rfl) ?_
            refine va_iald (D := g.1) hx hb hK hP 3 0 rfl rfl (vp_in_iff.mpr ⟨by omega, by omega⟩) dX5_rules_64 ?_
            refine lv_topi (fun y12 ey12 => ?_)
            have qy12_0 : y12.toInt = (R1 v3_1.toNatClampNeg).toInt := congrArg Int32.toInt ey12
            refine lv_if_lt (tgt := 72) hx hb dX5_rules_65 (by decide) (fun c_4 => ?_) (fun c_4 => absurd (show 0 ≤ y12.toInt from z_nlt (rfl) (rfl) c_4) (by omega))
            have i_4 : y12.toInt < 0 := z_lt (rfl) (rfl) c_4
            have hck := zCk_neg (T := R1) (k := v3_1.toInt) (by omega) (by omega) (show (R1 v3_1.toNatClampNeg).toInt < 0 by rw [← ey12]; omega)
            refine lv_iconst (v := 0) hx hb dX5_rules_72 (by decide) ?_
            refine lv_iadd hx hb dX5_rules_73 ?_
            refine lv_topi (fun y13 ey13 => ?_)
            have qy13_0 : y13.toInt = v2_1.toInt + 0 := zi_add ey13 (rfl) (rfl) (by omega) (by omega)
            refine lv_istore_n (lv' := [(2, .int y13), (0, .ref h0), (1, .int y4), (3, .int v3_1)]) hx hb dX5_rules_74 rfl hl (by decide) rfl (fun ls hl => ?_)
            obtain ⟨y14, ey14⟩ : ∃ z : Int32, z = v3_1 + 1 := ⟨_, rfl⟩
            have qy14 : y14.toInt = v3_1.toInt + 1 := zi_add ey14 (rfl) rfl (by omega) (by omega)
            refine lv_iinc (v := y14) (lv' := [(3, .int y14), (2, .int y13), (0, .ref h0), (1, .int y4)]) hx hb dX5_rules_75 hl (k := 3) rfl ey14.symm (by decide) rfl (fun ls hl => ?_)
            have hck2 : zCk R1 y14.toInt = zCk R1 (v3_1.toInt + 1) := by rw [(by omega : y14.toInt = v3_1.toInt + 1)]
            refine lv_goto (tgt := 23) hx hb dX5_rules_78 (by decide) ?_
            exact ih2 y13 y14 R11 (zNW_eq hI10 (by omega)) (by omega) (by omega) (by omega) (by omega) (by omega) (by omega) _ _ hP hD hS ls (lv_sub hl [2, 3, 1, 0] rfl)
          · have i_3 : 0 ≤ y8.toInt := z_nlt (rfl) (rfl) c_3
            refine lv_aload_n hx hb dX5_rules_42 rfl (lv_at hl 0 rfl) ?_
            refine va_get (D := g.1) (ci := 5) (v := .ref h3) (C := RX5) (T := TX5) (N := 27) hx hb hts zl_X5 hown hK hP 1 rfl rfl 5 (by decide) (hts _ m_f_RX5_16) (fun _ h => h) rfl dX5_rules_43 ?_
            refine lv_iload_n hx hb dX5_rules_46 rfl (lv_at hl 3 rfl) ?_
            refine va_iald (D := g.1) hx hb hK hP 3 0 rfl rfl (vp_in_iff.mpr ⟨by omega, by omega⟩) dX5_rules_47 ?_
            refine lv_topi (fun y15 ey15 => ?_)
            have qy15_0 : y15.toInt = (R1 v3_1.toNatClampNeg).toInt := congrArg Int32.toInt ey15
            refine lv_goto (tgt := 57) hx hb dX5_rules_48 (by decide) ?_
            refine va_iast (D := g.1) hx hb hK hP hD hS 0 0 rfl rfl (vp_in_iff.mpr ⟨by omega, by omega⟩) dX5_rules_57 (fun H locs hP hD hS => ?_)
            have hP : va_P g.1 vwCl [(h1, .inl (zI g, 180, .inl (upd G0_1 v3_1.toNatClampNeg y15))), (h0, .inr (5, [.ref h1, .int f0, .ref h2, .int 0, .int w0, .ref h3, .ref h4, .ref h5, .ref h6, .int f3, .ref h7, .ref h8, .ref h9, .int f4, .ref h10, .ref h11, .ref h12, .ref h13, .ref h14, .ref h15, .ref h16, .ref h17, .ref h18, .ref h19, .ref h20, .ref h21, .ref h22])), (h2, .inl (zI g, 60, .inl Z1)), (h3, .inl (zI g, 5, .inl R1))] H := hP
            have hD : va_D A [(h1, .inl (zI g, 180, .inl (upd G0_1 v3_1.toNatClampNeg y15))), (h0, .inr (5, [.ref h1, .int f0, .ref h2, .int 0, .int w0, .ref h3, .ref h4, .ref h5, .ref h6, .int f3, .ref h7, .ref h8, .ref h9, .int f4, .ref h10, .ref h11, .ref h12, .ref h13, .ref h14, .ref h15, .ref h16, .ref h17, .ref h18, .ref h19, .ref h20, .ref h21, .ref h22])), (h2, .inl (zI g, 60, .inl Z1)), (h3, .inl (zI g, 5, .inl R1))] := hD
            have hI16 : zNW K B C R1 (v3_1.toInt + 1) (upd G0_1 v3_1.toNatClampNeg y15) := zNW_put (i := v3_1) (k := v3_1.toInt) (v := y15) hG0_1 rfl (by omega) (by omega) ey15 (by omega) (by have ht := zTold_rng (i := v3_1) (a := v3_1.toInt) hI3 (by omega) rfl (by omega) (by omega) ey15; rcases ht with h | h; (exfalso; omega); exact h.2)
            obtain ⟨R17, eR17⟩ : ∃ z : Nat → Int32, z = (upd G0_1 v3_1.toNatClampNeg y15) := ⟨_, rfl⟩
            rw [← eR17] at hP hD hI16
            refine lv_iload_n hx hb dX5_rules_58 rfl (lv_at hl 2 rfl) ?_
            refine lv_aload_n hx hb dX5_rules_59 rfl (lv_at hl 0 rfl) ?_
            refine va_get (D := g.1) (ci := 5) (v := .ref h3) (C := RX5) (T := TX5) (N := 27) hx hb hts zl_X5 hown hK hP 1 rfl rfl 5 (by decide) (hts _ m_f_RX5_16) (fun _ h => h) rfl dX5_rules_60 ?_
            refine lv_iload_n hx hb dX5_rules_63 rfl (lv_at hl 3 rfl) ?_
            refine va_iald (D := g.1) hx hb hK hP 3 0 rfl rfl (vp_in_iff.mpr ⟨by omega, by omega⟩) dX5_rules_64 ?_
            refine lv_topi (fun y18 ey18 => ?_)
            have qy18_0 : y18.toInt = (R1 v3_1.toNatClampNeg).toInt := congrArg Int32.toInt ey18
            refine lv_if_lt (tgt := 72) hx hb dX5_rules_65 (by decide) (fun c_5 => absurd (show y18.toInt < 0 from z_lt (rfl) (rfl) c_5) (by omega)) (fun c_5 => ?_)
            have i_5 : 0 ≤ y18.toInt := z_nlt (rfl) (rfl) c_5
            have hck := zCk_pos (T := R1) (k := v3_1.toInt) (by omega) (by omega) (show 0 ≤ (R1 v3_1.toNatClampNeg).toInt by rw [← ey18]; omega)
            refine lv_iconst (v := 1) hx hb dX5_rules_68 (by decide) ?_
            refine lv_goto (tgt := 73) hx hb dX5_rules_69 (by decide) ?_
            refine lv_iadd hx hb dX5_rules_73 ?_
            refine lv_topi (fun y19 ey19 => ?_)
            have qy19_0 : y19.toInt = v2_1.toInt + 1 := zi_add ey19 (rfl) (rfl) (by omega) (by omega)
            refine lv_istore_n (lv' := [(2, .int y19), (0, .ref h0), (1, .int y4), (3, .int v3_1)]) hx hb dX5_rules_74 rfl hl (by decide) rfl (fun ls hl => ?_)
            obtain ⟨y20, ey20⟩ : ∃ z : Int32, z = v3_1 + 1 := ⟨_, rfl⟩
            have qy20 : y20.toInt = v3_1.toInt + 1 := zi_add ey20 (rfl) rfl (by omega) (by omega)
            refine lv_iinc (v := y20) (lv' := [(3, .int y20), (2, .int y19), (0, .ref h0), (1, .int y4)]) hx hb dX5_rules_75 hl (k := 3) rfl ey20.symm (by decide) rfl (fun ls hl => ?_)
            have hck2 : zCk R1 y20.toInt = zCk R1 (v3_1.toInt + 1) := by rw [(by omega : y20.toInt = v3_1.toInt + 1)]
            refine lv_goto (tgt := 23) hx hb dX5_rules_78 (by decide) ?_
            exact ih2 y19 y20 R17 (zNW_eq hI16 (by omega)) (by omega) (by omega) (by omega) (by omega) (by omega) (by omega) _ _ hP hD hS ls (lv_sub hl [2, 3, 1, 0] rfl)
    have : (0 : Int32).toInt = 0 := rfl
    exact loop23_1 ((5 - 0 : Int).toNat + 1) (0 : Int32) (0 : Int32) Z0 (zNW_eq hI6 (by omega)) (by omega) (by omega) (by omega) (by omega) (by omega) (by omega) _ _ hP hD hS ls (lv_sub hl [3, 2, 1, 0] rfl)
  · have i_0 : 0 ≤ y4.toInt := z_nlt (rfl) (rfl) c_0
    have hI21 : iW K (zBk.setL B (zLwF Z1 f1.toInt B.L)) C Z0 := zNW_neg hF_Z0 (by omega)
    refine lv_bipush (v := (-20)) hx hb dX5_rules_14 (by decide) ?_
    refine lv_iload_n hx hb dX5_rules_16 rfl (lv_at hl 0 rfl) ?_
    refine lv_isub hx hb dX5_rules_17 ?_
    refine lv_topi (fun y22 ey22 => ?_)
    have qy22_0 : y22.toInt = (-20) - y4.toInt := zi_sub ey22 (rfl) (rfl) (by omega) (by omega)
    have hP9 := hP.sub (ws' := [(h0, .inr (5, [.ref h1, .int f0, .ref h2, .int 0, .int w0, .ref h3, .ref h4, .ref h5, .ref h6, .int f3, .ref h7, .ref h8, .ref h9, .int f4, .ref h10, .ref h11, .ref h12, .ref h13, .ref h14, .ref h15, .ref h16, .ref h17, .ref h18, .ref h19, .ref h20, .ref h21, .ref h22])), (h1, .inl (zI g, 180, .inl Z0)), (h2, .inl (zI g, 60, .inl Z1)), (h3, .inl (zI g, 5, .inl R1))]) [1, 0, 2, 3] rfl
    have hD9 := hD.sub (ws' := [(h0, .inr (5, [.ref h1, .int f0, .ref h2, .int 0, .int w0, .ref h3, .ref h4, .ref h5, .ref h6, .int f3, .ref h7, .ref h8, .ref h9, .int f4, .ref h10, .ref h11, .ref h12, .ref h13, .ref h14, .ref h15, .ref h16, .ref h17, .ref h18, .ref h19, .ref h20, .ref h21, .ref h22])), (h1, .inl (zI g, 180, .inl Z0)), (h2, .inl (zI g, 60, .inl Z1)), (h3, .inl (zI g, 5, .inl R1))]) [1, 0, 2, 3] (by decide) rfl
    exact W.iret (v := y22) hx hb hr (fun t ht hW => ⟨⟨y22, ⟨0, w0, Z0, R1⟩, rfl, ⟨⟨(show 0 = 0 from by first | omega | decide), (by first | omega | decide)⟩, ⟨show 0 ≤ (0 : Int32).toInt from by decide, show (0 : Int32).toInt ≤ 60 from by decide⟩, ⟨show 0 ≤ w0.toInt from by omega, show w0.toInt ≤ 60 from by omega⟩, hI21⟩, by rw [ht]; exact hP9, hD9⟩, hS.F ht⟩) hS.2.2 dX5_rules_18
set_option maxHeartbeats 8000000 in
set_option maxRecDepth 100000 in
theorem gX5_lots (l : Launch) (g : zG) (K : Prop) (B C : zBk) (hB : bOk B) (h0 h1 h2 h3 h4 h5 h6 h7 h8 h9 h10 h11 h12 h13 h14 h15 h16 h17 h18 h19 h20 h21 h22 : Nat) (sz : Nat) (f0 : Int32) (f1 : Int32) (f2 : Int32) (f3 : Int32) (f4 : Int32) (Z0 : Nat → Int32) (Z1 : Nat → Int32) (Z3 : Nat → Int32) (hp0 : zPos Z1 f1.toInt = 1) (hf_f1 : 0 ≤ f1.toInt ∧ f1.toInt ≤ 60) (hf_f2 : 0 ≤ f2.toInt ∧ f2.toInt ≤ 60) (hf_f3 : 0 ≤ f3.toInt ∧ f3.toInt ≤ 31) (hf_f4 : 0 ≤ f4.toInt ∧ f4.toInt ≤ 1000) (hF_Z0 : iW K B C Z0) (hF_Z3 : iKd Z3) : Met l yX5_lots (.code yX5_lots cX5_lots 4 (some .int) :: zBig) ({ frames := 1, cells := 0, slots := 0, locals := 25 }) (va_Pc [.ref h0] (zPre g [(h0, .inr (5, [.ref h1, .int f0, .ref h2, .int f1, .int f2, .ref h3, .ref h4, .ref h5, .ref h6, .int f3, .ref h7, .ref h8, .ref h9, .int f4, .ref h10, .ref h11, .ref h12, .ref h13, .ref h14, .ref h15, .ref h16, .ref h17, .ref h18, .ref h19, .ref h20, .ref h21, .ref h22])), (h1, .inl (zI g, 180, .inl Z0)), (h2, .inl (zI g, 60, .inl Z1)), (h4, .inl (zI g, 6, .inl Z3))] sz)) (va_Qi (fun (r : Int32) (u : Int32 × Int32 × (Nat → Int32) × (Nat → Int32)) => (u.1.toInt = 0 ∧ r.toInt = zLots Z1 f1.toInt) ∧ (0 ≤ u.1.toInt ∧ u.1.toInt ≤ 60) ∧ (0 ≤ u.2.1.toInt ∧ u.2.1.toInt ≤ 60) ∧ iW K (zLtB B Z1 f1.toInt) C u.2.2.1 ∧ iKd u.2.2.2) (zPost g (fun u : Int32 × Int32 × (Nat → Int32) × (Nat → Int32) => [(h0, .inr (5, [.ref h1, .int f0, .ref h2, .int u.1, .int u.2.1, .ref h3, .ref h4, .ref h5, .ref h6, .int f3, .ref h7, .ref h8, .ref h9, .int f4, .ref h10, .ref h11, .ref h12, .ref h13, .ref h14, .ref h15, .ref h16, .ref h17, .ref h18, .ref h19, .ref h20, .ref h21, .ref h22])), (h1, .inl (zI g, 180, .inl u.2.2.1)), (h2, .inl (zI g, 60, .inl Z1)), (h4, .inl (zI g, 6, .inl u.2.2.2))]) (va_A [(h0, .inr (5, [.ref h1, .int f0, .ref h2, .int f1, .int f2, .ref h3, .ref h4, .ref h5, .ref h6, .int f3, .ref h7, .ref h8, .ref h9, .int f4, .ref h10, .ref h11, .ref h12, .ref h13, .ref h14, .ref h15, .ref h16, .ref h17, .ref h18, .ref h19, .ref h20, .ref h21, .ref h22])), (h1, .inl (zI g, 180, .inl Z0)), (h2, .inl (zI g, 60, .inl Z1)), (h4, .inl (zI g, 6, .inl Z3))] sz)) (va_A [(h0, .inr (5, [.ref h1, .int f0, .ref h2, .int f1, .int f2, .ref h3, .ref h4, .ref h5, .ref h6, .int f3, .ref h7, .ref h8, .ref h9, .int f4, .ref h10, .ref h11, .ref h12, .ref h13, .ref h14, .ref h15, .ref h16, .ref h17, .ref h18, .ref h19, .ref h20, .ref h21, .ref h22])), (h1, .inl (zI g, 180, .inl Z0)), (h2, .inl (zI g, 60, .inl Z1)), (h4, .inl (zI g, 6, .inl Z3))] sz)) 0 0 (va_A [(h0, .inr (5, [.ref h1, .int f0, .ref h2, .int f1, .int f2, .ref h3, .ref h4, .ref h5, .ref h6, .int f3, .ref h7, .ref h8, .ref h9, .int f4, .ref h10, .ref h11, .ref h12, .ref h13, .ref h14, .ref h15, .ref h16, .ref h17, .ref h18, .ref h19, .ref h20, .ref h21, .ref h22])), (h1, .inl (zI g, 180, .inl Z0)), (h2, .inl (zI g, 60, .inl Z1)), (h4, .inl (zI g, 6, .inl Z3))] sz) := by
  refine zMetI rfl (Nat.le_of_ble_eq_true rfl) ?_
  intro p e s m args below meth c A ls hx hb hml hr hlocks hin hown hts hK hN hZ hP hD hA hS hAe hl
  have hown : s.vm.findClass RX5 = some m.cls := hown
  have hl : lv_has ls 4 [(0, .ref h0)] := hl
  refine lv_aload_n hx hb dX5_lots_0 rfl (lv_at hl 0 rfl) ?_
  refine lv_iconst (v := 0) hx hb dX5_lots_1 (by decide) ?_
  refine va_put (D := g.1) (ci := 5) (v := .int 0) (ty := .int) (C := RX5) (T := TX5) (N := 27) hx hb hts zl_X5 tyX5 tyX5_ok nmX5 hown hK hP hD hS 0 rfl rfl 4 (by decide) (hts _ m_f_RX5_118) (fun _ h => h) rfl (by decide +kernel) rfl rfl (Nat.le_of_ble_eq_true rfl) dX5_lots_2 (fun H locs hP hD hS => ?_)
  have hP : va_P g.1 vwCl [(h0, .inr (5, [.ref h1, .int f0, .ref h2, .int f1, .int 0, .ref h3, .ref h4, .ref h5, .ref h6, .int f3, .ref h7, .ref h8, .ref h9, .int f4, .ref h10, .ref h11, .ref h12, .ref h13, .ref h14, .ref h15, .ref h16, .ref h17, .ref h18, .ref h19, .ref h20, .ref h21, .ref h22])), (h1, .inl (zI g, 180, .inl Z0)), (h2, .inl (zI g, 60, .inl Z1)), (h4, .inl (zI g, 6, .inl Z3))] H := hP
  have hD : va_D A [(h0, .inr (5, [.ref h1, .int f0, .ref h2, .int f1, .int 0, .ref h3, .ref h4, .ref h5, .ref h6, .int f3, .ref h7, .ref h8, .ref h9, .int f4, .ref h10, .ref h11, .ref h12, .ref h13, .ref h14, .ref h15, .ref h16, .ref h17, .ref h18, .ref h19, .ref h20, .ref h21, .ref h22])), (h1, .inl (zI g, 180, .inl Z0)), (h2, .inl (zI g, 60, .inl Z1)), (h4, .inl (zI g, 6, .inl Z3))] := hD
  refine lv_iconst (v := 0) hx hb dX5_lots_5 (by decide) ?_
  refine lv_istore_n (lv' := [(1, .int 0), (0, .ref h0)]) hx hb dX5_lots_6 rfl hl (by decide) rfl (fun ls hl => ?_)
  have hz0 : zLo Z1 f1.toInt (zsk Z1 f1.toInt (0 : Int32).toInt) 0 = zLots Z1 f1.toInt := rfl
  have hz00 : (0 : Int32).toInt = 0 := rfl
  have hI0 : zKM Z1 f1.toInt 0 0 1 Z3 := zKM_0 hF_Z3
  refine lv_iconst (v := 1) hx hb dX5_lots_7 (by decide) ?_
  refine lv_istore_n (lv' := [(2, .int 1), (1, .int 0), (0, .ref h0)]) hx hb dX5_lots_8 rfl hl (by decide) rfl (fun ls hl => ?_)
  have loop9_0 : ∀ (n1 : Nat) (v1_0 : Int32) (v2_0 : Int32) (g0_0 : Int32) (G1_0 : Nat → Int32) (hg0_0a : 0 ≤ g0_0.toInt) (hg0_0b : g0_0.toInt ≤ 60) (hG1_0 : zKM Z1 f1.toInt g0_0.toInt (v1_0.toInt) (v2_0.toInt) G1_0) (n1_0 : 0 ≤ v1_0.toInt) (n1_1 : v1_0.toInt ≤ 6) (n1_2 : 0 ≤ v2_0.toInt) (n1_3 : v2_0.toInt ≤ 1) (n1_4 : (v2_0.toInt = 1 → v1_0.toInt = 0 → zLo Z1 f1.toInt (zsk Z1 f1.toInt g0_0.toInt) 0 = zLots Z1 f1.toInt)) (n1_5 : (v2_0.toInt = 1 → 1 ≤ v1_0.toInt → zsk Z1 f1.toInt g0_0.toInt < f1.toInt → zLo Z1 f1.toInt (zsk Z1 f1.toInt g0_0.toInt) v1_0.toInt = zLots Z1 f1.toInt)) (n1_6 : (v2_0.toInt = 1 → 1 ≤ v1_0.toInt → f1.toInt ≤ zsk Z1 f1.toInt g0_0.toInt → v1_0.toInt = zLots Z1 f1.toInt)) (n1_7 : (v2_0.toInt = 0 → -20 - g0_0.toInt = zLots Z1 f1.toInt)) (hm1 : 7 * v2_0.toInt - v1_0.toInt + 6 < (n1 : Int)) (H : Heap) (locs : List Loc), va_P g.1 vwCl [(h0, .inr (5, [.ref h1, .int f0, .ref h2, .int f1, .int g0_0, .ref h3, .ref h4, .ref h5, .ref h6, .int f3, .ref h7, .ref h8, .ref h9, .int f4, .ref h10, .ref h11, .ref h12, .ref h13, .ref h14, .ref h15, .ref h16, .ref h17, .ref h18, .ref h19, .ref h20, .ref h21, .ref h22])), (h1, .inl (zI g, 180, .inl Z0)), (h2, .inl (zI g, 60, .inl Z1)), (h4, .inl (zI g, 6, .inl G1_0))] H → va_D A [(h0, .inr (5, [.ref h1, .int f0, .ref h2, .int f1, .int g0_0, .ref h3, .ref h4, .ref h5, .ref h6, .int f3, .ref h7, .ref h8, .ref h9, .int f4, .ref h10, .ref h11, .ref h12, .ref h13, .ref h14, .ref h15, .ref h16, .ref h17, .ref h18, .ref h19, .ref h20, .ref h21, .ref h22])), (h1, .inl (zI g, 180, .inl Z0)), (h2, .inl (zI g, 60, .inl Z1)), (h4, .inl (zI g, 6, .inl G1_0))] → va_S A s.heap H locs → ∀ (ls : Array Slot), lv_has ls 4 [(0, .ref h0), (1, .int v1_0), (2, .int v2_0)] → W p l e ({ frames := 1, cells := 0, slots := 0, locals := 25 }) s m args below meth c H locs 0 0 (MQ below (va_Qi (fun (r : Int32) (u : Int32 × Int32 × (Nat → Int32) × (Nat → Int32)) => (u.1.toInt = 0 ∧ r.toInt = zLots Z1 f1.toInt) ∧ (0 ≤ u.1.toInt ∧ u.1.toInt ≤ 60) ∧ (0 ≤ u.2.1.toInt ∧ u.2.1.toInt ≤ 60) ∧ iW K (zLtB B Z1 f1.toInt) C u.2.2.1 ∧ iKd u.2.2.2) (zPost g (fun u : Int32 × Int32 × (Nat → Int32) × (Nat → Int32) => [(h0, .inr (5, [.ref h1, .int f0, .ref h2, .int u.1, .int u.2.1, .ref h3, .ref h4, .ref h5, .ref h6, .int f3, .ref h7, .ref h8, .ref h9, .int f4, .ref h10, .ref h11, .ref h12, .ref h13, .ref h14, .ref h15, .ref h16, .ref h17, .ref h18, .ref h19, .ref h20, .ref h21, .ref h22])), (h1, .inl (zI g, 180, .inl u.2.2.1)), (h2, .inl (zI g, 60, .inl Z1)), (h4, .inl (zI g, 6, .inl u.2.2.2))]) A) A) args s 0 0 A) (F0 m 9 ls []) := by
    intro n1
    induction n1 with
    | zero => intro v1_0 v2_0 g0_0 G1_0 hg0_0a hg0_0b hG1_0 n1_0 n1_1 n1_2 n1_3 n1_4 n1_5 n1_6 n1_7 hm1; exfalso; omega
    | succ n1 ih1 =>
      intro v1_0 v2_0 g0_0 G1_0 hg0_0a hg0_0b hG1_0 n1_0 n1_1 n1_2 n1_3 n1_4 n1_5 n1_6 n1_7 hm1 H locs hP hD hS ls hl
      refine lv_iload_n hx hb dX5_lots_9 rfl (lv_at hl 2 rfl) ?_
      refine lv_if_eq (tgt := 85) hx hb dX5_lots_10 (by decide) (fun c_1 => ?_) (fun c_1 => ?_)
      · have i_1 : v2_0.toInt = 0 := z_eq (rfl) (rfl) c_1
        refine lv_aload_n hx hb dX5_lots_85 rfl (lv_at hl 0 rfl) ?_
        refine lv_iconst (v := 0) hx hb dX5_lots_86 (by decide) ?_
        refine va_put (D := g.1) (ci := 5) (v := .int 0) (ty := .int) (C := RX5) (T := TX5) (N := 27) hx hb hts zl_X5 tyX5 tyX5_ok nmX5 hown hK hP hD hS 0 rfl rfl 3 (by decide) (hts _ m_f_RX5_114) (fun _ h => h) rfl (by decide +kernel) rfl rfl (Nat.le_of_ble_eq_true rfl) dX5_lots_87 (fun H locs hP hD hS => ?_)
        have hP : va_P g.1 vwCl [(h0, .inr (5, [.ref h1, .int f0, .ref h2, .int 0, .int g0_0, .ref h3, .ref h4, .ref h5, .ref h6, .int f3, .ref h7, .ref h8, .ref h9, .int f4, .ref h10, .ref h11, .ref h12, .ref h13, .ref h14, .ref h15, .ref h16, .ref h17, .ref h18, .ref h19, .ref h20, .ref h21, .ref h22])), (h1, .inl (zI g, 180, .inl Z0)), (h2, .inl (zI g, 60, .inl Z1)), (h4, .inl (zI g, 6, .inl G1_0))] H := hP
        have hD : va_D A [(h0, .inr (5, [.ref h1, .int f0, .ref h2, .int 0, .int g0_0, .ref h3, .ref h4, .ref h5, .ref h6, .int f3, .ref h7, .ref h8, .ref h9, .int f4, .ref h10, .ref h11, .ref h12, .ref h13, .ref h14, .ref h15, .ref h16, .ref h17, .ref h18, .ref h19, .ref h20, .ref h21, .ref h22])), (h1, .inl (zI g, 180, .inl Z0)), (h2, .inl (zI g, 60, .inl Z1)), (h4, .inl (zI g, 6, .inl G1_0))] := hD
        refine lv_iload_n hx hb dX5_lots_90 rfl (lv_at hl 2 rfl) ?_
        refine lv_if_ne (tgt := 102) hx hb dX5_lots_91 (by decide) (fun c_2 => absurd (show v2_0.toInt ≠ 0 from z_ne (rfl) (rfl) c_2) (by omega)) (fun c_2 => ?_)
        have i_2 : v2_0.toInt = 0 := z_eq (rfl) (rfl) c_2
        have hI1 : iKd G1_0 := hG1_0.1
        have hI2 : iW K (zLtB B Z1 f1.toInt) C Z0 := zLtB_neg hF_Z0 (by omega)
        refine lv_bipush (v := (-20)) hx hb dX5_lots_94 (by decide) ?_
        refine lv_aload_n hx hb dX5_lots_96 rfl (lv_at hl 0 rfl) ?_
        refine va_get (D := g.1) (ci := 5) (v := .int g0_0) (C := RX5) (T := TX5) (N := 27) hx hb hts zl_X5 hown hK hP 0 rfl rfl 4 (by decide) (hts _ m_f_RX5_118) (fun _ h => h) rfl dX5_lots_97 ?_
        refine lv_isub hx hb dX5_lots_100 ?_
        refine lv_topi (fun y3 ey3 => ?_)
        have qy3_0 : y3.toInt = (-20) - g0_0.toInt := zi_sub ey3 (rfl) (rfl) (by omega) (by omega)
        have hP9 := hP.sub (ws' := [(h0, .inr (5, [.ref h1, .int f0, .ref h2, .int 0, .int g0_0, .ref h3, .ref h4, .ref h5, .ref h6, .int f3, .ref h7, .ref h8, .ref h9, .int f4, .ref h10, .ref h11, .ref h12, .ref h13, .ref h14, .ref h15, .ref h16, .ref h17, .ref h18, .ref h19, .ref h20, .ref h21, .ref h22])), (h1, .inl (zI g, 180, .inl Z0)), (h2, .inl (zI g, 60, .inl Z1)), (h4, .inl (zI g, 6, .inl G1_0))]) [0, 1, 2, 3] rfl
        have hD9 := hD.sub (ws' := [(h0, .inr (5, [.ref h1, .int f0, .ref h2, .int 0, .int g0_0, .ref h3, .ref h4, .ref h5, .ref h6, .int f3, .ref h7, .ref h8, .ref h9, .int f4, .ref h10, .ref h11, .ref h12, .ref h13, .ref h14, .ref h15, .ref h16, .ref h17, .ref h18, .ref h19, .ref h20, .ref h21, .ref h22])), (h1, .inl (zI g, 180, .inl Z0)), (h2, .inl (zI g, 60, .inl Z1)), (h4, .inl (zI g, 6, .inl G1_0))]) [0, 1, 2, 3] (by decide) rfl
        exact W.iret (v := y3) hx hb hr (fun t ht hW => ⟨⟨y3, ⟨0, g0_0, Z0, G1_0⟩, rfl, ⟨⟨(show 0 = 0 from by first | omega | decide), (by first | omega | decide)⟩, ⟨show 0 ≤ (0 : Int32).toInt from by decide, show (0 : Int32).toInt ≤ 60 from by decide⟩, ⟨show 0 ≤ g0_0.toInt from by omega, show g0_0.toInt ≤ 60 from by omega⟩, hI2, hI1⟩, by rw [ht]; exact hP9, hD9⟩, hS.F ht⟩) hS.2.2 dX5_lots_101
      · have i_1 : v2_0.toInt ≠ 0 := z_ne (rfl) (rfl) c_1
        refine lv_iload_n hx hb dX5_lots_13 rfl (lv_at hl 1 rfl) ?_
        refine lv_if_eq (tgt := 24) hx hb dX5_lots_14 (by decide) (fun c_3 => ?_) (fun c_3 => ?_)
        · have i_3 : v1_0.toInt = 0 := z_eq (rfl) (rfl) c_3
          refine lv_aload_n hx hb dX5_lots_24 rfl (lv_at hl 0 rfl) ?_
          refine z_calli (wr := [(h1, .inl (zI g, 180, .inl Z0)), (h4, .inl (zI g, 6, .inl G1_0))]) hP hD hS hA [0, 2] [1, 3] (by decide) rfl rfl (by decide) (va_runV (As := []) (rest := []) ⟨hx, hb, hml, hown, hts⟩ (gX5_ahead l g h0 h1 h2 h3 h4 h5 h6 h7 h8 h9 h10 h11 h12 h13 h14 h15 h16 h17 h18 h19 h20 h21 h22 H.size f0 f1 g0_0 f3 f4 Z1 (by constructor <;> omega) (by constructor <;> omega) (by constructor <;> omega) (by constructor <;> omega)) ⟨callB_of 0 hts (zGood m_o_yX5_ahead) rfl rfl rfl (hts _ m_z_RX5) (hts _ m_m_RX5_121) ⟨by decide +kernel, by decide +kernel, by decide +kernel⟩ ⟨Nat.le_of_ble_eq_true rfl, Nat.le_of_ble_eq_true rfl⟩, hts _ m_i_yX5_ahead, hts _ m_e_yX5_ahead⟩ (zPreV hK hN hZ hP hD hS hA [0, 2] (by decide) rfl rfl 5 0 rfl rfl) rfl rfl hl.1 rfl (lv_room (Nat.le_of_ble_eq_true rfl)) dX5_lots_25 ⟨Nat.le_of_ble_eq_true rfl, Nat.le_of_ble_eq_true rfl⟩) (fun r u H locs hw hP hD hS => ?_)
          obtain ⟨w4, rfl⟩ : ∃ z, z = u := ⟨_, rfl⟩
          obtain ⟨hw, hI5⟩ := hw
          obtain ⟨hI5a, hI5b⟩ := hI5
          obtain ⟨y6, rfl⟩ : ∃ z, z = r := ⟨_, rfl⟩
          obtain ⟨q7_0, q7_1, q7_2, q7_3, q7_4⟩ := hw
          have q7_0 : (y6.toInt = -1 ∨ w4.toInt < f1.toInt) := q7_0
          have q7_1 : g0_0.toInt ≤ w4.toInt := q7_1
          have q7_2 : w4.toInt = zsk Z1 f1.toInt g0_0.toInt := q7_2
          have q7_3 : (w4.toInt < f1.toInt → y6.toInt = zc Z1 w4.toInt) := q7_3
          have q7_4 : (f1.toInt ≤ w4.toInt → y6.toInt = -1) := q7_4
          have hP : va_P g.1 vwCl [(h1, .inl (zI g, 180, .inl Z0)), (h4, .inl (zI g, 6, .inl G1_0)), (h0, .inr (5, [.ref h1, .int f0, .ref h2, .int f1, .int w4, .ref h3, .ref h4, .ref h5, .ref h6, .int f3, .ref h7, .ref h8, .ref h9, .int f4, .ref h10, .ref h11, .ref h12, .ref h13, .ref h14, .ref h15, .ref h16, .ref h17, .ref h18, .ref h19, .ref h20, .ref h21, .ref h22])), (h2, .inl (zI g, 60, .inl Z1))] H := hP
          have hD : va_D A [(h1, .inl (zI g, 180, .inl Z0)), (h4, .inl (zI g, 6, .inl G1_0)), (h0, .inr (5, [.ref h1, .int f0, .ref h2, .int f1, .int w4, .ref h3, .ref h4, .ref h5, .ref h6, .int f3, .ref h7, .ref h8, .ref h9, .int f4, .ref h10, .ref h11, .ref h12, .ref h13, .ref h14, .ref h15, .ref h16, .ref h17, .ref h18, .ref h19, .ref h20, .ref h21, .ref h22])), (h2, .inl (zI g, 60, .inl Z1))] := hD
          have hA9 : w4.toInt = zsk Z1 f1.toInt g0_0.toInt := by omega
          have hS9 : zLo Z1 f1.toInt w4.toInt v1_0.toInt = zLots Z1 f1.toInt := by
            rw [hA9]
            have h0 : v1_0.toInt = 0 := by omega
            rw [h0]
            omega
          refine lv_istore_n (lv' := [(3, .int y6), (0, .ref h0), (1, .int v1_0), (2, .int v2_0)]) hx hb dX5_lots_28 rfl hl (by decide) rfl (fun ls hl => ?_)
          refine lv_iload_n hx hb dX5_lots_29 rfl (lv_at hl 2 rfl) ?_
          refine lv_bipush (v := 6) hx hb dX5_lots_30 (by decide) ?_
          refine lv_icmp_ge (tgt := 53) hx hb dX5_lots_32 (by decide) (fun c_4 => absurd (show 6 ≤ v1_0.toInt from z_le (rfl) (rfl) c_4) (by omega)) (fun c_4 => ?_)
          have i_4 : v1_0.toInt < 6 := z_nle (rfl) (rfl) c_4
          refine lv_iload_n hx hb dX5_lots_35 rfl (lv_at hl 0 rfl) ?_
          refine lv_i2l (v := y6.toInt64) hx hb dX5_lots_36 rfl ?_
          refine lv_ldc2 (v := 48) hx hb hown (hts _ m_k_RX5_128) dX5_lots_37 ?_
          refine lv_ldc2 (v := 51) hx hb hown (hts _ m_k_RX5_139) dX5_lots_40 ?_
          refine z_calli (wr := [(h1, .inl (zI g, 180, .inl Z0)), (h4, .inl (zI g, 6, .inl G1_0)), (h0, .inr (5, [.ref h1, .int f0, .ref h2, .int f1, .int w4, .ref h3, .ref h4, .ref h5, .ref h6, .int f3, .ref h7, .ref h8, .ref h9, .int f4, .ref h10, .ref h11, .ref h12, .ref h13, .ref h14, .ref h15, .ref h16, .ref h17, .ref h18, .ref h19, .ref h20, .ref h21, .ref h22])), (h2, .inl (zI g, 60, .inl Z1))]) hP hD hS hA [] [0, 1, 2, 3] (by decide) rfl rfl (by decide) (va_runS (As := [.long y6.toInt64, .long 48, .long 51]) (rest := []) ⟨hx, hb, hml, hown, hts⟩ (gX5_in l g  H.size y6.toInt64 (48 : Int64) (51 : Int64)) ⟨callB_of 3 hts (zGood m_o_yX5_in) rfl rfl rfl (hts _ m_z_RX5) (hts _ m_m_RX5_77) ⟨by decide +kernel, by decide +kernel, by decide +kernel⟩ ⟨Nat.le_of_ble_eq_true rfl, Nat.le_of_ble_eq_true rfl⟩, hts _ m_s_yX5_in⟩ (zPreS hK hN hZ hP hD hS hA [] (by decide) rfl rfl) rfl rfl hl.1 rfl (lv_room (Nat.le_of_ble_eq_true rfl)) dX5_lots_43 ⟨Nat.le_of_ble_eq_true rfl, Nat.le_of_ble_eq_true rfl⟩) (fun r u H locs hw hP hD hS => ?_)
          rcases hw with ⟨i_5, rfl⟩ | ⟨i_6, i_7, rfl⟩ | ⟨i_8, i_9, rfl⟩
          · skip
            have i_5 : y6.toInt < 48 := by (try simp only [Int32.toInt_toInt64] at i_5); exact i_5
            have hP : va_P g.1 vwCl [(h1, .inl (zI g, 180, .inl Z0)), (h4, .inl (zI g, 6, .inl G1_0)), (h0, .inr (5, [.ref h1, .int f0, .ref h2, .int f1, .int w4, .ref h3, .ref h4, .ref h5, .ref h6, .int f3, .ref h7, .ref h8, .ref h9, .int f4, .ref h10, .ref h11, .ref h12, .ref h13, .ref h14, .ref h15, .ref h16, .ref h17, .ref h18, .ref h19, .ref h20, .ref h21, .ref h22])), (h2, .inl (zI g, 60, .inl Z1))] H := hP
            have hD : va_D A [(h1, .inl (zI g, 180, .inl Z0)), (h4, .inl (zI g, 6, .inl G1_0)), (h0, .inr (5, [.ref h1, .int f0, .ref h2, .int f1, .int w4, .ref h3, .ref h4, .ref h5, .ref h6, .int f3, .ref h7, .ref h8, .ref h9, .int f4, .ref h10, .ref h11, .ref h12, .ref h13, .ref h14, .ref h15, .ref h16, .ref h17, .ref h18, .ref h19, .ref h20, .ref h21, .ref h22])), (h2, .inl (zI g, 60, .inl Z1))] := hD
            refine lv_if_eq (tgt := 53) hx hb dX5_lots_46 (by decide) (fun _ => ?_) (fun h => absurd h (by decide +kernel))
            have hzb := zLo_bad (F := Z1) (len := f1.toInt) (p := w4.toInt) (n := v1_0.toInt) (by omega) (by omega)
            refine lv_iconst (v := 0) hx hb dX5_lots_53 (by decide) ?_
            refine lv_istore_n (lv' := [(2, .int 0), (3, .int y6), (0, .ref h0), (1, .int v1_0)]) hx hb dX5_lots_54 rfl hl (by decide) rfl (fun ls hl => ?_)
            refine lv_iload_n hx hb dX5_lots_55 rfl (lv_at hl 0 rfl) ?_
            refine lv_if_eq (tgt := 82) hx hb dX5_lots_56 (by decide) (fun _ => ?_) (fun h => absurd h (by decide +kernel))
            have hI8 : zKM Z1 f1.toInt w4.toInt v1_0.toInt 0 G1_0 := zKM_bad hG1_0.1
            refine lv_goto (tgt := 9) hx hb dX5_lots_82 (by decide) ?_
            have hP := hP.sub (ws' := [(h0, .inr (5, [.ref h1, .int f0, .ref h2, .int f1, .int w4, .ref h3, .ref h4, .ref h5, .ref h6, .int f3, .ref h7, .ref h8, .ref h9, .int f4, .ref h10, .ref h11, .ref h12, .ref h13, .ref h14, .ref h15, .ref h16, .ref h17, .ref h18, .ref h19, .ref h20, .ref h21, .ref h22])), (h1, .inl (zI g, 180, .inl Z0)), (h2, .inl (zI g, 60, .inl Z1)), (h4, .inl (zI g, 6, .inl G1_0))]) [2, 0, 3, 1] rfl
            have hD := hD.sub (ws' := [(h0, .inr (5, [.ref h1, .int f0, .ref h2, .int f1, .int w4, .ref h3, .ref h4, .ref h5, .ref h6, .int f3, .ref h7, .ref h8, .ref h9, .int f4, .ref h10, .ref h11, .ref h12, .ref h13, .ref h14, .ref h15, .ref h16, .ref h17, .ref h18, .ref h19, .ref h20, .ref h21, .ref h22])), (h1, .inl (zI g, 180, .inl Z0)), (h2, .inl (zI g, 60, .inl Z1)), (h4, .inl (zI g, 6, .inl G1_0))]) [2, 0, 3, 1] (by decide) rfl
            have : (0 : Int32).toInt = 0 := rfl
            exact ih1 v1_0 (0 : Int32) w4 G1_0 (by omega) (by omega) (zKM_eq hI8 (by omega) (by omega)) (by omega) (by omega) (by omega) (by omega) (by omega) (by omega) (by omega) (by omega) (by omega) _ _ hP hD hS ls (lv_sub hl [2, 3, 0] rfl)
          · skip
            have i_6 : 48 ≤ y6.toInt := by (try simp only [Int32.toInt_toInt64] at i_6); exact i_6
            have i_7 : 51 < y6.toInt := by (try simp only [Int32.toInt_toInt64] at i_7); exact i_7
            have hP : va_P g.1 vwCl [(h1, .inl (zI g, 180, .inl Z0)), (h4, .inl (zI g, 6, .inl G1_0)), (h0, .inr (5, [.ref h1, .int f0, .ref h2, .int f1, .int w4, .ref h3, .ref h4, .ref h5, .ref h6, .int f3, .ref h7, .ref h8, .ref h9, .int f4, .ref h10, .ref h11, .ref h12, .ref h13, .ref h14, .ref h15, .ref h16, .ref h17, .ref h18, .ref h19, .ref h20, .ref h21, .ref h22])), (h2, .inl (zI g, 60, .inl Z1))] H := hP
            have hD : va_D A [(h1, .inl (zI g, 180, .inl Z0)), (h4, .inl (zI g, 6, .inl G1_0)), (h0, .inr (5, [.ref h1, .int f0, .ref h2, .int f1, .int w4, .ref h3, .ref h4, .ref h5, .ref h6, .int f3, .ref h7, .ref h8, .ref h9, .int f4, .ref h10, .ref h11, .ref h12, .ref h13, .ref h14, .ref h15, .ref h16, .ref h17, .ref h18, .ref h19, .ref h20, .ref h21, .ref h22])), (h2, .inl (zI g, 60, .inl Z1))] := hD
            refine lv_if_eq (tgt := 53) hx hb dX5_lots_46 (by decide) (fun _ => ?_) (fun h => absurd h (by decide +kernel))
            have hzb := zLo_bad (F := Z1) (len := f1.toInt) (p := w4.toInt) (n := v1_0.toInt) (by omega) (by omega)
            refine lv_iconst (v := 0) hx hb dX5_lots_53 (by decide) ?_
            refine lv_istore_n (lv' := [(2, .int 0), (3, .int y6), (0, .ref h0), (1, .int v1_0)]) hx hb dX5_lots_54 rfl hl (by decide) rfl (fun ls hl => ?_)
            refine lv_iload_n hx hb dX5_lots_55 rfl (lv_at hl 0 rfl) ?_
            refine lv_if_eq (tgt := 82) hx hb dX5_lots_56 (by decide) (fun _ => ?_) (fun h => absurd h (by decide +kernel))
            have hI9 : zKM Z1 f1.toInt w4.toInt v1_0.toInt 0 G1_0 := zKM_bad hG1_0.1
            refine lv_goto (tgt := 9) hx hb dX5_lots_82 (by decide) ?_
            have hP := hP.sub (ws' := [(h0, .inr (5, [.ref h1, .int f0, .ref h2, .int f1, .int w4, .ref h3, .ref h4, .ref h5, .ref h6, .int f3, .ref h7, .ref h8, .ref h9, .int f4, .ref h10, .ref h11, .ref h12, .ref h13, .ref h14, .ref h15, .ref h16, .ref h17, .ref h18, .ref h19, .ref h20, .ref h21, .ref h22])), (h1, .inl (zI g, 180, .inl Z0)), (h2, .inl (zI g, 60, .inl Z1)), (h4, .inl (zI g, 6, .inl G1_0))]) [2, 0, 3, 1] rfl
            have hD := hD.sub (ws' := [(h0, .inr (5, [.ref h1, .int f0, .ref h2, .int f1, .int w4, .ref h3, .ref h4, .ref h5, .ref h6, .int f3, .ref h7, .ref h8, .ref h9, .int f4, .ref h10, .ref h11, .ref h12, .ref h13, .ref h14, .ref h15, .ref h16, .ref h17, .ref h18, .ref h19, .ref h20, .ref h21, .ref h22])), (h1, .inl (zI g, 180, .inl Z0)), (h2, .inl (zI g, 60, .inl Z1)), (h4, .inl (zI g, 6, .inl G1_0))]) [2, 0, 3, 1] (by decide) rfl
            have : (0 : Int32).toInt = 0 := rfl
            exact ih1 v1_0 (0 : Int32) w4 G1_0 (by omega) (by omega) (zKM_eq hI9 (by omega) (by omega)) (by omega) (by omega) (by omega) (by omega) (by omega) (by omega) (by omega) (by omega) (by omega) _ _ hP hD hS ls (lv_sub hl [2, 3, 0] rfl)
          · skip
            have i_8 : 48 ≤ y6.toInt := by (try simp only [Int32.toInt_toInt64] at i_8); exact i_8
            have i_9 : y6.toInt ≤ 51 := by (try simp only [Int32.toInt_toInt64] at i_9); exact i_9
            have hP : va_P g.1 vwCl [(h1, .inl (zI g, 180, .inl Z0)), (h4, .inl (zI g, 6, .inl G1_0)), (h0, .inr (5, [.ref h1, .int f0, .ref h2, .int f1, .int w4, .ref h3, .ref h4, .ref h5, .ref h6, .int f3, .ref h7, .ref h8, .ref h9, .int f4, .ref h10, .ref h11, .ref h12, .ref h13, .ref h14, .ref h15, .ref h16, .ref h17, .ref h18, .ref h19, .ref h20, .ref h21, .ref h22])), (h2, .inl (zI g, 60, .inl Z1))] H := hP
            have hD : va_D A [(h1, .inl (zI g, 180, .inl Z0)), (h4, .inl (zI g, 6, .inl G1_0)), (h0, .inr (5, [.ref h1, .int f0, .ref h2, .int f1, .int w4, .ref h3, .ref h4, .ref h5, .ref h6, .int f3, .ref h7, .ref h8, .ref h9, .int f4, .ref h10, .ref h11, .ref h12, .ref h13, .ref h14, .ref h15, .ref h16, .ref h17, .ref h18, .ref h19, .ref h20, .ref h21, .ref h22])), (h2, .inl (zI g, 60, .inl Z1))] := hD
            refine lv_if_eq (tgt := 53) hx hb dX5_lots_46 (by decide) (fun h => absurd h (by decide +kernel)) (fun _ => ?_)
            have hgd : w4.toInt < f1.toInt ∧ 48 ≤ zc Z1 w4.toInt ∧ zc Z1 w4.toInt ≤ 51 ∧ v1_0.toInt < 6 := ⟨by omega, by omega, by omega, by omega⟩
            have hI10 : zKI Z1 f1.toInt w4.toInt v1_0.toInt G1_0 := ⟨hG1_0.1, zKR_eq (hG1_0.2.1 (by omega) (by omega)) (by omega) rfl⟩
            refine lv_iconst (v := 1) hx hb dX5_lots_49 (by decide) ?_
            refine lv_goto (tgt := 54) hx hb dX5_lots_50 (by decide) ?_
            refine lv_istore_n (lv' := [(2, .int 1), (3, .int y6), (0, .ref h0), (1, .int v1_0)]) hx hb dX5_lots_54 rfl hl (by decide) rfl (fun ls hl => ?_)
            refine lv_iload_n hx hb dX5_lots_55 rfl (lv_at hl 0 rfl) ?_
            refine lv_if_eq (tgt := 82) hx hb dX5_lots_56 (by decide) (fun h => absurd h (by decide +kernel)) (fun _ => ?_)
            refine lv_aload_n hx hb dX5_lots_59 rfl (lv_at hl 2 rfl) ?_
            refine va_get (D := g.1) (ci := 5) (v := .ref h4) (C := RX5) (T := TX5) (N := 27) hx hb hts zl_X5 hown hK hP 2 rfl rfl 6 (by decide) (hts _ m_f_RX5_19) (fun _ h => h) rfl dX5_lots_60 ?_
            refine lv_iload_n hx hb dX5_lots_63 rfl (lv_at hl 3 rfl) ?_
            refine lv_iload_n hx hb dX5_lots_64 rfl (lv_at hl 1 rfl) ?_
            refine lv_bipush (v := 48) hx hb dX5_lots_65 (by decide) ?_
            refine lv_isub hx hb dX5_lots_67 ?_
            refine lv_topi (fun y11 ey11 => ?_)
            have qy11_0 : y11.toInt = y6.toInt - 48 := zi_sub ey11 (rfl) (rfl) (by omega) (by omega)
            refine va_iast (D := g.1) hx hb hK hP hD hS 1 0 rfl rfl (vp_in_iff.mpr ⟨by omega, by omega⟩) dX5_lots_68 (fun H locs hP hD hS => ?_)
            have hP : va_P g.1 vwCl [(h1, .inl (zI g, 180, .inl Z0)), (h4, .inl (zI g, 6, .inl (upd G1_0 v1_0.toNatClampNeg y11))), (h0, .inr (5, [.ref h1, .int f0, .ref h2, .int f1, .int w4, .ref h3, .ref h4, .ref h5, .ref h6, .int f3, .ref h7, .ref h8, .ref h9, .int f4, .ref h10, .ref h11, .ref h12, .ref h13, .ref h14, .ref h15, .ref h16, .ref h17, .ref h18, .ref h19, .ref h20, .ref h21, .ref h22])), (h2, .inl (zI g, 60, .inl Z1))] H := hP
            have hD : va_D A [(h1, .inl (zI g, 180, .inl Z0)), (h4, .inl (zI g, 6, .inl (upd G1_0 v1_0.toNatClampNeg y11))), (h0, .inr (5, [.ref h1, .int f0, .ref h2, .int f1, .int w4, .ref h3, .ref h4, .ref h5, .ref h6, .int f3, .ref h7, .ref h8, .ref h9, .int f4, .ref h10, .ref h11, .ref h12, .ref h13, .ref h14, .ref h15, .ref h16, .ref h17, .ref h18, .ref h19, .ref h20, .ref h21, .ref h22])), (h2, .inl (zI g, 60, .inl Z1))] := hD
            have hI12 : zKH Z1 f1.toInt w4.toInt v1_0.toInt (upd G1_0 v1_0.toNatClampNeg y11) := zKI_put (i := v1_0) hI10 hgd (rfl) (by omega) (by omega) (by omega) (by omega)
            obtain ⟨R13, eR13⟩ : ∃ z : Nat → Int32, z = (upd G1_0 v1_0.toNatClampNeg y11) := ⟨_, rfl⟩
            rw [← eR13] at hP hD hI12
            obtain ⟨y14, ey14⟩ : ∃ z : Int32, z = v1_0 + 1 := ⟨_, rfl⟩
            have qy14 : y14.toInt = v1_0.toInt + 1 := zi_add ey14 (rfl) rfl (by omega) (by omega)
            refine lv_iinc (v := y14) (lv' := [(1, .int y14), (2, .int 1), (3, .int y6), (0, .ref h0)]) hx hb dX5_lots_69 hl (k := 3) rfl ey14.symm (by decide) rfl (fun ls hl => ?_)
            refine lv_aload_n hx hb dX5_lots_72 rfl (lv_at hl 3 rfl) ?_
            refine lv_dup hx hb dX5_lots_73 rfl ?_
            refine va_get (D := g.1) (ci := 5) (v := .int w4) (C := RX5) (T := TX5) (N := 27) hx hb hts zl_X5 hown hK hP 2 rfl rfl 4 (by decide) (hts _ m_f_RX5_118) (fun _ h => h) rfl dX5_lots_74 ?_
            refine lv_iconst (v := 1) hx hb dX5_lots_77 (by decide) ?_
            refine lv_iadd hx hb dX5_lots_78 ?_
            refine lv_topi (fun y15 ey15 => ?_)
            have qy15_0 : y15.toInt = w4.toInt + 1 := zi_add ey15 (rfl) (rfl) (by omega) (by omega)
            refine va_put (D := g.1) (ci := 5) (v := .int y15) (ty := .int) (C := RX5) (T := TX5) (N := 27) hx hb hts zl_X5 tyX5 tyX5_ok nmX5 hown hK hP hD hS 2 rfl rfl 4 (by decide) (hts _ m_f_RX5_118) (fun _ h => h) rfl (by decide +kernel) rfl rfl (Nat.le_of_ble_eq_true rfl) dX5_lots_79 (fun H locs hP hD hS => ?_)
            have hP : va_P g.1 vwCl [(h1, .inl (zI g, 180, .inl Z0)), (h4, .inl (zI g, 6, .inl R13)), (h0, .inr (5, [.ref h1, .int f0, .ref h2, .int f1, .int y15, .ref h3, .ref h4, .ref h5, .ref h6, .int f3, .ref h7, .ref h8, .ref h9, .int f4, .ref h10, .ref h11, .ref h12, .ref h13, .ref h14, .ref h15, .ref h16, .ref h17, .ref h18, .ref h19, .ref h20, .ref h21, .ref h22])), (h2, .inl (zI g, 60, .inl Z1))] H := hP
            have hD : va_D A [(h1, .inl (zI g, 180, .inl Z0)), (h4, .inl (zI g, 6, .inl R13)), (h0, .inr (5, [.ref h1, .int f0, .ref h2, .int f1, .int y15, .ref h3, .ref h4, .ref h5, .ref h6, .int f3, .ref h7, .ref h8, .ref h9, .int f4, .ref h10, .ref h11, .ref h12, .ref h13, .ref h14, .ref h15, .ref h16, .ref h17, .ref h18, .ref h19, .ref h20, .ref h21, .ref h22])), (h2, .inl (zI g, 60, .inl Z1))] := hD
            have hY : y15.toInt = w4.toInt + 1 := by omega
            have hN : y14.toInt = v1_0.toInt + 1 := by omega
            have hm : zsk Z1 f1.toInt y15.toInt < f1.toInt → zLo Z1 f1.toInt (zsk Z1 f1.toInt y15.toInt) y14.toInt = zLots Z1 f1.toInt := fun h => by
              rw [hY] at h
              rw [hY, hN, ← hS9]
              exact (zLo_more hgd h).symm
            have hl9 : f1.toInt ≤ zsk Z1 f1.toInt y15.toInt → y14.toInt = zLots Z1 f1.toInt := fun h => by
              rw [hY] at h
              rw [hN, ← hS9]
              exact (zLo_last hgd h).symm
            have hI16 : zKM Z1 f1.toInt (w4.toInt + 1) (v1_0.toInt + 1) 1 R13 := zKM_of hI12 (by omega)
            refine lv_goto (tgt := 9) hx hb dX5_lots_82 (by decide) ?_
            have hP := hP.sub (ws' := [(h0, .inr (5, [.ref h1, .int f0, .ref h2, .int f1, .int y15, .ref h3, .ref h4, .ref h5, .ref h6, .int f3, .ref h7, .ref h8, .ref h9, .int f4, .ref h10, .ref h11, .ref h12, .ref h13, .ref h14, .ref h15, .ref h16, .ref h17, .ref h18, .ref h19, .ref h20, .ref h21, .ref h22])), (h1, .inl (zI g, 180, .inl Z0)), (h2, .inl (zI g, 60, .inl Z1)), (h4, .inl (zI g, 6, .inl R13))]) [2, 0, 3, 1] rfl
            have hD := hD.sub (ws' := [(h0, .inr (5, [.ref h1, .int f0, .ref h2, .int f1, .int y15, .ref h3, .ref h4, .ref h5, .ref h6, .int f3, .ref h7, .ref h8, .ref h9, .int f4, .ref h10, .ref h11, .ref h12, .ref h13, .ref h14, .ref h15, .ref h16, .ref h17, .ref h18, .ref h19, .ref h20, .ref h21, .ref h22])), (h1, .inl (zI g, 180, .inl Z0)), (h2, .inl (zI g, 60, .inl Z1)), (h4, .inl (zI g, 6, .inl R13))]) [2, 0, 3, 1] (by decide) rfl
            have : (1 : Int32).toInt = 1 := rfl
            exact ih1 y14 (1 : Int32) y15 R13 (by omega) (by omega) (zKM_eq hI16 (by omega) (by omega)) (by omega) (by omega) (by omega) (by omega) (by omega) (by omega) (by omega) (by omega) (by omega) _ _ hP hD hS ls (lv_sub hl [3, 0, 1] rfl)
        · have i_3 : v1_0.toInt ≠ 0 := z_ne (rfl) (rfl) c_3
          refine lv_aload_n hx hb dX5_lots_17 rfl (lv_at hl 0 rfl) ?_
          refine z_calli (wr := [(h1, .inl (zI g, 180, .inl Z0)), (h4, .inl (zI g, 6, .inl G1_0))]) hP hD hS hA [0, 2] [1, 3] (by decide) rfl rfl (by decide) (va_runV (As := []) (rest := []) ⟨hx, hb, hml, hown, hts⟩ (gX5_ahead l g h0 h1 h2 h3 h4 h5 h6 h7 h8 h9 h10 h11 h12 h13 h14 h15 h16 h17 h18 h19 h20 h21 h22 H.size f0 f1 g0_0 f3 f4 Z1 (by constructor <;> omega) (by constructor <;> omega) (by constructor <;> omega) (by constructor <;> omega)) ⟨callB_of 0 hts (zGood m_o_yX5_ahead) rfl rfl rfl (hts _ m_z_RX5) (hts _ m_m_RX5_121) ⟨by decide +kernel, by decide +kernel, by decide +kernel⟩ ⟨Nat.le_of_ble_eq_true rfl, Nat.le_of_ble_eq_true rfl⟩, hts _ m_i_yX5_ahead, hts _ m_e_yX5_ahead⟩ (zPreV hK hN hZ hP hD hS hA [0, 2] (by decide) rfl rfl 5 0 rfl rfl) rfl rfl hl.1 rfl (lv_room (Nat.le_of_ble_eq_true rfl)) dX5_lots_18 ⟨Nat.le_of_ble_eq_true rfl, Nat.le_of_ble_eq_true rfl⟩) (fun r u H locs hw hP hD hS => ?_)
          obtain ⟨w17, rfl⟩ : ∃ z, z = u := ⟨_, rfl⟩
          obtain ⟨hw, hI18⟩ := hw
          obtain ⟨hI18a, hI18b⟩ := hI18
          obtain ⟨y19, rfl⟩ : ∃ z, z = r := ⟨_, rfl⟩
          obtain ⟨q20_0, q20_1, q20_2, q20_3, q20_4⟩ := hw
          have q20_0 : (y19.toInt = -1 ∨ w17.toInt < f1.toInt) := q20_0
          have q20_1 : g0_0.toInt ≤ w17.toInt := q20_1
          have q20_2 : w17.toInt = zsk Z1 f1.toInt g0_0.toInt := q20_2
          have q20_3 : (w17.toInt < f1.toInt → y19.toInt = zc Z1 w17.toInt) := q20_3
          have q20_4 : (f1.toInt ≤ w17.toInt → y19.toInt = -1) := q20_4
          have hP : va_P g.1 vwCl [(h1, .inl (zI g, 180, .inl Z0)), (h4, .inl (zI g, 6, .inl G1_0)), (h0, .inr (5, [.ref h1, .int f0, .ref h2, .int f1, .int w17, .ref h3, .ref h4, .ref h5, .ref h6, .int f3, .ref h7, .ref h8, .ref h9, .int f4, .ref h10, .ref h11, .ref h12, .ref h13, .ref h14, .ref h15, .ref h16, .ref h17, .ref h18, .ref h19, .ref h20, .ref h21, .ref h22])), (h2, .inl (zI g, 60, .inl Z1))] H := hP
          have hD : va_D A [(h1, .inl (zI g, 180, .inl Z0)), (h4, .inl (zI g, 6, .inl G1_0)), (h0, .inr (5, [.ref h1, .int f0, .ref h2, .int f1, .int w17, .ref h3, .ref h4, .ref h5, .ref h6, .int f3, .ref h7, .ref h8, .ref h9, .int f4, .ref h10, .ref h11, .ref h12, .ref h13, .ref h14, .ref h15, .ref h16, .ref h17, .ref h18, .ref h19, .ref h20, .ref h21, .ref h22])), (h2, .inl (zI g, 60, .inl Z1))] := hD
          have hps : w17.toInt < f1.toInt → 0 ≤ zc Z1 w17.toInt := fun h => (zPos_at (by omega) _ (by omega) h).1
          refine lv_if_lt (tgt := 85) hx hb dX5_lots_21 (by decide) (fun c_10 => ?_) (fun c_10 => ?_)
          · have i_10 : y19.toInt < 0 := z_lt (rfl) (rfl) c_10
            refine lv_aload_n hx hb dX5_lots_85 rfl (lv_at hl 0 rfl) ?_
            refine lv_iconst (v := 0) hx hb dX5_lots_86 (by decide) ?_
            refine va_put (D := g.1) (ci := 5) (v := .int 0) (ty := .int) (C := RX5) (T := TX5) (N := 27) hx hb hts zl_X5 tyX5 tyX5_ok nmX5 hown hK hP hD hS 2 rfl rfl 3 (by decide) (hts _ m_f_RX5_114) (fun _ h => h) rfl (by decide +kernel) rfl rfl (Nat.le_of_ble_eq_true rfl) dX5_lots_87 (fun H locs hP hD hS => ?_)
            have hP : va_P g.1 vwCl [(h1, .inl (zI g, 180, .inl Z0)), (h4, .inl (zI g, 6, .inl G1_0)), (h0, .inr (5, [.ref h1, .int f0, .ref h2, .int 0, .int w17, .ref h3, .ref h4, .ref h5, .ref h6, .int f3, .ref h7, .ref h8, .ref h9, .int f4, .ref h10, .ref h11, .ref h12, .ref h13, .ref h14, .ref h15, .ref h16, .ref h17, .ref h18, .ref h19, .ref h20, .ref h21, .ref h22])), (h2, .inl (zI g, 60, .inl Z1))] H := hP
            have hD : va_D A [(h1, .inl (zI g, 180, .inl Z0)), (h4, .inl (zI g, 6, .inl G1_0)), (h0, .inr (5, [.ref h1, .int f0, .ref h2, .int 0, .int w17, .ref h3, .ref h4, .ref h5, .ref h6, .int f3, .ref h7, .ref h8, .ref h9, .int f4, .ref h10, .ref h11, .ref h12, .ref h13, .ref h14, .ref h15, .ref h16, .ref h17, .ref h18, .ref h19, .ref h20, .ref h21, .ref h22])), (h2, .inl (zI g, 60, .inl Z1))] := hD
            refine lv_iload_n hx hb dX5_lots_90 rfl (lv_at hl 2 rfl) ?_
            refine lv_if_ne (tgt := 102) hx hb dX5_lots_91 (by decide) (fun c_11 => ?_) (fun c_11 => absurd (show v2_0.toInt = 0 from z_eq (rfl) (rfl) c_11) (by omega))
            have i_11 : v2_0.toInt ≠ 0 := z_ne (rfl) (rfl) c_11
            have hI21 : zKT Z1 f1.toInt G1_0 := zKM_end hG1_0 (by omega) (by omega) (by omega) (by omega)
            have hI22 : iKd G1_0 := hG1_0.1
            refine lv_aload_n hx hb dX5_lots_102 rfl (lv_at hl 0 rfl) ?_
            refine va_get (D := g.1) (ci := 5) (v := .ref h1) (C := RX5) (T := TX5) (N := 27) hx hb hts zl_X5 hown hK hP 2 rfl rfl 0 (by decide) (hts _ m_f_RX5_7) (fun _ h => h) rfl dX5_lots_103 ?_
            refine lv_iconst (v := 5) hx hb dX5_lots_106 (by decide) ?_
            refine lv_iload_n hx hb dX5_lots_107 rfl (lv_at hl 1 rfl) ?_
            refine va_iast (D := g.1) hx hb hK hP hD hS 0 0 rfl rfl (vp_in_iff.mpr (by decide +kernel)) dX5_lots_108 (fun H locs hP hD hS => ?_)
            have hP : va_P g.1 vwCl [(h1, .inl (zI g, 180, .inl (upd Z0 5 v1_0))), (h4, .inl (zI g, 6, .inl G1_0)), (h0, .inr (5, [.ref h1, .int f0, .ref h2, .int 0, .int w17, .ref h3, .ref h4, .ref h5, .ref h6, .int f3, .ref h7, .ref h8, .ref h9, .int f4, .ref h10, .ref h11, .ref h12, .ref h13, .ref h14, .ref h15, .ref h16, .ref h17, .ref h18, .ref h19, .ref h20, .ref h21, .ref h22])), (h2, .inl (zI g, 60, .inl Z1))] H := hP
            have hD : va_D A [(h1, .inl (zI g, 180, .inl (upd Z0 5 v1_0))), (h4, .inl (zI g, 6, .inl G1_0)), (h0, .inr (5, [.ref h1, .int f0, .ref h2, .int 0, .int w17, .ref h3, .ref h4, .ref h5, .ref h6, .int f3, .ref h7, .ref h8, .ref h9, .int f4, .ref h10, .ref h11, .ref h12, .ref h13, .ref h14, .ref h15, .ref h16, .ref h17, .ref h18, .ref h19, .ref h20, .ref h21, .ref h22])), (h2, .inl (zI g, 60, .inl Z1))] := hD
            have hI23 : zKW K B C (v1_0.toInt) G1_0 0 (upd Z0 5 v1_0) := zKW_0 hF_Z0 rfl (by omega) (by omega)
            obtain ⟨R24, eR24⟩ : ∃ z : Nat → Int32, z = (upd Z0 5 v1_0) := ⟨_, rfl⟩
            rw [← eR24] at hP hD hI23
            refine lv_iconst (v := 0) hx hb dX5_lots_109 (by decide) ?_
            refine lv_istore_n (lv' := [(3, .int 0), (0, .ref h0), (1, .int v1_0), (2, .int v2_0)]) hx hb dX5_lots_110 rfl hl (by decide) rfl (fun ls hl => ?_)
            have loop111_12 : ∀ (n13 : Nat) (v3_12 : Int32) (G0_12 : Nat → Int32) (hG0_12 : zKW K B C (v1_0.toInt) G1_0 (v3_12.toInt) G0_12) (n13_0 : 0 ≤ v3_12.toInt) (n13_1 : v3_12.toInt ≤ v1_0.toInt) (hm13 : 6 - v3_12.toInt < (n13 : Int)) (H : Heap) (locs : List Loc), va_P g.1 vwCl [(h1, .inl (zI g, 180, .inl G0_12)), (h4, .inl (zI g, 6, .inl G1_0)), (h0, .inr (5, [.ref h1, .int f0, .ref h2, .int 0, .int w17, .ref h3, .ref h4, .ref h5, .ref h6, .int f3, .ref h7, .ref h8, .ref h9, .int f4, .ref h10, .ref h11, .ref h12, .ref h13, .ref h14, .ref h15, .ref h16, .ref h17, .ref h18, .ref h19, .ref h20, .ref h21, .ref h22])), (h2, .inl (zI g, 60, .inl Z1))] H → va_D A [(h1, .inl (zI g, 180, .inl G0_12)), (h4, .inl (zI g, 6, .inl G1_0)), (h0, .inr (5, [.ref h1, .int f0, .ref h2, .int 0, .int w17, .ref h3, .ref h4, .ref h5, .ref h6, .int f3, .ref h7, .ref h8, .ref h9, .int f4, .ref h10, .ref h11, .ref h12, .ref h13, .ref h14, .ref h15, .ref h16, .ref h17, .ref h18, .ref h19, .ref h20, .ref h21, .ref h22])), (h2, .inl (zI g, 60, .inl Z1))] → va_S A s.heap H locs → ∀ (ls : Array Slot), lv_has ls 4 [(0, .ref h0), (1, .int v1_0), (2, .int v2_0), (3, .int v3_12)] → W p l e ({ frames := 1, cells := 0, slots := 0, locals := 25 }) s m args below meth c H locs 0 0 (MQ below (va_Qi (fun (r : Int32) (u : Int32 × Int32 × (Nat → Int32) × (Nat → Int32)) => (u.1.toInt = 0 ∧ r.toInt = zLots Z1 f1.toInt) ∧ (0 ≤ u.1.toInt ∧ u.1.toInt ≤ 60) ∧ (0 ≤ u.2.1.toInt ∧ u.2.1.toInt ≤ 60) ∧ iW K (zLtB B Z1 f1.toInt) C u.2.2.1 ∧ iKd u.2.2.2) (zPost g (fun u : Int32 × Int32 × (Nat → Int32) × (Nat → Int32) => [(h0, .inr (5, [.ref h1, .int f0, .ref h2, .int u.1, .int u.2.1, .ref h3, .ref h4, .ref h5, .ref h6, .int f3, .ref h7, .ref h8, .ref h9, .int f4, .ref h10, .ref h11, .ref h12, .ref h13, .ref h14, .ref h15, .ref h16, .ref h17, .ref h18, .ref h19, .ref h20, .ref h21, .ref h22])), (h1, .inl (zI g, 180, .inl u.2.2.1)), (h2, .inl (zI g, 60, .inl Z1)), (h4, .inl (zI g, 6, .inl u.2.2.2))]) A) A) args s 0 0 A) (F0 m 111 ls []) := by
              intro n13
              induction n13 with
              | zero => intro v3_12 G0_12 hG0_12 n13_0 n13_1 hm13; exfalso; omega
              | succ n13 ih13 =>
                intro v3_12 G0_12 hG0_12 n13_0 n13_1 hm13 H locs hP hD hS ls hl
                refine lv_iload_n hx hb dX5_lots_111 rfl (lv_at hl 3 rfl) ?_
                refine lv_iload_n hx hb dX5_lots_112 rfl (lv_at hl 1 rfl) ?_
                refine lv_icmp_ge (tgt := 137) hx hb dX5_lots_113 (by decide) (fun c_13 => ?_) (fun c_13 => ?_)
                · have i_13 : v1_0.toInt ≤ v3_12.toInt := z_le (rfl) (rfl) c_13
                  have hI25 : iW K (zLtB B Z1 f1.toInt) C G0_12 := zKW_end hG0_12 (by omega) hI21 (by omega) (by omega)
                  refine lv_iload_n hx hb dX5_lots_137 rfl (lv_at hl 1 rfl) ?_
                  have hP9 := hP.sub (ws' := [(h0, .inr (5, [.ref h1, .int f0, .ref h2, .int 0, .int w17, .ref h3, .ref h4, .ref h5, .ref h6, .int f3, .ref h7, .ref h8, .ref h9, .int f4, .ref h10, .ref h11, .ref h12, .ref h13, .ref h14, .ref h15, .ref h16, .ref h17, .ref h18, .ref h19, .ref h20, .ref h21, .ref h22])), (h1, .inl (zI g, 180, .inl G0_12)), (h2, .inl (zI g, 60, .inl Z1)), (h4, .inl (zI g, 6, .inl G1_0))]) [2, 0, 3, 1] rfl
                  have hD9 := hD.sub (ws' := [(h0, .inr (5, [.ref h1, .int f0, .ref h2, .int 0, .int w17, .ref h3, .ref h4, .ref h5, .ref h6, .int f3, .ref h7, .ref h8, .ref h9, .int f4, .ref h10, .ref h11, .ref h12, .ref h13, .ref h14, .ref h15, .ref h16, .ref h17, .ref h18, .ref h19, .ref h20, .ref h21, .ref h22])), (h1, .inl (zI g, 180, .inl G0_12)), (h2, .inl (zI g, 60, .inl Z1)), (h4, .inl (zI g, 6, .inl G1_0))]) [2, 0, 3, 1] (by decide) rfl
                  exact W.iret (v := v1_0) hx hb hr (fun t ht hW => ⟨⟨v1_0, ⟨0, w17, G0_12, G1_0⟩, rfl, ⟨⟨(show 0 = 0 from by first | omega | decide), (by first | omega | decide)⟩, ⟨show 0 ≤ (0 : Int32).toInt from by decide, show (0 : Int32).toInt ≤ 60 from by decide⟩, ⟨show 0 ≤ w17.toInt from by omega, show w17.toInt ≤ 60 from by omega⟩, hI25, hI22⟩, by rw [ht]; exact hP9, hD9⟩, hS.F ht⟩) hS.2.2 dX5_lots_138
                · have i_13 : v3_12.toInt < v1_0.toInt := z_nle (rfl) (rfl) c_13
                  refine lv_aload_n hx hb dX5_lots_116 rfl (lv_at hl 0 rfl) ?_
                  refine va_get (D := g.1) (ci := 5) (v := .ref h1) (C := RX5) (T := TX5) (N := 27) hx hb hts zl_X5 hown hK hP 2 rfl rfl 0 (by decide) (hts _ m_f_RX5_7) (fun _ h => h) rfl dX5_lots_117 ?_
                  refine lv_bipush (v := 6) hx hb dX5_lots_120 (by decide) ?_
                  refine lv_iload_n hx hb dX5_lots_122 rfl (lv_at hl 3 rfl) ?_
                  refine lv_iadd hx hb dX5_lots_123 ?_
                  refine lv_topi (fun y26 ey26 => ?_)
                  have qy26_0 : y26.toInt = 6 + v3_12.toInt := zi_add ey26 (rfl) (rfl) (by omega) (by omega)
                  refine lv_aload_n hx hb dX5_lots_124 rfl (lv_at hl 0 rfl) ?_
                  refine va_get (D := g.1) (ci := 5) (v := .ref h4) (C := RX5) (T := TX5) (N := 27) hx hb hts zl_X5 hown hK hP 2 rfl rfl 6 (by decide) (hts _ m_f_RX5_19) (fun _ h => h) rfl dX5_lots_125 ?_
                  refine lv_iload_n hx hb dX5_lots_128 rfl (lv_at hl 3 rfl) ?_
                  refine va_iald (D := g.1) hx hb hK hP 1 0 rfl rfl (vp_in_iff.mpr ⟨by omega, by omega⟩) dX5_lots_129 ?_
                  refine lv_topi (fun y27 ey27 => ?_)
                  have qy27_0 : 0 ≤ y27.toInt := (ey27 ▸ (hI22 _ (z_idx (vp_in_iff.mpr ⟨by omega, by omega⟩))).1)
                  have qy27_1 : y27.toInt ≤ 3 := (ey27 ▸ (hI22 _ (z_idx (vp_in_iff.mpr ⟨by omega, by omega⟩))).2)
                  have qy27_2 : y27.toInt = (G1_0 v3_12.toNatClampNeg).toInt := congrArg Int32.toInt ey27
                  refine va_iast (D := g.1) hx hb hK hP hD hS 0 0 rfl rfl (vp_in_iff.mpr ⟨by omega, by omega⟩) dX5_lots_130 (fun H locs hP hD hS => ?_)
                  have hP : va_P g.1 vwCl [(h1, .inl (zI g, 180, .inl (upd G0_12 y26.toNatClampNeg y27))), (h4, .inl (zI g, 6, .inl G1_0)), (h0, .inr (5, [.ref h1, .int f0, .ref h2, .int 0, .int w17, .ref h3, .ref h4, .ref h5, .ref h6, .int f3, .ref h7, .ref h8, .ref h9, .int f4, .ref h10, .ref h11, .ref h12, .ref h13, .ref h14, .ref h15, .ref h16, .ref h17, .ref h18, .ref h19, .ref h20, .ref h21, .ref h22])), (h2, .inl (zI g, 60, .inl Z1))] H := hP
                  have hD : va_D A [(h1, .inl (zI g, 180, .inl (upd G0_12 y26.toNatClampNeg y27))), (h4, .inl (zI g, 6, .inl G1_0)), (h0, .inr (5, [.ref h1, .int f0, .ref h2, .int 0, .int w17, .ref h3, .ref h4, .ref h5, .ref h6, .int f3, .ref h7, .ref h8, .ref h9, .int f4, .ref h10, .ref h11, .ref h12, .ref h13, .ref h14, .ref h15, .ref h16, .ref h17, .ref h18, .ref h19, .ref h20, .ref h21, .ref h22])), (h2, .inl (zI g, 60, .inl Z1))] := hD
                  have hI28 : zKW K B C (v1_0.toInt) G1_0 (v3_12.toInt + 1) (upd G0_12 y26.toNatClampNeg y27) := zKW_put (i := y26) (a := v3_12.toInt) (q := v3_12) (v := y27) hG0_12 (by omega) (by omega) (by omega) rfl ey27 ⟨by omega, by omega⟩
                  obtain ⟨R29, eR29⟩ : ∃ z : Nat → Int32, z = (upd G0_12 y26.toNatClampNeg y27) := ⟨_, rfl⟩
                  rw [← eR29] at hP hD hI28
                  obtain ⟨y30, ey30⟩ : ∃ z : Int32, z = v3_12 + 1 := ⟨_, rfl⟩
                  have qy30 : y30.toInt = v3_12.toInt + 1 := zi_add ey30 (rfl) rfl (by omega) (by omega)
                  refine lv_iinc (v := y30) (lv' := [(3, .int y30), (0, .ref h0), (1, .int v1_0), (2, .int v2_0)]) hx hb dX5_lots_131 hl (k := 3) rfl ey30.symm (by decide) rfl (fun ls hl => ?_)
                  refine lv_goto (tgt := 111) hx hb dX5_lots_134 (by decide) ?_
                  exact ih13 y30 R29 (zKW_eq hI28 (by omega)) (by omega) (by omega) (by omega) _ _ hP hD hS ls (lv_sub hl [1, 2, 3, 0] rfl)
            have : (0 : Int32).toInt = 0 := rfl
            exact loop111_12 ((6 - 0 : Int).toNat + 1) (0 : Int32) R24 (zKW_eq hI23 (by omega)) (by omega) (by omega) (by omega) _ _ hP hD hS ls (lv_sub hl [1, 2, 3, 0] rfl)
          · have i_10 : 0 ≤ y19.toInt := z_nlt (rfl) (rfl) c_10
            refine lv_aload_n hx hb dX5_lots_24 rfl (lv_at hl 0 rfl) ?_
            refine z_calli (wr := [(h1, .inl (zI g, 180, .inl Z0)), (h4, .inl (zI g, 6, .inl G1_0))]) hP hD hS hA [2, 3] [0, 1] (by decide) rfl rfl (by decide) (va_runV (As := []) (rest := []) ⟨hx, hb, hml, hown, hts⟩ (gX5_ahead l g h0 h1 h2 h3 h4 h5 h6 h7 h8 h9 h10 h11 h12 h13 h14 h15 h16 h17 h18 h19 h20 h21 h22 H.size f0 f1 w17 f3 f4 Z1 (by constructor <;> omega) (by constructor <;> omega) (by constructor <;> omega) (by constructor <;> omega)) ⟨callB_of 0 hts (zGood m_o_yX5_ahead) rfl rfl rfl (hts _ m_z_RX5) (hts _ m_m_RX5_121) ⟨by decide +kernel, by decide +kernel, by decide +kernel⟩ ⟨Nat.le_of_ble_eq_true rfl, Nat.le_of_ble_eq_true rfl⟩, hts _ m_i_yX5_ahead, hts _ m_e_yX5_ahead⟩ (zPreV hK hN hZ hP hD hS hA [2, 3] (by decide) rfl rfl 5 2 rfl rfl) rfl rfl hl.1 rfl (lv_room (Nat.le_of_ble_eq_true rfl)) dX5_lots_25 ⟨Nat.le_of_ble_eq_true rfl, Nat.le_of_ble_eq_true rfl⟩) (fun r u H locs hw hP hD hS => ?_)
            obtain ⟨w31, rfl⟩ : ∃ z, z = u := ⟨_, rfl⟩
            obtain ⟨hw, hI32⟩ := hw
            obtain ⟨hI32a, hI32b⟩ := hI32
            obtain ⟨y33, rfl⟩ : ∃ z, z = r := ⟨_, rfl⟩
            obtain ⟨q34_0, q34_1, q34_2, q34_3, q34_4⟩ := hw
            have q34_0 : (y33.toInt = -1 ∨ w31.toInt < f1.toInt) := q34_0
            have q34_1 : w17.toInt ≤ w31.toInt := q34_1
            have q34_2 : w31.toInt = zsk Z1 f1.toInt w17.toInt := q34_2
            have q34_3 : (w31.toInt < f1.toInt → y33.toInt = zc Z1 w31.toInt) := q34_3
            have q34_4 : (f1.toInt ≤ w31.toInt → y33.toInt = -1) := q34_4
            have hP : va_P g.1 vwCl [(h1, .inl (zI g, 180, .inl Z0)), (h4, .inl (zI g, 6, .inl G1_0)), (h0, .inr (5, [.ref h1, .int f0, .ref h2, .int f1, .int w31, .ref h3, .ref h4, .ref h5, .ref h6, .int f3, .ref h7, .ref h8, .ref h9, .int f4, .ref h10, .ref h11, .ref h12, .ref h13, .ref h14, .ref h15, .ref h16, .ref h17, .ref h18, .ref h19, .ref h20, .ref h21, .ref h22])), (h2, .inl (zI g, 60, .inl Z1))] H := hP
            have hD : va_D A [(h1, .inl (zI g, 180, .inl Z0)), (h4, .inl (zI g, 6, .inl G1_0)), (h0, .inr (5, [.ref h1, .int f0, .ref h2, .int f1, .int w31, .ref h3, .ref h4, .ref h5, .ref h6, .int f3, .ref h7, .ref h8, .ref h9, .int f4, .ref h10, .ref h11, .ref h12, .ref h13, .ref h14, .ref h15, .ref h16, .ref h17, .ref h18, .ref h19, .ref h20, .ref h21, .ref h22])), (h2, .inl (zI g, 60, .inl Z1))] := hD
            have hA9 : w31.toInt = zsk Z1 f1.toInt g0_0.toInt := by
              have h1 : w17.toInt = zsk Z1 f1.toInt g0_0.toInt := by omega
              have h2 : w31.toInt = zsk Z1 f1.toInt w17.toInt := by omega
              rw [h2, h1]
              exact zsk_i
            have hS9 : zLo Z1 f1.toInt w31.toInt v1_0.toInt = zLots Z1 f1.toInt := by
              rw [hA9]
              omega
            refine lv_istore_n (lv' := [(3, .int y33), (0, .ref h0), (1, .int v1_0), (2, .int v2_0)]) hx hb dX5_lots_28 rfl hl (by decide) rfl (fun ls hl => ?_)
            refine lv_iload_n hx hb dX5_lots_29 rfl (lv_at hl 2 rfl) ?_
            refine lv_bipush (v := 6) hx hb dX5_lots_30 (by decide) ?_
            refine lv_icmp_ge (tgt := 53) hx hb dX5_lots_32 (by decide) (fun c_14 => ?_) (fun c_14 => ?_)
            · have i_14 : 6 ≤ v1_0.toInt := z_le (rfl) (rfl) c_14
              have hzb := zLo_bad (F := Z1) (len := f1.toInt) (p := w31.toInt) (n := v1_0.toInt) (by omega) (by omega)
              refine lv_iconst (v := 0) hx hb dX5_lots_53 (by decide) ?_
              refine lv_istore_n (lv' := [(2, .int 0), (3, .int y33), (0, .ref h0), (1, .int v1_0)]) hx hb dX5_lots_54 rfl hl (by decide) rfl (fun ls hl => ?_)
              refine lv_iload_n hx hb dX5_lots_55 rfl (lv_at hl 0 rfl) ?_
              refine lv_if_eq (tgt := 82) hx hb dX5_lots_56 (by decide) (fun _ => ?_) (fun h => absurd h (by decide +kernel))
              have hI35 : zKM Z1 f1.toInt w31.toInt v1_0.toInt 0 G1_0 := zKM_bad hG1_0.1
              refine lv_goto (tgt := 9) hx hb dX5_lots_82 (by decide) ?_
              have hP := hP.sub (ws' := [(h0, .inr (5, [.ref h1, .int f0, .ref h2, .int f1, .int w31, .ref h3, .ref h4, .ref h5, .ref h6, .int f3, .ref h7, .ref h8, .ref h9, .int f4, .ref h10, .ref h11, .ref h12, .ref h13, .ref h14, .ref h15, .ref h16, .ref h17, .ref h18, .ref h19, .ref h20, .ref h21, .ref h22])), (h1, .inl (zI g, 180, .inl Z0)), (h2, .inl (zI g, 60, .inl Z1)), (h4, .inl (zI g, 6, .inl G1_0))]) [2, 0, 3, 1] rfl
              have hD := hD.sub (ws' := [(h0, .inr (5, [.ref h1, .int f0, .ref h2, .int f1, .int w31, .ref h3, .ref h4, .ref h5, .ref h6, .int f3, .ref h7, .ref h8, .ref h9, .int f4, .ref h10, .ref h11, .ref h12, .ref h13, .ref h14, .ref h15, .ref h16, .ref h17, .ref h18, .ref h19, .ref h20, .ref h21, .ref h22])), (h1, .inl (zI g, 180, .inl Z0)), (h2, .inl (zI g, 60, .inl Z1)), (h4, .inl (zI g, 6, .inl G1_0))]) [2, 0, 3, 1] (by decide) rfl
              have : (0 : Int32).toInt = 0 := rfl
              exact ih1 v1_0 (0 : Int32) w31 G1_0 (by omega) (by omega) (zKM_eq hI35 (by omega) (by omega)) (by omega) (by omega) (by omega) (by omega) (by omega) (by omega) (by omega) (by omega) (by omega) _ _ hP hD hS ls (lv_sub hl [2, 3, 0] rfl)
            · have i_14 : v1_0.toInt < 6 := z_nle (rfl) (rfl) c_14
              refine lv_iload_n hx hb dX5_lots_35 rfl (lv_at hl 0 rfl) ?_
              refine lv_i2l (v := y33.toInt64) hx hb dX5_lots_36 rfl ?_
              refine lv_ldc2 (v := 48) hx hb hown (hts _ m_k_RX5_128) dX5_lots_37 ?_
              refine lv_ldc2 (v := 51) hx hb hown (hts _ m_k_RX5_139) dX5_lots_40 ?_
              refine z_calli (wr := [(h1, .inl (zI g, 180, .inl Z0)), (h4, .inl (zI g, 6, .inl G1_0)), (h0, .inr (5, [.ref h1, .int f0, .ref h2, .int f1, .int w31, .ref h3, .ref h4, .ref h5, .ref h6, .int f3, .ref h7, .ref h8, .ref h9, .int f4, .ref h10, .ref h11, .ref h12, .ref h13, .ref h14, .ref h15, .ref h16, .ref h17, .ref h18, .ref h19, .ref h20, .ref h21, .ref h22])), (h2, .inl (zI g, 60, .inl Z1))]) hP hD hS hA [] [0, 1, 2, 3] (by decide) rfl rfl (by decide) (va_runS (As := [.long y33.toInt64, .long 48, .long 51]) (rest := []) ⟨hx, hb, hml, hown, hts⟩ (gX5_in l g  H.size y33.toInt64 (48 : Int64) (51 : Int64)) ⟨callB_of 3 hts (zGood m_o_yX5_in) rfl rfl rfl (hts _ m_z_RX5) (hts _ m_m_RX5_77) ⟨by decide +kernel, by decide +kernel, by decide +kernel⟩ ⟨Nat.le_of_ble_eq_true rfl, Nat.le_of_ble_eq_true rfl⟩, hts _ m_s_yX5_in⟩ (zPreS hK hN hZ hP hD hS hA [] (by decide) rfl rfl) rfl rfl hl.1 rfl (lv_room (Nat.le_of_ble_eq_true rfl)) dX5_lots_43 ⟨Nat.le_of_ble_eq_true rfl, Nat.le_of_ble_eq_true rfl⟩) (fun r u H locs hw hP hD hS => ?_)
              rcases hw with ⟨i_15, rfl⟩ | ⟨i_16, i_17, rfl⟩ | ⟨i_18, i_19, rfl⟩
              · skip
                have i_15 : y33.toInt < 48 := by (try simp only [Int32.toInt_toInt64] at i_15); exact i_15
                have hP : va_P g.1 vwCl [(h1, .inl (zI g, 180, .inl Z0)), (h4, .inl (zI g, 6, .inl G1_0)), (h0, .inr (5, [.ref h1, .int f0, .ref h2, .int f1, .int w31, .ref h3, .ref h4, .ref h5, .ref h6, .int f3, .ref h7, .ref h8, .ref h9, .int f4, .ref h10, .ref h11, .ref h12, .ref h13, .ref h14, .ref h15, .ref h16, .ref h17, .ref h18, .ref h19, .ref h20, .ref h21, .ref h22])), (h2, .inl (zI g, 60, .inl Z1))] H := hP
                have hD : va_D A [(h1, .inl (zI g, 180, .inl Z0)), (h4, .inl (zI g, 6, .inl G1_0)), (h0, .inr (5, [.ref h1, .int f0, .ref h2, .int f1, .int w31, .ref h3, .ref h4, .ref h5, .ref h6, .int f3, .ref h7, .ref h8, .ref h9, .int f4, .ref h10, .ref h11, .ref h12, .ref h13, .ref h14, .ref h15, .ref h16, .ref h17, .ref h18, .ref h19, .ref h20, .ref h21, .ref h22])), (h2, .inl (zI g, 60, .inl Z1))] := hD
                refine lv_if_eq (tgt := 53) hx hb dX5_lots_46 (by decide) (fun _ => ?_) (fun h => absurd h (by decide +kernel))
                have hzb := zLo_bad (F := Z1) (len := f1.toInt) (p := w31.toInt) (n := v1_0.toInt) (by omega) (by omega)
                refine lv_iconst (v := 0) hx hb dX5_lots_53 (by decide) ?_
                refine lv_istore_n (lv' := [(2, .int 0), (3, .int y33), (0, .ref h0), (1, .int v1_0)]) hx hb dX5_lots_54 rfl hl (by decide) rfl (fun ls hl => ?_)
                refine lv_iload_n hx hb dX5_lots_55 rfl (lv_at hl 0 rfl) ?_
                refine lv_if_eq (tgt := 82) hx hb dX5_lots_56 (by decide) (fun _ => ?_) (fun h => absurd h (by decide +kernel))
                have hI36 : zKM Z1 f1.toInt w31.toInt v1_0.toInt 0 G1_0 := zKM_bad hG1_0.1
                refine lv_goto (tgt := 9) hx hb dX5_lots_82 (by decide) ?_
                have hP := hP.sub (ws' := [(h0, .inr (5, [.ref h1, .int f0, .ref h2, .int f1, .int w31, .ref h3, .ref h4, .ref h5, .ref h6, .int f3, .ref h7, .ref h8, .ref h9, .int f4, .ref h10, .ref h11, .ref h12, .ref h13, .ref h14, .ref h15, .ref h16, .ref h17, .ref h18, .ref h19, .ref h20, .ref h21, .ref h22])), (h1, .inl (zI g, 180, .inl Z0)), (h2, .inl (zI g, 60, .inl Z1)), (h4, .inl (zI g, 6, .inl G1_0))]) [2, 0, 3, 1] rfl
                have hD := hD.sub (ws' := [(h0, .inr (5, [.ref h1, .int f0, .ref h2, .int f1, .int w31, .ref h3, .ref h4, .ref h5, .ref h6, .int f3, .ref h7, .ref h8, .ref h9, .int f4, .ref h10, .ref h11, .ref h12, .ref h13, .ref h14, .ref h15, .ref h16, .ref h17, .ref h18, .ref h19, .ref h20, .ref h21, .ref h22])), (h1, .inl (zI g, 180, .inl Z0)), (h2, .inl (zI g, 60, .inl Z1)), (h4, .inl (zI g, 6, .inl G1_0))]) [2, 0, 3, 1] (by decide) rfl
                have : (0 : Int32).toInt = 0 := rfl
                exact ih1 v1_0 (0 : Int32) w31 G1_0 (by omega) (by omega) (zKM_eq hI36 (by omega) (by omega)) (by omega) (by omega) (by omega) (by omega) (by omega) (by omega) (by omega) (by omega) (by omega) _ _ hP hD hS ls (lv_sub hl [2, 3, 0] rfl)
              · skip
                have i_16 : 48 ≤ y33.toInt := by (try simp only [Int32.toInt_toInt64] at i_16); exact i_16
                have i_17 : 51 < y33.toInt := by (try simp only [Int32.toInt_toInt64] at i_17); exact i_17
                have hP : va_P g.1 vwCl [(h1, .inl (zI g, 180, .inl Z0)), (h4, .inl (zI g, 6, .inl G1_0)), (h0, .inr (5, [.ref h1, .int f0, .ref h2, .int f1, .int w31, .ref h3, .ref h4, .ref h5, .ref h6, .int f3, .ref h7, .ref h8, .ref h9, .int f4, .ref h10, .ref h11, .ref h12, .ref h13, .ref h14, .ref h15, .ref h16, .ref h17, .ref h18, .ref h19, .ref h20, .ref h21, .ref h22])), (h2, .inl (zI g, 60, .inl Z1))] H := hP
                have hD : va_D A [(h1, .inl (zI g, 180, .inl Z0)), (h4, .inl (zI g, 6, .inl G1_0)), (h0, .inr (5, [.ref h1, .int f0, .ref h2, .int f1, .int w31, .ref h3, .ref h4, .ref h5, .ref h6, .int f3, .ref h7, .ref h8, .ref h9, .int f4, .ref h10, .ref h11, .ref h12, .ref h13, .ref h14, .ref h15, .ref h16, .ref h17, .ref h18, .ref h19, .ref h20, .ref h21, .ref h22])), (h2, .inl (zI g, 60, .inl Z1))] := hD
                refine lv_if_eq (tgt := 53) hx hb dX5_lots_46 (by decide) (fun _ => ?_) (fun h => absurd h (by decide +kernel))
                have hzb := zLo_bad (F := Z1) (len := f1.toInt) (p := w31.toInt) (n := v1_0.toInt) (by omega) (by omega)
                refine lv_iconst (v := 0) hx hb dX5_lots_53 (by decide) ?_
                refine lv_istore_n (lv' := [(2, .int 0), (3, .int y33), (0, .ref h0), (1, .int v1_0)]) hx hb dX5_lots_54 rfl hl (by decide) rfl (fun ls hl => ?_)
                refine lv_iload_n hx hb dX5_lots_55 rfl (lv_at hl 0 rfl) ?_
                refine lv_if_eq (tgt := 82) hx hb dX5_lots_56 (by decide) (fun _ => ?_) (fun h => absurd h (by decide +kernel))
                have hI37 : zKM Z1 f1.toInt w31.toInt v1_0.toInt 0 G1_0 := zKM_bad hG1_0.1
                refine lv_goto (tgt := 9) hx hb dX5_lots_82 (by decide) ?_
                have hP := hP.sub (ws' := [(h0, .inr (5, [.ref h1, .int f0, .ref h2, .int f1, .int w31, .ref h3, .ref h4, .ref h5, .ref h6, .int f3, .ref h7, .ref h8, .ref h9, .int f4, .ref h10, .ref h11, .ref h12, .ref h13, .ref h14, .ref h15, .ref h16, .ref h17, .ref h18, .ref h19, .ref h20, .ref h21, .ref h22])), (h1, .inl (zI g, 180, .inl Z0)), (h2, .inl (zI g, 60, .inl Z1)), (h4, .inl (zI g, 6, .inl G1_0))]) [2, 0, 3, 1] rfl
                have hD := hD.sub (ws' := [(h0, .inr (5, [.ref h1, .int f0, .ref h2, .int f1, .int w31, .ref h3, .ref h4, .ref h5, .ref h6, .int f3, .ref h7, .ref h8, .ref h9, .int f4, .ref h10, .ref h11, .ref h12, .ref h13, .ref h14, .ref h15, .ref h16, .ref h17, .ref h18, .ref h19, .ref h20, .ref h21, .ref h22])), (h1, .inl (zI g, 180, .inl Z0)), (h2, .inl (zI g, 60, .inl Z1)), (h4, .inl (zI g, 6, .inl G1_0))]) [2, 0, 3, 1] (by decide) rfl
                have : (0 : Int32).toInt = 0 := rfl
                exact ih1 v1_0 (0 : Int32) w31 G1_0 (by omega) (by omega) (zKM_eq hI37 (by omega) (by omega)) (by omega) (by omega) (by omega) (by omega) (by omega) (by omega) (by omega) (by omega) (by omega) _ _ hP hD hS ls (lv_sub hl [2, 3, 0] rfl)
              · skip
                have i_18 : 48 ≤ y33.toInt := by (try simp only [Int32.toInt_toInt64] at i_18); exact i_18
                have i_19 : y33.toInt ≤ 51 := by (try simp only [Int32.toInt_toInt64] at i_19); exact i_19
                have hP : va_P g.1 vwCl [(h1, .inl (zI g, 180, .inl Z0)), (h4, .inl (zI g, 6, .inl G1_0)), (h0, .inr (5, [.ref h1, .int f0, .ref h2, .int f1, .int w31, .ref h3, .ref h4, .ref h5, .ref h6, .int f3, .ref h7, .ref h8, .ref h9, .int f4, .ref h10, .ref h11, .ref h12, .ref h13, .ref h14, .ref h15, .ref h16, .ref h17, .ref h18, .ref h19, .ref h20, .ref h21, .ref h22])), (h2, .inl (zI g, 60, .inl Z1))] H := hP
                have hD : va_D A [(h1, .inl (zI g, 180, .inl Z0)), (h4, .inl (zI g, 6, .inl G1_0)), (h0, .inr (5, [.ref h1, .int f0, .ref h2, .int f1, .int w31, .ref h3, .ref h4, .ref h5, .ref h6, .int f3, .ref h7, .ref h8, .ref h9, .int f4, .ref h10, .ref h11, .ref h12, .ref h13, .ref h14, .ref h15, .ref h16, .ref h17, .ref h18, .ref h19, .ref h20, .ref h21, .ref h22])), (h2, .inl (zI g, 60, .inl Z1))] := hD
                refine lv_if_eq (tgt := 53) hx hb dX5_lots_46 (by decide) (fun h => absurd h (by decide +kernel)) (fun _ => ?_)
                have hgd : w31.toInt < f1.toInt ∧ 48 ≤ zc Z1 w31.toInt ∧ zc Z1 w31.toInt ≤ 51 ∧ v1_0.toInt < 6 := ⟨by omega, by omega, by omega, by omega⟩
                have hI38 : zKI Z1 f1.toInt w31.toInt v1_0.toInt G1_0 := ⟨hG1_0.1, zKR_eq (hG1_0.2.1 (by omega) (by omega)) (by omega) rfl⟩
                refine lv_iconst (v := 1) hx hb dX5_lots_49 (by decide) ?_
                refine lv_goto (tgt := 54) hx hb dX5_lots_50 (by decide) ?_
                refine lv_istore_n (lv' := [(2, .int 1), (3, .int y33), (0, .ref h0), (1, .int v1_0)]) hx hb dX5_lots_54 rfl hl (by decide) rfl (fun ls hl => ?_)
                refine lv_iload_n hx hb dX5_lots_55 rfl (lv_at hl 0 rfl) ?_
                refine lv_if_eq (tgt := 82) hx hb dX5_lots_56 (by decide) (fun h => absurd h (by decide +kernel)) (fun _ => ?_)
                refine lv_aload_n hx hb dX5_lots_59 rfl (lv_at hl 2 rfl) ?_
                refine va_get (D := g.1) (ci := 5) (v := .ref h4) (C := RX5) (T := TX5) (N := 27) hx hb hts zl_X5 hown hK hP 2 rfl rfl 6 (by decide) (hts _ m_f_RX5_19) (fun _ h => h) rfl dX5_lots_60 ?_
                refine lv_iload_n hx hb dX5_lots_63 rfl (lv_at hl 3 rfl) ?_
                refine lv_iload_n hx hb dX5_lots_64 rfl (lv_at hl 1 rfl) ?_
                refine lv_bipush (v := 48) hx hb dX5_lots_65 (by decide) ?_
                refine lv_isub hx hb dX5_lots_67 ?_
                refine lv_topi (fun y39 ey39 => ?_)
                have qy39_0 : y39.toInt = y33.toInt - 48 := zi_sub ey39 (rfl) (rfl) (by omega) (by omega)
                refine va_iast (D := g.1) hx hb hK hP hD hS 1 0 rfl rfl (vp_in_iff.mpr ⟨by omega, by omega⟩) dX5_lots_68 (fun H locs hP hD hS => ?_)
                have hP : va_P g.1 vwCl [(h1, .inl (zI g, 180, .inl Z0)), (h4, .inl (zI g, 6, .inl (upd G1_0 v1_0.toNatClampNeg y39))), (h0, .inr (5, [.ref h1, .int f0, .ref h2, .int f1, .int w31, .ref h3, .ref h4, .ref h5, .ref h6, .int f3, .ref h7, .ref h8, .ref h9, .int f4, .ref h10, .ref h11, .ref h12, .ref h13, .ref h14, .ref h15, .ref h16, .ref h17, .ref h18, .ref h19, .ref h20, .ref h21, .ref h22])), (h2, .inl (zI g, 60, .inl Z1))] H := hP
                have hD : va_D A [(h1, .inl (zI g, 180, .inl Z0)), (h4, .inl (zI g, 6, .inl (upd G1_0 v1_0.toNatClampNeg y39))), (h0, .inr (5, [.ref h1, .int f0, .ref h2, .int f1, .int w31, .ref h3, .ref h4, .ref h5, .ref h6, .int f3, .ref h7, .ref h8, .ref h9, .int f4, .ref h10, .ref h11, .ref h12, .ref h13, .ref h14, .ref h15, .ref h16, .ref h17, .ref h18, .ref h19, .ref h20, .ref h21, .ref h22])), (h2, .inl (zI g, 60, .inl Z1))] := hD
                have hI40 : zKH Z1 f1.toInt w31.toInt v1_0.toInt (upd G1_0 v1_0.toNatClampNeg y39) := zKI_put (i := v1_0) hI38 hgd (rfl) (by omega) (by omega) (by omega) (by omega)
                obtain ⟨R41, eR41⟩ : ∃ z : Nat → Int32, z = (upd G1_0 v1_0.toNatClampNeg y39) := ⟨_, rfl⟩
                rw [← eR41] at hP hD hI40
                obtain ⟨y42, ey42⟩ : ∃ z : Int32, z = v1_0 + 1 := ⟨_, rfl⟩
                have qy42 : y42.toInt = v1_0.toInt + 1 := zi_add ey42 (rfl) rfl (by omega) (by omega)
                refine lv_iinc (v := y42) (lv' := [(1, .int y42), (2, .int 1), (3, .int y33), (0, .ref h0)]) hx hb dX5_lots_69 hl (k := 3) rfl ey42.symm (by decide) rfl (fun ls hl => ?_)
                refine lv_aload_n hx hb dX5_lots_72 rfl (lv_at hl 3 rfl) ?_
                refine lv_dup hx hb dX5_lots_73 rfl ?_
                refine va_get (D := g.1) (ci := 5) (v := .int w31) (C := RX5) (T := TX5) (N := 27) hx hb hts zl_X5 hown hK hP 2 rfl rfl 4 (by decide) (hts _ m_f_RX5_118) (fun _ h => h) rfl dX5_lots_74 ?_
                refine lv_iconst (v := 1) hx hb dX5_lots_77 (by decide) ?_
                refine lv_iadd hx hb dX5_lots_78 ?_
                refine lv_topi (fun y43 ey43 => ?_)
                have qy43_0 : y43.toInt = w31.toInt + 1 := zi_add ey43 (rfl) (rfl) (by omega) (by omega)
                refine va_put (D := g.1) (ci := 5) (v := .int y43) (ty := .int) (C := RX5) (T := TX5) (N := 27) hx hb hts zl_X5 tyX5 tyX5_ok nmX5 hown hK hP hD hS 2 rfl rfl 4 (by decide) (hts _ m_f_RX5_118) (fun _ h => h) rfl (by decide +kernel) rfl rfl (Nat.le_of_ble_eq_true rfl) dX5_lots_79 (fun H locs hP hD hS => ?_)
                have hP : va_P g.1 vwCl [(h1, .inl (zI g, 180, .inl Z0)), (h4, .inl (zI g, 6, .inl R41)), (h0, .inr (5, [.ref h1, .int f0, .ref h2, .int f1, .int y43, .ref h3, .ref h4, .ref h5, .ref h6, .int f3, .ref h7, .ref h8, .ref h9, .int f4, .ref h10, .ref h11, .ref h12, .ref h13, .ref h14, .ref h15, .ref h16, .ref h17, .ref h18, .ref h19, .ref h20, .ref h21, .ref h22])), (h2, .inl (zI g, 60, .inl Z1))] H := hP
                have hD : va_D A [(h1, .inl (zI g, 180, .inl Z0)), (h4, .inl (zI g, 6, .inl R41)), (h0, .inr (5, [.ref h1, .int f0, .ref h2, .int f1, .int y43, .ref h3, .ref h4, .ref h5, .ref h6, .int f3, .ref h7, .ref h8, .ref h9, .int f4, .ref h10, .ref h11, .ref h12, .ref h13, .ref h14, .ref h15, .ref h16, .ref h17, .ref h18, .ref h19, .ref h20, .ref h21, .ref h22])), (h2, .inl (zI g, 60, .inl Z1))] := hD
                have hY : y43.toInt = w31.toInt + 1 := by omega
                have hN : y42.toInt = v1_0.toInt + 1 := by omega
                have hm : zsk Z1 f1.toInt y43.toInt < f1.toInt → zLo Z1 f1.toInt (zsk Z1 f1.toInt y43.toInt) y42.toInt = zLots Z1 f1.toInt := fun h => by
                  rw [hY] at h
                  rw [hY, hN, ← hS9]
                  exact (zLo_more hgd h).symm
                have hl9 : f1.toInt ≤ zsk Z1 f1.toInt y43.toInt → y42.toInt = zLots Z1 f1.toInt := fun h => by
                  rw [hY] at h
                  rw [hN, ← hS9]
                  exact (zLo_last hgd h).symm
                have hI44 : zKM Z1 f1.toInt (w31.toInt + 1) (v1_0.toInt + 1) 1 R41 := zKM_of hI40 (by omega)
                refine lv_goto (tgt := 9) hx hb dX5_lots_82 (by decide) ?_
                have hP := hP.sub (ws' := [(h0, .inr (5, [.ref h1, .int f0, .ref h2, .int f1, .int y43, .ref h3, .ref h4, .ref h5, .ref h6, .int f3, .ref h7, .ref h8, .ref h9, .int f4, .ref h10, .ref h11, .ref h12, .ref h13, .ref h14, .ref h15, .ref h16, .ref h17, .ref h18, .ref h19, .ref h20, .ref h21, .ref h22])), (h1, .inl (zI g, 180, .inl Z0)), (h2, .inl (zI g, 60, .inl Z1)), (h4, .inl (zI g, 6, .inl R41))]) [2, 0, 3, 1] rfl
                have hD := hD.sub (ws' := [(h0, .inr (5, [.ref h1, .int f0, .ref h2, .int f1, .int y43, .ref h3, .ref h4, .ref h5, .ref h6, .int f3, .ref h7, .ref h8, .ref h9, .int f4, .ref h10, .ref h11, .ref h12, .ref h13, .ref h14, .ref h15, .ref h16, .ref h17, .ref h18, .ref h19, .ref h20, .ref h21, .ref h22])), (h1, .inl (zI g, 180, .inl Z0)), (h2, .inl (zI g, 60, .inl Z1)), (h4, .inl (zI g, 6, .inl R41))]) [2, 0, 3, 1] (by decide) rfl
                have : (1 : Int32).toInt = 1 := rfl
                exact ih1 y42 (1 : Int32) y43 R41 (by omega) (by omega) (zKM_eq hI44 (by omega) (by omega)) (by omega) (by omega) (by omega) (by omega) (by omega) (by omega) (by omega) (by omega) (by omega) _ _ hP hD hS ls (lv_sub hl [3, 0, 1] rfl)
  have : (0 : Int32).toInt = 0 := rfl
  have : (1 : Int32).toInt = 1 := rfl
  exact loop9_0 ((7 * 1 - 0 + 6 : Int).toNat + 1) (0 : Int32) (1 : Int32) (0 : Int32) Z3 (by omega) (by omega) (zKM_eq hI0 (by omega) (by omega)) (by omega) (by omega) (by omega) (by omega) (by omega) (by omega) (by omega) (by omega) (by omega) _ _ hP hD hS ls (lv_sub hl [2, 1, 0] rfl)
set_option maxHeartbeats 8000000 in
set_option maxRecDepth 100000 in
theorem gX5_owing (l : Launch) (g : zG) (K : Prop) (B C : zBk) (hB : bOk B) (h0 h1 h2 h3 h4 h5 h6 h7 h8 h9 h10 h11 h12 h13 h14 h15 h16 h17 h18 h19 h20 h21 h22 : Nat) (sz : Nat) (f0 : Int32) (f1 : Int32) (f2 : Int32) (f3 : Int32) (f4 : Int32) (Z0 : Nat → Int32) (hf_f1 : 0 ≤ f1.toInt ∧ f1.toInt ≤ 60) (hf_f2 : 0 ≤ f2.toInt ∧ f2.toInt ≤ 60) (hf_f3 : 0 ≤ f3.toInt ∧ f3.toInt ≤ 31) (hf_f4 : 0 ≤ f4.toInt ∧ f4.toInt ≤ 1000) (hF_Z0 : iW K B C Z0) : Met l yX5_owing (.code yX5_owing cX5_owing 3 (some .int) :: zBig) ({ frames := 0, cells := 0, slots := 0, locals := 0 }) (va_Pc [.ref h0] (zPre g [(h0, .inr (5, [.ref h1, .int f0, .ref h2, .int f1, .int f2, .ref h3, .ref h4, .ref h5, .ref h6, .int f3, .ref h7, .ref h8, .ref h9, .int f4, .ref h10, .ref h11, .ref h12, .ref h13, .ref h14, .ref h15, .ref h16, .ref h17, .ref h18, .ref h19, .ref h20, .ref h21, .ref h22])), (h1, .inl (zI g, 180, .inl Z0))] sz)) (va_Qi (fun (r : Int32) (u : Nat) => r.toInt = zOw B.P B.n.toNat ∧ 0 ≤ r.toInt ∧ r.toInt ≤ 5) (zPost g (fun u : Nat => [(h0, .inr (5, [.ref h1, .int f0, .ref h2, .int f1, .int f2, .ref h3, .ref h4, .ref h5, .ref h6, .int f3, .ref h7, .ref h8, .ref h9, .int f4, .ref h10, .ref h11, .ref h12, .ref h13, .ref h14, .ref h15, .ref h16, .ref h17, .ref h18, .ref h19, .ref h20, .ref h21, .ref h22])), (h1, .inl (zI g, 180, .inl Z0))]) (va_A [(h0, .inr (5, [.ref h1, .int f0, .ref h2, .int f1, .int f2, .ref h3, .ref h4, .ref h5, .ref h6, .int f3, .ref h7, .ref h8, .ref h9, .int f4, .ref h10, .ref h11, .ref h12, .ref h13, .ref h14, .ref h15, .ref h16, .ref h17, .ref h18, .ref h19, .ref h20, .ref h21, .ref h22])), (h1, .inl (zI g, 180, .inl Z0))] sz)) (va_A [(h0, .inr (5, [.ref h1, .int f0, .ref h2, .int f1, .int f2, .ref h3, .ref h4, .ref h5, .ref h6, .int f3, .ref h7, .ref h8, .ref h9, .int f4, .ref h10, .ref h11, .ref h12, .ref h13, .ref h14, .ref h15, .ref h16, .ref h17, .ref h18, .ref h19, .ref h20, .ref h21, .ref h22])), (h1, .inl (zI g, 180, .inl Z0))] sz)) 0 0 (va_A [(h0, .inr (5, [.ref h1, .int f0, .ref h2, .int f1, .int f2, .ref h3, .ref h4, .ref h5, .ref h6, .int f3, .ref h7, .ref h8, .ref h9, .int f4, .ref h10, .ref h11, .ref h12, .ref h13, .ref h14, .ref h15, .ref h16, .ref h17, .ref h18, .ref h19, .ref h20, .ref h21, .ref h22])), (h1, .inl (zI g, 180, .inl Z0))] sz) := by
  refine zMetI rfl (Nat.le_of_ble_eq_true rfl) ?_
  intro p e s m args below meth c A ls hx hb hml hr hlocks hin hown hts hK hN hZ hP hD hA hS hAe hl
  have hown : s.vm.findClass RX5 = some m.cls := hown
  have hl : lv_has ls 3 [(0, .ref h0)] := hl
  have hnr := iW_nr hF_Z0
  refine lv_iconst (v := 0) hx hb dX5_owing_0 (by decide) ?_
  refine lv_istore_n (lv' := [(1, .int 0), (0, .ref h0)]) hx hb dX5_owing_1 rfl hl (by decide) rfl (fun ls hl => ?_)
  have hw0 : zOw B.P (0 : Int32).toInt.toNat = 0 := rfl
  refine lv_iconst (v := 0) hx hb dX5_owing_2 (by decide) ?_
  refine lv_istore_n (lv' := [(2, .int 0), (1, .int 0), (0, .ref h0)]) hx hb dX5_owing_3 rfl hl (by decide) rfl (fun ls hl => ?_)
  have loop4_0 : ∀ (n1 : Nat) (v1_0 : Int32) (v2_0 : Int32) (n1_0 : 0 ≤ v2_0.toInt) (n1_1 : v2_0.toInt ≤ B.n) (n1_2 : 0 ≤ v1_0.toInt) (n1_3 : v1_0.toInt ≤ v2_0.toInt) (n1_4 : v1_0.toInt = zOw B.P v2_0.toInt.toNat) (hm1 : 5 - v2_0.toInt < (n1 : Int)) (H : Heap) (locs : List Loc), va_P g.1 vwCl [(h0, .inr (5, [.ref h1, .int f0, .ref h2, .int f1, .int f2, .ref h3, .ref h4, .ref h5, .ref h6, .int f3, .ref h7, .ref h8, .ref h9, .int f4, .ref h10, .ref h11, .ref h12, .ref h13, .ref h14, .ref h15, .ref h16, .ref h17, .ref h18, .ref h19, .ref h20, .ref h21, .ref h22])), (h1, .inl (zI g, 180, .inl Z0))] H → va_D A [(h0, .inr (5, [.ref h1, .int f0, .ref h2, .int f1, .int f2, .ref h3, .ref h4, .ref h5, .ref h6, .int f3, .ref h7, .ref h8, .ref h9, .int f4, .ref h10, .ref h11, .ref h12, .ref h13, .ref h14, .ref h15, .ref h16, .ref h17, .ref h18, .ref h19, .ref h20, .ref h21, .ref h22])), (h1, .inl (zI g, 180, .inl Z0))] → va_S A s.heap H locs → ∀ (ls : Array Slot), lv_has ls 3 [(0, .ref h0), (1, .int v1_0), (2, .int v2_0)] → W p l e ({ frames := 0, cells := 0, slots := 0, locals := 0 }) s m args below meth c H locs 0 0 (MQ below (va_Qi (fun (r : Int32) (u : Nat) => r.toInt = zOw B.P B.n.toNat ∧ 0 ≤ r.toInt ∧ r.toInt ≤ 5) (zPost g (fun u : Nat => [(h0, .inr (5, [.ref h1, .int f0, .ref h2, .int f1, .int f2, .ref h3, .ref h4, .ref h5, .ref h6, .int f3, .ref h7, .ref h8, .ref h9, .int f4, .ref h10, .ref h11, .ref h12, .ref h13, .ref h14, .ref h15, .ref h16, .ref h17, .ref h18, .ref h19, .ref h20, .ref h21, .ref h22])), (h1, .inl (zI g, 180, .inl Z0))]) A) A) args s 0 0 A) (F0 m 4 ls []) := by
    intro n1
    induction n1 with
    | zero => intro v1_0 v2_0 n1_0 n1_1 n1_2 n1_3 n1_4 hm1; exfalso; omega
    | succ n1 ih1 =>
      intro v1_0 v2_0 n1_0 n1_1 n1_2 n1_3 n1_4 hm1 H locs hP hD hS ls hl
      refine lv_iload_n hx hb dX5_owing_4 rfl (lv_at hl 2 rfl) ?_
      refine lv_aload_n hx hb dX5_owing_5 rfl (lv_at hl 0 rfl) ?_
      refine va_get (D := g.1) (ci := 5) (v := .ref h1) (C := RX5) (T := TX5) (N := 27) hx hb hts zl_X5 hown hK hP 0 rfl rfl 0 (by decide) (hts _ m_f_RX5_7) (fun _ h => h) rfl dX5_owing_6 ?_
      refine lv_bipush (v := 12) hx hb dX5_owing_9 (by decide) ?_
      refine va_iald (D := g.1) hx hb hK hP 1 0 rfl rfl (vp_in_iff.mpr (by decide +kernel)) dX5_owing_11 ?_
      refine lv_topi (fun y0 ey0 => ?_)
      have qy0_0 : 0 ≤ y0.toInt := ((iW_at (i := (12 : Int32)) (a := 12) hF_Z0 (rfl) (by omega) (by omega) ey0).2.2.2.2.2 (by omega)).1
      have qy0_1 : y0.toInt ≤ 5 := ((iW_at (i := (12 : Int32)) (a := 12) hF_Z0 (rfl) (by omega) (by omega) ey0).2.2.2.2.2 (by omega)).2
      have qy0_2 : y0.toInt = (Z0 12).toInt := congrArg Int32.toInt ey0
      have qy0_3 : y0.toInt = B.n := (congrArg Int32.toInt ey0).trans (iW_n hF_Z0)
      refine lv_icmp_ge (tgt := 41) hx hb dX5_owing_12 (by decide) (fun c_1 => ?_) (fun c_1 => ?_)
      · have i_1 : y0.toInt ≤ v2_0.toInt := z_le (rfl) (rfl) c_1
        have hsx : zOw B.P v2_0.toInt.toNat = zOw B.P B.n.toNat := by rw [(by omega : v2_0.toInt = B.n)]
        refine lv_iload_n hx hb dX5_owing_41 rfl (lv_at hl 1 rfl) ?_
        have hP9 := hP.sub (ws' := [(h0, .inr (5, [.ref h1, .int f0, .ref h2, .int f1, .int f2, .ref h3, .ref h4, .ref h5, .ref h6, .int f3, .ref h7, .ref h8, .ref h9, .int f4, .ref h10, .ref h11, .ref h12, .ref h13, .ref h14, .ref h15, .ref h16, .ref h17, .ref h18, .ref h19, .ref h20, .ref h21, .ref h22])), (h1, .inl (zI g, 180, .inl Z0))]) [0, 1] rfl
        have hD9 := hD.sub (ws' := [(h0, .inr (5, [.ref h1, .int f0, .ref h2, .int f1, .int f2, .ref h3, .ref h4, .ref h5, .ref h6, .int f3, .ref h7, .ref h8, .ref h9, .int f4, .ref h10, .ref h11, .ref h12, .ref h13, .ref h14, .ref h15, .ref h16, .ref h17, .ref h18, .ref h19, .ref h20, .ref h21, .ref h22])), (h1, .inl (zI g, 180, .inl Z0))]) [0, 1] (by decide) rfl
        exact W.iret (v := v1_0) hx hb hr (fun t ht hW => ⟨⟨v1_0, (0 : Nat), rfl, ⟨(by first | omega | decide), (by first | omega | decide), (by first | omega | decide)⟩, by rw [ht]; exact hP9, hD9⟩, hS.F ht⟩) hS.2.2 dX5_owing_42
      · have i_1 : v2_0.toInt < y0.toInt := z_nle (rfl) (rfl) c_1
        refine lv_iload_n hx hb dX5_owing_15 rfl (lv_at hl 1 rfl) ?_
        refine lv_aload_n hx hb dX5_owing_16 rfl (lv_at hl 0 rfl) ?_
        refine va_get (D := g.1) (ci := 5) (v := .ref h1) (C := RX5) (T := TX5) (N := 27) hx hb hts zl_X5 hown hK hP 0 rfl rfl 0 (by decide) (hts _ m_f_RX5_7) (fun _ h => h) rfl dX5_owing_17 ?_
        refine lv_bipush (v := 18) hx hb dX5_owing_20 (by decide) ?_
        refine lv_iload_n hx hb dX5_owing_22 rfl (lv_at hl 2 rfl) ?_
        refine lv_iadd hx hb dX5_owing_23 ?_
        refine lv_topi (fun y1 ey1 => ?_)
        have qy1_0 : y1.toInt = 18 + v2_0.toInt := zi_add ey1 (rfl) (rfl) (by omega) (by omega)
        refine va_iald (D := g.1) hx hb hK hP 1 0 rfl rfl (vp_in_iff.mpr ⟨by omega, by omega⟩) dX5_owing_24 ?_
        refine lv_topi (fun y2 ey2 => ?_)
        have qy2_0 : y2.toInt = (Z0 y1.toNatClampNeg).toInt := congrArg Int32.toInt ey2
        have py2_0 : y2.toInt = (B.P v2_0.toInt.toNat).toInt := congrArg Int32.toInt (iW_P (i := y1) (a := v2_0.toInt) hF_Z0 (by omega) (by omega) (by omega) ey2)
        refine lv_if_ge (tgt := 32) hx hb dX5_owing_25 (by decide) (fun c_2 => ?_) (fun c_2 => ?_)
        · have i_2 : 0 ≤ y2.toInt := z_le (rfl) (rfl) c_2
          refine lv_iconst (v := 0) hx hb dX5_owing_32 (by decide) ?_
          refine lv_iadd hx hb dX5_owing_33 ?_
          refine lv_topi (fun y3 ey3 => ?_)
          have qy3_0 : y3.toInt = v1_0.toInt + 0 := zi_add ey3 (rfl) (rfl) (by omega) (by omega)
          refine lv_istore_n (lv' := [(1, .int y3), (0, .ref h0), (2, .int v2_0)]) hx hb dX5_owing_34 rfl hl (by decide) rfl (fun ls hl => ?_)
          have hst : zOw B.P (v2_0.toInt.toNat + 1) = zOw B.P v2_0.toInt.toNat := zOw_0 (by omega)
          obtain ⟨y4, ey4⟩ : ∃ z : Int32, z = v2_0 + 1 := ⟨_, rfl⟩
          have qy4 : y4.toInt = v2_0.toInt + 1 := zi_add ey4 (rfl) rfl (by omega) (by omega)
          refine lv_iinc (v := y4) (lv' := [(2, .int y4), (1, .int y3), (0, .ref h0)]) hx hb dX5_owing_35 hl (k := 2) rfl ey4.symm (by decide) rfl (fun ls hl => ?_)
          have hsb : zOw B.P y4.toInt.toNat = zOw B.P (v2_0.toInt.toNat + 1) := by rw [(by omega : y4.toInt.toNat = v2_0.toInt.toNat + 1)]
          refine lv_goto (tgt := 4) hx hb dX5_owing_38 (by decide) ?_
          exact ih1 y3 y4 (by omega) (by omega) (by omega) (by omega) (by omega) (by omega) _ _ hP hD hS ls (lv_sub hl [2, 1, 0] rfl)
        · have i_2 : y2.toInt < 0 := z_nle (rfl) (rfl) c_2
          refine lv_iconst (v := 1) hx hb dX5_owing_28 (by decide) ?_
          refine lv_goto (tgt := 33) hx hb dX5_owing_29 (by decide) ?_
          refine lv_iadd hx hb dX5_owing_33 ?_
          refine lv_topi (fun y5 ey5 => ?_)
          have qy5_0 : y5.toInt = v1_0.toInt + 1 := zi_add ey5 (rfl) (rfl) (by omega) (by omega)
          refine lv_istore_n (lv' := [(1, .int y5), (0, .ref h0), (2, .int v2_0)]) hx hb dX5_owing_34 rfl hl (by decide) rfl (fun ls hl => ?_)
          have hst : zOw B.P (v2_0.toInt.toNat + 1) = zOw B.P v2_0.toInt.toNat + 1 := zOw_1 (by omega)
          obtain ⟨y6, ey6⟩ : ∃ z : Int32, z = v2_0 + 1 := ⟨_, rfl⟩
          have qy6 : y6.toInt = v2_0.toInt + 1 := zi_add ey6 (rfl) rfl (by omega) (by omega)
          refine lv_iinc (v := y6) (lv' := [(2, .int y6), (1, .int y5), (0, .ref h0)]) hx hb dX5_owing_35 hl (k := 2) rfl ey6.symm (by decide) rfl (fun ls hl => ?_)
          have hsb : zOw B.P y6.toInt.toNat = zOw B.P (v2_0.toInt.toNat + 1) := by rw [(by omega : y6.toInt.toNat = v2_0.toInt.toNat + 1)]
          refine lv_goto (tgt := 4) hx hb dX5_owing_38 (by decide) ?_
          exact ih1 y5 y6 (by omega) (by omega) (by omega) (by omega) (by omega) (by omega) _ _ hP hD hS ls (lv_sub hl [2, 1, 0] rfl)
  have : (0 : Int32).toInt = 0 := rfl
  exact loop4_0 ((5 - 0 : Int).toNat + 1) (0 : Int32) (0 : Int32) (by omega) (by omega) (by omega) (by omega) (by omega) (by omega) _ _ hP hD hS ls (lv_sub hl [2, 1, 0] rfl)
set_option maxHeartbeats 8000000 in
set_option maxRecDepth 100000 in
theorem gX5_kindsToldOf (l : Launch) (g : zG) (K : Prop) (B C : zBk) (hB : bOk B) (h0 h1 h2 h3 h4 h5 h6 h7 h8 h9 h10 h11 h12 h13 h14 h15 h16 h17 h18 h19 h20 h21 h22 : Nat) (sz : Nat) (f0 : Int32) (f1 : Int32) (f2 : Int32) (f3 : Int32) (f4 : Int32) (Z0 : Nat → Int32) (hf_f1 : 0 ≤ f1.toInt ∧ f1.toInt ≤ 60) (hf_f2 : 0 ≤ f2.toInt ∧ f2.toInt ≤ 60) (hf_f3 : 0 ≤ f3.toInt ∧ f3.toInt ≤ 31) (hf_f4 : 0 ≤ f4.toInt ∧ f4.toInt ≤ 1000) (hF_Z0 : iW K B C Z0) : Met l yX5_kindsToldOf (.code yX5_kindsToldOf cX5_kindsToldOf 3 (some .int) :: zBig) ({ frames := 0, cells := 0, slots := 0, locals := 0 }) (va_Pc [.ref h0] (zPre g [(h0, .inr (5, [.ref h1, .int f0, .ref h2, .int f1, .int f2, .ref h3, .ref h4, .ref h5, .ref h6, .int f3, .ref h7, .ref h8, .ref h9, .int f4, .ref h10, .ref h11, .ref h12, .ref h13, .ref h14, .ref h15, .ref h16, .ref h17, .ref h18, .ref h19, .ref h20, .ref h21, .ref h22])), (h1, .inl (zI g, 180, .inl Z0))] sz)) (va_Qi (fun (r : Int32) (u : Nat) => r.toInt = zC5 (zKs B.K B.lots.toNat)) (zPost g (fun u : Nat => [(h0, .inr (5, [.ref h1, .int f0, .ref h2, .int f1, .int f2, .ref h3, .ref h4, .ref h5, .ref h6, .int f3, .ref h7, .ref h8, .ref h9, .int f4, .ref h10, .ref h11, .ref h12, .ref h13, .ref h14, .ref h15, .ref h16, .ref h17, .ref h18, .ref h19, .ref h20, .ref h21, .ref h22])), (h1, .inl (zI g, 180, .inl Z0))]) (va_A [(h0, .inr (5, [.ref h1, .int f0, .ref h2, .int f1, .int f2, .ref h3, .ref h4, .ref h5, .ref h6, .int f3, .ref h7, .ref h8, .ref h9, .int f4, .ref h10, .ref h11, .ref h12, .ref h13, .ref h14, .ref h15, .ref h16, .ref h17, .ref h18, .ref h19, .ref h20, .ref h21, .ref h22])), (h1, .inl (zI g, 180, .inl Z0))] sz)) (va_A [(h0, .inr (5, [.ref h1, .int f0, .ref h2, .int f1, .int f2, .ref h3, .ref h4, .ref h5, .ref h6, .int f3, .ref h7, .ref h8, .ref h9, .int f4, .ref h10, .ref h11, .ref h12, .ref h13, .ref h14, .ref h15, .ref h16, .ref h17, .ref h18, .ref h19, .ref h20, .ref h21, .ref h22])), (h1, .inl (zI g, 180, .inl Z0))] sz)) 0 0 (va_A [(h0, .inr (5, [.ref h1, .int f0, .ref h2, .int f1, .int f2, .ref h3, .ref h4, .ref h5, .ref h6, .int f3, .ref h7, .ref h8, .ref h9, .int f4, .ref h10, .ref h11, .ref h12, .ref h13, .ref h14, .ref h15, .ref h16, .ref h17, .ref h18, .ref h19, .ref h20, .ref h21, .ref h22])), (h1, .inl (zI g, 180, .inl Z0))] sz) := by
  refine zMetI rfl (Nat.le_of_ble_eq_true rfl) ?_
  intro p e s m args below meth c A ls hx hb hml hr hlocks hin hown hts hK hN hZ hP hD hA hS hAe hl
  have hown : s.vm.findClass RX5 = some m.cls := hown
  have hl : lv_has ls 3 [(0, .ref h0)] := hl
  have hnr := iW_nr hF_Z0
  have hlr := iW_lr hF_Z0
  refine lv_iconst (v := 0) hx hb dX5_kindsToldOf_0 (by decide) ?_
  refine lv_istore_n (lv' := [(1, .int 0), (0, .ref h0)]) hx hb dX5_kindsToldOf_1 rfl hl (by decide) rfl (fun ls hl => ?_)
  have hk0 : zS5 (zKs B.K (0 : Int32).toInt.toNat) = 0 := rfl
  refine lv_iconst (v := 0) hx hb dX5_kindsToldOf_2 (by decide) ?_
  refine lv_istore_n (lv' := [(2, .int 0), (1, .int 0), (0, .ref h0)]) hx hb dX5_kindsToldOf_3 rfl hl (by decide) rfl (fun ls hl => ?_)
  have loop4_0 : ∀ (n1 : Nat) (v1_0 : Int32) (v2_0 : Int32) (n1_0 : 0 ≤ v2_0.toInt) (n1_1 : v2_0.toInt ≤ B.lots) (n1_2 : 0 ≤ v1_0.toInt) (n1_3 : v1_0.toInt ≤ 31) (n1_4 : v1_0.toInt = zS5 (zKs B.K v2_0.toInt.toNat)) (hm1 : 6 - v2_0.toInt < (n1 : Int)) (H : Heap) (locs : List Loc), va_P g.1 vwCl [(h0, .inr (5, [.ref h1, .int f0, .ref h2, .int f1, .int f2, .ref h3, .ref h4, .ref h5, .ref h6, .int f3, .ref h7, .ref h8, .ref h9, .int f4, .ref h10, .ref h11, .ref h12, .ref h13, .ref h14, .ref h15, .ref h16, .ref h17, .ref h18, .ref h19, .ref h20, .ref h21, .ref h22])), (h1, .inl (zI g, 180, .inl Z0))] H → va_D A [(h0, .inr (5, [.ref h1, .int f0, .ref h2, .int f1, .int f2, .ref h3, .ref h4, .ref h5, .ref h6, .int f3, .ref h7, .ref h8, .ref h9, .int f4, .ref h10, .ref h11, .ref h12, .ref h13, .ref h14, .ref h15, .ref h16, .ref h17, .ref h18, .ref h19, .ref h20, .ref h21, .ref h22])), (h1, .inl (zI g, 180, .inl Z0))] → va_S A s.heap H locs → ∀ (ls : Array Slot), lv_has ls 3 [(0, .ref h0), (1, .int v1_0), (2, .int v2_0)] → W p l e ({ frames := 0, cells := 0, slots := 0, locals := 0 }) s m args below meth c H locs 0 0 (MQ below (va_Qi (fun (r : Int32) (u : Nat) => r.toInt = zC5 (zKs B.K B.lots.toNat)) (zPost g (fun u : Nat => [(h0, .inr (5, [.ref h1, .int f0, .ref h2, .int f1, .int f2, .ref h3, .ref h4, .ref h5, .ref h6, .int f3, .ref h7, .ref h8, .ref h9, .int f4, .ref h10, .ref h11, .ref h12, .ref h13, .ref h14, .ref h15, .ref h16, .ref h17, .ref h18, .ref h19, .ref h20, .ref h21, .ref h22])), (h1, .inl (zI g, 180, .inl Z0))]) A) A) args s 0 0 A) (F0 m 4 ls []) := by
    intro n1
    induction n1 with
    | zero => intro v1_0 v2_0 n1_0 n1_1 n1_2 n1_3 n1_4 hm1; exfalso; omega
    | succ n1 ih1 =>
      intro v1_0 v2_0 n1_0 n1_1 n1_2 n1_3 n1_4 hm1 H locs hP hD hS ls hl
      refine lv_iload_n hx hb dX5_kindsToldOf_4 rfl (lv_at hl 2 rfl) ?_
      refine lv_aload_n hx hb dX5_kindsToldOf_5 rfl (lv_at hl 0 rfl) ?_
      refine va_get (D := g.1) (ci := 5) (v := .ref h1) (C := RX5) (T := TX5) (N := 27) hx hb hts zl_X5 hown hK hP 0 rfl rfl 0 (by decide) (hts _ m_f_RX5_7) (fun _ h => h) rfl dX5_kindsToldOf_6 ?_
      refine lv_iconst (v := 5) hx hb dX5_kindsToldOf_9 (by decide) ?_
      refine va_iald (D := g.1) hx hb hK hP 1 0 rfl rfl (vp_in_iff.mpr (by decide +kernel)) dX5_kindsToldOf_10 ?_
      refine lv_topi (fun y0 ey0 => ?_)
      have qy0_0 : 0 ≤ y0.toInt := ((iW_at (i := (5 : Int32)) (a := 5) hF_Z0 (rfl) (by omega) (by omega) ey0).2.2.2.1 (by omega)).1
      have qy0_1 : y0.toInt ≤ 6 := ((iW_at (i := (5 : Int32)) (a := 5) hF_Z0 (rfl) (by omega) (by omega) ey0).2.2.2.1 (by omega)).2
      have qy0_2 : y0.toInt = (Z0 5).toInt := congrArg Int32.toInt ey0
      have qy0_3 : y0.toInt = B.lots := (congrArg Int32.toInt ey0).trans (iW_lots hF_Z0)
      refine lv_icmp_ge (tgt := 34) hx hb dX5_kindsToldOf_11 (by decide) (fun c_1 => ?_) (fun c_1 => ?_)
      · have i_1 : y0.toInt ≤ v2_0.toInt := z_le (rfl) (rfl) c_1
        have hkx : zS5 (zKs B.K v2_0.toInt.toNat) = zS5 (zKs B.K B.lots.toNat) := by rw [(by omega : v2_0.toInt = B.lots)]
        have hs9 : v1_0.toInt = zS5 (zKs B.K B.lots.toNat) := by omega
        refine lv_iload_n hx hb dX5_kindsToldOf_34 rfl (lv_at hl 1 rfl) ?_
        refine lv_iconst (v := 1) hx hb dX5_kindsToldOf_35 (by decide) ?_
        refine lv_iand hx hb dX5_kindsToldOf_36 ?_
        refine lv_topi (fun y1 ey1 => ?_)
        have qy1_0 : 0 ≤ y1.toInt := (zi_and1 ey1).1
        have qy1_1 : y1.toInt ≤ 1 := (zi_and1 ey1).2
        have py1_0 : y1.toInt = (zKs B.K B.lots.toNat) 0 := z_b0 (zKs_01 _) hs9 ey1
        refine lv_iload_n hx hb dX5_kindsToldOf_37 rfl (lv_at hl 1 rfl) ?_
        refine lv_iconst (v := 1) hx hb dX5_kindsToldOf_38 (by decide) ?_
        refine lv_ishr hx hb dX5_kindsToldOf_39 ?_
        refine lv_topi (fun y2 ey2 => ?_)
        refine lv_iconst (v := 1) hx hb dX5_kindsToldOf_40 (by decide) ?_
        refine lv_iand hx hb dX5_kindsToldOf_41 ?_
        refine lv_topi (fun y3 ey3 => ?_)
        have qy3_0 : 0 ≤ y3.toInt := (zi_and1 ey3).1
        have qy3_1 : y3.toInt ≤ 1 := (zi_and1 ey3).2
        have py3_0 : y3.toInt = (zKs B.K B.lots.toNat) 1 := (zbit_eq ey2 ey3).symm.trans (zbit_S (zKs_01 _) hs9 (b := 1) (k := 1) rfl (by omega) (by omega))
        refine lv_iadd hx hb dX5_kindsToldOf_42 ?_
        refine lv_topi (fun y4 ey4 => ?_)
        have qy4_0 : y4.toInt = y1.toInt + y3.toInt := zi_add ey4 (rfl) (rfl) (by omega) (by omega)
        refine lv_iload_n hx hb dX5_kindsToldOf_43 rfl (lv_at hl 1 rfl) ?_
        refine lv_iconst (v := 2) hx hb dX5_kindsToldOf_44 (by decide) ?_
        refine lv_ishr hx hb dX5_kindsToldOf_45 ?_
        refine lv_topi (fun y5 ey5 => ?_)
        refine lv_iconst (v := 1) hx hb dX5_kindsToldOf_46 (by decide) ?_
        refine lv_iand hx hb dX5_kindsToldOf_47 ?_
        refine lv_topi (fun y6 ey6 => ?_)
        have qy6_0 : 0 ≤ y6.toInt := (zi_and1 ey6).1
        have qy6_1 : y6.toInt ≤ 1 := (zi_and1 ey6).2
        have py6_0 : y6.toInt = (zKs B.K B.lots.toNat) 2 := (zbit_eq ey5 ey6).symm.trans (zbit_S (zKs_01 _) hs9 (b := 2) (k := 2) rfl (by omega) (by omega))
        refine lv_iadd hx hb dX5_kindsToldOf_48 ?_
        refine lv_topi (fun y7 ey7 => ?_)
        have qy7_0 : y7.toInt = y4.toInt + y6.toInt := zi_add ey7 (rfl) (rfl) (by omega) (by omega)
        refine lv_iload_n hx hb dX5_kindsToldOf_49 rfl (lv_at hl 1 rfl) ?_
        refine lv_iconst (v := 3) hx hb dX5_kindsToldOf_50 (by decide) ?_
        refine lv_ishr hx hb dX5_kindsToldOf_51 ?_
        refine lv_topi (fun y8 ey8 => ?_)
        refine lv_iconst (v := 1) hx hb dX5_kindsToldOf_52 (by decide) ?_
        refine lv_iand hx hb dX5_kindsToldOf_53 ?_
        refine lv_topi (fun y9 ey9 => ?_)
        have qy9_0 : 0 ≤ y9.toInt := (zi_and1 ey9).1
        have qy9_1 : y9.toInt ≤ 1 := (zi_and1 ey9).2
        have py9_0 : y9.toInt = (zKs B.K B.lots.toNat) 3 := (zbit_eq ey8 ey9).symm.trans (zbit_S (zKs_01 _) hs9 (b := 3) (k := 3) rfl (by omega) (by omega))
        refine lv_iadd hx hb dX5_kindsToldOf_54 ?_
        refine lv_topi (fun y10 ey10 => ?_)
        have qy10_0 : y10.toInt = y7.toInt + y9.toInt := zi_add ey10 (rfl) (rfl) (by omega) (by omega)
        have hk4 : (zKs B.K B.lots.toNat) 4 = 0 := zKs_4 _ (fun j hj => (hB.2.1 j (by omega)).2)
        have hz : zC5 (zKs B.K B.lots.toNat) = y10.toInt := by
          unfold zC5
          omega
        have hP9 := hP.sub (ws' := [(h0, .inr (5, [.ref h1, .int f0, .ref h2, .int f1, .int f2, .ref h3, .ref h4, .ref h5, .ref h6, .int f3, .ref h7, .ref h8, .ref h9, .int f4, .ref h10, .ref h11, .ref h12, .ref h13, .ref h14, .ref h15, .ref h16, .ref h17, .ref h18, .ref h19, .ref h20, .ref h21, .ref h22])), (h1, .inl (zI g, 180, .inl Z0))]) [0, 1] rfl
        have hD9 := hD.sub (ws' := [(h0, .inr (5, [.ref h1, .int f0, .ref h2, .int f1, .int f2, .ref h3, .ref h4, .ref h5, .ref h6, .int f3, .ref h7, .ref h8, .ref h9, .int f4, .ref h10, .ref h11, .ref h12, .ref h13, .ref h14, .ref h15, .ref h16, .ref h17, .ref h18, .ref h19, .ref h20, .ref h21, .ref h22])), (h1, .inl (zI g, 180, .inl Z0))]) [0, 1] (by decide) rfl
        exact W.iret (v := y10) hx hb hr (fun t ht hW => ⟨⟨y10, (0 : Nat), rfl, (by first | omega | decide), by rw [ht]; exact hP9, hD9⟩, hS.F ht⟩) hS.2.2 dX5_kindsToldOf_55
      · have i_1 : v2_0.toInt < y0.toInt := z_nle (rfl) (rfl) c_1
        refine lv_iload_n hx hb dX5_kindsToldOf_14 rfl (lv_at hl 1 rfl) ?_
        refine lv_iconst (v := 1) hx hb dX5_kindsToldOf_15 (by decide) ?_
        refine lv_aload_n hx hb dX5_kindsToldOf_16 rfl (lv_at hl 0 rfl) ?_
        refine va_get (D := g.1) (ci := 5) (v := .ref h1) (C := RX5) (T := TX5) (N := 27) hx hb hts zl_X5 hown hK hP 0 rfl rfl 0 (by decide) (hts _ m_f_RX5_7) (fun _ h => h) rfl dX5_kindsToldOf_17 ?_
        refine lv_bipush (v := 6) hx hb dX5_kindsToldOf_20 (by decide) ?_
        refine lv_iload_n hx hb dX5_kindsToldOf_22 rfl (lv_at hl 2 rfl) ?_
        refine lv_iadd hx hb dX5_kindsToldOf_23 ?_
        refine lv_topi (fun y11 ey11 => ?_)
        have qy11_0 : y11.toInt = 6 + v2_0.toInt := zi_add ey11 (rfl) (rfl) (by omega) (by omega)
        refine va_iald (D := g.1) hx hb hK hP 1 0 rfl rfl (vp_in_iff.mpr ⟨by omega, by omega⟩) dX5_kindsToldOf_24 ?_
        refine lv_topi (fun y12 ey12 => ?_)
        have qy12_0 : 0 ≤ y12.toInt := ((iW_at (i := y11) (a := y11.toInt) hF_Z0 (rfl) (by omega) (by omega) ey12).2.2.2.2.1 (by omega) (by omega)).1
        have qy12_1 : y12.toInt ≤ 3 := ((iW_at (i := y11) (a := y11.toInt) hF_Z0 (rfl) (by omega) (by omega) ey12).2.2.2.2.1 (by omega) (by omega)).2
        have qy12_2 : y12.toInt = (Z0 y11.toNatClampNeg).toInt := congrArg Int32.toInt ey12
        have py12_0 : y12.toInt = (B.K v2_0.toInt.toNat).toInt := congrArg Int32.toInt (iW_K (i := y11) (a := v2_0.toInt) hF_Z0 (by omega) (by omega) (by omega) ey12)
        refine lv_ishl hx hb dX5_kindsToldOf_25 ?_
        refine lv_topi (fun y13 ey13 => ?_)
        have qy13_0 : 1 ≤ y13.toInt := (zi_shl 3 ey13 (rfl) (by omega) (by omega) (by decide)).1
        have qy13_1 : y13.toInt ≤ 8 := (zi_shl 3 ey13 (rfl) (by omega) (by omega) (by decide)).2
        refine lv_ior hx hb dX5_kindsToldOf_26 ?_
        refine lv_topi (fun y14 ey14 => ?_)
        have qy14_0 : v1_0.toInt ≤ y14.toInt := (zi_or ey14 (rfl) (rfl) (by omega) (by omega) (by omega) (by omega)).1
        have qy14_1 : y13.toInt ≤ y14.toInt := (zi_or ey14 (rfl) (rfl) (by omega) (by omega) (by omega) (by omega)).2.1
        have qy14_2 : y14.toInt ≤ 31 := (zi_or ey14 (rfl) (rfl) (by omega) (by omega) (by omega) (by omega)).2.2
        have py14_0 : y14.toInt = zS5 (zKs B.K (v2_0.toInt.toNat + 1)) := zKs_or ey14 ey13 (by omega) (by omega) (by omega) (by omega)
        refine lv_istore_n (lv' := [(1, .int y14), (0, .ref h0), (2, .int v2_0)]) hx hb dX5_kindsToldOf_27 rfl hl (by decide) rfl (fun ls hl => ?_)
        obtain ⟨y15, ey15⟩ : ∃ z : Int32, z = v2_0 + 1 := ⟨_, rfl⟩
        have qy15 : y15.toInt = v2_0.toInt + 1 := zi_add ey15 (rfl) rfl (by omega) (by omega)
        refine lv_iinc (v := y15) (lv' := [(2, .int y15), (1, .int y14), (0, .ref h0)]) hx hb dX5_kindsToldOf_28 hl (k := 2) rfl ey15.symm (by decide) rfl (fun ls hl => ?_)
        have hkb : zS5 (zKs B.K y15.toInt.toNat) = zS5 (zKs B.K (v2_0.toInt.toNat + 1)) := by rw [(by omega : y15.toInt.toNat = v2_0.toInt.toNat + 1)]
        refine lv_goto (tgt := 4) hx hb dX5_kindsToldOf_31 (by decide) ?_
        exact ih1 y14 y15 (by omega) (by omega) (by omega) (by omega) (by omega) (by omega) _ _ hP hD hS ls (lv_sub hl [2, 1, 0] rfl)
  have : (0 : Int32).toInt = 0 := rfl
  exact loop4_0 ((6 - 0 : Int).toNat + 1) (0 : Int32) (0 : Int32) (by omega) (by omega) (by omega) (by omega) (by omega) (by omega) _ _ hP hD hS ls (lv_sub hl [2, 1, 0] rfl)
set_option maxHeartbeats 8000000 in
set_option maxRecDepth 100000 in
theorem gX5_count (l : Launch) (g : zG) (K : Prop) (B C : zBk) (hB : bOk B) (h0 h1 h2 h3 h4 h5 h6 h7 h8 h9 h10 h11 h12 h13 h14 h15 h16 h17 h18 h19 h20 h21 h22 : Nat) (sz : Nat) (p1 : Int32) (f0 : Int32) (f1 : Int32) (f2 : Int32) (f3 : Int32) (f4 : Int32) (Z0 : Nat → Int32) (hf_f1 : 0 ≤ f1.toInt ∧ f1.toInt ≤ 60) (hf_f2 : 0 ≤ f2.toInt ∧ f2.toInt ≤ 60) (hf_f3 : 0 ≤ f3.toInt ∧ f3.toInt ≤ 31) (hf_f4 : 0 ≤ f4.toInt ∧ f4.toInt ≤ 1000) (hF_Z0 : iW K B C Z0) : Met l yX5_count (.code yX5_count cX5_count 2 (some .int) :: zBig) ({ frames := 1, cells := 0, slots := 0, locals := 22 }) (va_Pc [.ref h0, .int p1] (zPre g [(h0, .inr (5, [.ref h1, .int f0, .ref h2, .int f1, .int f2, .ref h3, .ref h4, .ref h5, .ref h6, .int f3, .ref h7, .ref h8, .ref h9, .int f4, .ref h10, .ref h11, .ref h12, .ref h13, .ref h14, .ref h15, .ref h16, .ref h17, .ref h18, .ref h19, .ref h20, .ref h21, .ref h22])), (h1, .inl (zI g, 180, .inl Z0))] sz)) (va_Qi (fun (r : Int32) (u : Nat) => r.toInt = zAcnt B.lots B.n B.held B.P B.K p1.toInt) (zPost g (fun u : Nat => [(h0, .inr (5, [.ref h1, .int f0, .ref h2, .int f1, .int f2, .ref h3, .ref h4, .ref h5, .ref h6, .int f3, .ref h7, .ref h8, .ref h9, .int f4, .ref h10, .ref h11, .ref h12, .ref h13, .ref h14, .ref h15, .ref h16, .ref h17, .ref h18, .ref h19, .ref h20, .ref h21, .ref h22])), (h1, .inl (zI g, 180, .inl Z0))]) (va_A [(h0, .inr (5, [.ref h1, .int f0, .ref h2, .int f1, .int f2, .ref h3, .ref h4, .ref h5, .ref h6, .int f3, .ref h7, .ref h8, .ref h9, .int f4, .ref h10, .ref h11, .ref h12, .ref h13, .ref h14, .ref h15, .ref h16, .ref h17, .ref h18, .ref h19, .ref h20, .ref h21, .ref h22])), (h1, .inl (zI g, 180, .inl Z0))] sz)) (va_A [(h0, .inr (5, [.ref h1, .int f0, .ref h2, .int f1, .int f2, .ref h3, .ref h4, .ref h5, .ref h6, .int f3, .ref h7, .ref h8, .ref h9, .int f4, .ref h10, .ref h11, .ref h12, .ref h13, .ref h14, .ref h15, .ref h16, .ref h17, .ref h18, .ref h19, .ref h20, .ref h21, .ref h22])), (h1, .inl (zI g, 180, .inl Z0))] sz)) 0 0 (va_A [(h0, .inr (5, [.ref h1, .int f0, .ref h2, .int f1, .int f2, .ref h3, .ref h4, .ref h5, .ref h6, .int f3, .ref h7, .ref h8, .ref h9, .int f4, .ref h10, .ref h11, .ref h12, .ref h13, .ref h14, .ref h15, .ref h16, .ref h17, .ref h18, .ref h19, .ref h20, .ref h21, .ref h22])), (h1, .inl (zI g, 180, .inl Z0))] sz) := by
  refine zMetI rfl (Nat.le_of_ble_eq_true rfl) ?_
  intro p e s m args below meth c A ls hx hb hml hr hlocks hin hown hts hK hN hZ hP hD hA hS hAe hl
  have hown : s.vm.findClass RX5 = some m.cls := hown
  have hl : lv_has ls 2 [(0, .ref h0), (1, .int p1)] := hl
  have hnr := iW_nr hF_Z0
  have hlr := iW_lr hF_Z0
  refine lv_iload_n hx hb dX5_count_0 rfl (lv_at hl 1 rfl) ?_
  by_cases j_0 : p1 = 0
  · have i_0 : p1.toInt = 0 := by rw [j_0]; rfl
    subst j_0
    refine lv_tableIn (x := 0) (off := 35) (tgt := 36) hx hb dX5_count_1 (by decide) (by decide) rfl (by decide) ?_
    refine lv_aload_n hx hb dX5_count_36 rfl (lv_at hl 0 rfl) ?_
    refine va_get (D := g.1) (ci := 5) (v := .ref h1) (C := RX5) (T := TX5) (N := 27) hx hb hts zl_X5 hown hK hP 0 rfl rfl 0 (by decide) (hts _ m_f_RX5_7) (fun _ h => h) rfl dX5_count_37 ?_
    refine lv_iconst (v := 5) hx hb dX5_count_40 (by decide) ?_
    refine va_iald (D := g.1) hx hb hK hP 1 0 rfl rfl (vp_in_iff.mpr (by decide +kernel)) dX5_count_41 ?_
    refine lv_topi (fun y0 ey0 => ?_)
    have qy0_0 : 0 ≤ y0.toInt := ((iW_at (i := (5 : Int32)) (a := 5) hF_Z0 (rfl) (by omega) (by omega) ey0).2.2.2.1 (by omega)).1
    have qy0_1 : y0.toInt ≤ 6 := ((iW_at (i := (5 : Int32)) (a := 5) hF_Z0 (rfl) (by omega) (by omega) ey0).2.2.2.1 (by omega)).2
    have qy0_2 : y0.toInt = (Z0 5).toInt := congrArg Int32.toInt ey0
    have qy0_3 : y0.toInt = B.lots := (congrArg Int32.toInt ey0).trans (iW_lots hF_Z0)
    have hz : zAcnt B.lots B.n B.held B.P B.K (Int32.toInt 0) = y0.toInt := by
      unfold zAcnt
      rw [if_pos (by first | omega | decide)] <;> omega
    have hP9 := hP.sub (ws' := [(h0, .inr (5, [.ref h1, .int f0, .ref h2, .int f1, .int f2, .ref h3, .ref h4, .ref h5, .ref h6, .int f3, .ref h7, .ref h8, .ref h9, .int f4, .ref h10, .ref h11, .ref h12, .ref h13, .ref h14, .ref h15, .ref h16, .ref h17, .ref h18, .ref h19, .ref h20, .ref h21, .ref h22])), (h1, .inl (zI g, 180, .inl Z0))]) [0, 1] rfl
    have hD9 := hD.sub (ws' := [(h0, .inr (5, [.ref h1, .int f0, .ref h2, .int f1, .int f2, .ref h3, .ref h4, .ref h5, .ref h6, .int f3, .ref h7, .ref h8, .ref h9, .int f4, .ref h10, .ref h11, .ref h12, .ref h13, .ref h14, .ref h15, .ref h16, .ref h17, .ref h18, .ref h19, .ref h20, .ref h21, .ref h22])), (h1, .inl (zI g, 180, .inl Z0))]) [0, 1] (by decide) rfl
    exact W.iret (v := y0) hx hb hr (fun t ht hW => ⟨⟨y0, (0 : Nat), rfl, (by first | omega | decide), by rw [ht]; exact hP9, hD9⟩, hS.F ht⟩) hS.2.2 dX5_count_42
  have i_0 : p1.toInt ≠ 0 := fun h => j_0 (Int32.toInt_inj.mp (h.trans rfl))
  by_cases j_1 : p1 = 1
  · have i_1 : p1.toInt = 1 := by rw [j_1]; rfl
    subst j_1
    refine lv_tableIn (x := 1) (off := 42) (tgt := 43) hx hb dX5_count_1 (by decide) (by decide) rfl (by decide) ?_
    refine lv_aload_n hx hb dX5_count_43 rfl (lv_at hl 0 rfl) ?_
    refine va_get (D := g.1) (ci := 5) (v := .ref h1) (C := RX5) (T := TX5) (N := 27) hx hb hts zl_X5 hown hK hP 0 rfl rfl 0 (by decide) (hts _ m_f_RX5_7) (fun _ h => h) rfl dX5_count_44 ?_
    refine lv_bipush (v := 12) hx hb dX5_count_47 (by decide) ?_
    refine va_iald (D := g.1) hx hb hK hP 1 0 rfl rfl (vp_in_iff.mpr (by decide +kernel)) dX5_count_49 ?_
    refine lv_topi (fun y1 ey1 => ?_)
    have qy1_0 : 0 ≤ y1.toInt := ((iW_at (i := (12 : Int32)) (a := 12) hF_Z0 (rfl) (by omega) (by omega) ey1).2.2.2.2.2 (by omega)).1
    have qy1_1 : y1.toInt ≤ 5 := ((iW_at (i := (12 : Int32)) (a := 12) hF_Z0 (rfl) (by omega) (by omega) ey1).2.2.2.2.2 (by omega)).2
    have qy1_2 : y1.toInt = (Z0 12).toInt := congrArg Int32.toInt ey1
    have qy1_3 : y1.toInt = B.n := (congrArg Int32.toInt ey1).trans (iW_n hF_Z0)
    have hz : zAcnt B.lots B.n B.held B.P B.K (Int32.toInt 1) = y1.toInt := by
      unfold zAcnt
      rw [if_neg (by first | omega | decide), if_pos (by first | omega | decide)] <;> omega
    have hP9 := hP.sub (ws' := [(h0, .inr (5, [.ref h1, .int f0, .ref h2, .int f1, .int f2, .ref h3, .ref h4, .ref h5, .ref h6, .int f3, .ref h7, .ref h8, .ref h9, .int f4, .ref h10, .ref h11, .ref h12, .ref h13, .ref h14, .ref h15, .ref h16, .ref h17, .ref h18, .ref h19, .ref h20, .ref h21, .ref h22])), (h1, .inl (zI g, 180, .inl Z0))]) [0, 1] rfl
    have hD9 := hD.sub (ws' := [(h0, .inr (5, [.ref h1, .int f0, .ref h2, .int f1, .int f2, .ref h3, .ref h4, .ref h5, .ref h6, .int f3, .ref h7, .ref h8, .ref h9, .int f4, .ref h10, .ref h11, .ref h12, .ref h13, .ref h14, .ref h15, .ref h16, .ref h17, .ref h18, .ref h19, .ref h20, .ref h21, .ref h22])), (h1, .inl (zI g, 180, .inl Z0))]) [0, 1] (by decide) rfl
    exact W.iret (v := y1) hx hb hr (fun t ht hW => ⟨⟨y1, (0 : Nat), rfl, (by first | omega | decide), by rw [ht]; exact hP9, hD9⟩, hS.F ht⟩) hS.2.2 dX5_count_50
  have i_1 : p1.toInt ≠ 1 := fun h => j_1 (Int32.toInt_inj.mp (h.trans rfl))
  by_cases j_2 : p1 = 2
  · have i_2 : p1.toInt = 2 := by rw [j_2]; rfl
    subst j_2
    refine lv_tableIn (x := 2) (off := 50) (tgt := 51) hx hb dX5_count_1 (by decide) (by decide) rfl (by decide) ?_
    refine lv_aload_n hx hb dX5_count_51 rfl (lv_at hl 0 rfl) ?_
    refine va_get (D := g.1) (ci := 5) (v := .ref h1) (C := RX5) (T := TX5) (N := 27) hx hb hts zl_X5 hown hK hP 0 rfl rfl 0 (by decide) (hts _ m_f_RX5_7) (fun _ h => h) rfl dX5_count_52 ?_
    refine lv_bipush (v := 88) hx hb dX5_count_55 (by decide) ?_
    refine va_iald (D := g.1) hx hb hK hP 1 0 rfl rfl (vp_in_iff.mpr (by decide +kernel)) dX5_count_57 ?_
    refine lv_topi (fun y2 ey2 => ?_)
    have qy2_0 : y2.toInt = (Z0 88).toInt := congrArg Int32.toInt ey2
    have qy2_1 : y2.toInt = B.held := (congrArg Int32.toInt ey2).trans (iW_held hF_Z0)
    have qy2_2 : 0 ≤ y2.toInt := by have := hB.2.2.2.2.2.2; omega
    have qy2_3 : y2.toInt ≤ 9999 := by have := hB.2.2.2.2.2.2; omega
    have hz : zAcnt B.lots B.n B.held B.P B.K (Int32.toInt 2) = y2.toInt := by
      unfold zAcnt
      rw [if_neg (by first | omega | decide), if_neg (by first | omega | decide), if_pos (by first | omega | decide)] <;> omega
    have hP9 := hP.sub (ws' := [(h0, .inr (5, [.ref h1, .int f0, .ref h2, .int f1, .int f2, .ref h3, .ref h4, .ref h5, .ref h6, .int f3, .ref h7, .ref h8, .ref h9, .int f4, .ref h10, .ref h11, .ref h12, .ref h13, .ref h14, .ref h15, .ref h16, .ref h17, .ref h18, .ref h19, .ref h20, .ref h21, .ref h22])), (h1, .inl (zI g, 180, .inl Z0))]) [0, 1] rfl
    have hD9 := hD.sub (ws' := [(h0, .inr (5, [.ref h1, .int f0, .ref h2, .int f1, .int f2, .ref h3, .ref h4, .ref h5, .ref h6, .int f3, .ref h7, .ref h8, .ref h9, .int f4, .ref h10, .ref h11, .ref h12, .ref h13, .ref h14, .ref h15, .ref h16, .ref h17, .ref h18, .ref h19, .ref h20, .ref h21, .ref h22])), (h1, .inl (zI g, 180, .inl Z0))]) [0, 1] (by decide) rfl
    exact W.iret (v := y2) hx hb hr (fun t ht hW => ⟨⟨y2, (0 : Nat), rfl, (by first | omega | decide), by rw [ht]; exact hP9, hD9⟩, hS.F ht⟩) hS.2.2 dX5_count_58
  have i_2 : p1.toInt ≠ 2 := fun h => j_2 (Int32.toInt_inj.mp (h.trans rfl))
  by_cases j_3 : p1 = 3
  · have i_3 : p1.toInt = 3 := by rw [j_3]; rfl
    subst j_3
    refine lv_tableIn (x := 3) (off := 58) (tgt := 59) hx hb dX5_count_1 (by decide) (by decide) rfl (by decide) ?_
    refine lv_aload_n hx hb dX5_count_59 rfl (lv_at hl 0 rfl) ?_
    refine z_calli (wr := []) hP hD hS hA [0, 1] [] (by decide) rfl rfl (by decide) (va_runV (As := []) (rest := []) ⟨hx, hb, hml, hown, hts⟩ (gX5_owing l g K B C hB h0 h1 h2 h3 h4 h5 h6 h7 h8 h9 h10 h11 h12 h13 h14 h15 h16 h17 h18 h19 h20 h21 h22 s.heap.size f0 f1 f2 f3 f4 Z0 (by constructor <;> omega) (by constructor <;> omega) (by constructor <;> omega) (by constructor <;> omega) hF_Z0) ⟨callB_of 0 hts (zGood m_o_yX5_owing) rfl rfl rfl (hts _ m_z_RX5) (hts _ m_m_RX5_141) ⟨by decide +kernel, by decide +kernel, by decide +kernel⟩ ⟨Nat.le_of_ble_eq_true rfl, Nat.le_of_ble_eq_true rfl⟩, hts _ m_i_yX5_owing, hts _ m_e_yX5_owing⟩ (zPreV hK hN hZ hP hD hS hA [0, 1] (by decide) rfl rfl 5 0 rfl rfl) rfl rfl hl.1 rfl (lv_room (Nat.le_of_ble_eq_true rfl)) dX5_count_60 ⟨Nat.le_of_ble_eq_true rfl, Nat.le_of_ble_eq_true rfl⟩) (fun r u H locs hw hP hD hS => ?_)
    obtain ⟨y3, rfl⟩ : ∃ z, z = r := ⟨_, rfl⟩
    obtain ⟨q4_0, q4_1, q4_2⟩ := hw
    have q4_0 : y3.toInt = zOw B.P B.n.toNat := q4_0
    have q4_1 : 0 ≤ y3.toInt := q4_1
    have q4_2 : y3.toInt ≤ 5 := q4_2
    have hP : va_P g.1 vwCl [(h0, .inr (5, [.ref h1, .int f0, .ref h2, .int f1, .int f2, .ref h3, .ref h4, .ref h5, .ref h6, .int f3, .ref h7, .ref h8, .ref h9, .int f4, .ref h10, .ref h11, .ref h12, .ref h13, .ref h14, .ref h15, .ref h16, .ref h17, .ref h18, .ref h19, .ref h20, .ref h21, .ref h22])), (h1, .inl (zI g, 180, .inl Z0))] H := hP
    have hD : va_D A [(h0, .inr (5, [.ref h1, .int f0, .ref h2, .int f1, .int f2, .ref h3, .ref h4, .ref h5, .ref h6, .int f3, .ref h7, .ref h8, .ref h9, .int f4, .ref h10, .ref h11, .ref h12, .ref h13, .ref h14, .ref h15, .ref h16, .ref h17, .ref h18, .ref h19, .ref h20, .ref h21, .ref h22])), (h1, .inl (zI g, 180, .inl Z0))] := hD
    have hz : zAcnt B.lots B.n B.held B.P B.K (Int32.toInt 3) = y3.toInt := by
      unfold zAcnt
      rw [if_neg (by first | omega | decide), if_neg (by first | omega | decide), if_neg (by first | omega | decide), if_pos (by first | omega | decide)] <;> omega
    have hP9 := hP.sub (ws' := [(h0, .inr (5, [.ref h1, .int f0, .ref h2, .int f1, .int f2, .ref h3, .ref h4, .ref h5, .ref h6, .int f3, .ref h7, .ref h8, .ref h9, .int f4, .ref h10, .ref h11, .ref h12, .ref h13, .ref h14, .ref h15, .ref h16, .ref h17, .ref h18, .ref h19, .ref h20, .ref h21, .ref h22])), (h1, .inl (zI g, 180, .inl Z0))]) [0, 1] rfl
    have hD9 := hD.sub (ws' := [(h0, .inr (5, [.ref h1, .int f0, .ref h2, .int f1, .int f2, .ref h3, .ref h4, .ref h5, .ref h6, .int f3, .ref h7, .ref h8, .ref h9, .int f4, .ref h10, .ref h11, .ref h12, .ref h13, .ref h14, .ref h15, .ref h16, .ref h17, .ref h18, .ref h19, .ref h20, .ref h21, .ref h22])), (h1, .inl (zI g, 180, .inl Z0))]) [0, 1] (by decide) rfl
    exact W.iret (v := y3) hx hb hr (fun t ht hW => ⟨⟨y3, (0 : Nat), rfl, (by first | omega | decide), by rw [ht]; exact hP9, hD9⟩, hS.F ht⟩) hS.2.2 dX5_count_63
  have i_3 : p1.toInt ≠ 3 := fun h => j_3 (Int32.toInt_inj.mp (h.trans rfl))
  by_cases j_4 : p1 = 4
  · have i_4 : p1.toInt = 4 := by rw [j_4]; rfl
    subst j_4
    refine lv_tableIn (x := 4) (off := 63) (tgt := 64) hx hb dX5_count_1 (by decide) (by decide) rfl (by decide) ?_
    refine lv_aload_n hx hb dX5_count_64 rfl (lv_at hl 0 rfl) ?_
    refine z_calli (wr := []) hP hD hS hA [0, 1] [] (by decide) rfl rfl (by decide) (va_runV (As := []) (rest := []) ⟨hx, hb, hml, hown, hts⟩ (gX5_kindsToldOf l g K B C hB h0 h1 h2 h3 h4 h5 h6 h7 h8 h9 h10 h11 h12 h13 h14 h15 h16 h17 h18 h19 h20 h21 h22 s.heap.size f0 f1 f2 f3 f4 Z0 (by constructor <;> omega) (by constructor <;> omega) (by constructor <;> omega) (by constructor <;> omega) hF_Z0) ⟨callB_of 0 hts (zGood m_o_yX5_kindsToldOf) rfl rfl rfl (hts _ m_z_RX5) (hts _ m_m_RX5_144) ⟨by decide +kernel, by decide +kernel, by decide +kernel⟩ ⟨Nat.le_of_ble_eq_true rfl, Nat.le_of_ble_eq_true rfl⟩, hts _ m_i_yX5_kindsToldOf, hts _ m_e_yX5_kindsToldOf⟩ (zPreV hK hN hZ hP hD hS hA [0, 1] (by decide) rfl rfl 5 0 rfl rfl) rfl rfl hl.1 rfl (lv_room (Nat.le_of_ble_eq_true rfl)) dX5_count_65 ⟨Nat.le_of_ble_eq_true rfl, Nat.le_of_ble_eq_true rfl⟩) (fun r u H locs hw hP hD hS => ?_)
    obtain ⟨y5, rfl⟩ : ∃ z, z = r := ⟨_, rfl⟩
    have q6_0 := hw
    have q6_0 : y5.toInt = zC5 (zKs B.K B.lots.toNat) := q6_0
    have hP : va_P g.1 vwCl [(h0, .inr (5, [.ref h1, .int f0, .ref h2, .int f1, .int f2, .ref h3, .ref h4, .ref h5, .ref h6, .int f3, .ref h7, .ref h8, .ref h9, .int f4, .ref h10, .ref h11, .ref h12, .ref h13, .ref h14, .ref h15, .ref h16, .ref h17, .ref h18, .ref h19, .ref h20, .ref h21, .ref h22])), (h1, .inl (zI g, 180, .inl Z0))] H := hP
    have hD : va_D A [(h0, .inr (5, [.ref h1, .int f0, .ref h2, .int f1, .int f2, .ref h3, .ref h4, .ref h5, .ref h6, .int f3, .ref h7, .ref h8, .ref h9, .int f4, .ref h10, .ref h11, .ref h12, .ref h13, .ref h14, .ref h15, .ref h16, .ref h17, .ref h18, .ref h19, .ref h20, .ref h21, .ref h22])), (h1, .inl (zI g, 180, .inl Z0))] := hD
    have hz : zAcnt B.lots B.n B.held B.P B.K (Int32.toInt 4) = y5.toInt := by
      unfold zAcnt
      rw [if_neg (by first | omega | decide), if_neg (by first | omega | decide), if_neg (by first | omega | decide), if_neg (by first | omega | decide), if_pos (by first | omega | decide)] <;> omega
    have hP9 := hP.sub (ws' := [(h0, .inr (5, [.ref h1, .int f0, .ref h2, .int f1, .int f2, .ref h3, .ref h4, .ref h5, .ref h6, .int f3, .ref h7, .ref h8, .ref h9, .int f4, .ref h10, .ref h11, .ref h12, .ref h13, .ref h14, .ref h15, .ref h16, .ref h17, .ref h18, .ref h19, .ref h20, .ref h21, .ref h22])), (h1, .inl (zI g, 180, .inl Z0))]) [0, 1] rfl
    have hD9 := hD.sub (ws' := [(h0, .inr (5, [.ref h1, .int f0, .ref h2, .int f1, .int f2, .ref h3, .ref h4, .ref h5, .ref h6, .int f3, .ref h7, .ref h8, .ref h9, .int f4, .ref h10, .ref h11, .ref h12, .ref h13, .ref h14, .ref h15, .ref h16, .ref h17, .ref h18, .ref h19, .ref h20, .ref h21, .ref h22])), (h1, .inl (zI g, 180, .inl Z0))]) [0, 1] (by decide) rfl
    exact W.iret (v := y5) hx hb hr (fun t ht hW => ⟨⟨y5, (0 : Nat), rfl, (by first | omega | decide), by rw [ht]; exact hP9, hD9⟩, hS.F ht⟩) hS.2.2 dX5_count_68
  have i_4 : p1.toInt ≠ 4 := fun h => j_4 (Int32.toInt_inj.mp (h.trans rfl))
  refine lv_tableOut (x := p1) (tgt := 69) hx hb dX5_count_1 (by omega) (by decide) ?_
  refine lv_iconst (v := (-1)) hx hb dX5_count_69 (by decide) ?_
  have : ((-1) : Int32).toInt = (-1) := rfl
  have hz : zAcnt B.lots B.n B.held B.P B.K p1.toInt = (-1) := by
    unfold zAcnt
    rw [if_neg (by omega), if_neg (by omega), if_neg (by omega), if_neg (by omega), if_neg (by omega)]
  have hP9 := hP.sub (ws' := [(h0, .inr (5, [.ref h1, .int f0, .ref h2, .int f1, .int f2, .ref h3, .ref h4, .ref h5, .ref h6, .int f3, .ref h7, .ref h8, .ref h9, .int f4, .ref h10, .ref h11, .ref h12, .ref h13, .ref h14, .ref h15, .ref h16, .ref h17, .ref h18, .ref h19, .ref h20, .ref h21, .ref h22])), (h1, .inl (zI g, 180, .inl Z0))]) [0, 1] rfl
  have hD9 := hD.sub (ws' := [(h0, .inr (5, [.ref h1, .int f0, .ref h2, .int f1, .int f2, .ref h3, .ref h4, .ref h5, .ref h6, .int f3, .ref h7, .ref h8, .ref h9, .int f4, .ref h10, .ref h11, .ref h12, .ref h13, .ref h14, .ref h15, .ref h16, .ref h17, .ref h18, .ref h19, .ref h20, .ref h21, .ref h22])), (h1, .inl (zI g, 180, .inl Z0))]) [0, 1] (by decide) rfl
  exact W.iret (v := (-1)) hx hb hr (fun t ht hW => ⟨⟨(-1), (0 : Nat), rfl, (by first | omega | decide), by rw [ht]; exact hP9, hD9⟩, hS.F ht⟩) hS.2.2 dX5_count_70

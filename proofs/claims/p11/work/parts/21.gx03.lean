set_option maxHeartbeats 8000000 in
set_option maxRecDepth 100000 in
theorem gX2_ready (l : Launch) (g : zG) (h0 h1 h2 h3 h4 h5 h6 h7 h8 h9 h10 h11 h12 h13 h14 h15 h16 h17 h18 h19 : Nat) (sz : Nat) (p2 : Int32) (f0 : Int32) (f1 : Int32) (f2 : Int32) (f3 : Int32) (f4 : Int32) (Z0 : Nat → Int32) (Z1 : Nat → Int32) (Z2 : Nat → Int32) (Z4 : Nat → Int32) (Z5 : Nat → Int32) (Z10 : Nat → Int32) (Z12 : Nat → Int32) (Z15 : Nat → Int32) (hf_f2 : 0 ≤ f2.toInt ∧ f2.toInt ≤ 6) (hf_f3 : 0 ≤ f3.toInt ∧ f3.toInt ≤ 5) (hf_f4 : 0 ≤ f4.toInt ∧ f4.toInt ≤ 9999) (hF_Z0 : iMa Z0) (hF_Z1 : iPu Z1) (hF_Z2 : iHd Z2) (hF_Z4 : iLm Z4) (hF_Z5 : iMo Z5) (hF_Z10 : iLaw Z10) (hF_Z12 : iSo Z12) (hF_Z15 : iWo Z15) : Met l yX2_ready (.code yX2_ready cX2_ready 5 none :: zBig) ({ frames := 2, cells := 0, slots := 0, locals := 43 }) (va_Pc [.ref h0, .ref h1, .int p2] (zPre g [(h0, .inr (2, [.ref h2, .ref h3, .ref h4, .ref h5, .ref h6, .ref h7, .int f0, .int f1, .ref h8, .ref h9, .ref h10, .ref h11])), (h1, .inr (0, [.ref h12, .int f2, .ref h13, .int f3, .ref h14, .ref h15, .ref h16, .ref h17, .ref h18, .ref h19, .int f4])), (h2, .inl (zI g, 5, .inl Z0)), (h3, .inl (zI g, 5, .inl Z1)), (h4, .inl (zI g, 5, .inl Z2)), (h6, .inl (zI g, 5, .inl Z4)), (h7, .inl (zI g, 5, .inl Z5)), (h12, .inl (zI g, 5, .inl Z10)), (h14, .inl (zI g, 5, .inl Z12)), (h17, .inl (zI g, 20, .inl Z15))] sz)) (va_Qv (fun u : Int32 × Int32 × (Nat → Int32) × (Nat → Int32) => (u.1.toInt = zS5 (zRm f3.toInt Z12 (zRw f3.toInt Z2))) ∧ zLmQ (zLim f3.toInt Z12 Z15 (zRw f3.toInt Z0) p2.toInt) f3.toInt u.2.2.1 ∧ zMoQ (zMon Z10 f3.toInt Z12 (zRw f3.toInt Z1)) f3.toInt u.2.2.2) (zPost g (fun u : Int32 × Int32 × (Nat → Int32) × (Nat → Int32) => [(h0, .inr (2, [.ref h2, .ref h3, .ref h4, .ref h5, .ref h6, .ref h7, .int u.1, .int u.2.1, .ref h8, .ref h9, .ref h10, .ref h11])), (h1, .inr (0, [.ref h12, .int f2, .ref h13, .int f3, .ref h14, .ref h15, .ref h16, .ref h17, .ref h18, .ref h19, .int f4])), (h2, .inl (zI g, 5, .inl Z0)), (h3, .inl (zI g, 5, .inl Z1)), (h4, .inl (zI g, 5, .inl Z2)), (h6, .inl (zI g, 5, .inl u.2.2.1)), (h7, .inl (zI g, 5, .inl u.2.2.2)), (h12, .inl (zI g, 5, .inl Z10)), (h14, .inl (zI g, 5, .inl Z12)), (h17, .inl (zI g, 20, .inl Z15))]) (va_A [(h0, .inr (2, [.ref h2, .ref h3, .ref h4, .ref h5, .ref h6, .ref h7, .int f0, .int f1, .ref h8, .ref h9, .ref h10, .ref h11])), (h1, .inr (0, [.ref h12, .int f2, .ref h13, .int f3, .ref h14, .ref h15, .ref h16, .ref h17, .ref h18, .ref h19, .int f4])), (h2, .inl (zI g, 5, .inl Z0)), (h3, .inl (zI g, 5, .inl Z1)), (h4, .inl (zI g, 5, .inl Z2)), (h6, .inl (zI g, 5, .inl Z4)), (h7, .inl (zI g, 5, .inl Z5)), (h12, .inl (zI g, 5, .inl Z10)), (h14, .inl (zI g, 5, .inl Z12)), (h17, .inl (zI g, 20, .inl Z15))] sz)) (va_A [(h0, .inr (2, [.ref h2, .ref h3, .ref h4, .ref h5, .ref h6, .ref h7, .int f0, .int f1, .ref h8, .ref h9, .ref h10, .ref h11])), (h1, .inr (0, [.ref h12, .int f2, .ref h13, .int f3, .ref h14, .ref h15, .ref h16, .ref h17, .ref h18, .ref h19, .int f4])), (h2, .inl (zI g, 5, .inl Z0)), (h3, .inl (zI g, 5, .inl Z1)), (h4, .inl (zI g, 5, .inl Z2)), (h6, .inl (zI g, 5, .inl Z4)), (h7, .inl (zI g, 5, .inl Z5)), (h12, .inl (zI g, 5, .inl Z10)), (h14, .inl (zI g, 5, .inl Z12)), (h17, .inl (zI g, 20, .inl Z15))] sz)) 0 0 (va_A [(h0, .inr (2, [.ref h2, .ref h3, .ref h4, .ref h5, .ref h6, .ref h7, .int f0, .int f1, .ref h8, .ref h9, .ref h10, .ref h11])), (h1, .inr (0, [.ref h12, .int f2, .ref h13, .int f3, .ref h14, .ref h15, .ref h16, .ref h17, .ref h18, .ref h19, .int f4])), (h2, .inl (zI g, 5, .inl Z0)), (h3, .inl (zI g, 5, .inl Z1)), (h4, .inl (zI g, 5, .inl Z2)), (h6, .inl (zI g, 5, .inl Z4)), (h7, .inl (zI g, 5, .inl Z5)), (h12, .inl (zI g, 5, .inl Z10)), (h14, .inl (zI g, 5, .inl Z12)), (h17, .inl (zI g, 20, .inl Z15))] sz) := by
  refine zMetV rfl (Nat.le_of_ble_eq_true rfl) ?_
  intro p e s m args below meth c A ls hx hb hml hr hlocks hin hown hts hK hN hZ hP hD hA hS hAe hl
  have hown : s.vm.findClass RX2 = some m.cls := hown
  have hl : lv_has ls 5 [(0, .ref h0), (1, .ref h1), (2, .int p2)] := hl
  refine lv_aload_n hx hb dX2_ready_0 rfl (lv_at hl 0 rfl) ?_
  refine lv_iconst (v := 0) hx hb dX2_ready_1 (by decide) ?_
  refine va_put (D := g.1) (ci := 2) (v := .int 0) (ty := .int) (C := RX2) (T := TX2) (N := 12) hx hb hts zl_X2 tyX2 tyX2_ok nmX2 hown hK hP hD hS 0 rfl rfl 6 (by decide) (hts _ m_f_RX2_30) (fun _ h => h) rfl (by decide +kernel) rfl rfl (Nat.le_of_ble_eq_true rfl) dX2_ready_2 (fun H locs hP hD hS => ?_)
  have hP : va_P g.1 vwCl [(h0, .inr (2, [.ref h2, .ref h3, .ref h4, .ref h5, .ref h6, .ref h7, .int 0, .int f1, .ref h8, .ref h9, .ref h10, .ref h11])), (h1, .inr (0, [.ref h12, .int f2, .ref h13, .int f3, .ref h14, .ref h15, .ref h16, .ref h17, .ref h18, .ref h19, .int f4])), (h2, .inl (zI g, 5, .inl Z0)), (h3, .inl (zI g, 5, .inl Z1)), (h4, .inl (zI g, 5, .inl Z2)), (h6, .inl (zI g, 5, .inl Z4)), (h7, .inl (zI g, 5, .inl Z5)), (h12, .inl (zI g, 5, .inl Z10)), (h14, .inl (zI g, 5, .inl Z12)), (h17, .inl (zI g, 20, .inl Z15))] H := hP
  have hD : va_D A [(h0, .inr (2, [.ref h2, .ref h3, .ref h4, .ref h5, .ref h6, .ref h7, .int 0, .int f1, .ref h8, .ref h9, .ref h10, .ref h11])), (h1, .inr (0, [.ref h12, .int f2, .ref h13, .int f3, .ref h14, .ref h15, .ref h16, .ref h17, .ref h18, .ref h19, .int f4])), (h2, .inl (zI g, 5, .inl Z0)), (h3, .inl (zI g, 5, .inl Z1)), (h4, .inl (zI g, 5, .inl Z2)), (h6, .inl (zI g, 5, .inl Z4)), (h7, .inl (zI g, 5, .inl Z5)), (h12, .inl (zI g, 5, .inl Z10)), (h14, .inl (zI g, 5, .inl Z12)), (h17, .inl (zI g, 20, .inl Z15))] := hD
  refine lv_aload_n hx hb dX2_ready_5 rfl (lv_at hl 0 rfl) ?_
  refine lv_iconst (v := 0) hx hb dX2_ready_6 (by decide) ?_
  refine va_put (D := g.1) (ci := 2) (v := .int 0) (ty := .int) (C := RX2) (T := TX2) (N := 12) hx hb hts zl_X2 tyX2 tyX2_ok nmX2 hown hK hP hD hS 0 rfl rfl 7 (by decide) (hts _ m_f_RX2_34) (fun _ h => h) rfl (by decide +kernel) rfl rfl (Nat.le_of_ble_eq_true rfl) dX2_ready_7 (fun H locs hP hD hS => ?_)
  have hP : va_P g.1 vwCl [(h0, .inr (2, [.ref h2, .ref h3, .ref h4, .ref h5, .ref h6, .ref h7, .int 0, .int 0, .ref h8, .ref h9, .ref h10, .ref h11])), (h1, .inr (0, [.ref h12, .int f2, .ref h13, .int f3, .ref h14, .ref h15, .ref h16, .ref h17, .ref h18, .ref h19, .int f4])), (h2, .inl (zI g, 5, .inl Z0)), (h3, .inl (zI g, 5, .inl Z1)), (h4, .inl (zI g, 5, .inl Z2)), (h6, .inl (zI g, 5, .inl Z4)), (h7, .inl (zI g, 5, .inl Z5)), (h12, .inl (zI g, 5, .inl Z10)), (h14, .inl (zI g, 5, .inl Z12)), (h17, .inl (zI g, 20, .inl Z15))] H := hP
  have hD : va_D A [(h0, .inr (2, [.ref h2, .ref h3, .ref h4, .ref h5, .ref h6, .ref h7, .int 0, .int 0, .ref h8, .ref h9, .ref h10, .ref h11])), (h1, .inr (0, [.ref h12, .int f2, .ref h13, .int f3, .ref h14, .ref h15, .ref h16, .ref h17, .ref h18, .ref h19, .int f4])), (h2, .inl (zI g, 5, .inl Z0)), (h3, .inl (zI g, 5, .inl Z1)), (h4, .inl (zI g, 5, .inl Z2)), (h6, .inl (zI g, 5, .inl Z4)), (h7, .inl (zI g, 5, .inl Z5)), (h12, .inl (zI g, 5, .inl Z10)), (h14, .inl (zI g, 5, .inl Z12)), (h17, .inl (zI g, 20, .inl Z15))] := hD
  have hsk0 : zSk (zRm f3.toInt Z12 (zRw f3.toInt Z2)) (0 : Int32).toInt = 0 := zSk_0
  have hI0 : zLmP (zLim f3.toInt Z12 Z15 (zRw f3.toInt Z0) p2.toInt) 0 Z4 := ⟨hF_Z4, zTo_0⟩
  have hI1 : zMoP (zMon Z10 f3.toInt Z12 (zRw f3.toInt Z1)) 0 Z5 := ⟨hF_Z5, zTo_0⟩
  refine lv_iconst (v := 0) hx hb dX2_ready_10 (by decide) ?_
  refine lv_istore_n (lv' := [(3, .int 0), (0, .ref h0), (1, .ref h1), (2, .int p2)]) hx hb dX2_ready_11 rfl hl (by decide) rfl (fun ls hl => ?_)
  have loop12_0 : ∀ (n1 : Nat) (v3_0 : Int32) (g0_0 : Int32) (G1_0 : Nat → Int32) (G2_0 : Nat → Int32) (hG1_0 : zLmP (zLim f3.toInt Z12 Z15 (zRw f3.toInt Z0) p2.toInt) (v3_0.toInt) G1_0) (hG2_0 : zMoP (zMon Z10 f3.toInt Z12 (zRw f3.toInt Z1)) (v3_0.toInt) G2_0) (n1_0 : 0 ≤ v3_0.toInt) (n1_1 : v3_0.toInt ≤ 5) (n1_2 : v3_0.toInt ≤ f3.toInt) (n1_3 : 0 ≤ g0_0.toInt) (n1_4 : g0_0.toInt ≤ 31) (n1_5 : g0_0.toInt = zSk (zRm f3.toInt Z12 (zRw f3.toInt Z2)) v3_0.toInt) (hm1 : 5 - v3_0.toInt < (n1 : Int)) (H : Heap) (locs : List Loc), va_P g.1 vwCl [(h0, .inr (2, [.ref h2, .ref h3, .ref h4, .ref h5, .ref h6, .ref h7, .int g0_0, .int 0, .ref h8, .ref h9, .ref h10, .ref h11])), (h1, .inr (0, [.ref h12, .int f2, .ref h13, .int f3, .ref h14, .ref h15, .ref h16, .ref h17, .ref h18, .ref h19, .int f4])), (h2, .inl (zI g, 5, .inl Z0)), (h3, .inl (zI g, 5, .inl Z1)), (h4, .inl (zI g, 5, .inl Z2)), (h6, .inl (zI g, 5, .inl G1_0)), (h7, .inl (zI g, 5, .inl G2_0)), (h12, .inl (zI g, 5, .inl Z10)), (h14, .inl (zI g, 5, .inl Z12)), (h17, .inl (zI g, 20, .inl Z15))] H → va_D A [(h0, .inr (2, [.ref h2, .ref h3, .ref h4, .ref h5, .ref h6, .ref h7, .int g0_0, .int 0, .ref h8, .ref h9, .ref h10, .ref h11])), (h1, .inr (0, [.ref h12, .int f2, .ref h13, .int f3, .ref h14, .ref h15, .ref h16, .ref h17, .ref h18, .ref h19, .int f4])), (h2, .inl (zI g, 5, .inl Z0)), (h3, .inl (zI g, 5, .inl Z1)), (h4, .inl (zI g, 5, .inl Z2)), (h6, .inl (zI g, 5, .inl G1_0)), (h7, .inl (zI g, 5, .inl G2_0)), (h12, .inl (zI g, 5, .inl Z10)), (h14, .inl (zI g, 5, .inl Z12)), (h17, .inl (zI g, 20, .inl Z15))] → va_S A s.heap H locs → ∀ (ls : Array Slot), lv_has ls 5 [(0, .ref h0), (1, .ref h1), (2, .int p2), (3, .int v3_0)] → W p l e ({ frames := 2, cells := 0, slots := 0, locals := 43 }) s m args below meth c H locs 0 0 (MQ below (va_Qv (fun u : Int32 × Int32 × (Nat → Int32) × (Nat → Int32) => (u.1.toInt = zS5 (zRm f3.toInt Z12 (zRw f3.toInt Z2))) ∧ zLmQ (zLim f3.toInt Z12 Z15 (zRw f3.toInt Z0) p2.toInt) f3.toInt u.2.2.1 ∧ zMoQ (zMon Z10 f3.toInt Z12 (zRw f3.toInt Z1)) f3.toInt u.2.2.2) (zPost g (fun u : Int32 × Int32 × (Nat → Int32) × (Nat → Int32) => [(h0, .inr (2, [.ref h2, .ref h3, .ref h4, .ref h5, .ref h6, .ref h7, .int u.1, .int u.2.1, .ref h8, .ref h9, .ref h10, .ref h11])), (h1, .inr (0, [.ref h12, .int f2, .ref h13, .int f3, .ref h14, .ref h15, .ref h16, .ref h17, .ref h18, .ref h19, .int f4])), (h2, .inl (zI g, 5, .inl Z0)), (h3, .inl (zI g, 5, .inl Z1)), (h4, .inl (zI g, 5, .inl Z2)), (h6, .inl (zI g, 5, .inl u.2.2.1)), (h7, .inl (zI g, 5, .inl u.2.2.2)), (h12, .inl (zI g, 5, .inl Z10)), (h14, .inl (zI g, 5, .inl Z12)), (h17, .inl (zI g, 20, .inl Z15))]) A) A) args s 0 0 A) (F0 m 12 ls []) := by
    intro n1
    induction n1 with
    | zero => intro v3_0 g0_0 G1_0 G2_0 hG1_0 hG2_0 n1_0 n1_1 n1_2 n1_3 n1_4 n1_5 hm1; exfalso; omega
    | succ n1 ih1 =>
      intro v3_0 g0_0 G1_0 G2_0 hG1_0 hG2_0 n1_0 n1_1 n1_2 n1_3 n1_4 n1_5 hm1 H locs hP hD hS ls hl
      refine lv_iload_n hx hb dX2_ready_12 rfl (lv_at hl 3 rfl) ?_
      refine lv_iconst (v := 5) hx hb dX2_ready_13 (by decide) ?_
      refine lv_icmp_ge (tgt := 119) hx hb dX2_ready_14 (by decide) (fun c_1 => ?_) (fun c_1 => ?_)
      · have i_1 : 5 ≤ v3_0.toInt := z_le (rfl) (rfl) c_1
        have hk9 : v3_0.toInt = f3.toInt := by omega
        have hs9 : zSk (zRm f3.toInt Z12 (zRw f3.toInt Z2)) v3_0.toInt = zS5 (zRm f3.toInt Z12 (zRw f3.toInt Z2)) := zSk_rm (by omega) (by omega)
        have hI2 : zLmQ (zLim f3.toInt Z12 Z15 (zRw f3.toInt Z0) p2.toInt) f3.toInt G1_0 := ⟨hG1_0.1, zTo_rw (zTo_eq hG1_0.2 hk9) (fun j h => zLim_out h)⟩
        have hI3 : zMoQ (zMon Z10 f3.toInt Z12 (zRw f3.toInt Z1)) f3.toInt G2_0 := ⟨hG2_0.1, zTo_rw (zTo_eq hG2_0.2 hk9) (fun j h => zMon_out h)⟩
        have hP9 := hP.sub (ws' := [(h0, .inr (2, [.ref h2, .ref h3, .ref h4, .ref h5, .ref h6, .ref h7, .int g0_0, .int 0, .ref h8, .ref h9, .ref h10, .ref h11])), (h1, .inr (0, [.ref h12, .int f2, .ref h13, .int f3, .ref h14, .ref h15, .ref h16, .ref h17, .ref h18, .ref h19, .int f4])), (h2, .inl (zI g, 5, .inl Z0)), (h3, .inl (zI g, 5, .inl Z1)), (h4, .inl (zI g, 5, .inl Z2)), (h6, .inl (zI g, 5, .inl G1_0)), (h7, .inl (zI g, 5, .inl G2_0)), (h12, .inl (zI g, 5, .inl Z10)), (h14, .inl (zI g, 5, .inl Z12)), (h17, .inl (zI g, 20, .inl Z15))]) [0, 1, 2, 3, 4, 5, 6, 7, 8, 9] rfl
        have hD9 := hD.sub (ws' := [(h0, .inr (2, [.ref h2, .ref h3, .ref h4, .ref h5, .ref h6, .ref h7, .int g0_0, .int 0, .ref h8, .ref h9, .ref h10, .ref h11])), (h1, .inr (0, [.ref h12, .int f2, .ref h13, .int f3, .ref h14, .ref h15, .ref h16, .ref h17, .ref h18, .ref h19, .int f4])), (h2, .inl (zI g, 5, .inl Z0)), (h3, .inl (zI g, 5, .inl Z1)), (h4, .inl (zI g, 5, .inl Z2)), (h6, .inl (zI g, 5, .inl G1_0)), (h7, .inl (zI g, 5, .inl G2_0)), (h12, .inl (zI g, 5, .inl Z10)), (h14, .inl (zI g, 5, .inl Z12)), (h17, .inl (zI g, 20, .inl Z15))]) [0, 1, 2, 3, 4, 5, 6, 7, 8, 9] (by decide) rfl
        exact W.vret hx hb hr (fun t ht hW => ⟨⟨⟨g0_0, 0, G1_0, G2_0⟩, rfl, ⟨(show g0_0.toInt = zS5 (zRm f3.toInt Z12 (zRw f3.toInt Z2)) from by first | omega | decide), hI2, hI3⟩, by rw [ht]; exact hP9, hD9⟩, hS.F ht⟩) hS.2.2 dX2_ready_119
      · have i_1 : v3_0.toInt < 5 := z_nle (rfl) (rfl) c_1
        refine lv_iload_n hx hb dX2_ready_17 rfl (lv_at hl 3 rfl) ?_
        refine lv_aload_n hx hb dX2_ready_18 rfl (lv_at hl 1 rfl) ?_
        refine va_getN (D := g.1) (ci := 0) (v := .int f3) (C := RX0) (T := TX0) (N := 11) hx hb hts zl_X0 hown hK hP 1 rfl rfl 3 (by decide) (hN.f 8 (q := (RX2, 140, "FishSteps$Books", "buyers", "I")) rfl) (fun _ h => h) rfl dX2_ready_19 ?_
        refine lv_icmp_ge (tgt := 119) hx hb dX2_ready_22 (by decide) (fun c_2 => ?_) (fun c_2 => ?_)
        · have i_2 : f3.toInt ≤ v3_0.toInt := z_le (rfl) (rfl) c_2
          have hk9 : v3_0.toInt = f3.toInt := by omega
          have hs9 : zSk (zRm f3.toInt Z12 (zRw f3.toInt Z2)) v3_0.toInt = zS5 (zRm f3.toInt Z12 (zRw f3.toInt Z2)) := zSk_rm (by omega) (by omega)
          have hI4 : zLmQ (zLim f3.toInt Z12 Z15 (zRw f3.toInt Z0) p2.toInt) f3.toInt G1_0 := ⟨hG1_0.1, zTo_rw (zTo_eq hG1_0.2 hk9) (fun j h => zLim_out h)⟩
          have hI5 : zMoQ (zMon Z10 f3.toInt Z12 (zRw f3.toInt Z1)) f3.toInt G2_0 := ⟨hG2_0.1, zTo_rw (zTo_eq hG2_0.2 hk9) (fun j h => zMon_out h)⟩
          have hP9 := hP.sub (ws' := [(h0, .inr (2, [.ref h2, .ref h3, .ref h4, .ref h5, .ref h6, .ref h7, .int g0_0, .int 0, .ref h8, .ref h9, .ref h10, .ref h11])), (h1, .inr (0, [.ref h12, .int f2, .ref h13, .int f3, .ref h14, .ref h15, .ref h16, .ref h17, .ref h18, .ref h19, .int f4])), (h2, .inl (zI g, 5, .inl Z0)), (h3, .inl (zI g, 5, .inl Z1)), (h4, .inl (zI g, 5, .inl Z2)), (h6, .inl (zI g, 5, .inl G1_0)), (h7, .inl (zI g, 5, .inl G2_0)), (h12, .inl (zI g, 5, .inl Z10)), (h14, .inl (zI g, 5, .inl Z12)), (h17, .inl (zI g, 20, .inl Z15))]) [0, 1, 2, 3, 4, 5, 6, 7, 8, 9] rfl
          have hD9 := hD.sub (ws' := [(h0, .inr (2, [.ref h2, .ref h3, .ref h4, .ref h5, .ref h6, .ref h7, .int g0_0, .int 0, .ref h8, .ref h9, .ref h10, .ref h11])), (h1, .inr (0, [.ref h12, .int f2, .ref h13, .int f3, .ref h14, .ref h15, .ref h16, .ref h17, .ref h18, .ref h19, .int f4])), (h2, .inl (zI g, 5, .inl Z0)), (h3, .inl (zI g, 5, .inl Z1)), (h4, .inl (zI g, 5, .inl Z2)), (h6, .inl (zI g, 5, .inl G1_0)), (h7, .inl (zI g, 5, .inl G2_0)), (h12, .inl (zI g, 5, .inl Z10)), (h14, .inl (zI g, 5, .inl Z12)), (h17, .inl (zI g, 20, .inl Z15))]) [0, 1, 2, 3, 4, 5, 6, 7, 8, 9] (by decide) rfl
          exact W.vret hx hb hr (fun t ht hW => ⟨⟨⟨g0_0, 0, G1_0, G2_0⟩, rfl, ⟨(show g0_0.toInt = zS5 (zRm f3.toInt Z12 (zRw f3.toInt Z2)) from by first | omega | decide), hI4, hI5⟩, by rw [ht]; exact hP9, hD9⟩, hS.F ht⟩) hS.2.2 dX2_ready_119
        · have i_2 : v3_0.toInt < f3.toInt := z_nle (rfl) (rfl) c_2
          refine lv_aload_n hx hb dX2_ready_25 rfl (lv_at hl 1 rfl) ?_
          refine va_getN (D := g.1) (ci := 0) (v := .ref h14) (C := RX0) (T := TX0) (N := 11) hx hb hts zl_X0 hown hK hP 1 rfl rfl 4 (by decide) (hN.f 10 (q := (RX2, 134, "FishSteps$Books", "sort", "[I")) rfl) (fun _ h => h) rfl dX2_ready_26 ?_
          refine lv_iload_n hx hb dX2_ready_29 rfl (lv_at hl 3 rfl) ?_
          refine va_iald (D := g.1) hx hb hK hP 8 0 rfl rfl (vp_in_iff.mpr ⟨by omega, by omega⟩) dX2_ready_30 ?_
          refine lv_topi (fun y6 ey6 => ?_)
          have qy6_0 : 0 ≤ y6.toInt := (i_at (N := 5) (lo := 0) (hi := 4) (i := v3_0) (a := v3_0.toInt) hF_Z12 (rfl) (by omega) (by omega) ey6).1
          have qy6_1 : y6.toInt ≤ 4 := (i_at (N := 5) (lo := 0) (hi := 4) (i := v3_0) (a := v3_0.toInt) hF_Z12 (rfl) (by omega) (by omega) ey6).2
          have qy6_2 : y6.toInt = (Z12 v3_0.toNatClampNeg).toInt := congrArg Int32.toInt ey6
          refine lv_istore (lv' := [(4, .int y6), (0, .ref h0), (1, .ref h1), (2, .int p2), (3, .int v3_0)]) hx hb dX2_ready_31 hl (by decide) rfl (fun ls hl => ?_)
          refine lv_aload_n hx hb dX2_ready_33 rfl (lv_at hl 1 rfl) ?_
          refine va_get (D := g.1) (ci := 2) (v := .ref h4) (C := RX2) (T := TX2) (N := 12) hx hb hts zl_X2 hown hK hP 0 rfl rfl 2 (by decide) (hts _ m_f_RX2_18) (fun _ h => h) rfl dX2_ready_34 ?_
          refine lv_iload_n hx hb dX2_ready_37 rfl (lv_at hl 4 rfl) ?_
          refine va_iald (D := g.1) hx hb hK hP 4 0 rfl rfl (vp_in_iff.mpr ⟨by omega, by omega⟩) dX2_ready_38 ?_
          refine lv_topi (fun y7 ey7 => ?_)
          have qy7_0 : 0 ≤ y7.toInt := (i_at (N := 5) (lo := 0) (hi := 10) (i := v3_0) (a := v3_0.toInt) hF_Z2 (rfl) (by omega) (by omega) ey7).1
          have qy7_1 : y7.toInt ≤ 10 := (i_at (N := 5) (lo := 0) (hi := 10) (i := v3_0) (a := v3_0.toInt) hF_Z2 (rfl) (by omega) (by omega) ey7).2
          have qy7_2 : y7.toInt = (Z2 v3_0.toNatClampNeg).toInt := congrArg Int32.toInt ey7
          refine lv_iload hx hb dX2_ready_39 (lv_at hl 0 rfl) ?_
          refine lv_iconst (v := 2) hx hb dX2_ready_41 (by decide) ?_
          refine lv_icmp_ne (tgt := 49) hx hb dX2_ready_42 (by decide) (fun c_3 => ?_) (fun c_3 => ?_)
          · have i_3 : y6.toInt ≠ 2 := z_ne (rfl) (rfl) c_3
            refine lv_iconst (v := 1) hx hb dX2_ready_49 (by decide) ?_
            refine lv_icmp_ge (tgt := 65) hx hb dX2_ready_50 (by decide) (fun c_4 => ?_) (fun c_4 => ?_)
            · have i_4 : 1 ≤ y7.toInt := z_le (rfl) (rfl) c_4
              have hcap : zCap Z12 v3_0.toNatClampNeg = 1 := zCap_1 (by omega)
              have hrm : (zRm f3.toInt Z12 (zRw f3.toInt Z2)) v3_0.toNatClampNeg = 0 := zRm_i0 (i := v3_0) (by omega) (by omega) hcap (by omega)
              have hsk : zSk (zRm f3.toInt Z12 (zRw f3.toInt Z2)) (v3_0.toInt + 1) = zSk (zRm f3.toInt Z12 (zRw f3.toInt Z2)) v3_0.toInt := zSk_n (by omega) (by omega) hrm
              refine lv_aload_n hx hb dX2_ready_65 rfl (lv_at hl 1 rfl) ?_
              refine va_get (D := g.1) (ci := 2) (v := .ref h6) (C := RX2) (T := TX2) (N := 12) hx hb hts zl_X2 hown hK hP 0 rfl rfl 4 (by decide) (hts _ m_f_RX2_24) (fun _ h => h) rfl dX2_ready_66 ?_
              refine lv_iload_n hx hb dX2_ready_69 rfl (lv_at hl 4 rfl) ?_
              refine lv_aload_n hx hb dX2_ready_70 rfl (lv_at hl 2 rfl) ?_
              refine lv_iload_n hx hb dX2_ready_71 rfl (lv_at hl 4 rfl) ?_
              refine lv_iload_n hx hb dX2_ready_72 rfl (lv_at hl 3 rfl) ?_
              refine z_calli (wr := [(h0, .inr (2, [.ref h2, .ref h3, .ref h4, .ref h5, .ref h6, .ref h7, .int g0_0, .int 0, .ref h8, .ref h9, .ref h10, .ref h11])), (h2, .inl (zI g, 5, .inl Z0)), (h3, .inl (zI g, 5, .inl Z1)), (h4, .inl (zI g, 5, .inl Z2)), (h6, .inl (zI g, 5, .inl G1_0)), (h7, .inl (zI g, 5, .inl G2_0)), (h12, .inl (zI g, 5, .inl Z10)), (h14, .inl (zI g, 5, .inl Z12))]) hP hD hS hA [1, 9] [0, 2, 3, 4, 5, 6, 7, 8] (by decide) rfl rfl (by decide) (va_runVN (As := [.int v3_0, .int p2]) (rest := [.int v3_0, .ref h6]) ⟨hx, hb, hml, hown, hts⟩ (gX0_worthOf l g h1 h12 h13 h14 h15 h16 h17 h18 h19 H.size v3_0 p2 f2 f3 f4 Z15 (by constructor <;> omega) (by constructor <;> omega) (by constructor <;> omega) hF_Z15) ⟨va_cnB 2 hts (zGood m_o_yX0_worthOf) rfl rfl rfl (hN.m 15 (q := (RX2, 137, yX0_worthOf)) rfl) (hts _ m_z_RX0) ⟨by decide +kernel, by decide +kernel, by decide +kernel⟩ ⟨Nat.le_of_ble_eq_true rfl, Nat.le_of_ble_eq_true rfl⟩, hts _ m_i_yX0_worthOf, hts _ m_e_yX0_worthOf⟩ (zPreV hK hN hZ hP hD hS hA [1, 9] (by decide) rfl rfl 0 1 rfl rfl) rfl rfl hl.1 rfl (lv_room (Nat.le_of_ble_eq_true rfl)) dX2_ready_73 ⟨Nat.le_of_ble_eq_true rfl, Nat.le_of_ble_eq_true rfl⟩) (fun r u H locs hw hP hD hS => ?_)
              obtain ⟨y8, rfl⟩ : ∃ z, z = r := ⟨_, rfl⟩
              obtain ⟨q9_0, q9_1, q9_2⟩ := hw
              have q9_0 : y8.toInt = zWq f3.toInt Z15 v3_0.toInt p2.toInt := q9_0
              have q9_1 : 0 ≤ y8.toInt := q9_1
              have q9_2 : y8.toInt ≤ 99 := q9_2
              have hP : va_P g.1 vwCl [(h0, .inr (2, [.ref h2, .ref h3, .ref h4, .ref h5, .ref h6, .ref h7, .int g0_0, .int 0, .ref h8, .ref h9, .ref h10, .ref h11])), (h2, .inl (zI g, 5, .inl Z0)), (h3, .inl (zI g, 5, .inl Z1)), (h4, .inl (zI g, 5, .inl Z2)), (h6, .inl (zI g, 5, .inl G1_0)), (h7, .inl (zI g, 5, .inl G2_0)), (h12, .inl (zI g, 5, .inl Z10)), (h14, .inl (zI g, 5, .inl Z12)), (h1, .inr (0, [.ref h12, .int f2, .ref h13, .int f3, .ref h14, .ref h15, .ref h16, .ref h17, .ref h18, .ref h19, .int f4])), (h17, .inl (zI g, 20, .inl Z15))] H := hP
              have hD : va_D A [(h0, .inr (2, [.ref h2, .ref h3, .ref h4, .ref h5, .ref h6, .ref h7, .int g0_0, .int 0, .ref h8, .ref h9, .ref h10, .ref h11])), (h2, .inl (zI g, 5, .inl Z0)), (h3, .inl (zI g, 5, .inl Z1)), (h4, .inl (zI g, 5, .inl Z2)), (h6, .inl (zI g, 5, .inl G1_0)), (h7, .inl (zI g, 5, .inl G2_0)), (h12, .inl (zI g, 5, .inl Z10)), (h14, .inl (zI g, 5, .inl Z12)), (h1, .inr (0, [.ref h12, .int f2, .ref h13, .int f3, .ref h14, .ref h15, .ref h16, .ref h17, .ref h18, .ref h19, .int f4])), (h17, .inl (zI g, 20, .inl Z15))] := hD
              refine lv_aload_n hx hb dX2_ready_76 rfl (lv_at hl 1 rfl) ?_
              refine lv_aload_n hx hb dX2_ready_77 rfl (lv_at hl 2 rfl) ?_
              refine lv_iload_n hx hb dX2_ready_78 rfl (lv_at hl 4 rfl) ?_
              have : (0 : Int32).toInt = 0 := rfl
              refine z_calli (wr := [(h3, .inl (zI g, 5, .inl Z1)), (h4, .inl (zI g, 5, .inl Z2)), (h6, .inl (zI g, 5, .inl G1_0)), (h7, .inl (zI g, 5, .inl G2_0)), (h12, .inl (zI g, 5, .inl Z10)), (h17, .inl (zI g, 20, .inl Z15))]) hP hD hS hA [0, 8, 1, 7] [2, 3, 4, 5, 6, 9] (by decide) rfl rfl (by decide) (va_runV (As := [.ref h1, .int v3_0]) (rest := [.int y8, .int v3_0, .ref h6]) ⟨hx, hb, hml, hown, hts⟩ (gX2_charge l g h0 h1 h2 h3 h4 h5 h6 h7 h8 h9 h10 h11 h12 h13 h14 h15 h16 h17 h18 h19 H.size v3_0 g0_0 (0 : Int32) f2 f3 f4 Z0 Z12 (by omega) (by omega) (by constructor <;> omega) (by constructor <;> omega) (by constructor <;> omega) hF_Z0 hF_Z12) ⟨callB_of 2 hts (zGood m_o_yX2_charge) rfl rfl rfl (hts _ m_z_RX2) (hts _ m_m_RX2_143) ⟨by decide +kernel, by decide +kernel, by decide +kernel⟩ ⟨Nat.le_of_ble_eq_true rfl, Nat.le_of_ble_eq_true rfl⟩, hts _ m_i_yX2_charge, hts _ m_e_yX2_charge⟩ (zPreV hK hN hZ hP hD hS hA [0, 8, 1, 7] (by decide) rfl rfl 2 0 rfl rfl) rfl rfl hl.1 rfl (lv_room (Nat.le_of_ble_eq_true rfl)) dX2_ready_79 ⟨Nat.le_of_ble_eq_true rfl, Nat.le_of_ble_eq_true rfl⟩) (fun r u H locs hw hP hD hS => ?_)
              obtain ⟨y10, rfl⟩ : ∃ z, z = r := ⟨_, rfl⟩
              obtain ⟨q11_0, q11_1, q11_2⟩ := hw
              have q11_0 : y10.toInt = zCh Z12 (zIv Z0) v3_0.toNatClampNeg := q11_0
              have q11_1 : 0 ≤ y10.toInt := q11_1
              have q11_2 : y10.toInt ≤ 40 := q11_2
              have hP : va_P g.1 vwCl [(h3, .inl (zI g, 5, .inl Z1)), (h4, .inl (zI g, 5, .inl Z2)), (h6, .inl (zI g, 5, .inl G1_0)), (h7, .inl (zI g, 5, .inl G2_0)), (h12, .inl (zI g, 5, .inl Z10)), (h17, .inl (zI g, 20, .inl Z15)), (h0, .inr (2, [.ref h2, .ref h3, .ref h4, .ref h5, .ref h6, .ref h7, .int g0_0, .int 0, .ref h8, .ref h9, .ref h10, .ref h11])), (h1, .inr (0, [.ref h12, .int f2, .ref h13, .int f3, .ref h14, .ref h15, .ref h16, .ref h17, .ref h18, .ref h19, .int f4])), (h2, .inl (zI g, 5, .inl Z0)), (h14, .inl (zI g, 5, .inl Z12))] H := hP
              have hD : va_D A [(h3, .inl (zI g, 5, .inl Z1)), (h4, .inl (zI g, 5, .inl Z2)), (h6, .inl (zI g, 5, .inl G1_0)), (h7, .inl (zI g, 5, .inl G2_0)), (h12, .inl (zI g, 5, .inl Z10)), (h17, .inl (zI g, 20, .inl Z15)), (h0, .inr (2, [.ref h2, .ref h3, .ref h4, .ref h5, .ref h6, .ref h7, .int g0_0, .int 0, .ref h8, .ref h9, .ref h10, .ref h11])), (h1, .inr (0, [.ref h12, .int f2, .ref h13, .int f3, .ref h14, .ref h15, .ref h16, .ref h17, .ref h18, .ref h19, .int f4])), (h2, .inl (zI g, 5, .inl Z0)), (h14, .inl (zI g, 5, .inl Z12))] := hD
              refine lv_isub hx hb dX2_ready_82 ?_
              refine lv_topi (fun y12 ey12 => ?_)
              have qy12_0 : y12.toInt = y8.toInt - y10.toInt := zi_sub ey12 (rfl) (rfl) (by omega) (by omega)
              refine va_iast (D := g.1) hx hb hK hP hD hS 2 0 rfl rfl (vp_in_iff.mpr ⟨by omega, by omega⟩) dX2_ready_83 (fun H locs hP hD hS => ?_)
              have hP : va_P g.1 vwCl [(h3, .inl (zI g, 5, .inl Z1)), (h4, .inl (zI g, 5, .inl Z2)), (h6, .inl (zI g, 5, .inl (upd G1_0 v3_0.toNatClampNeg y12))), (h7, .inl (zI g, 5, .inl G2_0)), (h12, .inl (zI g, 5, .inl Z10)), (h17, .inl (zI g, 20, .inl Z15)), (h0, .inr (2, [.ref h2, .ref h3, .ref h4, .ref h5, .ref h6, .ref h7, .int g0_0, .int 0, .ref h8, .ref h9, .ref h10, .ref h11])), (h1, .inr (0, [.ref h12, .int f2, .ref h13, .int f3, .ref h14, .ref h15, .ref h16, .ref h17, .ref h18, .ref h19, .int f4])), (h2, .inl (zI g, 5, .inl Z0)), (h14, .inl (zI g, 5, .inl Z12))] H := hP
              have hD : va_D A [(h3, .inl (zI g, 5, .inl Z1)), (h4, .inl (zI g, 5, .inl Z2)), (h6, .inl (zI g, 5, .inl (upd G1_0 v3_0.toNatClampNeg y12))), (h7, .inl (zI g, 5, .inl G2_0)), (h12, .inl (zI g, 5, .inl Z10)), (h17, .inl (zI g, 20, .inl Z15)), (h0, .inr (2, [.ref h2, .ref h3, .ref h4, .ref h5, .ref h6, .ref h7, .int g0_0, .int 0, .ref h8, .ref h9, .ref h10, .ref h11])), (h1, .inr (0, [.ref h12, .int f2, .ref h13, .int f3, .ref h14, .ref h15, .ref h16, .ref h17, .ref h18, .ref h19, .int f4])), (h2, .inl (zI g, 5, .inl Z0)), (h14, .inl (zI g, 5, .inl Z12))] := hD
              have hI13 : zLmP (zLim f3.toInt Z12 Z15 (zRw f3.toInt Z0) p2.toInt) (v3_0.toInt + 1) (upd G1_0 v3_0.toNatClampNeg y12) := zLmP_put (i := v3_0) hG1_0 rfl (by omega) (rfl) (by rw [zLim_i (by omega) (by omega), zCh_rw (by omega) (by omega)]; omega) (by omega) (by omega)
              obtain ⟨R14, eR14⟩ : ∃ z : Nat → Int32, z = (upd G1_0 v3_0.toNatClampNeg y12) := ⟨_, rfl⟩
              rw [← eR14] at hP hD hI13
              refine lv_aload_n hx hb dX2_ready_84 rfl (lv_at hl 1 rfl) ?_
              refine va_get (D := g.1) (ci := 2) (v := .ref h7) (C := RX2) (T := TX2) (N := 12) hx hb hts zl_X2 hown hK hP 6 rfl rfl 5 (by decide) (hts _ m_f_RX2_27) (fun _ h => h) rfl dX2_ready_85 ?_
              refine lv_iload_n hx hb dX2_ready_88 rfl (lv_at hl 4 rfl) ?_
              refine lv_aload_n hx hb dX2_ready_89 rfl (lv_at hl 1 rfl) ?_
              refine va_get (D := g.1) (ci := 2) (v := .ref h3) (C := RX2) (T := TX2) (N := 12) hx hb hts zl_X2 hown hK hP 6 rfl rfl 1 (by decide) (hts _ m_f_RX2_15) (fun _ h => h) rfl dX2_ready_90 ?_
              refine lv_iload_n hx hb dX2_ready_93 rfl (lv_at hl 4 rfl) ?_
              refine va_iald (D := g.1) hx hb hK hP 0 0 rfl rfl (vp_in_iff.mpr ⟨by omega, by omega⟩) dX2_ready_94 ?_
              refine lv_topi (fun y15 ey15 => ?_)
              have qy15_0 : (-99) ≤ y15.toInt := (i_at (N := 5) (lo := (-99)) (hi := 9999) (i := v3_0) (a := v3_0.toInt) hF_Z1 (rfl) (by omega) (by omega) ey15).1
              have qy15_1 : y15.toInt ≤ 9999 := (i_at (N := 5) (lo := (-99)) (hi := 9999) (i := v3_0) (a := v3_0.toInt) hF_Z1 (rfl) (by omega) (by omega) ey15).2
              have qy15_2 : y15.toInt = (Z1 v3_0.toNatClampNeg).toInt := congrArg Int32.toInt ey15
              refine lv_iload hx hb dX2_ready_95 (lv_at hl 0 rfl) ?_
              refine lv_iconst (v := 4) hx hb dX2_ready_97 (by decide) ?_
              refine lv_icmp_ne (tgt := 110) hx hb dX2_ready_98 (by decide) (fun c_5 => ?_) (fun c_5 => ?_)
              · have i_5 : y6.toInt ≠ 4 := z_ne (rfl) (rfl) c_5
                refine lv_iconst (v := 0) hx hb dX2_ready_110 (by decide) ?_
                refine lv_iadd hx hb dX2_ready_111 ?_
                refine lv_topi (fun y16 ey16 => ?_)
                have qy16_0 : y16.toInt = y15.toInt + 0 := zi_add ey16 (rfl) (rfl) (by omega) (by omega)
                refine va_iast (D := g.1) hx hb hK hP hD hS 3 0 rfl rfl (vp_in_iff.mpr ⟨by omega, by omega⟩) dX2_ready_112 (fun H locs hP hD hS => ?_)
                have hP : va_P g.1 vwCl [(h3, .inl (zI g, 5, .inl Z1)), (h4, .inl (zI g, 5, .inl Z2)), (h6, .inl (zI g, 5, .inl R14)), (h7, .inl (zI g, 5, .inl (upd G2_0 v3_0.toNatClampNeg y16))), (h12, .inl (zI g, 5, .inl Z10)), (h17, .inl (zI g, 20, .inl Z15)), (h0, .inr (2, [.ref h2, .ref h3, .ref h4, .ref h5, .ref h6, .ref h7, .int g0_0, .int 0, .ref h8, .ref h9, .ref h10, .ref h11])), (h1, .inr (0, [.ref h12, .int f2, .ref h13, .int f3, .ref h14, .ref h15, .ref h16, .ref h17, .ref h18, .ref h19, .int f4])), (h2, .inl (zI g, 5, .inl Z0)), (h14, .inl (zI g, 5, .inl Z12))] H := hP
                have hD : va_D A [(h3, .inl (zI g, 5, .inl Z1)), (h4, .inl (zI g, 5, .inl Z2)), (h6, .inl (zI g, 5, .inl R14)), (h7, .inl (zI g, 5, .inl (upd G2_0 v3_0.toNatClampNeg y16))), (h12, .inl (zI g, 5, .inl Z10)), (h17, .inl (zI g, 20, .inl Z15)), (h0, .inr (2, [.ref h2, .ref h3, .ref h4, .ref h5, .ref h6, .ref h7, .int g0_0, .int 0, .ref h8, .ref h9, .ref h10, .ref h11])), (h1, .inr (0, [.ref h12, .int f2, .ref h13, .int f3, .ref h14, .ref h15, .ref h16, .ref h17, .ref h18, .ref h19, .int f4])), (h2, .inl (zI g, 5, .inl Z0)), (h14, .inl (zI g, 5, .inl Z12))] := hD
                have hI17 : zMoP (zMon Z10 f3.toInt Z12 (zRw f3.toInt Z1)) (v3_0.toInt + 1) (upd G2_0 v3_0.toNatClampNeg y16) := zMoP_put (i := v3_0) hG2_0 rfl (by omega) (rfl) (by rw [zMon_i (by omega) (by omega), zRw_i (by omega) (by omega), if_neg (by omega)]; omega) (by omega) (by omega)
                obtain ⟨R18, eR18⟩ : ∃ z : Nat → Int32, z = (upd G2_0 v3_0.toNatClampNeg y16) := ⟨_, rfl⟩
                rw [← eR18] at hP hD hI17
                obtain ⟨y19, ey19⟩ : ∃ z : Int32, z = v3_0 + 1 := ⟨_, rfl⟩
                have qy19 : y19.toInt = v3_0.toInt + 1 := zi_add ey19 (rfl) rfl (by omega) (by omega)
                refine lv_iinc (v := y19) (lv' := [(3, .int y19), (4, .int y6), (0, .ref h0), (1, .ref h1), (2, .int p2)]) hx hb dX2_ready_113 hl (k := 4) rfl ey19.symm (by decide) rfl (fun ls hl => ?_)
                have hskb : zSk (zRm f3.toInt Z12 (zRw f3.toInt Z2)) y19.toInt = zSk (zRm f3.toInt Z12 (zRw f3.toInt Z2)) (v3_0.toInt + 1) := by rw [(by omega : y19.toInt = v3_0.toInt + 1)]
                refine lv_goto (tgt := 12) hx hb dX2_ready_116 (by decide) ?_
                have hP := hP.sub (ws' := [(h0, .inr (2, [.ref h2, .ref h3, .ref h4, .ref h5, .ref h6, .ref h7, .int g0_0, .int 0, .ref h8, .ref h9, .ref h10, .ref h11])), (h1, .inr (0, [.ref h12, .int f2, .ref h13, .int f3, .ref h14, .ref h15, .ref h16, .ref h17, .ref h18, .ref h19, .int f4])), (h2, .inl (zI g, 5, .inl Z0)), (h3, .inl (zI g, 5, .inl Z1)), (h4, .inl (zI g, 5, .inl Z2)), (h6, .inl (zI g, 5, .inl R14)), (h7, .inl (zI g, 5, .inl R18)), (h12, .inl (zI g, 5, .inl Z10)), (h14, .inl (zI g, 5, .inl Z12)), (h17, .inl (zI g, 20, .inl Z15))]) [6, 7, 8, 0, 1, 2, 3, 4, 9, 5] rfl
                have hD := hD.sub (ws' := [(h0, .inr (2, [.ref h2, .ref h3, .ref h4, .ref h5, .ref h6, .ref h7, .int g0_0, .int 0, .ref h8, .ref h9, .ref h10, .ref h11])), (h1, .inr (0, [.ref h12, .int f2, .ref h13, .int f3, .ref h14, .ref h15, .ref h16, .ref h17, .ref h18, .ref h19, .int f4])), (h2, .inl (zI g, 5, .inl Z0)), (h3, .inl (zI g, 5, .inl Z1)), (h4, .inl (zI g, 5, .inl Z2)), (h6, .inl (zI g, 5, .inl R14)), (h7, .inl (zI g, 5, .inl R18)), (h12, .inl (zI g, 5, .inl Z10)), (h14, .inl (zI g, 5, .inl Z12)), (h17, .inl (zI g, 20, .inl Z15))]) [6, 7, 8, 0, 1, 2, 3, 4, 9, 5] (by decide) rfl
                exact ih1 y19 g0_0 R14 R18 (zLmP_eq hI13 (by omega)) (zMoP_eq hI17 (by omega)) (by omega) (by omega) (by omega) (by omega) (by omega) (by omega) (by omega) _ _ hP hD hS ls (lv_sub hl [2, 3, 4, 0] rfl)
              · have i_5 : y6.toInt = 4 := z_eq (rfl) (rfl) c_5
                refine lv_aload_n hx hb dX2_ready_101 rfl (lv_at hl 2 rfl) ?_
                refine va_getN (D := g.1) (ci := 0) (v := .ref h12) (C := RX0) (T := TX0) (N := 11) hx hb hts zl_X0 hown hK hP 7 rfl rfl 0 (by decide) (hN.f 2 (q := (RX2, 107, "FishSteps$Books", "law", "[I")) rfl) (fun _ h => h) rfl dX2_ready_102 ?_
                refine lv_iconst (v := 4) hx hb dX2_ready_105 (by decide) ?_
                refine va_iald (D := g.1) hx hb hK hP 4 0 rfl rfl (vp_in_iff.mpr (by decide +kernel)) dX2_ready_106 ?_
                refine lv_topi (fun y20 ey20 => ?_)
                have qy20_0 : 0 ≤ y20.toInt := (iLaw_n (lo := 0) (hi := 99) (i := (4 : Int32)) (a := 4) hF_Z10 (rfl) (by omega) (by omega) ey20 (by decide) (by decide)).1
                have qy20_1 : y20.toInt ≤ 99 := (iLaw_n (lo := 0) (hi := 99) (i := (4 : Int32)) (a := 4) hF_Z10 (rfl) (by omega) (by omega) ey20 (by decide) (by decide)).2
                have qy20_2 : y20.toInt = (Z10 4).toInt := congrArg Int32.toInt ey20
                refine lv_goto (tgt := 111) hx hb dX2_ready_107 (by decide) ?_
                refine lv_iadd hx hb dX2_ready_111 ?_
                refine lv_topi (fun y21 ey21 => ?_)
                have qy21_0 : y21.toInt = y15.toInt + y20.toInt := zi_add ey21 (rfl) (rfl) (by omega) (by omega)
                refine va_iast (D := g.1) hx hb hK hP hD hS 3 0 rfl rfl (vp_in_iff.mpr ⟨by omega, by omega⟩) dX2_ready_112 (fun H locs hP hD hS => ?_)
                have hP : va_P g.1 vwCl [(h3, .inl (zI g, 5, .inl Z1)), (h4, .inl (zI g, 5, .inl Z2)), (h6, .inl (zI g, 5, .inl R14)), (h7, .inl (zI g, 5, .inl (upd G2_0 v3_0.toNatClampNeg y21))), (h12, .inl (zI g, 5, .inl Z10)), (h17, .inl (zI g, 20, .inl Z15)), (h0, .inr (2, [.ref h2, .ref h3, .ref h4, .ref h5, .ref h6, .ref h7, .int g0_0, .int 0, .ref h8, .ref h9, .ref h10, .ref h11])), (h1, .inr (0, [.ref h12, .int f2, .ref h13, .int f3, .ref h14, .ref h15, .ref h16, .ref h17, .ref h18, .ref h19, .int f4])), (h2, .inl (zI g, 5, .inl Z0)), (h14, .inl (zI g, 5, .inl Z12))] H := hP
                have hD : va_D A [(h3, .inl (zI g, 5, .inl Z1)), (h4, .inl (zI g, 5, .inl Z2)), (h6, .inl (zI g, 5, .inl R14)), (h7, .inl (zI g, 5, .inl (upd G2_0 v3_0.toNatClampNeg y21))), (h12, .inl (zI g, 5, .inl Z10)), (h17, .inl (zI g, 20, .inl Z15)), (h0, .inr (2, [.ref h2, .ref h3, .ref h4, .ref h5, .ref h6, .ref h7, .int g0_0, .int 0, .ref h8, .ref h9, .ref h10, .ref h11])), (h1, .inr (0, [.ref h12, .int f2, .ref h13, .int f3, .ref h14, .ref h15, .ref h16, .ref h17, .ref h18, .ref h19, .int f4])), (h2, .inl (zI g, 5, .inl Z0)), (h14, .inl (zI g, 5, .inl Z12))] := hD
                have hI22 : zMoP (zMon Z10 f3.toInt Z12 (zRw f3.toInt Z1)) (v3_0.toInt + 1) (upd G2_0 v3_0.toNatClampNeg y21) := zMoP_put (i := v3_0) hG2_0 rfl (by omega) (rfl) (by rw [zMon_i (by omega) (by omega), zRw_i (by omega) (by omega), if_pos (by omega)]; omega) (by omega) (by omega)
                obtain ⟨R23, eR23⟩ : ∃ z : Nat → Int32, z = (upd G2_0 v3_0.toNatClampNeg y21) := ⟨_, rfl⟩
                rw [← eR23] at hP hD hI22
                obtain ⟨y24, ey24⟩ : ∃ z : Int32, z = v3_0 + 1 := ⟨_, rfl⟩
                have qy24 : y24.toInt = v3_0.toInt + 1 := zi_add ey24 (rfl) rfl (by omega) (by omega)
                refine lv_iinc (v := y24) (lv' := [(3, .int y24), (4, .int y6), (0, .ref h0), (1, .ref h1), (2, .int p2)]) hx hb dX2_ready_113 hl (k := 4) rfl ey24.symm (by decide) rfl (fun ls hl => ?_)
                have hskb : zSk (zRm f3.toInt Z12 (zRw f3.toInt Z2)) y24.toInt = zSk (zRm f3.toInt Z12 (zRw f3.toInt Z2)) (v3_0.toInt + 1) := by rw [(by omega : y24.toInt = v3_0.toInt + 1)]
                refine lv_goto (tgt := 12) hx hb dX2_ready_116 (by decide) ?_
                have hP := hP.sub (ws' := [(h0, .inr (2, [.ref h2, .ref h3, .ref h4, .ref h5, .ref h6, .ref h7, .int g0_0, .int 0, .ref h8, .ref h9, .ref h10, .ref h11])), (h1, .inr (0, [.ref h12, .int f2, .ref h13, .int f3, .ref h14, .ref h15, .ref h16, .ref h17, .ref h18, .ref h19, .int f4])), (h2, .inl (zI g, 5, .inl Z0)), (h3, .inl (zI g, 5, .inl Z1)), (h4, .inl (zI g, 5, .inl Z2)), (h6, .inl (zI g, 5, .inl R14)), (h7, .inl (zI g, 5, .inl R23)), (h12, .inl (zI g, 5, .inl Z10)), (h14, .inl (zI g, 5, .inl Z12)), (h17, .inl (zI g, 20, .inl Z15))]) [6, 7, 8, 0, 1, 2, 3, 4, 9, 5] rfl
                have hD := hD.sub (ws' := [(h0, .inr (2, [.ref h2, .ref h3, .ref h4, .ref h5, .ref h6, .ref h7, .int g0_0, .int 0, .ref h8, .ref h9, .ref h10, .ref h11])), (h1, .inr (0, [.ref h12, .int f2, .ref h13, .int f3, .ref h14, .ref h15, .ref h16, .ref h17, .ref h18, .ref h19, .int f4])), (h2, .inl (zI g, 5, .inl Z0)), (h3, .inl (zI g, 5, .inl Z1)), (h4, .inl (zI g, 5, .inl Z2)), (h6, .inl (zI g, 5, .inl R14)), (h7, .inl (zI g, 5, .inl R23)), (h12, .inl (zI g, 5, .inl Z10)), (h14, .inl (zI g, 5, .inl Z12)), (h17, .inl (zI g, 20, .inl Z15))]) [6, 7, 8, 0, 1, 2, 3, 4, 9, 5] (by decide) rfl
                exact ih1 y24 g0_0 R14 R23 (zLmP_eq hI13 (by omega)) (zMoP_eq hI22 (by omega)) (by omega) (by omega) (by omega) (by omega) (by omega) (by omega) (by omega) _ _ hP hD hS ls (lv_sub hl [2, 3, 4, 0] rfl)
            · have i_4 : y7.toInt < 1 := z_nle (rfl) (rfl) c_4
              refine lv_aload_n hx hb dX2_ready_53 rfl (lv_at hl 1 rfl) ?_
              refine lv_dup hx hb dX2_ready_54 rfl ?_
              refine va_get (D := g.1) (ci := 2) (v := .int g0_0) (C := RX2) (T := TX2) (N := 12) hx hb hts zl_X2 hown hK hP 0 rfl rfl 6 (by decide) (hts _ m_f_RX2_30) (fun _ h => h) rfl dX2_ready_55 ?_
              refine lv_iconst (v := 1) hx hb dX2_ready_58 (by decide) ?_
              refine lv_iload_n hx hb dX2_ready_59 rfl (lv_at hl 4 rfl) ?_
              refine lv_ishl hx hb dX2_ready_60 ?_
              refine lv_topi (fun y25 ey25 => ?_)
              have qy25_0 : 1 ≤ y25.toInt := (zi_shl 4 ey25 (rfl) (by omega) (by omega) (by decide)).1
              have qy25_1 : y25.toInt ≤ 16 := (zi_shl 4 ey25 (rfl) (by omega) (by omega) (by decide)).2
              have hskr := zSk_r (f := (zRm f3.toInt Z12 (zRw f3.toInt Z2))) zRm_01 (k := v3_0.toInt) (by omega) (by omega)
              refine lv_ior hx hb dX2_ready_61 ?_
              refine lv_topi (fun y26 ey26 => ?_)
              have qy26_0 : g0_0.toInt ≤ y26.toInt := (zi_or ey26 (rfl) (rfl) (by omega) (by omega) (by omega) (by omega)).1
              have qy26_1 : y25.toInt ≤ y26.toInt := (zi_or ey26 (rfl) (rfl) (by omega) (by omega) (by omega) (by omega)).2.1
              have qy26_2 : y26.toInt ≤ 31 := (zi_or ey26 (rfl) (rfl) (by omega) (by omega) (by omega) (by omega)).2.2
              have py26_0 : y26.toInt = g0_0.toInt + zP2 v3_0.toInt := zor_bit ey26 ey25 rfl (by omega) (by omega) (by omega) (by omega)
              refine va_put (D := g.1) (ci := 2) (v := .int y26) (ty := .int) (C := RX2) (T := TX2) (N := 12) hx hb hts zl_X2 tyX2 tyX2_ok nmX2 hown hK hP hD hS 0 rfl rfl 6 (by decide) (hts _ m_f_RX2_30) (fun _ h => h) rfl (by decide +kernel) rfl rfl (Nat.le_of_ble_eq_true rfl) dX2_ready_62 (fun H locs hP hD hS => ?_)
              have hP : va_P g.1 vwCl [(h0, .inr (2, [.ref h2, .ref h3, .ref h4, .ref h5, .ref h6, .ref h7, .int y26, .int 0, .ref h8, .ref h9, .ref h10, .ref h11])), (h1, .inr (0, [.ref h12, .int f2, .ref h13, .int f3, .ref h14, .ref h15, .ref h16, .ref h17, .ref h18, .ref h19, .int f4])), (h2, .inl (zI g, 5, .inl Z0)), (h3, .inl (zI g, 5, .inl Z1)), (h4, .inl (zI g, 5, .inl Z2)), (h6, .inl (zI g, 5, .inl G1_0)), (h7, .inl (zI g, 5, .inl G2_0)), (h12, .inl (zI g, 5, .inl Z10)), (h14, .inl (zI g, 5, .inl Z12)), (h17, .inl (zI g, 20, .inl Z15))] H := hP
              have hD : va_D A [(h0, .inr (2, [.ref h2, .ref h3, .ref h4, .ref h5, .ref h6, .ref h7, .int y26, .int 0, .ref h8, .ref h9, .ref h10, .ref h11])), (h1, .inr (0, [.ref h12, .int f2, .ref h13, .int f3, .ref h14, .ref h15, .ref h16, .ref h17, .ref h18, .ref h19, .int f4])), (h2, .inl (zI g, 5, .inl Z0)), (h3, .inl (zI g, 5, .inl Z1)), (h4, .inl (zI g, 5, .inl Z2)), (h6, .inl (zI g, 5, .inl G1_0)), (h7, .inl (zI g, 5, .inl G2_0)), (h12, .inl (zI g, 5, .inl Z10)), (h14, .inl (zI g, 5, .inl Z12)), (h17, .inl (zI g, 20, .inl Z15))] := hD
              have hcap : zCap Z12 v3_0.toNatClampNeg = 1 := zCap_1 (by omega)
              have hrm : (zRm f3.toInt Z12 (zRw f3.toInt Z2)) v3_0.toNatClampNeg = 1 := zRm_i1 (i := v3_0) (by omega) (by omega) hcap (by omega)
              have hsk : zSk (zRm f3.toInt Z12 (zRw f3.toInt Z2)) (v3_0.toInt + 1) = zSk (zRm f3.toInt Z12 (zRw f3.toInt Z2)) v3_0.toInt + zP2 v3_0.toInt := zSk_1 (by omega) (by omega) hrm
              refine lv_aload_n hx hb dX2_ready_65 rfl (lv_at hl 1 rfl) ?_
              refine va_get (D := g.1) (ci := 2) (v := .ref h6) (C := RX2) (T := TX2) (N := 12) hx hb hts zl_X2 hown hK hP 0 rfl rfl 4 (by decide) (hts _ m_f_RX2_24) (fun _ h => h) rfl dX2_ready_66 ?_
              refine lv_iload_n hx hb dX2_ready_69 rfl (lv_at hl 4 rfl) ?_
              refine lv_aload_n hx hb dX2_ready_70 rfl (lv_at hl 2 rfl) ?_
              refine lv_iload_n hx hb dX2_ready_71 rfl (lv_at hl 4 rfl) ?_
              refine lv_iload_n hx hb dX2_ready_72 rfl (lv_at hl 3 rfl) ?_
              refine z_calli (wr := [(h0, .inr (2, [.ref h2, .ref h3, .ref h4, .ref h5, .ref h6, .ref h7, .int y26, .int 0, .ref h8, .ref h9, .ref h10, .ref h11])), (h2, .inl (zI g, 5, .inl Z0)), (h3, .inl (zI g, 5, .inl Z1)), (h4, .inl (zI g, 5, .inl Z2)), (h6, .inl (zI g, 5, .inl G1_0)), (h7, .inl (zI g, 5, .inl G2_0)), (h12, .inl (zI g, 5, .inl Z10)), (h14, .inl (zI g, 5, .inl Z12))]) hP hD hS hA [1, 9] [0, 2, 3, 4, 5, 6, 7, 8] (by decide) rfl rfl (by decide) (va_runVN (As := [.int v3_0, .int p2]) (rest := [.int v3_0, .ref h6]) ⟨hx, hb, hml, hown, hts⟩ (gX0_worthOf l g h1 h12 h13 h14 h15 h16 h17 h18 h19 H.size v3_0 p2 f2 f3 f4 Z15 (by constructor <;> omega) (by constructor <;> omega) (by constructor <;> omega) hF_Z15) ⟨va_cnB 2 hts (zGood m_o_yX0_worthOf) rfl rfl rfl (hN.m 15 (q := (RX2, 137, yX0_worthOf)) rfl) (hts _ m_z_RX0) ⟨by decide +kernel, by decide +kernel, by decide +kernel⟩ ⟨Nat.le_of_ble_eq_true rfl, Nat.le_of_ble_eq_true rfl⟩, hts _ m_i_yX0_worthOf, hts _ m_e_yX0_worthOf⟩ (zPreV hK hN hZ hP hD hS hA [1, 9] (by decide) rfl rfl 0 1 rfl rfl) rfl rfl hl.1 rfl (lv_room (Nat.le_of_ble_eq_true rfl)) dX2_ready_73 ⟨Nat.le_of_ble_eq_true rfl, Nat.le_of_ble_eq_true rfl⟩) (fun r u H locs hw hP hD hS => ?_)
              obtain ⟨y27, rfl⟩ : ∃ z, z = r := ⟨_, rfl⟩
              obtain ⟨q28_0, q28_1, q28_2⟩ := hw
              have q28_0 : y27.toInt = zWq f3.toInt Z15 v3_0.toInt p2.toInt := q28_0
              have q28_1 : 0 ≤ y27.toInt := q28_1
              have q28_2 : y27.toInt ≤ 99 := q28_2
              have hP : va_P g.1 vwCl [(h0, .inr (2, [.ref h2, .ref h3, .ref h4, .ref h5, .ref h6, .ref h7, .int y26, .int 0, .ref h8, .ref h9, .ref h10, .ref h11])), (h2, .inl (zI g, 5, .inl Z0)), (h3, .inl (zI g, 5, .inl Z1)), (h4, .inl (zI g, 5, .inl Z2)), (h6, .inl (zI g, 5, .inl G1_0)), (h7, .inl (zI g, 5, .inl G2_0)), (h12, .inl (zI g, 5, .inl Z10)), (h14, .inl (zI g, 5, .inl Z12)), (h1, .inr (0, [.ref h12, .int f2, .ref h13, .int f3, .ref h14, .ref h15, .ref h16, .ref h17, .ref h18, .ref h19, .int f4])), (h17, .inl (zI g, 20, .inl Z15))] H := hP
              have hD : va_D A [(h0, .inr (2, [.ref h2, .ref h3, .ref h4, .ref h5, .ref h6, .ref h7, .int y26, .int 0, .ref h8, .ref h9, .ref h10, .ref h11])), (h2, .inl (zI g, 5, .inl Z0)), (h3, .inl (zI g, 5, .inl Z1)), (h4, .inl (zI g, 5, .inl Z2)), (h6, .inl (zI g, 5, .inl G1_0)), (h7, .inl (zI g, 5, .inl G2_0)), (h12, .inl (zI g, 5, .inl Z10)), (h14, .inl (zI g, 5, .inl Z12)), (h1, .inr (0, [.ref h12, .int f2, .ref h13, .int f3, .ref h14, .ref h15, .ref h16, .ref h17, .ref h18, .ref h19, .int f4])), (h17, .inl (zI g, 20, .inl Z15))] := hD
              refine lv_aload_n hx hb dX2_ready_76 rfl (lv_at hl 1 rfl) ?_
              refine lv_aload_n hx hb dX2_ready_77 rfl (lv_at hl 2 rfl) ?_
              refine lv_iload_n hx hb dX2_ready_78 rfl (lv_at hl 4 rfl) ?_
              have : (0 : Int32).toInt = 0 := rfl
              refine z_calli (wr := [(h3, .inl (zI g, 5, .inl Z1)), (h4, .inl (zI g, 5, .inl Z2)), (h6, .inl (zI g, 5, .inl G1_0)), (h7, .inl (zI g, 5, .inl G2_0)), (h12, .inl (zI g, 5, .inl Z10)), (h17, .inl (zI g, 20, .inl Z15))]) hP hD hS hA [0, 8, 1, 7] [2, 3, 4, 5, 6, 9] (by decide) rfl rfl (by decide) (va_runV (As := [.ref h1, .int v3_0]) (rest := [.int y27, .int v3_0, .ref h6]) ⟨hx, hb, hml, hown, hts⟩ (gX2_charge l g h0 h1 h2 h3 h4 h5 h6 h7 h8 h9 h10 h11 h12 h13 h14 h15 h16 h17 h18 h19 H.size v3_0 y26 (0 : Int32) f2 f3 f4 Z0 Z12 (by omega) (by omega) (by constructor <;> omega) (by constructor <;> omega) (by constructor <;> omega) hF_Z0 hF_Z12) ⟨callB_of 2 hts (zGood m_o_yX2_charge) rfl rfl rfl (hts _ m_z_RX2) (hts _ m_m_RX2_143) ⟨by decide +kernel, by decide +kernel, by decide +kernel⟩ ⟨Nat.le_of_ble_eq_true rfl, Nat.le_of_ble_eq_true rfl⟩, hts _ m_i_yX2_charge, hts _ m_e_yX2_charge⟩ (zPreV hK hN hZ hP hD hS hA [0, 8, 1, 7] (by decide) rfl rfl 2 0 rfl rfl) rfl rfl hl.1 rfl (lv_room (Nat.le_of_ble_eq_true rfl)) dX2_ready_79 ⟨Nat.le_of_ble_eq_true rfl, Nat.le_of_ble_eq_true rfl⟩) (fun r u H locs hw hP hD hS => ?_)
              obtain ⟨y29, rfl⟩ : ∃ z, z = r := ⟨_, rfl⟩
              obtain ⟨q30_0, q30_1, q30_2⟩ := hw
              have q30_0 : y29.toInt = zCh Z12 (zIv Z0) v3_0.toNatClampNeg := q30_0
              have q30_1 : 0 ≤ y29.toInt := q30_1
              have q30_2 : y29.toInt ≤ 40 := q30_2
              have hP : va_P g.1 vwCl [(h3, .inl (zI g, 5, .inl Z1)), (h4, .inl (zI g, 5, .inl Z2)), (h6, .inl (zI g, 5, .inl G1_0)), (h7, .inl (zI g, 5, .inl G2_0)), (h12, .inl (zI g, 5, .inl Z10)), (h17, .inl (zI g, 20, .inl Z15)), (h0, .inr (2, [.ref h2, .ref h3, .ref h4, .ref h5, .ref h6, .ref h7, .int y26, .int 0, .ref h8, .ref h9, .ref h10, .ref h11])), (h1, .inr (0, [.ref h12, .int f2, .ref h13, .int f3, .ref h14, .ref h15, .ref h16, .ref h17, .ref h18, .ref h19, .int f4])), (h2, .inl (zI g, 5, .inl Z0)), (h14, .inl (zI g, 5, .inl Z12))] H := hP
              have hD : va_D A [(h3, .inl (zI g, 5, .inl Z1)), (h4, .inl (zI g, 5, .inl Z2)), (h6, .inl (zI g, 5, .inl G1_0)), (h7, .inl (zI g, 5, .inl G2_0)), (h12, .inl (zI g, 5, .inl Z10)), (h17, .inl (zI g, 20, .inl Z15)), (h0, .inr (2, [.ref h2, .ref h3, .ref h4, .ref h5, .ref h6, .ref h7, .int y26, .int 0, .ref h8, .ref h9, .ref h10, .ref h11])), (h1, .inr (0, [.ref h12, .int f2, .ref h13, .int f3, .ref h14, .ref h15, .ref h16, .ref h17, .ref h18, .ref h19, .int f4])), (h2, .inl (zI g, 5, .inl Z0)), (h14, .inl (zI g, 5, .inl Z12))] := hD
              refine lv_isub hx hb dX2_ready_82 ?_
              refine lv_topi (fun y31 ey31 => ?_)
              have qy31_0 : y31.toInt = y27.toInt - y29.toInt := zi_sub ey31 (rfl) (rfl) (by omega) (by omega)
              refine va_iast (D := g.1) hx hb hK hP hD hS 2 0 rfl rfl (vp_in_iff.mpr ⟨by omega, by omega⟩) dX2_ready_83 (fun H locs hP hD hS => ?_)
              have hP : va_P g.1 vwCl [(h3, .inl (zI g, 5, .inl Z1)), (h4, .inl (zI g, 5, .inl Z2)), (h6, .inl (zI g, 5, .inl (upd G1_0 v3_0.toNatClampNeg y31))), (h7, .inl (zI g, 5, .inl G2_0)), (h12, .inl (zI g, 5, .inl Z10)), (h17, .inl (zI g, 20, .inl Z15)), (h0, .inr (2, [.ref h2, .ref h3, .ref h4, .ref h5, .ref h6, .ref h7, .int y26, .int 0, .ref h8, .ref h9, .ref h10, .ref h11])), (h1, .inr (0, [.ref h12, .int f2, .ref h13, .int f3, .ref h14, .ref h15, .ref h16, .ref h17, .ref h18, .ref h19, .int f4])), (h2, .inl (zI g, 5, .inl Z0)), (h14, .inl (zI g, 5, .inl Z12))] H := hP
              have hD : va_D A [(h3, .inl (zI g, 5, .inl Z1)), (h4, .inl (zI g, 5, .inl Z2)), (h6, .inl (zI g, 5, .inl (upd G1_0 v3_0.toNatClampNeg y31))), (h7, .inl (zI g, 5, .inl G2_0)), (h12, .inl (zI g, 5, .inl Z10)), (h17, .inl (zI g, 20, .inl Z15)), (h0, .inr (2, [.ref h2, .ref h3, .ref h4, .ref h5, .ref h6, .ref h7, .int y26, .int 0, .ref h8, .ref h9, .ref h10, .ref h11])), (h1, .inr (0, [.ref h12, .int f2, .ref h13, .int f3, .ref h14, .ref h15, .ref h16, .ref h17, .ref h18, .ref h19, .int f4])), (h2, .inl (zI g, 5, .inl Z0)), (h14, .inl (zI g, 5, .inl Z12))] := hD
              have hI32 : zLmP (zLim f3.toInt Z12 Z15 (zRw f3.toInt Z0) p2.toInt) (v3_0.toInt + 1) (upd G1_0 v3_0.toNatClampNeg y31) := zLmP_put (i := v3_0) hG1_0 rfl (by omega) (rfl) (by rw [zLim_i (by omega) (by omega), zCh_rw (by omega) (by omega)]; omega) (by omega) (by omega)
              obtain ⟨R33, eR33⟩ : ∃ z : Nat → Int32, z = (upd G1_0 v3_0.toNatClampNeg y31) := ⟨_, rfl⟩
              rw [← eR33] at hP hD hI32
              refine lv_aload_n hx hb dX2_ready_84 rfl (lv_at hl 1 rfl) ?_
              refine va_get (D := g.1) (ci := 2) (v := .ref h7) (C := RX2) (T := TX2) (N := 12) hx hb hts zl_X2 hown hK hP 6 rfl rfl 5 (by decide) (hts _ m_f_RX2_27) (fun _ h => h) rfl dX2_ready_85 ?_
              refine lv_iload_n hx hb dX2_ready_88 rfl (lv_at hl 4 rfl) ?_
              refine lv_aload_n hx hb dX2_ready_89 rfl (lv_at hl 1 rfl) ?_
              refine va_get (D := g.1) (ci := 2) (v := .ref h3) (C := RX2) (T := TX2) (N := 12) hx hb hts zl_X2 hown hK hP 6 rfl rfl 1 (by decide) (hts _ m_f_RX2_15) (fun _ h => h) rfl dX2_ready_90 ?_
              refine lv_iload_n hx hb dX2_ready_93 rfl (lv_at hl 4 rfl) ?_
              refine va_iald (D := g.1) hx hb hK hP 0 0 rfl rfl (vp_in_iff.mpr ⟨by omega, by omega⟩) dX2_ready_94 ?_
              refine lv_topi (fun y34 ey34 => ?_)
              have qy34_0 : (-99) ≤ y34.toInt := (i_at (N := 5) (lo := (-99)) (hi := 9999) (i := v3_0) (a := v3_0.toInt) hF_Z1 (rfl) (by omega) (by omega) ey34).1
              have qy34_1 : y34.toInt ≤ 9999 := (i_at (N := 5) (lo := (-99)) (hi := 9999) (i := v3_0) (a := v3_0.toInt) hF_Z1 (rfl) (by omega) (by omega) ey34).2
              have qy34_2 : y34.toInt = (Z1 v3_0.toNatClampNeg).toInt := congrArg Int32.toInt ey34
              refine lv_iload hx hb dX2_ready_95 (lv_at hl 0 rfl) ?_
              refine lv_iconst (v := 4) hx hb dX2_ready_97 (by decide) ?_
              refine lv_icmp_ne (tgt := 110) hx hb dX2_ready_98 (by decide) (fun c_6 => ?_) (fun c_6 => ?_)
              · have i_6 : y6.toInt ≠ 4 := z_ne (rfl) (rfl) c_6
                refine lv_iconst (v := 0) hx hb dX2_ready_110 (by decide) ?_
                refine lv_iadd hx hb dX2_ready_111 ?_
                refine lv_topi (fun y35 ey35 => ?_)
                have qy35_0 : y35.toInt = y34.toInt + 0 := zi_add ey35 (rfl) (rfl) (by omega) (by omega)
                refine va_iast (D := g.1) hx hb hK hP hD hS 3 0 rfl rfl (vp_in_iff.mpr ⟨by omega, by omega⟩) dX2_ready_112 (fun H locs hP hD hS => ?_)
                have hP : va_P g.1 vwCl [(h3, .inl (zI g, 5, .inl Z1)), (h4, .inl (zI g, 5, .inl Z2)), (h6, .inl (zI g, 5, .inl R33)), (h7, .inl (zI g, 5, .inl (upd G2_0 v3_0.toNatClampNeg y35))), (h12, .inl (zI g, 5, .inl Z10)), (h17, .inl (zI g, 20, .inl Z15)), (h0, .inr (2, [.ref h2, .ref h3, .ref h4, .ref h5, .ref h6, .ref h7, .int y26, .int 0, .ref h8, .ref h9, .ref h10, .ref h11])), (h1, .inr (0, [.ref h12, .int f2, .ref h13, .int f3, .ref h14, .ref h15, .ref h16, .ref h17, .ref h18, .ref h19, .int f4])), (h2, .inl (zI g, 5, .inl Z0)), (h14, .inl (zI g, 5, .inl Z12))] H := hP
                have hD : va_D A [(h3, .inl (zI g, 5, .inl Z1)), (h4, .inl (zI g, 5, .inl Z2)), (h6, .inl (zI g, 5, .inl R33)), (h7, .inl (zI g, 5, .inl (upd G2_0 v3_0.toNatClampNeg y35))), (h12, .inl (zI g, 5, .inl Z10)), (h17, .inl (zI g, 20, .inl Z15)), (h0, .inr (2, [.ref h2, .ref h3, .ref h4, .ref h5, .ref h6, .ref h7, .int y26, .int 0, .ref h8, .ref h9, .ref h10, .ref h11])), (h1, .inr (0, [.ref h12, .int f2, .ref h13, .int f3, .ref h14, .ref h15, .ref h16, .ref h17, .ref h18, .ref h19, .int f4])), (h2, .inl (zI g, 5, .inl Z0)), (h14, .inl (zI g, 5, .inl Z12))] := hD
                have hI36 : zMoP (zMon Z10 f3.toInt Z12 (zRw f3.toInt Z1)) (v3_0.toInt + 1) (upd G2_0 v3_0.toNatClampNeg y35) := zMoP_put (i := v3_0) hG2_0 rfl (by omega) (rfl) (by rw [zMon_i (by omega) (by omega), zRw_i (by omega) (by omega), if_neg (by omega)]; omega) (by omega) (by omega)
                obtain ⟨R37, eR37⟩ : ∃ z : Nat → Int32, z = (upd G2_0 v3_0.toNatClampNeg y35) := ⟨_, rfl⟩
                rw [← eR37] at hP hD hI36
                obtain ⟨y38, ey38⟩ : ∃ z : Int32, z = v3_0 + 1 := ⟨_, rfl⟩
                have qy38 : y38.toInt = v3_0.toInt + 1 := zi_add ey38 (rfl) rfl (by omega) (by omega)
                refine lv_iinc (v := y38) (lv' := [(3, .int y38), (4, .int y6), (0, .ref h0), (1, .ref h1), (2, .int p2)]) hx hb dX2_ready_113 hl (k := 4) rfl ey38.symm (by decide) rfl (fun ls hl => ?_)
                have hskb : zSk (zRm f3.toInt Z12 (zRw f3.toInt Z2)) y38.toInt = zSk (zRm f3.toInt Z12 (zRw f3.toInt Z2)) (v3_0.toInt + 1) := by rw [(by omega : y38.toInt = v3_0.toInt + 1)]
                refine lv_goto (tgt := 12) hx hb dX2_ready_116 (by decide) ?_
                have hP := hP.sub (ws' := [(h0, .inr (2, [.ref h2, .ref h3, .ref h4, .ref h5, .ref h6, .ref h7, .int y26, .int 0, .ref h8, .ref h9, .ref h10, .ref h11])), (h1, .inr (0, [.ref h12, .int f2, .ref h13, .int f3, .ref h14, .ref h15, .ref h16, .ref h17, .ref h18, .ref h19, .int f4])), (h2, .inl (zI g, 5, .inl Z0)), (h3, .inl (zI g, 5, .inl Z1)), (h4, .inl (zI g, 5, .inl Z2)), (h6, .inl (zI g, 5, .inl R33)), (h7, .inl (zI g, 5, .inl R37)), (h12, .inl (zI g, 5, .inl Z10)), (h14, .inl (zI g, 5, .inl Z12)), (h17, .inl (zI g, 20, .inl Z15))]) [6, 7, 8, 0, 1, 2, 3, 4, 9, 5] rfl
                have hD := hD.sub (ws' := [(h0, .inr (2, [.ref h2, .ref h3, .ref h4, .ref h5, .ref h6, .ref h7, .int y26, .int 0, .ref h8, .ref h9, .ref h10, .ref h11])), (h1, .inr (0, [.ref h12, .int f2, .ref h13, .int f3, .ref h14, .ref h15, .ref h16, .ref h17, .ref h18, .ref h19, .int f4])), (h2, .inl (zI g, 5, .inl Z0)), (h3, .inl (zI g, 5, .inl Z1)), (h4, .inl (zI g, 5, .inl Z2)), (h6, .inl (zI g, 5, .inl R33)), (h7, .inl (zI g, 5, .inl R37)), (h12, .inl (zI g, 5, .inl Z10)), (h14, .inl (zI g, 5, .inl Z12)), (h17, .inl (zI g, 20, .inl Z15))]) [6, 7, 8, 0, 1, 2, 3, 4, 9, 5] (by decide) rfl
                exact ih1 y38 y26 R33 R37 (zLmP_eq hI32 (by omega)) (zMoP_eq hI36 (by omega)) (by omega) (by omega) (by omega) (by omega) (by omega) (by omega) (by omega) _ _ hP hD hS ls (lv_sub hl [2, 3, 4, 0] rfl)
              · have i_6 : y6.toInt = 4 := z_eq (rfl) (rfl) c_6
                refine lv_aload_n hx hb dX2_ready_101 rfl (lv_at hl 2 rfl) ?_
                refine va_getN (D := g.1) (ci := 0) (v := .ref h12) (C := RX0) (T := TX0) (N := 11) hx hb hts zl_X0 hown hK hP 7 rfl rfl 0 (by decide) (hN.f 2 (q := (RX2, 107, "FishSteps$Books", "law", "[I")) rfl) (fun _ h => h) rfl dX2_ready_102 ?_
                refine lv_iconst (v := 4) hx hb dX2_ready_105 (by decide) ?_
                refine va_iald (D := g.1) hx hb hK hP 4 0 rfl rfl (vp_in_iff.mpr (by decide +kernel)) dX2_ready_106 ?_
                refine lv_topi (fun y39 ey39 => ?_)
                have qy39_0 : 0 ≤ y39.toInt := (iLaw_n (lo := 0) (hi := 99) (i := (4 : Int32)) (a := 4) hF_Z10 (rfl) (by omega) (by omega) ey39 (by decide) (by decide)).1
                have qy39_1 : y39.toInt ≤ 99 := (iLaw_n (lo := 0) (hi := 99) (i := (4 : Int32)) (a := 4) hF_Z10 (rfl) (by omega) (by omega) ey39 (by decide) (by decide)).2
                have qy39_2 : y39.toInt = (Z10 4).toInt := congrArg Int32.toInt ey39
                refine lv_goto (tgt := 111) hx hb dX2_ready_107 (by decide) ?_
                refine lv_iadd hx hb dX2_ready_111 ?_
                refine lv_topi (fun y40 ey40 => ?_)
                have qy40_0 : y40.toInt = y34.toInt + y39.toInt := zi_add ey40 (rfl) (rfl) (by omega) (by omega)
                refine va_iast (D := g.1) hx hb hK hP hD hS 3 0 rfl rfl (vp_in_iff.mpr ⟨by omega, by omega⟩) dX2_ready_112 (fun H locs hP hD hS => ?_)
                have hP : va_P g.1 vwCl [(h3, .inl (zI g, 5, .inl Z1)), (h4, .inl (zI g, 5, .inl Z2)), (h6, .inl (zI g, 5, .inl R33)), (h7, .inl (zI g, 5, .inl (upd G2_0 v3_0.toNatClampNeg y40))), (h12, .inl (zI g, 5, .inl Z10)), (h17, .inl (zI g, 20, .inl Z15)), (h0, .inr (2, [.ref h2, .ref h3, .ref h4, .ref h5, .ref h6, .ref h7, .int y26, .int 0, .ref h8, .ref h9, .ref h10, .ref h11])), (h1, .inr (0, [.ref h12, .int f2, .ref h13, .int f3, .ref h14, .ref h15, .ref h16, .ref h17, .ref h18, .ref h19, .int f4])), (h2, .inl (zI g, 5, .inl Z0)), (h14, .inl (zI g, 5, .inl Z12))] H := hP
                have hD : va_D A [(h3, .inl (zI g, 5, .inl Z1)), (h4, .inl (zI g, 5, .inl Z2)), (h6, .inl (zI g, 5, .inl R33)), (h7, .inl (zI g, 5, .inl (upd G2_0 v3_0.toNatClampNeg y40))), (h12, .inl (zI g, 5, .inl Z10)), (h17, .inl (zI g, 20, .inl Z15)), (h0, .inr (2, [.ref h2, .ref h3, .ref h4, .ref h5, .ref h6, .ref h7, .int y26, .int 0, .ref h8, .ref h9, .ref h10, .ref h11])), (h1, .inr (0, [.ref h12, .int f2, .ref h13, .int f3, .ref h14, .ref h15, .ref h16, .ref h17, .ref h18, .ref h19, .int f4])), (h2, .inl (zI g, 5, .inl Z0)), (h14, .inl (zI g, 5, .inl Z12))] := hD
                have hI41 : zMoP (zMon Z10 f3.toInt Z12 (zRw f3.toInt Z1)) (v3_0.toInt + 1) (upd G2_0 v3_0.toNatClampNeg y40) := zMoP_put (i := v3_0) hG2_0 rfl (by omega) (rfl) (by rw [zMon_i (by omega) (by omega), zRw_i (by omega) (by omega), if_pos (by omega)]; omega) (by omega) (by omega)
                obtain ⟨R42, eR42⟩ : ∃ z : Nat → Int32, z = (upd G2_0 v3_0.toNatClampNeg y40) := ⟨_, rfl⟩
                rw [← eR42] at hP hD hI41
                obtain ⟨y43, ey43⟩ : ∃ z : Int32, z = v3_0 + 1 := ⟨_, rfl⟩
                have qy43 : y43.toInt = v3_0.toInt + 1 := zi_add ey43 (rfl) rfl (by omega) (by omega)
                refine lv_iinc (v := y43) (lv' := [(3, .int y43), (4, .int y6), (0, .ref h0), (1, .ref h1), (2, .int p2)]) hx hb dX2_ready_113 hl (k := 4) rfl ey43.symm (by decide) rfl (fun ls hl => ?_)
                have hskb : zSk (zRm f3.toInt Z12 (zRw f3.toInt Z2)) y43.toInt = zSk (zRm f3.toInt Z12 (zRw f3.toInt Z2)) (v3_0.toInt + 1) := by rw [(by omega : y43.toInt = v3_0.toInt + 1)]
                refine lv_goto (tgt := 12) hx hb dX2_ready_116 (by decide) ?_
                have hP := hP.sub (ws' := [(h0, .inr (2, [.ref h2, .ref h3, .ref h4, .ref h5, .ref h6, .ref h7, .int y26, .int 0, .ref h8, .ref h9, .ref h10, .ref h11])), (h1, .inr (0, [.ref h12, .int f2, .ref h13, .int f3, .ref h14, .ref h15, .ref h16, .ref h17, .ref h18, .ref h19, .int f4])), (h2, .inl (zI g, 5, .inl Z0)), (h3, .inl (zI g, 5, .inl Z1)), (h4, .inl (zI g, 5, .inl Z2)), (h6, .inl (zI g, 5, .inl R33)), (h7, .inl (zI g, 5, .inl R42)), (h12, .inl (zI g, 5, .inl Z10)), (h14, .inl (zI g, 5, .inl Z12)), (h17, .inl (zI g, 20, .inl Z15))]) [6, 7, 8, 0, 1, 2, 3, 4, 9, 5] rfl
                have hD := hD.sub (ws' := [(h0, .inr (2, [.ref h2, .ref h3, .ref h4, .ref h5, .ref h6, .ref h7, .int y26, .int 0, .ref h8, .ref h9, .ref h10, .ref h11])), (h1, .inr (0, [.ref h12, .int f2, .ref h13, .int f3, .ref h14, .ref h15, .ref h16, .ref h17, .ref h18, .ref h19, .int f4])), (h2, .inl (zI g, 5, .inl Z0)), (h3, .inl (zI g, 5, .inl Z1)), (h4, .inl (zI g, 5, .inl Z2)), (h6, .inl (zI g, 5, .inl R33)), (h7, .inl (zI g, 5, .inl R42)), (h12, .inl (zI g, 5, .inl Z10)), (h14, .inl (zI g, 5, .inl Z12)), (h17, .inl (zI g, 20, .inl Z15))]) [6, 7, 8, 0, 1, 2, 3, 4, 9, 5] (by decide) rfl
                exact ih1 y43 y26 R33 R42 (zLmP_eq hI32 (by omega)) (zMoP_eq hI41 (by omega)) (by omega) (by omega) (by omega) (by omega) (by omega) (by omega) (by omega) _ _ hP hD hS ls (lv_sub hl [2, 3, 4, 0] rfl)
          · have i_3 : y6.toInt = 2 := z_eq (rfl) (rfl) c_3
            refine lv_iconst (v := 2) hx hb dX2_ready_45 (by decide) ?_
            refine lv_goto (tgt := 50) hx hb dX2_ready_46 (by decide) ?_
            refine lv_icmp_ge (tgt := 65) hx hb dX2_ready_50 (by decide) (fun c_7 => ?_) (fun c_7 => ?_)
            · have i_7 : 2 ≤ y7.toInt := z_le (rfl) (rfl) c_7
              have hcap : zCap Z12 v3_0.toNatClampNeg = 2 := zCap_2 (by omega)
              have hrm : (zRm f3.toInt Z12 (zRw f3.toInt Z2)) v3_0.toNatClampNeg = 0 := zRm_i0 (i := v3_0) (by omega) (by omega) hcap (by omega)
              have hsk : zSk (zRm f3.toInt Z12 (zRw f3.toInt Z2)) (v3_0.toInt + 1) = zSk (zRm f3.toInt Z12 (zRw f3.toInt Z2)) v3_0.toInt := zSk_n (by omega) (by omega) hrm
              refine lv_aload_n hx hb dX2_ready_65 rfl (lv_at hl 1 rfl) ?_
              refine va_get (D := g.1) (ci := 2) (v := .ref h6) (C := RX2) (T := TX2) (N := 12) hx hb hts zl_X2 hown hK hP 0 rfl rfl 4 (by decide) (hts _ m_f_RX2_24) (fun _ h => h) rfl dX2_ready_66 ?_
              refine lv_iload_n hx hb dX2_ready_69 rfl (lv_at hl 4 rfl) ?_
              refine lv_aload_n hx hb dX2_ready_70 rfl (lv_at hl 2 rfl) ?_
              refine lv_iload_n hx hb dX2_ready_71 rfl (lv_at hl 4 rfl) ?_
              refine lv_iload_n hx hb dX2_ready_72 rfl (lv_at hl 3 rfl) ?_
              refine z_calli (wr := [(h0, .inr (2, [.ref h2, .ref h3, .ref h4, .ref h5, .ref h6, .ref h7, .int g0_0, .int 0, .ref h8, .ref h9, .ref h10, .ref h11])), (h2, .inl (zI g, 5, .inl Z0)), (h3, .inl (zI g, 5, .inl Z1)), (h4, .inl (zI g, 5, .inl Z2)), (h6, .inl (zI g, 5, .inl G1_0)), (h7, .inl (zI g, 5, .inl G2_0)), (h12, .inl (zI g, 5, .inl Z10)), (h14, .inl (zI g, 5, .inl Z12))]) hP hD hS hA [1, 9] [0, 2, 3, 4, 5, 6, 7, 8] (by decide) rfl rfl (by decide) (va_runVN (As := [.int v3_0, .int p2]) (rest := [.int v3_0, .ref h6]) ⟨hx, hb, hml, hown, hts⟩ (gX0_worthOf l g h1 h12 h13 h14 h15 h16 h17 h18 h19 H.size v3_0 p2 f2 f3 f4 Z15 (by constructor <;> omega) (by constructor <;> omega) (by constructor <;> omega) hF_Z15) ⟨va_cnB 2 hts (zGood m_o_yX0_worthOf) rfl rfl rfl (hN.m 15 (q := (RX2, 137, yX0_worthOf)) rfl) (hts _ m_z_RX0) ⟨by decide +kernel, by decide +kernel, by decide +kernel⟩ ⟨Nat.le_of_ble_eq_true rfl, Nat.le_of_ble_eq_true rfl⟩, hts _ m_i_yX0_worthOf, hts _ m_e_yX0_worthOf⟩ (zPreV hK hN hZ hP hD hS hA [1, 9] (by decide) rfl rfl 0 1 rfl rfl) rfl rfl hl.1 rfl (lv_room (Nat.le_of_ble_eq_true rfl)) dX2_ready_73 ⟨Nat.le_of_ble_eq_true rfl, Nat.le_of_ble_eq_true rfl⟩) (fun r u H locs hw hP hD hS => ?_)
              obtain ⟨y44, rfl⟩ : ∃ z, z = r := ⟨_, rfl⟩
              obtain ⟨q45_0, q45_1, q45_2⟩ := hw
              have q45_0 : y44.toInt = zWq f3.toInt Z15 v3_0.toInt p2.toInt := q45_0
              have q45_1 : 0 ≤ y44.toInt := q45_1
              have q45_2 : y44.toInt ≤ 99 := q45_2
              have hP : va_P g.1 vwCl [(h0, .inr (2, [.ref h2, .ref h3, .ref h4, .ref h5, .ref h6, .ref h7, .int g0_0, .int 0, .ref h8, .ref h9, .ref h10, .ref h11])), (h2, .inl (zI g, 5, .inl Z0)), (h3, .inl (zI g, 5, .inl Z1)), (h4, .inl (zI g, 5, .inl Z2)), (h6, .inl (zI g, 5, .inl G1_0)), (h7, .inl (zI g, 5, .inl G2_0)), (h12, .inl (zI g, 5, .inl Z10)), (h14, .inl (zI g, 5, .inl Z12)), (h1, .inr (0, [.ref h12, .int f2, .ref h13, .int f3, .ref h14, .ref h15, .ref h16, .ref h17, .ref h18, .ref h19, .int f4])), (h17, .inl (zI g, 20, .inl Z15))] H := hP
              have hD : va_D A [(h0, .inr (2, [.ref h2, .ref h3, .ref h4, .ref h5, .ref h6, .ref h7, .int g0_0, .int 0, .ref h8, .ref h9, .ref h10, .ref h11])), (h2, .inl (zI g, 5, .inl Z0)), (h3, .inl (zI g, 5, .inl Z1)), (h4, .inl (zI g, 5, .inl Z2)), (h6, .inl (zI g, 5, .inl G1_0)), (h7, .inl (zI g, 5, .inl G2_0)), (h12, .inl (zI g, 5, .inl Z10)), (h14, .inl (zI g, 5, .inl Z12)), (h1, .inr (0, [.ref h12, .int f2, .ref h13, .int f3, .ref h14, .ref h15, .ref h16, .ref h17, .ref h18, .ref h19, .int f4])), (h17, .inl (zI g, 20, .inl Z15))] := hD
              refine lv_aload_n hx hb dX2_ready_76 rfl (lv_at hl 1 rfl) ?_
              refine lv_aload_n hx hb dX2_ready_77 rfl (lv_at hl 2 rfl) ?_
              refine lv_iload_n hx hb dX2_ready_78 rfl (lv_at hl 4 rfl) ?_
              have : (0 : Int32).toInt = 0 := rfl
              refine z_calli (wr := [(h3, .inl (zI g, 5, .inl Z1)), (h4, .inl (zI g, 5, .inl Z2)), (h6, .inl (zI g, 5, .inl G1_0)), (h7, .inl (zI g, 5, .inl G2_0)), (h12, .inl (zI g, 5, .inl Z10)), (h17, .inl (zI g, 20, .inl Z15))]) hP hD hS hA [0, 8, 1, 7] [2, 3, 4, 5, 6, 9] (by decide) rfl rfl (by decide) (va_runV (As := [.ref h1, .int v3_0]) (rest := [.int y44, .int v3_0, .ref h6]) ⟨hx, hb, hml, hown, hts⟩ (gX2_charge l g h0 h1 h2 h3 h4 h5 h6 h7 h8 h9 h10 h11 h12 h13 h14 h15 h16 h17 h18 h19 H.size v3_0 g0_0 (0 : Int32) f2 f3 f4 Z0 Z12 (by omega) (by omega) (by constructor <;> omega) (by constructor <;> omega) (by constructor <;> omega) hF_Z0 hF_Z12) ⟨callB_of 2 hts (zGood m_o_yX2_charge) rfl rfl rfl (hts _ m_z_RX2) (hts _ m_m_RX2_143) ⟨by decide +kernel, by decide +kernel, by decide +kernel⟩ ⟨Nat.le_of_ble_eq_true rfl, Nat.le_of_ble_eq_true rfl⟩, hts _ m_i_yX2_charge, hts _ m_e_yX2_charge⟩ (zPreV hK hN hZ hP hD hS hA [0, 8, 1, 7] (by decide) rfl rfl 2 0 rfl rfl) rfl rfl hl.1 rfl (lv_room (Nat.le_of_ble_eq_true rfl)) dX2_ready_79 ⟨Nat.le_of_ble_eq_true rfl, Nat.le_of_ble_eq_true rfl⟩) (fun r u H locs hw hP hD hS => ?_)
              obtain ⟨y46, rfl⟩ : ∃ z, z = r := ⟨_, rfl⟩
              obtain ⟨q47_0, q47_1, q47_2⟩ := hw
              have q47_0 : y46.toInt = zCh Z12 (zIv Z0) v3_0.toNatClampNeg := q47_0
              have q47_1 : 0 ≤ y46.toInt := q47_1
              have q47_2 : y46.toInt ≤ 40 := q47_2
              have hP : va_P g.1 vwCl [(h3, .inl (zI g, 5, .inl Z1)), (h4, .inl (zI g, 5, .inl Z2)), (h6, .inl (zI g, 5, .inl G1_0)), (h7, .inl (zI g, 5, .inl G2_0)), (h12, .inl (zI g, 5, .inl Z10)), (h17, .inl (zI g, 20, .inl Z15)), (h0, .inr (2, [.ref h2, .ref h3, .ref h4, .ref h5, .ref h6, .ref h7, .int g0_0, .int 0, .ref h8, .ref h9, .ref h10, .ref h11])), (h1, .inr (0, [.ref h12, .int f2, .ref h13, .int f3, .ref h14, .ref h15, .ref h16, .ref h17, .ref h18, .ref h19, .int f4])), (h2, .inl (zI g, 5, .inl Z0)), (h14, .inl (zI g, 5, .inl Z12))] H := hP
              have hD : va_D A [(h3, .inl (zI g, 5, .inl Z1)), (h4, .inl (zI g, 5, .inl Z2)), (h6, .inl (zI g, 5, .inl G1_0)), (h7, .inl (zI g, 5, .inl G2_0)), (h12, .inl (zI g, 5, .inl Z10)), (h17, .inl (zI g, 20, .inl Z15)), (h0, .inr (2, [.ref h2, .ref h3, .ref h4, .ref h5, .ref h6, .ref h7, .int g0_0, .int 0, .ref h8, .ref h9, .ref h10, .ref h11])), (h1, .inr (0, [.ref h12, .int f2, .ref h13, .int f3, .ref h14, .ref h15, .ref h16, .ref h17, .ref h18, .ref h19, .int f4])), (h2, .inl (zI g, 5, .inl Z0)), (h14, .inl (zI g, 5, .inl Z12))] := hD
              refine lv_isub hx hb dX2_ready_82 ?_
              refine lv_topi (fun y48 ey48 => ?_)
              have qy48_0 : y48.toInt = y44.toInt - y46.toInt := zi_sub ey48 (rfl) (rfl) (by omega) (by omega)
              refine va_iast (D := g.1) hx hb hK hP hD hS 2 0 rfl rfl (vp_in_iff.mpr ⟨by omega, by omega⟩) dX2_ready_83 (fun H locs hP hD hS => ?_)
              have hP : va_P g.1 vwCl [(h3, .inl (zI g, 5, .inl Z1)), (h4, .inl (zI g, 5, .inl Z2)), (h6, .inl (zI g, 5, .inl (upd G1_0 v3_0.toNatClampNeg y48))), (h7, .inl (zI g, 5, .inl G2_0)), (h12, .inl (zI g, 5, .inl Z10)), (h17, .inl (zI g, 20, .inl Z15)), (h0, .inr (2, [.ref h2, .ref h3, .ref h4, .ref h5, .ref h6, .ref h7, .int g0_0, .int 0, .ref h8, .ref h9, .ref h10, .ref h11])), (h1, .inr (0, [.ref h12, .int f2, .ref h13, .int f3, .ref h14, .ref h15, .ref h16, .ref h17, .ref h18, .ref h19, .int f4])), (h2, .inl (zI g, 5, .inl Z0)), (h14, .inl (zI g, 5, .inl Z12))] H := hP
              have hD : va_D A [(h3, .inl (zI g, 5, .inl Z1)), (h4, .inl (zI g, 5, .inl Z2)), (h6, .inl (zI g, 5, .inl (upd G1_0 v3_0.toNatClampNeg y48))), (h7, .inl (zI g, 5, .inl G2_0)), (h12, .inl (zI g, 5, .inl Z10)), (h17, .inl (zI g, 20, .inl Z15)), (h0, .inr (2, [.ref h2, .ref h3, .ref h4, .ref h5, .ref h6, .ref h7, .int g0_0, .int 0, .ref h8, .ref h9, .ref h10, .ref h11])), (h1, .inr (0, [.ref h12, .int f2, .ref h13, .int f3, .ref h14, .ref h15, .ref h16, .ref h17, .ref h18, .ref h19, .int f4])), (h2, .inl (zI g, 5, .inl Z0)), (h14, .inl (zI g, 5, .inl Z12))] := hD
              have hI49 : zLmP (zLim f3.toInt Z12 Z15 (zRw f3.toInt Z0) p2.toInt) (v3_0.toInt + 1) (upd G1_0 v3_0.toNatClampNeg y48) := zLmP_put (i := v3_0) hG1_0 rfl (by omega) (rfl) (by rw [zLim_i (by omega) (by omega), zCh_rw (by omega) (by omega)]; omega) (by omega) (by omega)
              obtain ⟨R50, eR50⟩ : ∃ z : Nat → Int32, z = (upd G1_0 v3_0.toNatClampNeg y48) := ⟨_, rfl⟩
              rw [← eR50] at hP hD hI49
              refine lv_aload_n hx hb dX2_ready_84 rfl (lv_at hl 1 rfl) ?_
              refine va_get (D := g.1) (ci := 2) (v := .ref h7) (C := RX2) (T := TX2) (N := 12) hx hb hts zl_X2 hown hK hP 6 rfl rfl 5 (by decide) (hts _ m_f_RX2_27) (fun _ h => h) rfl dX2_ready_85 ?_
              refine lv_iload_n hx hb dX2_ready_88 rfl (lv_at hl 4 rfl) ?_
              refine lv_aload_n hx hb dX2_ready_89 rfl (lv_at hl 1 rfl) ?_
              refine va_get (D := g.1) (ci := 2) (v := .ref h3) (C := RX2) (T := TX2) (N := 12) hx hb hts zl_X2 hown hK hP 6 rfl rfl 1 (by decide) (hts _ m_f_RX2_15) (fun _ h => h) rfl dX2_ready_90 ?_
              refine lv_iload_n hx hb dX2_ready_93 rfl (lv_at hl 4 rfl) ?_
              refine va_iald (D := g.1) hx hb hK hP 0 0 rfl rfl (vp_in_iff.mpr ⟨by omega, by omega⟩) dX2_ready_94 ?_
              refine lv_topi (fun y51 ey51 => ?_)
              have qy51_0 : (-99) ≤ y51.toInt := (i_at (N := 5) (lo := (-99)) (hi := 9999) (i := v3_0) (a := v3_0.toInt) hF_Z1 (rfl) (by omega) (by omega) ey51).1
              have qy51_1 : y51.toInt ≤ 9999 := (i_at (N := 5) (lo := (-99)) (hi := 9999) (i := v3_0) (a := v3_0.toInt) hF_Z1 (rfl) (by omega) (by omega) ey51).2
              have qy51_2 : y51.toInt = (Z1 v3_0.toNatClampNeg).toInt := congrArg Int32.toInt ey51
              refine lv_iload hx hb dX2_ready_95 (lv_at hl 0 rfl) ?_
              refine lv_iconst (v := 4) hx hb dX2_ready_97 (by decide) ?_
              refine lv_icmp_ne (tgt := 110) hx hb dX2_ready_98 (by decide) (fun c_8 => ?_) (fun c_8 => absurd (show y6.toInt = 4 from z_eq (rfl) (rfl) c_8) (by omega))
              have i_8 : y6.toInt ≠ 4 := z_ne (rfl) (rfl) c_8
              refine lv_iconst (v := 0) hx hb dX2_ready_110 (by decide) ?_
              refine lv_iadd hx hb dX2_ready_111 ?_
              refine lv_topi (fun y52 ey52 => ?_)
              have qy52_0 : y52.toInt = y51.toInt + 0 := zi_add ey52 (rfl) (rfl) (by omega) (by omega)
              refine va_iast (D := g.1) hx hb hK hP hD hS 3 0 rfl rfl (vp_in_iff.mpr ⟨by omega, by omega⟩) dX2_ready_112 (fun H locs hP hD hS => ?_)
              have hP : va_P g.1 vwCl [(h3, .inl (zI g, 5, .inl Z1)), (h4, .inl (zI g, 5, .inl Z2)), (h6, .inl (zI g, 5, .inl R50)), (h7, .inl (zI g, 5, .inl (upd G2_0 v3_0.toNatClampNeg y52))), (h12, .inl (zI g, 5, .inl Z10)), (h17, .inl (zI g, 20, .inl Z15)), (h0, .inr (2, [.ref h2, .ref h3, .ref h4, .ref h5, .ref h6, .ref h7, .int g0_0, .int 0, .ref h8, .ref h9, .ref h10, .ref h11])), (h1, .inr (0, [.ref h12, .int f2, .ref h13, .int f3, .ref h14, .ref h15, .ref h16, .ref h17, .ref h18, .ref h19, .int f4])), (h2, .inl (zI g, 5, .inl Z0)), (h14, .inl (zI g, 5, .inl Z12))] H := hP
              have hD : va_D A [(h3, .inl (zI g, 5, .inl Z1)), (h4, .inl (zI g, 5, .inl Z2)), (h6, .inl (zI g, 5, .inl R50)), (h7, .inl (zI g, 5, .inl (upd G2_0 v3_0.toNatClampNeg y52))), (h12, .inl (zI g, 5, .inl Z10)), (h17, .inl (zI g, 20, .inl Z15)), (h0, .inr (2, [.ref h2, .ref h3, .ref h4, .ref h5, .ref h6, .ref h7, .int g0_0, .int 0, .ref h8, .ref h9, .ref h10, .ref h11])), (h1, .inr (0, [.ref h12, .int f2, .ref h13, .int f3, .ref h14, .ref h15, .ref h16, .ref h17, .ref h18, .ref h19, .int f4])), (h2, .inl (zI g, 5, .inl Z0)), (h14, .inl (zI g, 5, .inl Z12))] := hD
              have hI53 : zMoP (zMon Z10 f3.toInt Z12 (zRw f3.toInt Z1)) (v3_0.toInt + 1) (upd G2_0 v3_0.toNatClampNeg y52) := zMoP_put (i := v3_0) hG2_0 rfl (by omega) (rfl) (by rw [zMon_i (by omega) (by omega), zRw_i (by omega) (by omega), if_neg (by omega)]; omega) (by omega) (by omega)
              obtain ⟨R54, eR54⟩ : ∃ z : Nat → Int32, z = (upd G2_0 v3_0.toNatClampNeg y52) := ⟨_, rfl⟩
              rw [← eR54] at hP hD hI53
              obtain ⟨y55, ey55⟩ : ∃ z : Int32, z = v3_0 + 1 := ⟨_, rfl⟩
              have qy55 : y55.toInt = v3_0.toInt + 1 := zi_add ey55 (rfl) rfl (by omega) (by omega)
              refine lv_iinc (v := y55) (lv' := [(3, .int y55), (4, .int y6), (0, .ref h0), (1, .ref h1), (2, .int p2)]) hx hb dX2_ready_113 hl (k := 4) rfl ey55.symm (by decide) rfl (fun ls hl => ?_)
              have hskb : zSk (zRm f3.toInt Z12 (zRw f3.toInt Z2)) y55.toInt = zSk (zRm f3.toInt Z12 (zRw f3.toInt Z2)) (v3_0.toInt + 1) := by rw [(by omega : y55.toInt = v3_0.toInt + 1)]
              refine lv_goto (tgt := 12) hx hb dX2_ready_116 (by decide) ?_
              have hP := hP.sub (ws' := [(h0, .inr (2, [.ref h2, .ref h3, .ref h4, .ref h5, .ref h6, .ref h7, .int g0_0, .int 0, .ref h8, .ref h9, .ref h10, .ref h11])), (h1, .inr (0, [.ref h12, .int f2, .ref h13, .int f3, .ref h14, .ref h15, .ref h16, .ref h17, .ref h18, .ref h19, .int f4])), (h2, .inl (zI g, 5, .inl Z0)), (h3, .inl (zI g, 5, .inl Z1)), (h4, .inl (zI g, 5, .inl Z2)), (h6, .inl (zI g, 5, .inl R50)), (h7, .inl (zI g, 5, .inl R54)), (h12, .inl (zI g, 5, .inl Z10)), (h14, .inl (zI g, 5, .inl Z12)), (h17, .inl (zI g, 20, .inl Z15))]) [6, 7, 8, 0, 1, 2, 3, 4, 9, 5] rfl
              have hD := hD.sub (ws' := [(h0, .inr (2, [.ref h2, .ref h3, .ref h4, .ref h5, .ref h6, .ref h7, .int g0_0, .int 0, .ref h8, .ref h9, .ref h10, .ref h11])), (h1, .inr (0, [.ref h12, .int f2, .ref h13, .int f3, .ref h14, .ref h15, .ref h16, .ref h17, .ref h18, .ref h19, .int f4])), (h2, .inl (zI g, 5, .inl Z0)), (h3, .inl (zI g, 5, .inl Z1)), (h4, .inl (zI g, 5, .inl Z2)), (h6, .inl (zI g, 5, .inl R50)), (h7, .inl (zI g, 5, .inl R54)), (h12, .inl (zI g, 5, .inl Z10)), (h14, .inl (zI g, 5, .inl Z12)), (h17, .inl (zI g, 20, .inl Z15))]) [6, 7, 8, 0, 1, 2, 3, 4, 9, 5] (by decide) rfl
              exact ih1 y55 g0_0 R50 R54 (zLmP_eq hI49 (by omega)) (zMoP_eq hI53 (by omega)) (by omega) (by omega) (by omega) (by omega) (by omega) (by omega) (by omega) _ _ hP hD hS ls (lv_sub hl [2, 3, 4, 0] rfl)
            · have i_7 : y7.toInt < 2 := z_nle (rfl) (rfl) c_7
              refine lv_aload_n hx hb dX2_ready_53 rfl (lv_at hl 1 rfl) ?_
              refine lv_dup hx hb dX2_ready_54 rfl ?_
              refine va_get (D := g.1) (ci := 2) (v := .int g0_0) (C := RX2) (T := TX2) (N := 12) hx hb hts zl_X2 hown hK hP 0 rfl rfl 6 (by decide) (hts _ m_f_RX2_30) (fun _ h => h) rfl dX2_ready_55 ?_
              refine lv_iconst (v := 1) hx hb dX2_ready_58 (by decide) ?_
              refine lv_iload_n hx hb dX2_ready_59 rfl (lv_at hl 4 rfl) ?_
              refine lv_ishl hx hb dX2_ready_60 ?_
              refine lv_topi (fun y56 ey56 => ?_)
              have qy56_0 : 1 ≤ y56.toInt := (zi_shl 4 ey56 (rfl) (by omega) (by omega) (by decide)).1
              have qy56_1 : y56.toInt ≤ 16 := (zi_shl 4 ey56 (rfl) (by omega) (by omega) (by decide)).2
              have hskr := zSk_r (f := (zRm f3.toInt Z12 (zRw f3.toInt Z2))) zRm_01 (k := v3_0.toInt) (by omega) (by omega)
              refine lv_ior hx hb dX2_ready_61 ?_
              refine lv_topi (fun y57 ey57 => ?_)
              have qy57_0 : g0_0.toInt ≤ y57.toInt := (zi_or ey57 (rfl) (rfl) (by omega) (by omega) (by omega) (by omega)).1
              have qy57_1 : y56.toInt ≤ y57.toInt := (zi_or ey57 (rfl) (rfl) (by omega) (by omega) (by omega) (by omega)).2.1
              have qy57_2 : y57.toInt ≤ 31 := (zi_or ey57 (rfl) (rfl) (by omega) (by omega) (by omega) (by omega)).2.2
              have py57_0 : y57.toInt = g0_0.toInt + zP2 v3_0.toInt := zor_bit ey57 ey56 rfl (by omega) (by omega) (by omega) (by omega)
              refine va_put (D := g.1) (ci := 2) (v := .int y57) (ty := .int) (C := RX2) (T := TX2) (N := 12) hx hb hts zl_X2 tyX2 tyX2_ok nmX2 hown hK hP hD hS 0 rfl rfl 6 (by decide) (hts _ m_f_RX2_30) (fun _ h => h) rfl (by decide +kernel) rfl rfl (Nat.le_of_ble_eq_true rfl) dX2_ready_62 (fun H locs hP hD hS => ?_)
              have hP : va_P g.1 vwCl [(h0, .inr (2, [.ref h2, .ref h3, .ref h4, .ref h5, .ref h6, .ref h7, .int y57, .int 0, .ref h8, .ref h9, .ref h10, .ref h11])), (h1, .inr (0, [.ref h12, .int f2, .ref h13, .int f3, .ref h14, .ref h15, .ref h16, .ref h17, .ref h18, .ref h19, .int f4])), (h2, .inl (zI g, 5, .inl Z0)), (h3, .inl (zI g, 5, .inl Z1)), (h4, .inl (zI g, 5, .inl Z2)), (h6, .inl (zI g, 5, .inl G1_0)), (h7, .inl (zI g, 5, .inl G2_0)), (h12, .inl (zI g, 5, .inl Z10)), (h14, .inl (zI g, 5, .inl Z12)), (h17, .inl (zI g, 20, .inl Z15))] H := hP
              have hD : va_D A [(h0, .inr (2, [.ref h2, .ref h3, .ref h4, .ref h5, .ref h6, .ref h7, .int y57, .int 0, .ref h8, .ref h9, .ref h10, .ref h11])), (h1, .inr (0, [.ref h12, .int f2, .ref h13, .int f3, .ref h14, .ref h15, .ref h16, .ref h17, .ref h18, .ref h19, .int f4])), (h2, .inl (zI g, 5, .inl Z0)), (h3, .inl (zI g, 5, .inl Z1)), (h4, .inl (zI g, 5, .inl Z2)), (h6, .inl (zI g, 5, .inl G1_0)), (h7, .inl (zI g, 5, .inl G2_0)), (h12, .inl (zI g, 5, .inl Z10)), (h14, .inl (zI g, 5, .inl Z12)), (h17, .inl (zI g, 20, .inl Z15))] := hD
              have hcap : zCap Z12 v3_0.toNatClampNeg = 2 := zCap_2 (by omega)
              have hrm : (zRm f3.toInt Z12 (zRw f3.toInt Z2)) v3_0.toNatClampNeg = 1 := zRm_i1 (i := v3_0) (by omega) (by omega) hcap (by omega)
              have hsk : zSk (zRm f3.toInt Z12 (zRw f3.toInt Z2)) (v3_0.toInt + 1) = zSk (zRm f3.toInt Z12 (zRw f3.toInt Z2)) v3_0.toInt + zP2 v3_0.toInt := zSk_1 (by omega) (by omega) hrm
              refine lv_aload_n hx hb dX2_ready_65 rfl (lv_at hl 1 rfl) ?_
              refine va_get (D := g.1) (ci := 2) (v := .ref h6) (C := RX2) (T := TX2) (N := 12) hx hb hts zl_X2 hown hK hP 0 rfl rfl 4 (by decide) (hts _ m_f_RX2_24) (fun _ h => h) rfl dX2_ready_66 ?_
              refine lv_iload_n hx hb dX2_ready_69 rfl (lv_at hl 4 rfl) ?_
              refine lv_aload_n hx hb dX2_ready_70 rfl (lv_at hl 2 rfl) ?_
              refine lv_iload_n hx hb dX2_ready_71 rfl (lv_at hl 4 rfl) ?_
              refine lv_iload_n hx hb dX2_ready_72 rfl (lv_at hl 3 rfl) ?_
              refine z_calli (wr := [(h0, .inr (2, [.ref h2, .ref h3, .ref h4, .ref h5, .ref h6, .ref h7, .int y57, .int 0, .ref h8, .ref h9, .ref h10, .ref h11])), (h2, .inl (zI g, 5, .inl Z0)), (h3, .inl (zI g, 5, .inl Z1)), (h4, .inl (zI g, 5, .inl Z2)), (h6, .inl (zI g, 5, .inl G1_0)), (h7, .inl (zI g, 5, .inl G2_0)), (h12, .inl (zI g, 5, .inl Z10)), (h14, .inl (zI g, 5, .inl Z12))]) hP hD hS hA [1, 9] [0, 2, 3, 4, 5, 6, 7, 8] (by decide) rfl rfl (by decide) (va_runVN (As := [.int v3_0, .int p2]) (rest := [.int v3_0, .ref h6]) ⟨hx, hb, hml, hown, hts⟩ (gX0_worthOf l g h1 h12 h13 h14 h15 h16 h17 h18 h19 H.size v3_0 p2 f2 f3 f4 Z15 (by constructor <;> omega) (by constructor <;> omega) (by constructor <;> omega) hF_Z15) ⟨va_cnB 2 hts (zGood m_o_yX0_worthOf) rfl rfl rfl (hN.m 15 (q := (RX2, 137, yX0_worthOf)) rfl) (hts _ m_z_RX0) ⟨by decide +kernel, by decide +kernel, by decide +kernel⟩ ⟨Nat.le_of_ble_eq_true rfl, Nat.le_of_ble_eq_true rfl⟩, hts _ m_i_yX0_worthOf, hts _ m_e_yX0_worthOf⟩ (zPreV hK hN hZ hP hD hS hA [1, 9] (by decide) rfl rfl 0 1 rfl rfl) rfl rfl hl.1 rfl (lv_room (Nat.le_of_ble_eq_true rfl)) dX2_ready_73 ⟨Nat.le_of_ble_eq_true rfl, Nat.le_of_ble_eq_true rfl⟩) (fun r u H locs hw hP hD hS => ?_)
              obtain ⟨y58, rfl⟩ : ∃ z, z = r := ⟨_, rfl⟩
              obtain ⟨q59_0, q59_1, q59_2⟩ := hw
              have q59_0 : y58.toInt = zWq f3.toInt Z15 v3_0.toInt p2.toInt := q59_0
              have q59_1 : 0 ≤ y58.toInt := q59_1
              have q59_2 : y58.toInt ≤ 99 := q59_2
              have hP : va_P g.1 vwCl [(h0, .inr (2, [.ref h2, .ref h3, .ref h4, .ref h5, .ref h6, .ref h7, .int y57, .int 0, .ref h8, .ref h9, .ref h10, .ref h11])), (h2, .inl (zI g, 5, .inl Z0)), (h3, .inl (zI g, 5, .inl Z1)), (h4, .inl (zI g, 5, .inl Z2)), (h6, .inl (zI g, 5, .inl G1_0)), (h7, .inl (zI g, 5, .inl G2_0)), (h12, .inl (zI g, 5, .inl Z10)), (h14, .inl (zI g, 5, .inl Z12)), (h1, .inr (0, [.ref h12, .int f2, .ref h13, .int f3, .ref h14, .ref h15, .ref h16, .ref h17, .ref h18, .ref h19, .int f4])), (h17, .inl (zI g, 20, .inl Z15))] H := hP
              have hD : va_D A [(h0, .inr (2, [.ref h2, .ref h3, .ref h4, .ref h5, .ref h6, .ref h7, .int y57, .int 0, .ref h8, .ref h9, .ref h10, .ref h11])), (h2, .inl (zI g, 5, .inl Z0)), (h3, .inl (zI g, 5, .inl Z1)), (h4, .inl (zI g, 5, .inl Z2)), (h6, .inl (zI g, 5, .inl G1_0)), (h7, .inl (zI g, 5, .inl G2_0)), (h12, .inl (zI g, 5, .inl Z10)), (h14, .inl (zI g, 5, .inl Z12)), (h1, .inr (0, [.ref h12, .int f2, .ref h13, .int f3, .ref h14, .ref h15, .ref h16, .ref h17, .ref h18, .ref h19, .int f4])), (h17, .inl (zI g, 20, .inl Z15))] := hD
              refine lv_aload_n hx hb dX2_ready_76 rfl (lv_at hl 1 rfl) ?_
              refine lv_aload_n hx hb dX2_ready_77 rfl (lv_at hl 2 rfl) ?_
              refine lv_iload_n hx hb dX2_ready_78 rfl (lv_at hl 4 rfl) ?_
              have : (0 : Int32).toInt = 0 := rfl
              refine z_calli (wr := [(h3, .inl (zI g, 5, .inl Z1)), (h4, .inl (zI g, 5, .inl Z2)), (h6, .inl (zI g, 5, .inl G1_0)), (h7, .inl (zI g, 5, .inl G2_0)), (h12, .inl (zI g, 5, .inl Z10)), (h17, .inl (zI g, 20, .inl Z15))]) hP hD hS hA [0, 8, 1, 7] [2, 3, 4, 5, 6, 9] (by decide) rfl rfl (by decide) (va_runV (As := [.ref h1, .int v3_0]) (rest := [.int y58, .int v3_0, .ref h6]) ⟨hx, hb, hml, hown, hts⟩ (gX2_charge l g h0 h1 h2 h3 h4 h5 h6 h7 h8 h9 h10 h11 h12 h13 h14 h15 h16 h17 h18 h19 H.size v3_0 y57 (0 : Int32) f2 f3 f4 Z0 Z12 (by omega) (by omega) (by constructor <;> omega) (by constructor <;> omega) (by constructor <;> omega) hF_Z0 hF_Z12) ⟨callB_of 2 hts (zGood m_o_yX2_charge) rfl rfl rfl (hts _ m_z_RX2) (hts _ m_m_RX2_143) ⟨by decide +kernel, by decide +kernel, by decide +kernel⟩ ⟨Nat.le_of_ble_eq_true rfl, Nat.le_of_ble_eq_true rfl⟩, hts _ m_i_yX2_charge, hts _ m_e_yX2_charge⟩ (zPreV hK hN hZ hP hD hS hA [0, 8, 1, 7] (by decide) rfl rfl 2 0 rfl rfl) rfl rfl hl.1 rfl (lv_room (Nat.le_of_ble_eq_true rfl)) dX2_ready_79 ⟨Nat.le_of_ble_eq_true rfl, Nat.le_of_ble_eq_true rfl⟩) (fun r u H locs hw hP hD hS => ?_)
              obtain ⟨y60, rfl⟩ : ∃ z, z = r := ⟨_, rfl⟩
              obtain ⟨q61_0, q61_1, q61_2⟩ := hw
              have q61_0 : y60.toInt = zCh Z12 (zIv Z0) v3_0.toNatClampNeg := q61_0
              have q61_1 : 0 ≤ y60.toInt := q61_1
              have q61_2 : y60.toInt ≤ 40 := q61_2
              have hP : va_P g.1 vwCl [(h3, .inl (zI g, 5, .inl Z1)), (h4, .inl (zI g, 5, .inl Z2)), (h6, .inl (zI g, 5, .inl G1_0)), (h7, .inl (zI g, 5, .inl G2_0)), (h12, .inl (zI g, 5, .inl Z10)), (h17, .inl (zI g, 20, .inl Z15)), (h0, .inr (2, [.ref h2, .ref h3, .ref h4, .ref h5, .ref h6, .ref h7, .int y57, .int 0, .ref h8, .ref h9, .ref h10, .ref h11])), (h1, .inr (0, [.ref h12, .int f2, .ref h13, .int f3, .ref h14, .ref h15, .ref h16, .ref h17, .ref h18, .ref h19, .int f4])), (h2, .inl (zI g, 5, .inl Z0)), (h14, .inl (zI g, 5, .inl Z12))] H := hP
              have hD : va_D A [(h3, .inl (zI g, 5, .inl Z1)), (h4, .inl (zI g, 5, .inl Z2)), (h6, .inl (zI g, 5, .inl G1_0)), (h7, .inl (zI g, 5, .inl G2_0)), (h12, .inl (zI g, 5, .inl Z10)), (h17, .inl (zI g, 20, .inl Z15)), (h0, .inr (2, [.ref h2, .ref h3, .ref h4, .ref h5, .ref h6, .ref h7, .int y57, .int 0, .ref h8, .ref h9, .ref h10, .ref h11])), (h1, .inr (0, [.ref h12, .int f2, .ref h13, .int f3, .ref h14, .ref h15, .ref h16, .ref h17, .ref h18, .ref h19, .int f4])), (h2, .inl (zI g, 5, .inl Z0)), (h14, .inl (zI g, 5, .inl Z12))] := hD
              refine lv_isub hx hb dX2_ready_82 ?_
              refine lv_topi (fun y62 ey62 => ?_)
              have qy62_0 : y62.toInt = y58.toInt - y60.toInt := zi_sub ey62 (rfl) (rfl) (by omega) (by omega)
              refine va_iast (D := g.1) hx hb hK hP hD hS 2 0 rfl rfl (vp_in_iff.mpr ⟨by omega, by omega⟩) dX2_ready_83 (fun H locs hP hD hS => ?_)
              have hP : va_P g.1 vwCl [(h3, .inl (zI g, 5, .inl Z1)), (h4, .inl (zI g, 5, .inl Z2)), (h6, .inl (zI g, 5, .inl (upd G1_0 v3_0.toNatClampNeg y62))), (h7, .inl (zI g, 5, .inl G2_0)), (h12, .inl (zI g, 5, .inl Z10)), (h17, .inl (zI g, 20, .inl Z15)), (h0, .inr (2, [.ref h2, .ref h3, .ref h4, .ref h5, .ref h6, .ref h7, .int y57, .int 0, .ref h8, .ref h9, .ref h10, .ref h11])), (h1, .inr (0, [.ref h12, .int f2, .ref h13, .int f3, .ref h14, .ref h15, .ref h16, .ref h17, .ref h18, .ref h19, .int f4])), (h2, .inl (zI g, 5, .inl Z0)), (h14, .inl (zI g, 5, .inl Z12))] H := hP
              have hD : va_D A [(h3, .inl (zI g, 5, .inl Z1)), (h4, .inl (zI g, 5, .inl Z2)), (h6, .inl (zI g, 5, .inl (upd G1_0 v3_0.toNatClampNeg y62))), (h7, .inl (zI g, 5, .inl G2_0)), (h12, .inl (zI g, 5, .inl Z10)), (h17, .inl (zI g, 20, .inl Z15)), (h0, .inr (2, [.ref h2, .ref h3, .ref h4, .ref h5, .ref h6, .ref h7, .int y57, .int 0, .ref h8, .ref h9, .ref h10, .ref h11])), (h1, .inr (0, [.ref h12, .int f2, .ref h13, .int f3, .ref h14, .ref h15, .ref h16, .ref h17, .ref h18, .ref h19, .int f4])), (h2, .inl (zI g, 5, .inl Z0)), (h14, .inl (zI g, 5, .inl Z12))] := hD
              have hI63 : zLmP (zLim f3.toInt Z12 Z15 (zRw f3.toInt Z0) p2.toInt) (v3_0.toInt + 1) (upd G1_0 v3_0.toNatClampNeg y62) := zLmP_put (i := v3_0) hG1_0 rfl (by omega) (rfl) (by rw [zLim_i (by omega) (by omega), zCh_rw (by omega) (by omega)]; omega) (by omega) (by omega)
              obtain ⟨R64, eR64⟩ : ∃ z : Nat → Int32, z = (upd G1_0 v3_0.toNatClampNeg y62) := ⟨_, rfl⟩
              rw [← eR64] at hP hD hI63
              refine lv_aload_n hx hb dX2_ready_84 rfl (lv_at hl 1 rfl) ?_
              refine va_get (D := g.1) (ci := 2) (v := .ref h7) (C := RX2) (T := TX2) (N := 12) hx hb hts zl_X2 hown hK hP 6 rfl rfl 5 (by decide) (hts _ m_f_RX2_27) (fun _ h => h) rfl dX2_ready_85 ?_
              refine lv_iload_n hx hb dX2_ready_88 rfl (lv_at hl 4 rfl) ?_
              refine lv_aload_n hx hb dX2_ready_89 rfl (lv_at hl 1 rfl) ?_
              refine va_get (D := g.1) (ci := 2) (v := .ref h3) (C := RX2) (T := TX2) (N := 12) hx hb hts zl_X2 hown hK hP 6 rfl rfl 1 (by decide) (hts _ m_f_RX2_15) (fun _ h => h) rfl dX2_ready_90 ?_
              refine lv_iload_n hx hb dX2_ready_93 rfl (lv_at hl 4 rfl) ?_
              refine va_iald (D := g.1) hx hb hK hP 0 0 rfl rfl (vp_in_iff.mpr ⟨by omega, by omega⟩) dX2_ready_94 ?_
              refine lv_topi (fun y65 ey65 => ?_)
              have qy65_0 : (-99) ≤ y65.toInt := (i_at (N := 5) (lo := (-99)) (hi := 9999) (i := v3_0) (a := v3_0.toInt) hF_Z1 (rfl) (by omega) (by omega) ey65).1
              have qy65_1 : y65.toInt ≤ 9999 := (i_at (N := 5) (lo := (-99)) (hi := 9999) (i := v3_0) (a := v3_0.toInt) hF_Z1 (rfl) (by omega) (by omega) ey65).2
              have qy65_2 : y65.toInt = (Z1 v3_0.toNatClampNeg).toInt := congrArg Int32.toInt ey65
              refine lv_iload hx hb dX2_ready_95 (lv_at hl 0 rfl) ?_
              refine lv_iconst (v := 4) hx hb dX2_ready_97 (by decide) ?_
              refine lv_icmp_ne (tgt := 110) hx hb dX2_ready_98 (by decide) (fun c_9 => ?_) (fun c_9 => absurd (show y6.toInt = 4 from z_eq (rfl) (rfl) c_9) (by omega))
              have i_9 : y6.toInt ≠ 4 := z_ne (rfl) (rfl) c_9
              refine lv_iconst (v := 0) hx hb dX2_ready_110 (by decide) ?_
              refine lv_iadd hx hb dX2_ready_111 ?_
              refine lv_topi (fun y66 ey66 => ?_)
              have qy66_0 : y66.toInt = y65.toInt + 0 := zi_add ey66 (rfl) (rfl) (by omega) (by omega)
              refine va_iast (D := g.1) hx hb hK hP hD hS 3 0 rfl rfl (vp_in_iff.mpr ⟨by omega, by omega⟩) dX2_ready_112 (fun H locs hP hD hS => ?_)
              have hP : va_P g.1 vwCl [(h3, .inl (zI g, 5, .inl Z1)), (h4, .inl (zI g, 5, .inl Z2)), (h6, .inl (zI g, 5, .inl R64)), (h7, .inl (zI g, 5, .inl (upd G2_0 v3_0.toNatClampNeg y66))), (h12, .inl (zI g, 5, .inl Z10)), (h17, .inl (zI g, 20, .inl Z15)), (h0, .inr (2, [.ref h2, .ref h3, .ref h4, .ref h5, .ref h6, .ref h7, .int y57, .int 0, .ref h8, .ref h9, .ref h10, .ref h11])), (h1, .inr (0, [.ref h12, .int f2, .ref h13, .int f3, .ref h14, .ref h15, .ref h16, .ref h17, .ref h18, .ref h19, .int f4])), (h2, .inl (zI g, 5, .inl Z0)), (h14, .inl (zI g, 5, .inl Z12))] H := hP
              have hD : va_D A [(h3, .inl (zI g, 5, .inl Z1)), (h4, .inl (zI g, 5, .inl Z2)), (h6, .inl (zI g, 5, .inl R64)), (h7, .inl (zI g, 5, .inl (upd G2_0 v3_0.toNatClampNeg y66))), (h12, .inl (zI g, 5, .inl Z10)), (h17, .inl (zI g, 20, .inl Z15)), (h0, .inr (2, [.ref h2, .ref h3, .ref h4, .ref h5, .ref h6, .ref h7, .int y57, .int 0, .ref h8, .ref h9, .ref h10, .ref h11])), (h1, .inr (0, [.ref h12, .int f2, .ref h13, .int f3, .ref h14, .ref h15, .ref h16, .ref h17, .ref h18, .ref h19, .int f4])), (h2, .inl (zI g, 5, .inl Z0)), (h14, .inl (zI g, 5, .inl Z12))] := hD
              have hI67 : zMoP (zMon Z10 f3.toInt Z12 (zRw f3.toInt Z1)) (v3_0.toInt + 1) (upd G2_0 v3_0.toNatClampNeg y66) := zMoP_put (i := v3_0) hG2_0 rfl (by omega) (rfl) (by rw [zMon_i (by omega) (by omega), zRw_i (by omega) (by omega), if_neg (by omega)]; omega) (by omega) (by omega)
              obtain ⟨R68, eR68⟩ : ∃ z : Nat → Int32, z = (upd G2_0 v3_0.toNatClampNeg y66) := ⟨_, rfl⟩
              rw [← eR68] at hP hD hI67
              obtain ⟨y69, ey69⟩ : ∃ z : Int32, z = v3_0 + 1 := ⟨_, rfl⟩
              have qy69 : y69.toInt = v3_0.toInt + 1 := zi_add ey69 (rfl) rfl (by omega) (by omega)
              refine lv_iinc (v := y69) (lv' := [(3, .int y69), (4, .int y6), (0, .ref h0), (1, .ref h1), (2, .int p2)]) hx hb dX2_ready_113 hl (k := 4) rfl ey69.symm (by decide) rfl (fun ls hl => ?_)
              have hskb : zSk (zRm f3.toInt Z12 (zRw f3.toInt Z2)) y69.toInt = zSk (zRm f3.toInt Z12 (zRw f3.toInt Z2)) (v3_0.toInt + 1) := by rw [(by omega : y69.toInt = v3_0.toInt + 1)]
              refine lv_goto (tgt := 12) hx hb dX2_ready_116 (by decide) ?_
              have hP := hP.sub (ws' := [(h0, .inr (2, [.ref h2, .ref h3, .ref h4, .ref h5, .ref h6, .ref h7, .int y57, .int 0, .ref h8, .ref h9, .ref h10, .ref h11])), (h1, .inr (0, [.ref h12, .int f2, .ref h13, .int f3, .ref h14, .ref h15, .ref h16, .ref h17, .ref h18, .ref h19, .int f4])), (h2, .inl (zI g, 5, .inl Z0)), (h3, .inl (zI g, 5, .inl Z1)), (h4, .inl (zI g, 5, .inl Z2)), (h6, .inl (zI g, 5, .inl R64)), (h7, .inl (zI g, 5, .inl R68)), (h12, .inl (zI g, 5, .inl Z10)), (h14, .inl (zI g, 5, .inl Z12)), (h17, .inl (zI g, 20, .inl Z15))]) [6, 7, 8, 0, 1, 2, 3, 4, 9, 5] rfl
              have hD := hD.sub (ws' := [(h0, .inr (2, [.ref h2, .ref h3, .ref h4, .ref h5, .ref h6, .ref h7, .int y57, .int 0, .ref h8, .ref h9, .ref h10, .ref h11])), (h1, .inr (0, [.ref h12, .int f2, .ref h13, .int f3, .ref h14, .ref h15, .ref h16, .ref h17, .ref h18, .ref h19, .int f4])), (h2, .inl (zI g, 5, .inl Z0)), (h3, .inl (zI g, 5, .inl Z1)), (h4, .inl (zI g, 5, .inl Z2)), (h6, .inl (zI g, 5, .inl R64)), (h7, .inl (zI g, 5, .inl R68)), (h12, .inl (zI g, 5, .inl Z10)), (h14, .inl (zI g, 5, .inl Z12)), (h17, .inl (zI g, 20, .inl Z15))]) [6, 7, 8, 0, 1, 2, 3, 4, 9, 5] (by decide) rfl
              exact ih1 y69 y57 R64 R68 (zLmP_eq hI63 (by omega)) (zMoP_eq hI67 (by omega)) (by omega) (by omega) (by omega) (by omega) (by omega) (by omega) (by omega) _ _ hP hD hS ls (lv_sub hl [2, 3, 4, 0] rfl)
  have : (0 : Int32).toInt = 0 := rfl
  exact loop12_0 ((5 - 0 : Int).toNat + 1) (0 : Int32) (0 : Int32) Z4 Z5 (zLmP_eq hI0 (by omega)) (zMoP_eq hI1 (by omega)) (by omega) (by omega) (by omega) (by omega) (by omega) (by omega) (by omega) _ _ hP hD hS ls (lv_sub hl [1, 2, 3, 0] rfl)
set_option maxHeartbeats 8000000 in
set_option maxRecDepth 100000 in
theorem gX2_isIn (l : Launch) (g : zG) (sz : Nat) (p0 : Int32) (p1 : Int32) : Met l yX2_isIn (.code yX2_isIn cX2_isIn 2 (some .boolean) :: zBig) ({ frames := 0, cells := 0, slots := 0, locals := 0 }) (va_Pc [.int p0, .int p1] (zPre g [] sz)) (va_Qi (fun (r : Int32) (u : Nat) => (zbit p0 p1 = 1 ∧ r = 1) ∨ (zbit p0 p1 = 0 ∧ r = 0)) (zPost g (fun u : Nat => []) (va_A [] sz)) (va_A [] sz)) 0 0 (va_A [] sz) := by
  refine zMetI rfl (Nat.le_of_ble_eq_true rfl) ?_
  intro p e s m args below meth c A ls hx hb hml hr hlocks hin hown hts hK hN hZ hP hD hA hS hAe hl
  have hown : s.vm.findClass RX2 = some m.cls := hown
  have hl : lv_has ls 2 [(0, .int p0), (1, .int p1)] := hl
  refine lv_iload_n hx hb dX2_isIn_0 rfl (lv_at hl 0 rfl) ?_
  refine lv_iload_n hx hb dX2_isIn_1 rfl (lv_at hl 1 rfl) ?_
  refine lv_ishr hx hb dX2_isIn_2 ?_
  refine lv_topi (fun y0 ey0 => ?_)
  refine lv_iconst (v := 1) hx hb dX2_isIn_3 (by decide) ?_
  refine lv_iand hx hb dX2_isIn_4 ?_
  refine lv_topi (fun y1 ey1 => ?_)
  have qy1_0 : 0 ≤ y1.toInt := (zi_and1 ey1).1
  have qy1_1 : y1.toInt ≤ 1 := (zi_and1 ey1).2
  have py1_0 : zbit p0 p1 = y1.toInt := zbit_eq ey0 ey1
  refine lv_iconst (v := 1) hx hb dX2_isIn_5 (by decide) ?_
  refine lv_icmp_ne (tgt := 13) hx hb dX2_isIn_6 (by decide) (fun c_0 => ?_) (fun c_0 => ?_)
  · have i_0 : y1.toInt ≠ 1 := z_ne (rfl) (rfl) c_0
    refine lv_iconst (v := 0) hx hb dX2_isIn_13 (by decide) ?_
    have hP9 := hP.sub (ws' := []) [] rfl
    have hD9 := hD.sub (ws' := []) [] (by decide) rfl
    exact W.zret (v := 0) hx hb hr (by decide) (fun t ht hW => ⟨⟨0, (0 : Nat), rfl, Or.inr (⟨(by first | omega | decide), rfl⟩), by rw [ht]; exact hP9, hD9⟩, hS.F ht⟩) hS.2.2 dX2_isIn_14
  · have i_0 : y1.toInt = 1 := z_eq (rfl) (rfl) c_0
    refine lv_iconst (v := 1) hx hb dX2_isIn_9 (by decide) ?_
    refine lv_goto (tgt := 14) hx hb dX2_isIn_10 (by decide) ?_
    have hP9 := hP.sub (ws' := []) [] rfl
    have hD9 := hD.sub (ws' := []) [] (by decide) rfl
    exact W.zret (v := 1) hx hb hr (by decide) (fun t ht hW => ⟨⟨1, (0 : Nat), rfl, Or.inl ⟨(by first | omega | decide), rfl⟩, by rw [ht]; exact hP9, hD9⟩, hS.F ht⟩) hS.2.2 dX2_isIn_14
set_option maxHeartbeats 8000000 in
set_option maxRecDepth 100000 in
theorem gX2_silentOf (l : Launch) (g : zG) (h0 h1 h2 h3 h4 h5 h6 h7 h8 h9 h10 h11 h12 h13 h14 h15 h16 h17 h18 h19 : Nat) (sz : Nat) (p2 : Int32) (p3 : Int32) (f0 : Int32) (f1 : Int32) (f2 : Int32) (f3 : Int32) (f4 : Int32) (Z15 : Nat → Int32) (hp0 : 0 ≤ p3.toInt) (hp1 : p3.toInt ≤ 31) (hf_f2 : 0 ≤ f2.toInt ∧ f2.toInt ≤ 6) (hf_f3 : 0 ≤ f3.toInt ∧ f3.toInt ≤ 5) (hf_f4 : 0 ≤ f4.toInt ∧ f4.toInt ≤ 9999) (hF_Z15 : iWo Z15) : Met l yX2_silentOf (.code yX2_silentOf cX2_silentOf 7 (some .int) :: zBig) ({ frames := 2, cells := 0, slots := 0, locals := 43 }) (va_Pc [.ref h0, .ref h1, .int p2, .int p3] (zPre g [(h0, .inr (2, [.ref h2, .ref h3, .ref h4, .ref h5, .ref h6, .ref h7, .int f0, .int f1, .ref h8, .ref h9, .ref h10, .ref h11])), (h1, .inr (0, [.ref h12, .int f2, .ref h13, .int f3, .ref h14, .ref h15, .ref h16, .ref h17, .ref h18, .ref h19, .int f4])), (h17, .inl (zI g, 20, .inl Z15))] sz)) (va_Qi (fun (r : Int32) (u : Nat) => r.toInt = zS5 (zSil p3 (zVo p3 (zWf f3.toInt Z15 p2.toInt) (zib f0) 5)) ∧ 0 ≤ r.toInt ∧ r.toInt ≤ 31) (zPost g (fun u : Nat => [(h0, .inr (2, [.ref h2, .ref h3, .ref h4, .ref h5, .ref h6, .ref h7, .int f0, .int f1, .ref h8, .ref h9, .ref h10, .ref h11])), (h1, .inr (0, [.ref h12, .int f2, .ref h13, .int f3, .ref h14, .ref h15, .ref h16, .ref h17, .ref h18, .ref h19, .int f4])), (h17, .inl (zI g, 20, .inl Z15))]) (va_A [(h0, .inr (2, [.ref h2, .ref h3, .ref h4, .ref h5, .ref h6, .ref h7, .int f0, .int f1, .ref h8, .ref h9, .ref h10, .ref h11])), (h1, .inr (0, [.ref h12, .int f2, .ref h13, .int f3, .ref h14, .ref h15, .ref h16, .ref h17, .ref h18, .ref h19, .int f4])), (h17, .inl (zI g, 20, .inl Z15))] sz)) (va_A [(h0, .inr (2, [.ref h2, .ref h3, .ref h4, .ref h5, .ref h6, .ref h7, .int f0, .int f1, .ref h8, .ref h9, .ref h10, .ref h11])), (h1, .inr (0, [.ref h12, .int f2, .ref h13, .int f3, .ref h14, .ref h15, .ref h16, .ref h17, .ref h18, .ref h19, .int f4])), (h17, .inl (zI g, 20, .inl Z15))] sz)) 0 0 (va_A [(h0, .inr (2, [.ref h2, .ref h3, .ref h4, .ref h5, .ref h6, .ref h7, .int f0, .int f1, .ref h8, .ref h9, .ref h10, .ref h11])), (h1, .inr (0, [.ref h12, .int f2, .ref h13, .int f3, .ref h14, .ref h15, .ref h16, .ref h17, .ref h18, .ref h19, .int f4])), (h17, .inl (zI g, 20, .inl Z15))] sz) := by
  refine zMetI rfl (Nat.le_of_ble_eq_true rfl) ?_
  intro p e s m args below meth c A ls hx hb hml hr hlocks hin hown hts hK hN hZ hP hD hA hS hAe hl
  have hown : s.vm.findClass RX2 = some m.cls := hown
  have hl : lv_has ls 7 [(0, .ref h0), (1, .ref h1), (2, .int p2), (3, .int p3)] := hl
  have hv0 : zVo p3 (zWf f3.toInt Z15 p2.toInt) (zib f0) (0 : Int32).toInt.toNat = -1 := rfl
  have hv00 : (-1 : Int32).toInt = -1 := rfl
  refine lv_iconst (v := (-1)) hx hb dX2_silentOf_0 (by decide) ?_
  refine lv_istore (lv' := [(4, .int (-1)), (0, .ref h0), (1, .ref h1), (2, .int p2), (3, .int p3)]) hx hb dX2_silentOf_1 hl (by decide) rfl (fun ls hl => ?_)
  refine lv_iconst (v := (-1)) hx hb dX2_silentOf_3 (by decide) ?_
  refine lv_istore (lv' := [(5, .int (-1)), (4, .int (-1)), (0, .ref h0), (1, .ref h1), (2, .int p2), (3, .int p3)]) hx hb dX2_silentOf_4 hl (by decide) rfl (fun ls hl => ?_)
  refine lv_iconst (v := 0) hx hb dX2_silentOf_6 (by decide) ?_
  refine lv_istore (lv' := [(6, .int 0), (5, .int (-1)), (4, .int (-1)), (0, .ref h0), (1, .ref h1), (2, .int p2), (3, .int p3)]) hx hb dX2_silentOf_7 hl (by decide) rfl (fun ls hl => ?_)
  have loop9_0 : ∀ (n1 : Nat) (v4_0 : Int32) (v5_0 : Int32) (v6_0 : Int32) (n1_0 : 0 ≤ v6_0.toInt) (n1_1 : v6_0.toInt ≤ 5) (n1_2 : -1 ≤ v4_0.toInt) (n1_3 : v4_0.toInt ≤ 4) (n1_4 : -1 ≤ v5_0.toInt) (n1_5 : v5_0.toInt ≤ 99) (n1_6 : v4_0.toInt = zVo p3 (zWf f3.toInt Z15 p2.toInt) (zib f0) v6_0.toInt.toNat) (n1_7 : (v4_0.toInt < 0 → v5_0.toInt = -1)) (n1_8 : (0 ≤ v4_0.toInt → v5_0.toInt = (zWf f3.toInt Z15 p2.toInt) v4_0.toInt.toNat)) (hm1 : 5 - v6_0.toInt < (n1 : Int)) (H : Heap) (locs : List Loc), va_P g.1 vwCl [(h0, .inr (2, [.ref h2, .ref h3, .ref h4, .ref h5, .ref h6, .ref h7, .int f0, .int f1, .ref h8, .ref h9, .ref h10, .ref h11])), (h1, .inr (0, [.ref h12, .int f2, .ref h13, .int f3, .ref h14, .ref h15, .ref h16, .ref h17, .ref h18, .ref h19, .int f4])), (h17, .inl (zI g, 20, .inl Z15))] H → va_D A [(h0, .inr (2, [.ref h2, .ref h3, .ref h4, .ref h5, .ref h6, .ref h7, .int f0, .int f1, .ref h8, .ref h9, .ref h10, .ref h11])), (h1, .inr (0, [.ref h12, .int f2, .ref h13, .int f3, .ref h14, .ref h15, .ref h16, .ref h17, .ref h18, .ref h19, .int f4])), (h17, .inl (zI g, 20, .inl Z15))] → va_S A s.heap H locs → ∀ (ls : Array Slot), lv_has ls 7 [(0, .ref h0), (1, .ref h1), (2, .int p2), (3, .int p3), (4, .int v4_0), (5, .int v5_0), (6, .int v6_0)] → W p l e ({ frames := 2, cells := 0, slots := 0, locals := 43 }) s m args below meth c H locs 0 0 (MQ below (va_Qi (fun (r : Int32) (u : Nat) => r.toInt = zS5 (zSil p3 (zVo p3 (zWf f3.toInt Z15 p2.toInt) (zib f0) 5)) ∧ 0 ≤ r.toInt ∧ r.toInt ≤ 31) (zPost g (fun u : Nat => [(h0, .inr (2, [.ref h2, .ref h3, .ref h4, .ref h5, .ref h6, .ref h7, .int f0, .int f1, .ref h8, .ref h9, .ref h10, .ref h11])), (h1, .inr (0, [.ref h12, .int f2, .ref h13, .int f3, .ref h14, .ref h15, .ref h16, .ref h17, .ref h18, .ref h19, .int f4])), (h17, .inl (zI g, 20, .inl Z15))]) A) A) args s 0 0 A) (F0 m 9 ls []) := by
    intro n1
    induction n1 with
    | zero => intro v4_0 v5_0 v6_0 n1_0 n1_1 n1_2 n1_3 n1_4 n1_5 n1_6 n1_7 n1_8 hm1; exfalso; omega
    | succ n1 ih1 =>
      intro v4_0 v5_0 v6_0 n1_0 n1_1 n1_2 n1_3 n1_4 n1_5 n1_6 n1_7 n1_8 hm1 H locs hP hD hS ls hl
      refine lv_iload_n hx hb dX2_silentOf_9 rfl (lv_at hl 3 rfl) ?_
      refine lv_if_eq (tgt := 71) hx hb dX2_silentOf_10 (by decide) (fun c_1 => ?_) (fun c_1 => ?_)
      · have i_1 : p3.toInt = 0 := z_eq (rfl) (rfl) c_1
        have hv5 : zVo p3 (zWf f3.toInt Z15 p2.toInt) (zib f0) 5 = -1 := zVo_z (by omega) 5 (by omega)
        have hvb : zVo p3 (zWf f3.toInt Z15 p2.toInt) (zib f0) v6_0.toInt.toNat = -1 := zVo_z (by omega) _ (by omega)
        have hv4 : v4_0.toInt = -1 := by omega
        refine lv_iload hx hb dX2_silentOf_71 (lv_at hl 4 rfl) ?_
        refine lv_if_ge (tgt := 80) hx hb dX2_silentOf_73 (by decide) (fun c_2 => absurd (show 0 ≤ v4_0.toInt from z_le (rfl) (rfl) c_2) (by omega)) (fun c_2 => ?_)
        have i_2 : v4_0.toInt < 0 := z_nle (rfl) (rfl) c_2
        refine lv_iload_n hx hb dX2_silentOf_76 rfl (lv_at hl 3 rfl) ?_
        refine lv_goto (tgt := 88) hx hb dX2_silentOf_77 (by decide) ?_
        have hvv : v4_0.toInt = zVo p3 (zWf f3.toInt Z15 p2.toInt) (zib f0) 5 := by omega
        have hz : p3.toInt = zS5 (zSil p3 (zVo p3 (zWf f3.toInt Z15 p2.toInt) (zib f0) 5)) := by
          rw [zIb_S (s := p3) (by omega) (by omega)]
          exact (zS5_ext (f := zIb p3) (g := zSil p3 (zVo p3 (zWf f3.toInt Z15 p2.toInt) (zib f0) 5)) fun b hb => zSil_neg (by omega) (by omega) (by omega) hb).1
        have hzr := zS5_r (zSil_01 p3 (zVo p3 (zWf f3.toInt Z15 p2.toInt) (zib f0) 5))
        have hP9 := hP.sub (ws' := [(h0, .inr (2, [.ref h2, .ref h3, .ref h4, .ref h5, .ref h6, .ref h7, .int f0, .int f1, .ref h8, .ref h9, .ref h10, .ref h11])), (h1, .inr (0, [.ref h12, .int f2, .ref h13, .int f3, .ref h14, .ref h15, .ref h16, .ref h17, .ref h18, .ref h19, .int f4])), (h17, .inl (zI g, 20, .inl Z15))]) [0, 1, 2] rfl
        have hD9 := hD.sub (ws' := [(h0, .inr (2, [.ref h2, .ref h3, .ref h4, .ref h5, .ref h6, .ref h7, .int f0, .int f1, .ref h8, .ref h9, .ref h10, .ref h11])), (h1, .inr (0, [.ref h12, .int f2, .ref h13, .int f3, .ref h14, .ref h15, .ref h16, .ref h17, .ref h18, .ref h19, .int f4])), (h17, .inl (zI g, 20, .inl Z15))]) [0, 1, 2] (by decide) rfl
        exact W.iret (v := p3) hx hb hr (fun t ht hW => ⟨⟨p3, (0 : Nat), rfl, ⟨(by first | omega | decide), (by first | omega | decide), (by first | omega | decide)⟩, by rw [ht]; exact hP9, hD9⟩, hS.F ht⟩) hS.2.2 dX2_silentOf_88
      · have i_1 : p3.toInt ≠ 0 := z_ne (rfl) (rfl) c_1
        refine lv_iload hx hb dX2_silentOf_13 (lv_at hl 6 rfl) ?_
        refine lv_iconst (v := 5) hx hb dX2_silentOf_15 (by decide) ?_
        refine lv_icmp_ge (tgt := 71) hx hb dX2_silentOf_16 (by decide) (fun c_3 => ?_) (fun c_3 => ?_)
        · have i_3 : 5 ≤ v6_0.toInt := z_le (rfl) (rfl) c_3
          have hv5 : zVo p3 (zWf f3.toInt Z15 p2.toInt) (zib f0) 5 = zVo p3 (zWf f3.toInt Z15 p2.toInt) (zib f0) v6_0.toInt.toNat := by rw [(by omega : v6_0.toInt.toNat = 5)]
          refine lv_iload hx hb dX2_silentOf_71 (lv_at hl 4 rfl) ?_
          refine lv_if_ge (tgt := 80) hx hb dX2_silentOf_73 (by decide) (fun c_4 => ?_) (fun c_4 => ?_)
          · have i_4 : 0 ≤ v4_0.toInt := z_le (rfl) (rfl) c_4
            refine lv_iload_n hx hb dX2_silentOf_80 rfl (lv_at hl 3 rfl) ?_
            refine lv_iconst (v := 1) hx hb dX2_silentOf_81 (by decide) ?_
            refine lv_iload hx hb dX2_silentOf_82 (lv_at hl 4 rfl) ?_
            refine lv_ishl hx hb dX2_silentOf_84 ?_
            refine lv_topi (fun y0 ey0 => ?_)
            have qy0_0 : 1 ≤ y0.toInt := (zi_shl 4 ey0 (rfl) (by omega) (by omega) (by decide)).1
            have qy0_1 : y0.toInt ≤ 16 := (zi_shl 4 ey0 (rfl) (by omega) (by omega) (by decide)).2
            refine lv_iconst (v := (-1)) hx hb dX2_silentOf_85 (by decide) ?_
            refine lv_ixor hx hb dX2_silentOf_86 ?_
            refine lv_topi (fun y1 ey1 => ?_)
            refine lv_iand hx hb dX2_silentOf_87 ?_
            refine lv_topi (fun y2 ey2 => ?_)
            have hvv : v4_0.toInt = zVo p3 (zWf f3.toInt Z15 p2.toInt) (zib f0) 5 := by omega
            have hz : y2.toInt = zS5 (zSil p3 (zVo p3 (zWf f3.toInt Z15 p2.toInt) (zib f0) 5)) := by
              rw [← hvv]
              exact z_andn (s := y0) (by rw [ey2, ey1]) (zIb_01 (by omega) (by omega)) (zJu_01 _) (zIb_S (by omega) (by omega)) (z_one ey0 rfl (by omega) (by omega)).2
            have hzr := zS5_r (zSil_01 p3 (zVo p3 (zWf f3.toInt Z15 p2.toInt) (zib f0) 5))
            have hP9 := hP.sub (ws' := [(h0, .inr (2, [.ref h2, .ref h3, .ref h4, .ref h5, .ref h6, .ref h7, .int f0, .int f1, .ref h8, .ref h9, .ref h10, .ref h11])), (h1, .inr (0, [.ref h12, .int f2, .ref h13, .int f3, .ref h14, .ref h15, .ref h16, .ref h17, .ref h18, .ref h19, .int f4])), (h17, .inl (zI g, 20, .inl Z15))]) [0, 1, 2] rfl
            have hD9 := hD.sub (ws' := [(h0, .inr (2, [.ref h2, .ref h3, .ref h4, .ref h5, .ref h6, .ref h7, .int f0, .int f1, .ref h8, .ref h9, .ref h10, .ref h11])), (h1, .inr (0, [.ref h12, .int f2, .ref h13, .int f3, .ref h14, .ref h15, .ref h16, .ref h17, .ref h18, .ref h19, .int f4])), (h17, .inl (zI g, 20, .inl Z15))]) [0, 1, 2] (by decide) rfl
            exact W.iret (v := y2) hx hb hr (fun t ht hW => ⟨⟨y2, (0 : Nat), rfl, ⟨(by first | omega | decide), (by first | omega | decide), (by first | omega | decide)⟩, by rw [ht]; exact hP9, hD9⟩, hS.F ht⟩) hS.2.2 dX2_silentOf_88
          · have i_4 : v4_0.toInt < 0 := z_nle (rfl) (rfl) c_4
            refine lv_iload_n hx hb dX2_silentOf_76 rfl (lv_at hl 3 rfl) ?_
            refine lv_goto (tgt := 88) hx hb dX2_silentOf_77 (by decide) ?_
            have hvv : v4_0.toInt = zVo p3 (zWf f3.toInt Z15 p2.toInt) (zib f0) 5 := by omega
            have hz : p3.toInt = zS5 (zSil p3 (zVo p3 (zWf f3.toInt Z15 p2.toInt) (zib f0) 5)) := by
              rw [zIb_S (s := p3) (by omega) (by omega)]
              exact (zS5_ext (f := zIb p3) (g := zSil p3 (zVo p3 (zWf f3.toInt Z15 p2.toInt) (zib f0) 5)) fun b hb => zSil_neg (by omega) (by omega) (by omega) hb).1
            have hzr := zS5_r (zSil_01 p3 (zVo p3 (zWf f3.toInt Z15 p2.toInt) (zib f0) 5))
            have hP9 := hP.sub (ws' := [(h0, .inr (2, [.ref h2, .ref h3, .ref h4, .ref h5, .ref h6, .ref h7, .int f0, .int f1, .ref h8, .ref h9, .ref h10, .ref h11])), (h1, .inr (0, [.ref h12, .int f2, .ref h13, .int f3, .ref h14, .ref h15, .ref h16, .ref h17, .ref h18, .ref h19, .int f4])), (h17, .inl (zI g, 20, .inl Z15))]) [0, 1, 2] rfl
            have hD9 := hD.sub (ws' := [(h0, .inr (2, [.ref h2, .ref h3, .ref h4, .ref h5, .ref h6, .ref h7, .int f0, .int f1, .ref h8, .ref h9, .ref h10, .ref h11])), (h1, .inr (0, [.ref h12, .int f2, .ref h13, .int f3, .ref h14, .ref h15, .ref h16, .ref h17, .ref h18, .ref h19, .int f4])), (h17, .inl (zI g, 20, .inl Z15))]) [0, 1, 2] (by decide) rfl
            exact W.iret (v := p3) hx hb hr (fun t ht hW => ⟨⟨p3, (0 : Nat), rfl, ⟨(by first | omega | decide), (by first | omega | decide), (by first | omega | decide)⟩, by rw [ht]; exact hP9, hD9⟩, hS.F ht⟩) hS.2.2 dX2_silentOf_88
        · have i_3 : v6_0.toInt < 5 := z_nle (rfl) (rfl) c_3
          refine lv_iload_n hx hb dX2_silentOf_19 rfl (lv_at hl 3 rfl) ?_
          refine lv_iload hx hb dX2_silentOf_20 (lv_at hl 6 rfl) ?_
          refine z_calli (wr := [(h0, .inr (2, [.ref h2, .ref h3, .ref h4, .ref h5, .ref h6, .ref h7, .int f0, .int f1, .ref h8, .ref h9, .ref h10, .ref h11])), (h1, .inr (0, [.ref h12, .int f2, .ref h13, .int f3, .ref h14, .ref h15, .ref h16, .ref h17, .ref h18, .ref h19, .int f4])), (h17, .inl (zI g, 20, .inl Z15))]) hP hD hS hA [] [0, 1, 2] (by decide) rfl rfl (by decide) (va_runS (As := [.int p3, .int v6_0]) (rest := []) ⟨hx, hb, hml, hown, hts⟩ (gX2_isIn l g  H.size p3 v6_0) ⟨callB_of 2 hts (zGood m_o_yX2_isIn) rfl rfl rfl (hts _ m_z_RX2) (hts _ m_m_RX2_93) ⟨by decide +kernel, by decide +kernel, by decide +kernel⟩ ⟨Nat.le_of_ble_eq_true rfl, Nat.le_of_ble_eq_true rfl⟩, hts _ m_s_yX2_isIn⟩ (zPreS hK hN hZ hP hD hS hA [] (by decide) rfl rfl) rfl rfl hl.1 rfl (lv_room (Nat.le_of_ble_eq_true rfl)) dX2_silentOf_22 ⟨Nat.le_of_ble_eq_true rfl, Nat.le_of_ble_eq_true rfl⟩) (fun r u H locs hw hP hD hS => ?_)
          rcases hw with ⟨i_5, rfl⟩ | ⟨i_6, rfl⟩
          · skip
            have i_5 : zbit p3 v6_0 = 1 := i_5
            have hP : va_P g.1 vwCl [(h0, .inr (2, [.ref h2, .ref h3, .ref h4, .ref h5, .ref h6, .ref h7, .int f0, .int f1, .ref h8, .ref h9, .ref h10, .ref h11])), (h1, .inr (0, [.ref h12, .int f2, .ref h13, .int f3, .ref h14, .ref h15, .ref h16, .ref h17, .ref h18, .ref h19, .int f4])), (h17, .inl (zI g, 20, .inl Z15))] H := hP
            have hD : va_D A [(h0, .inr (2, [.ref h2, .ref h3, .ref h4, .ref h5, .ref h6, .ref h7, .int f0, .int f1, .ref h8, .ref h9, .ref h10, .ref h11])), (h1, .inr (0, [.ref h12, .int f2, .ref h13, .int f3, .ref h14, .ref h15, .ref h16, .ref h17, .ref h18, .ref h19, .int f4])), (h17, .inl (zI g, 20, .inl Z15))] := hD
            refine lv_if_eq (tgt := 65) hx hb dX2_silentOf_25 (by decide) (fun h => absurd h (by decide +kernel)) (fun _ => ?_)
            refine lv_aload_n hx hb dX2_silentOf_28 rfl (lv_at hl 0 rfl) ?_
            refine va_get (D := g.1) (ci := 2) (v := .int f0) (C := RX2) (T := TX2) (N := 12) hx hb hts zl_X2 hown hK hP 0 rfl rfl 6 (by decide) (hts _ m_f_RX2_30) (fun _ h => h) rfl dX2_silentOf_29 ?_
            refine lv_iload hx hb dX2_silentOf_32 (lv_at hl 6 rfl) ?_
            refine z_calli (wr := [(h0, .inr (2, [.ref h2, .ref h3, .ref h4, .ref h5, .ref h6, .ref h7, .int f0, .int f1, .ref h8, .ref h9, .ref h10, .ref h11])), (h1, .inr (0, [.ref h12, .int f2, .ref h13, .int f3, .ref h14, .ref h15, .ref h16, .ref h17, .ref h18, .ref h19, .int f4])), (h17, .inl (zI g, 20, .inl Z15))]) hP hD hS hA [] [0, 1, 2] (by decide) rfl rfl (by decide) (va_runS (As := [.int f0, .int v6_0]) (rest := []) ⟨hx, hb, hml, hown, hts⟩ (gX2_isIn l g  H.size f0 v6_0) ⟨callB_of 2 hts (zGood m_o_yX2_isIn) rfl rfl rfl (hts _ m_z_RX2) (hts _ m_m_RX2_93) ⟨by decide +kernel, by decide +kernel, by decide +kernel⟩ ⟨Nat.le_of_ble_eq_true rfl, Nat.le_of_ble_eq_true rfl⟩, hts _ m_s_yX2_isIn⟩ (zPreS hK hN hZ hP hD hS hA [] (by decide) rfl rfl) rfl rfl hl.1 rfl (lv_room (Nat.le_of_ble_eq_true rfl)) dX2_silentOf_34 ⟨Nat.le_of_ble_eq_true rfl, Nat.le_of_ble_eq_true rfl⟩) (fun r u H locs hw hP hD hS => ?_)
            rcases hw with ⟨i_7, rfl⟩ | ⟨i_8, rfl⟩
            · skip
              have i_7 : zbit f0 v6_0 = 1 := i_7
              have hP : va_P g.1 vwCl [(h0, .inr (2, [.ref h2, .ref h3, .ref h4, .ref h5, .ref h6, .ref h7, .int f0, .int f1, .ref h8, .ref h9, .ref h10, .ref h11])), (h1, .inr (0, [.ref h12, .int f2, .ref h13, .int f3, .ref h14, .ref h15, .ref h16, .ref h17, .ref h18, .ref h19, .int f4])), (h17, .inl (zI g, 20, .inl Z15))] H := hP
              have hD : va_D A [(h0, .inr (2, [.ref h2, .ref h3, .ref h4, .ref h5, .ref h6, .ref h7, .int f0, .int f1, .ref h8, .ref h9, .ref h10, .ref h11])), (h1, .inr (0, [.ref h12, .int f2, .ref h13, .int f3, .ref h14, .ref h15, .ref h16, .ref h17, .ref h18, .ref h19, .int f4])), (h17, .inl (zI g, 20, .inl Z15))] := hD
              refine lv_if_eq (tgt := 65) hx hb dX2_silentOf_37 (by decide) (fun h => absurd h (by decide +kernel)) (fun _ => ?_)
              refine lv_aload_n hx hb dX2_silentOf_40 rfl (lv_at hl 1 rfl) ?_
              refine lv_iload hx hb dX2_silentOf_41 (lv_at hl 6 rfl) ?_
              refine lv_iload_n hx hb dX2_silentOf_43 rfl (lv_at hl 2 rfl) ?_
              refine z_calli (wr := [(h0, .inr (2, [.ref h2, .ref h3, .ref h4, .ref h5, .ref h6, .ref h7, .int f0, .int f1, .ref h8, .ref h9, .ref h10, .ref h11]))]) hP hD hS hA [1, 2] [0] (by decide) rfl rfl (by decide) (va_runVN (As := [.int v6_0, .int p2]) (rest := []) ⟨hx, hb, hml, hown, hts⟩ (gX0_worthOf l g h1 h12 h13 h14 h15 h16 h17 h18 h19 H.size v6_0 p2 f2 f3 f4 Z15 (by constructor <;> omega) (by constructor <;> omega) (by constructor <;> omega) hF_Z15) ⟨va_cnB 2 hts (zGood m_o_yX0_worthOf) rfl rfl rfl (hN.m 15 (q := (RX2, 137, yX0_worthOf)) rfl) (hts _ m_z_RX0) ⟨by decide +kernel, by decide +kernel, by decide +kernel⟩ ⟨Nat.le_of_ble_eq_true rfl, Nat.le_of_ble_eq_true rfl⟩, hts _ m_i_yX0_worthOf, hts _ m_e_yX0_worthOf⟩ (zPreV hK hN hZ hP hD hS hA [1, 2] (by decide) rfl rfl 0 1 rfl rfl) rfl rfl hl.1 rfl (lv_room (Nat.le_of_ble_eq_true rfl)) dX2_silentOf_44 ⟨Nat.le_of_ble_eq_true rfl, Nat.le_of_ble_eq_true rfl⟩) (fun r u H locs hw hP hD hS => ?_)
              obtain ⟨y3, rfl⟩ : ∃ z, z = r := ⟨_, rfl⟩
              obtain ⟨q4_0, q4_1, q4_2⟩ := hw
              have q4_0 : y3.toInt = zWq f3.toInt Z15 v6_0.toInt p2.toInt := q4_0
              have q4_1 : 0 ≤ y3.toInt := q4_1
              have q4_2 : y3.toInt ≤ 99 := q4_2
              have hP : va_P g.1 vwCl [(h0, .inr (2, [.ref h2, .ref h3, .ref h4, .ref h5, .ref h6, .ref h7, .int f0, .int f1, .ref h8, .ref h9, .ref h10, .ref h11])), (h1, .inr (0, [.ref h12, .int f2, .ref h13, .int f3, .ref h14, .ref h15, .ref h16, .ref h17, .ref h18, .ref h19, .int f4])), (h17, .inl (zI g, 20, .inl Z15))] H := hP
              have hD : va_D A [(h0, .inr (2, [.ref h2, .ref h3, .ref h4, .ref h5, .ref h6, .ref h7, .int f0, .int f1, .ref h8, .ref h9, .ref h10, .ref h11])), (h1, .inr (0, [.ref h12, .int f2, .ref h13, .int f3, .ref h14, .ref h15, .ref h16, .ref h17, .ref h18, .ref h19, .int f4])), (h17, .inl (zI g, 20, .inl Z15))] := hD
              have hwb : (zWf f3.toInt Z15 p2.toInt) v6_0.toInt.toNat = y3.toInt := (zWf_i (i := v6_0) (by omega)).trans (by omega)
              refine lv_iload hx hb dX2_silentOf_47 (lv_at hl 5 rfl) ?_
              refine lv_icmp_le (tgt := 65) hx hb dX2_silentOf_49 (by decide) (fun c_9 => ?_) (fun c_9 => ?_)
              · have i_9 : y3.toInt ≤ v5_0.toInt := z_le (rfl) (rfl) c_9
                have hvs : zVo p3 (zWf f3.toInt Z15 p2.toInt) (zib f0) (v6_0.toInt.toNat + 1) = zVo p3 (zWf f3.toInt Z15 p2.toInt) (zib f0) v6_0.toInt.toNat := zVo_n (Or.inr (Or.inr (by rw [← (by omega : v4_0.toInt = zVo p3 (zWf f3.toInt Z15 p2.toInt) (zib f0) v6_0.toInt.toNat)]; omega)))
                obtain ⟨y5, ey5⟩ : ∃ z : Int32, z = v6_0 + 1 := ⟨_, rfl⟩
                have qy5 : y5.toInt = v6_0.toInt + 1 := zi_add ey5 (rfl) rfl (by omega) (by omega)
                refine lv_iinc (v := y5) (lv' := [(6, .int y5), (0, .ref h0), (1, .ref h1), (2, .int p2), (3, .int p3), (4, .int v4_0), (5, .int v5_0)]) hx hb dX2_silentOf_65 hl (k := 6) rfl ey5.symm (by decide) rfl (fun ls hl => ?_)
                have hvt : zVo p3 (zWf f3.toInt Z15 p2.toInt) (zib f0) y5.toInt.toNat = zVo p3 (zWf f3.toInt Z15 p2.toInt) (zib f0) (v6_0.toInt.toNat + 1) := by rw [(by omega : y5.toInt.toNat = v6_0.toInt.toNat + 1)]
                refine lv_goto (tgt := 9) hx hb dX2_silentOf_68 (by decide) ?_
                exact ih1 v4_0 v5_0 y5 (by omega) (by omega) (by omega) (by omega) (by omega) (by omega) (by omega) (by omega) (by omega) (by omega) _ _ hP hD hS ls (lv_sub hl [1, 2, 3, 4, 5, 6, 0] rfl)
              · have i_9 : v5_0.toInt < y3.toInt := z_nle (rfl) (rfl) c_9
                refine lv_iload hx hb dX2_silentOf_52 (lv_at hl 6 rfl) ?_
                refine lv_istore (lv' := [(4, .int v6_0), (0, .ref h0), (1, .ref h1), (2, .int p2), (3, .int p3), (5, .int v5_0), (6, .int v6_0)]) hx hb dX2_silentOf_54 hl (by decide) rfl (fun ls hl => ?_)
                refine lv_aload_n hx hb dX2_silentOf_56 rfl (lv_at hl 2 rfl) ?_
                refine lv_iload hx hb dX2_silentOf_57 (lv_at hl 6 rfl) ?_
                refine lv_iload_n hx hb dX2_silentOf_59 rfl (lv_at hl 3 rfl) ?_
                refine z_calli (wr := [(h0, .inr (2, [.ref h2, .ref h3, .ref h4, .ref h5, .ref h6, .ref h7, .int f0, .int f1, .ref h8, .ref h9, .ref h10, .ref h11]))]) hP hD hS hA [1, 2] [0] (by decide) rfl rfl (by decide) (va_runVN (As := [.int v6_0, .int p2]) (rest := []) ⟨hx, hb, hml, hown, hts⟩ (gX0_worthOf l g h1 h12 h13 h14 h15 h16 h17 h18 h19 H.size v6_0 p2 f2 f3 f4 Z15 (by constructor <;> omega) (by constructor <;> omega) (by constructor <;> omega) hF_Z15) ⟨va_cnB 2 hts (zGood m_o_yX0_worthOf) rfl rfl rfl (hN.m 15 (q := (RX2, 137, yX0_worthOf)) rfl) (hts _ m_z_RX0) ⟨by decide +kernel, by decide +kernel, by decide +kernel⟩ ⟨Nat.le_of_ble_eq_true rfl, Nat.le_of_ble_eq_true rfl⟩, hts _ m_i_yX0_worthOf, hts _ m_e_yX0_worthOf⟩ (zPreV hK hN hZ hP hD hS hA [1, 2] (by decide) rfl rfl 0 1 rfl rfl) rfl rfl hl.1 rfl (lv_room (Nat.le_of_ble_eq_true rfl)) dX2_silentOf_60 ⟨Nat.le_of_ble_eq_true rfl, Nat.le_of_ble_eq_true rfl⟩) (fun r u H locs hw hP hD hS => ?_)
                obtain ⟨y6, rfl⟩ : ∃ z, z = r := ⟨_, rfl⟩
                obtain ⟨q7_0, q7_1, q7_2⟩ := hw
                have q7_0 : y6.toInt = zWq f3.toInt Z15 v6_0.toInt p2.toInt := q7_0
                have q7_1 : 0 ≤ y6.toInt := q7_1
                have q7_2 : y6.toInt ≤ 99 := q7_2
                have hP : va_P g.1 vwCl [(h0, .inr (2, [.ref h2, .ref h3, .ref h4, .ref h5, .ref h6, .ref h7, .int f0, .int f1, .ref h8, .ref h9, .ref h10, .ref h11])), (h1, .inr (0, [.ref h12, .int f2, .ref h13, .int f3, .ref h14, .ref h15, .ref h16, .ref h17, .ref h18, .ref h19, .int f4])), (h17, .inl (zI g, 20, .inl Z15))] H := hP
                have hD : va_D A [(h0, .inr (2, [.ref h2, .ref h3, .ref h4, .ref h5, .ref h6, .ref h7, .int f0, .int f1, .ref h8, .ref h9, .ref h10, .ref h11])), (h1, .inr (0, [.ref h12, .int f2, .ref h13, .int f3, .ref h14, .ref h15, .ref h16, .ref h17, .ref h18, .ref h19, .int f4])), (h17, .inl (zI g, 20, .inl Z15))] := hD
                refine lv_istore (lv' := [(5, .int y6), (4, .int v6_0), (0, .ref h0), (1, .ref h1), (2, .int p2), (3, .int p3), (6, .int v6_0)]) hx hb dX2_silentOf_63 hl (by decide) rfl (fun ls hl => ?_)
                have hvs : zVo p3 (zWf f3.toInt Z15 p2.toInt) (zib f0) (v6_0.toInt.toNat + 1) = ((v6_0.toInt.toNat : Nat) : Int) := zVo_1 ((zib_i (i := v6_0) rfl (by omega)).trans (by omega)) ((zib_i (i := v6_0) rfl (by omega)).trans (by omega)) (by rw [← (by omega : v4_0.toInt = zVo p3 (zWf f3.toInt Z15 p2.toInt) (zib f0) v6_0.toInt.toNat)]; omega)
                obtain ⟨y8, ey8⟩ : ∃ z : Int32, z = v6_0 + 1 := ⟨_, rfl⟩
                have qy8 : y8.toInt = v6_0.toInt + 1 := zi_add ey8 (rfl) rfl (by omega) (by omega)
                refine lv_iinc (v := y8) (lv' := [(6, .int y8), (5, .int y6), (4, .int v6_0), (0, .ref h0), (1, .ref h1), (2, .int p2), (3, .int p3)]) hx hb dX2_silentOf_65 hl (k := 6) rfl ey8.symm (by decide) rfl (fun ls hl => ?_)
                have hvt : zVo p3 (zWf f3.toInt Z15 p2.toInt) (zib f0) y8.toInt.toNat = zVo p3 (zWf f3.toInt Z15 p2.toInt) (zib f0) (v6_0.toInt.toNat + 1) := by rw [(by omega : y8.toInt.toNat = v6_0.toInt.toNat + 1)]
                refine lv_goto (tgt := 9) hx hb dX2_silentOf_68 (by decide) ?_
                exact ih1 v6_0 y6 y8 (by omega) (by omega) (by omega) (by omega) (by omega) (by omega) (by omega) (by omega) (by omega) (by omega) _ _ hP hD hS ls (lv_sub hl [3, 4, 5, 6, 2, 1, 0] rfl)
            · skip
              have i_8 : zbit f0 v6_0 = 0 := i_8
              have hP : va_P g.1 vwCl [(h0, .inr (2, [.ref h2, .ref h3, .ref h4, .ref h5, .ref h6, .ref h7, .int f0, .int f1, .ref h8, .ref h9, .ref h10, .ref h11])), (h1, .inr (0, [.ref h12, .int f2, .ref h13, .int f3, .ref h14, .ref h15, .ref h16, .ref h17, .ref h18, .ref h19, .int f4])), (h17, .inl (zI g, 20, .inl Z15))] H := hP
              have hD : va_D A [(h0, .inr (2, [.ref h2, .ref h3, .ref h4, .ref h5, .ref h6, .ref h7, .int f0, .int f1, .ref h8, .ref h9, .ref h10, .ref h11])), (h1, .inr (0, [.ref h12, .int f2, .ref h13, .int f3, .ref h14, .ref h15, .ref h16, .ref h17, .ref h18, .ref h19, .int f4])), (h17, .inl (zI g, 20, .inl Z15))] := hD
              refine lv_if_eq (tgt := 65) hx hb dX2_silentOf_37 (by decide) (fun _ => ?_) (fun h => absurd h (by decide +kernel))
              have hvs : zVo p3 (zWf f3.toInt Z15 p2.toInt) (zib f0) (v6_0.toInt.toNat + 1) = zVo p3 (zWf f3.toInt Z15 p2.toInt) (zib f0) v6_0.toInt.toNat := zVo_n (Or.inr (Or.inl (by rw [show (zib f0) v6_0.toInt.toNat = zbit f0 v6_0 from zib_i (i := v6_0) rfl (by omega)]; omega)))
              obtain ⟨y9, ey9⟩ : ∃ z : Int32, z = v6_0 + 1 := ⟨_, rfl⟩
              have qy9 : y9.toInt = v6_0.toInt + 1 := zi_add ey9 (rfl) rfl (by omega) (by omega)
              refine lv_iinc (v := y9) (lv' := [(6, .int y9), (0, .ref h0), (1, .ref h1), (2, .int p2), (3, .int p3), (4, .int v4_0), (5, .int v5_0)]) hx hb dX2_silentOf_65 hl (k := 6) rfl ey9.symm (by decide) rfl (fun ls hl => ?_)
              have hvt : zVo p3 (zWf f3.toInt Z15 p2.toInt) (zib f0) y9.toInt.toNat = zVo p3 (zWf f3.toInt Z15 p2.toInt) (zib f0) (v6_0.toInt.toNat + 1) := by rw [(by omega : y9.toInt.toNat = v6_0.toInt.toNat + 1)]
              refine lv_goto (tgt := 9) hx hb dX2_silentOf_68 (by decide) ?_
              exact ih1 v4_0 v5_0 y9 (by omega) (by omega) (by omega) (by omega) (by omega) (by omega) (by omega) (by omega) (by omega) (by omega) _ _ hP hD hS ls (lv_sub hl [1, 2, 3, 4, 5, 6, 0] rfl)
          · skip
            have i_6 : zbit p3 v6_0 = 0 := i_6
            have hP : va_P g.1 vwCl [(h0, .inr (2, [.ref h2, .ref h3, .ref h4, .ref h5, .ref h6, .ref h7, .int f0, .int f1, .ref h8, .ref h9, .ref h10, .ref h11])), (h1, .inr (0, [.ref h12, .int f2, .ref h13, .int f3, .ref h14, .ref h15, .ref h16, .ref h17, .ref h18, .ref h19, .int f4])), (h17, .inl (zI g, 20, .inl Z15))] H := hP
            have hD : va_D A [(h0, .inr (2, [.ref h2, .ref h3, .ref h4, .ref h5, .ref h6, .ref h7, .int f0, .int f1, .ref h8, .ref h9, .ref h10, .ref h11])), (h1, .inr (0, [.ref h12, .int f2, .ref h13, .int f3, .ref h14, .ref h15, .ref h16, .ref h17, .ref h18, .ref h19, .int f4])), (h17, .inl (zI g, 20, .inl Z15))] := hD
            refine lv_if_eq (tgt := 65) hx hb dX2_silentOf_25 (by decide) (fun _ => ?_) (fun h => absurd h (by decide +kernel))
            have hvs : zVo p3 (zWf f3.toInt Z15 p2.toInt) (zib f0) (v6_0.toInt.toNat + 1) = zVo p3 (zWf f3.toInt Z15 p2.toInt) (zib f0) v6_0.toInt.toNat := zVo_n (Or.inl (by rw [show zib p3 v6_0.toInt.toNat = zbit p3 v6_0 from zib_i (i := v6_0) rfl (by omega)]; omega))
            obtain ⟨y10, ey10⟩ : ∃ z : Int32, z = v6_0 + 1 := ⟨_, rfl⟩
            have qy10 : y10.toInt = v6_0.toInt + 1 := zi_add ey10 (rfl) rfl (by omega) (by omega)
            refine lv_iinc (v := y10) (lv' := [(6, .int y10), (0, .ref h0), (1, .ref h1), (2, .int p2), (3, .int p3), (4, .int v4_0), (5, .int v5_0)]) hx hb dX2_silentOf_65 hl (k := 6) rfl ey10.symm (by decide) rfl (fun ls hl => ?_)
            have hvt : zVo p3 (zWf f3.toInt Z15 p2.toInt) (zib f0) y10.toInt.toNat = zVo p3 (zWf f3.toInt Z15 p2.toInt) (zib f0) (v6_0.toInt.toNat + 1) := by rw [(by omega : y10.toInt.toNat = v6_0.toInt.toNat + 1)]
            refine lv_goto (tgt := 9) hx hb dX2_silentOf_68 (by decide) ?_
            exact ih1 v4_0 v5_0 y10 (by omega) (by omega) (by omega) (by omega) (by omega) (by omega) (by omega) (by omega) (by omega) (by omega) _ _ hP hD hS ls (lv_sub hl [1, 2, 3, 4, 5, 6, 0] rfl)
  have : ((-1) : Int32).toInt = (-1) := rfl
  have : (0 : Int32).toInt = 0 := rfl
  exact loop9_0 ((5 - 0 : Int).toNat + 1) ((-1) : Int32) ((-1) : Int32) (0 : Int32) (by omega) (by omega) (by omega) (by omega) (by omega) (by omega) (by omega) (by omega) (by omega) (by omega) _ _ hP hD hS ls (lv_sub hl [3, 4, 5, 6, 2, 1, 0] rfl)
set_option maxHeartbeats 8000000 in
set_option maxRecDepth 100000 in
theorem gX2_coughsAt (l : Launch) (g : zG) (h0 h1 h2 h3 h4 h5 h6 h7 h8 h9 h10 h11 h12 h13 h14 h15 h16 h17 h18 h19 : Nat) (sz : Nat) (p2 : Int32) (p3 : Int32) (f0 : Int32) (f1 : Int32) (f2 : Int32) (f3 : Int32) (f4 : Int32) (Z4 : Nat → Int32) (Z5 : Nat → Int32) (Z12 : Nat → Int32) (hf_f2 : 0 ≤ f2.toInt ∧ f2.toInt ≤ 6) (hf_f3 : 0 ≤ f3.toInt ∧ f3.toInt ≤ 5) (hf_f4 : 0 ≤ f4.toInt ∧ f4.toInt ≤ 9999) (hF_Z4 : iLm Z4) (hF_Z5 : iMo Z5) (hF_Z12 : iSo Z12) : Met l yX2_coughsAt (.code yX2_coughsAt cX2_coughsAt 7 (some .int) :: zBig) ({ frames := 1, cells := 0, slots := 0, locals := 21 }) (va_Pc [.ref h0, .ref h1, .int p2, .int p3] (zPre g [(h0, .inr (2, [.ref h2, .ref h3, .ref h4, .ref h5, .ref h6, .ref h7, .int f0, .int f1, .ref h8, .ref h9, .ref h10, .ref h11])), (h1, .inr (0, [.ref h12, .int f2, .ref h13, .int f3, .ref h14, .ref h15, .ref h16, .ref h17, .ref h18, .ref h19, .int f4])), (h6, .inl (zI g, 5, .inl Z4)), (h7, .inl (zI g, 5, .inl Z5)), (h14, .inl (zI g, 5, .inl Z12))] sz)) (va_Qi (fun (r : Int32) (u : Nat) => r.toInt = zS5 (zCg (zib f0) Z12 (zIv Z4) (zIv Z5) p2.toInt p3.toInt) ∧ 0 ≤ r.toInt ∧ r.toInt ≤ 31) (zPost g (fun u : Nat => [(h0, .inr (2, [.ref h2, .ref h3, .ref h4, .ref h5, .ref h6, .ref h7, .int f0, .int f1, .ref h8, .ref h9, .ref h10, .ref h11])), (h1, .inr (0, [.ref h12, .int f2, .ref h13, .int f3, .ref h14, .ref h15, .ref h16, .ref h17, .ref h18, .ref h19, .int f4])), (h6, .inl (zI g, 5, .inl Z4)), (h7, .inl (zI g, 5, .inl Z5)), (h14, .inl (zI g, 5, .inl Z12))]) (va_A [(h0, .inr (2, [.ref h2, .ref h3, .ref h4, .ref h5, .ref h6, .ref h7, .int f0, .int f1, .ref h8, .ref h9, .ref h10, .ref h11])), (h1, .inr (0, [.ref h12, .int f2, .ref h13, .int f3, .ref h14, .ref h15, .ref h16, .ref h17, .ref h18, .ref h19, .int f4])), (h6, .inl (zI g, 5, .inl Z4)), (h7, .inl (zI g, 5, .inl Z5)), (h14, .inl (zI g, 5, .inl Z12))] sz)) (va_A [(h0, .inr (2, [.ref h2, .ref h3, .ref h4, .ref h5, .ref h6, .ref h7, .int f0, .int f1, .ref h8, .ref h9, .ref h10, .ref h11])), (h1, .inr (0, [.ref h12, .int f2, .ref h13, .int f3, .ref h14, .ref h15, .ref h16, .ref h17, .ref h18, .ref h19, .int f4])), (h6, .inl (zI g, 5, .inl Z4)), (h7, .inl (zI g, 5, .inl Z5)), (h14, .inl (zI g, 5, .inl Z12))] sz)) 0 0 (va_A [(h0, .inr (2, [.ref h2, .ref h3, .ref h4, .ref h5, .ref h6, .ref h7, .int f0, .int f1, .ref h8, .ref h9, .ref h10, .ref h11])), (h1, .inr (0, [.ref h12, .int f2, .ref h13, .int f3, .ref h14, .ref h15, .ref h16, .ref h17, .ref h18, .ref h19, .int f4])), (h6, .inl (zI g, 5, .inl Z4)), (h7, .inl (zI g, 5, .inl Z5)), (h14, .inl (zI g, 5, .inl Z12))] sz) := by
  refine zMetI rfl (Nat.le_of_ble_eq_true rfl) ?_
  intro p e s m args below meth c A ls hx hb hml hr hlocks hin hown hts hK hN hZ hP hD hA hS hAe hl
  have hown : s.vm.findClass RX2 = some m.cls := hown
  have hl : lv_has ls 7 [(0, .ref h0), (1, .ref h1), (2, .int p2), (3, .int p3)] := hl
  have hsk0 : zSk (zCg (zib f0) Z12 (zIv Z4) (zIv Z5) p2.toInt p3.toInt) (0 : Int32).toInt = 0 := zSk_0
  refine lv_iconst (v := 0) hx hb dX2_coughsAt_0 (by decide) ?_
  refine lv_istore (lv' := [(4, .int 0), (0, .ref h0), (1, .ref h1), (2, .int p2), (3, .int p3)]) hx hb dX2_coughsAt_1 hl (by decide) rfl (fun ls hl => ?_)
  refine lv_iconst (v := 0) hx hb dX2_coughsAt_3 (by decide) ?_
  refine lv_istore (lv' := [(5, .int 0), (4, .int 0), (0, .ref h0), (1, .ref h1), (2, .int p2), (3, .int p3)]) hx hb dX2_coughsAt_4 hl (by decide) rfl (fun ls hl => ?_)
  have loop6_0 : ∀ (n1 : Nat) (v4_0 : Int32) (v5_0 : Int32) (n1_0 : 0 ≤ v5_0.toInt) (n1_1 : v5_0.toInt ≤ 5) (n1_2 : 0 ≤ v4_0.toInt) (n1_3 : v4_0.toInt ≤ 31) (n1_4 : v4_0.toInt = zSk (zCg (zib f0) Z12 (zIv Z4) (zIv Z5) p2.toInt p3.toInt) v5_0.toInt) (hm1 : 5 - v5_0.toInt < (n1 : Int)) (H : Heap) (locs : List Loc), va_P g.1 vwCl [(h0, .inr (2, [.ref h2, .ref h3, .ref h4, .ref h5, .ref h6, .ref h7, .int f0, .int f1, .ref h8, .ref h9, .ref h10, .ref h11])), (h1, .inr (0, [.ref h12, .int f2, .ref h13, .int f3, .ref h14, .ref h15, .ref h16, .ref h17, .ref h18, .ref h19, .int f4])), (h6, .inl (zI g, 5, .inl Z4)), (h7, .inl (zI g, 5, .inl Z5)), (h14, .inl (zI g, 5, .inl Z12))] H → va_D A [(h0, .inr (2, [.ref h2, .ref h3, .ref h4, .ref h5, .ref h6, .ref h7, .int f0, .int f1, .ref h8, .ref h9, .ref h10, .ref h11])), (h1, .inr (0, [.ref h12, .int f2, .ref h13, .int f3, .ref h14, .ref h15, .ref h16, .ref h17, .ref h18, .ref h19, .int f4])), (h6, .inl (zI g, 5, .inl Z4)), (h7, .inl (zI g, 5, .inl Z5)), (h14, .inl (zI g, 5, .inl Z12))] → va_S A s.heap H locs → ∀ (ls : Array Slot), lv_has ls 7 [(0, .ref h0), (1, .ref h1), (2, .int p2), (3, .int p3), (4, .int v4_0), (5, .int v5_0)] → W p l e ({ frames := 1, cells := 0, slots := 0, locals := 21 }) s m args below meth c H locs 0 0 (MQ below (va_Qi (fun (r : Int32) (u : Nat) => r.toInt = zS5 (zCg (zib f0) Z12 (zIv Z4) (zIv Z5) p2.toInt p3.toInt) ∧ 0 ≤ r.toInt ∧ r.toInt ≤ 31) (zPost g (fun u : Nat => [(h0, .inr (2, [.ref h2, .ref h3, .ref h4, .ref h5, .ref h6, .ref h7, .int f0, .int f1, .ref h8, .ref h9, .ref h10, .ref h11])), (h1, .inr (0, [.ref h12, .int f2, .ref h13, .int f3, .ref h14, .ref h15, .ref h16, .ref h17, .ref h18, .ref h19, .int f4])), (h6, .inl (zI g, 5, .inl Z4)), (h7, .inl (zI g, 5, .inl Z5)), (h14, .inl (zI g, 5, .inl Z12))]) A) A) args s 0 0 A) (F0 m 6 ls []) := by
    intro n1
    induction n1 with
    | zero => intro v4_0 v5_0 n1_0 n1_1 n1_2 n1_3 n1_4 hm1; exfalso; omega
    | succ n1 ih1 =>
      intro v4_0 v5_0 n1_0 n1_1 n1_2 n1_3 n1_4 hm1 H locs hP hD hS ls hl
      refine lv_iload hx hb dX2_coughsAt_6 (lv_at hl 5 rfl) ?_
      refine lv_iconst (v := 5) hx hb dX2_coughsAt_8 (by decide) ?_
      refine lv_icmp_ge (tgt := 80) hx hb dX2_coughsAt_9 (by decide) (fun c_1 => ?_) (fun c_1 => ?_)
      · have i_1 : 5 ≤ v5_0.toInt := z_le (rfl) (rfl) c_1
        have hs9 : zSk (zCg (zib f0) Z12 (zIv Z4) (zIv Z5) p2.toInt p3.toInt) v5_0.toInt = zS5 (zCg (zib f0) Z12 (zIv Z4) (zIv Z5) p2.toInt p3.toInt) := zSk_5 (by omega)
        refine lv_iload hx hb dX2_coughsAt_80 (lv_at hl 4 rfl) ?_
        have hP9 := hP.sub (ws' := [(h0, .inr (2, [.ref h2, .ref h3, .ref h4, .ref h5, .ref h6, .ref h7, .int f0, .int f1, .ref h8, .ref h9, .ref h10, .ref h11])), (h1, .inr (0, [.ref h12, .int f2, .ref h13, .int f3, .ref h14, .ref h15, .ref h16, .ref h17, .ref h18, .ref h19, .int f4])), (h6, .inl (zI g, 5, .inl Z4)), (h7, .inl (zI g, 5, .inl Z5)), (h14, .inl (zI g, 5, .inl Z12))]) [0, 1, 2, 3, 4] rfl
        have hD9 := hD.sub (ws' := [(h0, .inr (2, [.ref h2, .ref h3, .ref h4, .ref h5, .ref h6, .ref h7, .int f0, .int f1, .ref h8, .ref h9, .ref h10, .ref h11])), (h1, .inr (0, [.ref h12, .int f2, .ref h13, .int f3, .ref h14, .ref h15, .ref h16, .ref h17, .ref h18, .ref h19, .int f4])), (h6, .inl (zI g, 5, .inl Z4)), (h7, .inl (zI g, 5, .inl Z5)), (h14, .inl (zI g, 5, .inl Z12))]) [0, 1, 2, 3, 4] (by decide) rfl
        exact W.iret (v := v4_0) hx hb hr (fun t ht hW => ⟨⟨v4_0, (0 : Nat), rfl, ⟨(by first | omega | decide), (by first | omega | decide), (by first | omega | decide)⟩, by rw [ht]; exact hP9, hD9⟩, hS.F ht⟩) hS.2.2 dX2_coughsAt_82
      · have i_1 : v5_0.toInt < 5 := z_nle (rfl) (rfl) c_1
        refine lv_aload_n hx hb dX2_coughsAt_12 rfl (lv_at hl 1 rfl) ?_
        refine va_getN (D := g.1) (ci := 0) (v := .ref h14) (C := RX0) (T := TX0) (N := 11) hx hb hts zl_X0 hown hK hP 1 rfl rfl 4 (by decide) (hN.f 10 (q := (RX2, 134, "FishSteps$Books", "sort", "[I")) rfl) (fun _ h => h) rfl dX2_coughsAt_13 ?_
        refine lv_iload hx hb dX2_coughsAt_16 (lv_at hl 5 rfl) ?_
        refine va_iald (D := g.1) hx hb hK hP 4 0 rfl rfl (vp_in_iff.mpr ⟨by omega, by omega⟩) dX2_coughsAt_18 ?_
        refine lv_topi (fun y0 ey0 => ?_)
        have qy0_0 : 0 ≤ y0.toInt := (i_at (N := 5) (lo := 0) (hi := 4) (i := v5_0) (a := v5_0.toInt) hF_Z12 (rfl) (by omega) (by omega) ey0).1
        have qy0_1 : y0.toInt ≤ 4 := (i_at (N := 5) (lo := 0) (hi := 4) (i := v5_0) (a := v5_0.toInt) hF_Z12 (rfl) (by omega) (by omega) ey0).2
        have qy0_2 : y0.toInt = (Z12 v5_0.toNatClampNeg).toInt := congrArg Int32.toInt ey0
        refine lv_iconst (v := 1) hx hb dX2_coughsAt_19 (by decide) ?_
        refine lv_icmp_ne (tgt := 27) hx hb dX2_coughsAt_20 (by decide) (fun c_2 => ?_) (fun c_2 => ?_)
        · have i_2 : y0.toInt ≠ 1 := z_ne (rfl) (rfl) c_2
          refine lv_iload_n hx hb dX2_coughsAt_27 rfl (lv_at hl 2 rfl) ?_
          refine lv_istore (lv' := [(6, .int p2), (0, .ref h0), (1, .ref h1), (2, .int p2), (3, .int p3), (4, .int v4_0), (5, .int v5_0)]) hx hb dX2_coughsAt_28 hl (by decide) rfl (fun ls hl => ?_)
          refine lv_aload_n hx hb dX2_coughsAt_30 rfl (lv_at hl 1 rfl) ?_
          refine va_get (D := g.1) (ci := 2) (v := .int f0) (C := RX2) (T := TX2) (N := 12) hx hb hts zl_X2 hown hK hP 0 rfl rfl 6 (by decide) (hts _ m_f_RX2_30) (fun _ h => h) rfl dX2_coughsAt_31 ?_
          refine lv_iload hx hb dX2_coughsAt_34 (lv_at hl 6 rfl) ?_
          refine z_calli (wr := [(h0, .inr (2, [.ref h2, .ref h3, .ref h4, .ref h5, .ref h6, .ref h7, .int f0, .int f1, .ref h8, .ref h9, .ref h10, .ref h11])), (h1, .inr (0, [.ref h12, .int f2, .ref h13, .int f3, .ref h14, .ref h15, .ref h16, .ref h17, .ref h18, .ref h19, .int f4])), (h6, .inl (zI g, 5, .inl Z4)), (h7, .inl (zI g, 5, .inl Z5)), (h14, .inl (zI g, 5, .inl Z12))]) hP hD hS hA [] [0, 1, 2, 3, 4] (by decide) rfl rfl (by decide) (va_runS (As := [.int f0, .int v5_0]) (rest := []) ⟨hx, hb, hml, hown, hts⟩ (gX2_isIn l g  H.size f0 v5_0) ⟨callB_of 2 hts (zGood m_o_yX2_isIn) rfl rfl rfl (hts _ m_z_RX2) (hts _ m_m_RX2_93) ⟨by decide +kernel, by decide +kernel, by decide +kernel⟩ ⟨Nat.le_of_ble_eq_true rfl, Nat.le_of_ble_eq_true rfl⟩, hts _ m_s_yX2_isIn⟩ (zPreS hK hN hZ hP hD hS hA [] (by decide) rfl rfl) rfl rfl hl.1 rfl (lv_room (Nat.le_of_ble_eq_true rfl)) dX2_coughsAt_36 ⟨Nat.le_of_ble_eq_true rfl, Nat.le_of_ble_eq_true rfl⟩) (fun r u H locs hw hP hD hS => ?_)
          rcases hw with ⟨i_3, rfl⟩ | ⟨i_4, rfl⟩
          · skip
            have i_3 : zbit f0 v5_0 = 1 := i_3
            have hP : va_P g.1 vwCl [(h0, .inr (2, [.ref h2, .ref h3, .ref h4, .ref h5, .ref h6, .ref h7, .int f0, .int f1, .ref h8, .ref h9, .ref h10, .ref h11])), (h1, .inr (0, [.ref h12, .int f2, .ref h13, .int f3, .ref h14, .ref h15, .ref h16, .ref h17, .ref h18, .ref h19, .int f4])), (h6, .inl (zI g, 5, .inl Z4)), (h7, .inl (zI g, 5, .inl Z5)), (h14, .inl (zI g, 5, .inl Z12))] H := hP
            have hD : va_D A [(h0, .inr (2, [.ref h2, .ref h3, .ref h4, .ref h5, .ref h6, .ref h7, .int f0, .int f1, .ref h8, .ref h9, .ref h10, .ref h11])), (h1, .inr (0, [.ref h12, .int f2, .ref h13, .int f3, .ref h14, .ref h15, .ref h16, .ref h17, .ref h18, .ref h19, .int f4])), (h6, .inl (zI g, 5, .inl Z4)), (h7, .inl (zI g, 5, .inl Z5)), (h14, .inl (zI g, 5, .inl Z12))] := hD
            refine lv_if_eq (tgt := 74) hx hb dX2_coughsAt_39 (by decide) (fun h => absurd h (by decide +kernel)) (fun _ => ?_)
            refine lv_iload_n hx hb dX2_coughsAt_42 rfl (lv_at hl 3 rfl) ?_
            refine lv_aload_n hx hb dX2_coughsAt_43 rfl (lv_at hl 1 rfl) ?_
            refine va_get (D := g.1) (ci := 2) (v := .ref h7) (C := RX2) (T := TX2) (N := 12) hx hb hts zl_X2 hown hK hP 0 rfl rfl 5 (by decide) (hts _ m_f_RX2_27) (fun _ h => h) rfl dX2_coughsAt_44 ?_
            refine lv_iload hx hb dX2_coughsAt_47 (lv_at hl 6 rfl) ?_
            refine va_iald (D := g.1) hx hb hK hP 3 0 rfl rfl (vp_in_iff.mpr ⟨by omega, by omega⟩) dX2_coughsAt_49 ?_
            refine lv_topi (fun y1 ey1 => ?_)
            have qy1_0 : (-99) ≤ y1.toInt := (i_at (N := 5) (lo := (-99)) (hi := 10098) (i := v5_0) (a := v5_0.toInt) hF_Z5 (rfl) (by omega) (by omega) ey1).1
            have qy1_1 : y1.toInt ≤ 10098 := (i_at (N := 5) (lo := (-99)) (hi := 10098) (i := v5_0) (a := v5_0.toInt) hF_Z5 (rfl) (by omega) (by omega) ey1).2
            have qy1_2 : y1.toInt = (Z5 v5_0.toNatClampNeg).toInt := congrArg Int32.toInt ey1
            refine lv_icmp_gt (tgt := 74) hx hb dX2_coughsAt_50 (by decide) (fun c_5 => ?_) (fun c_5 => ?_)
            · have i_5 : y1.toInt < p2.toInt := z_lt (rfl) (rfl) c_5
              have hcg : (zCg (zib f0) Z12 (zIv Z4) (zIv Z5) p2.toInt p3.toInt) v5_0.toNatClampNeg = 0 := zCg_i0 (i := v5_0) (h := p2.toInt) (by omega) (by omega) (by omega)
              have hsk : zSk (zCg (zib f0) Z12 (zIv Z4) (zIv Z5) p2.toInt p3.toInt) (v5_0.toInt + 1) = zSk (zCg (zib f0) Z12 (zIv Z4) (zIv Z5) p2.toInt p3.toInt) v5_0.toInt := zSk_n (by omega) (by omega) hcg
              obtain ⟨y2, ey2⟩ : ∃ z : Int32, z = v5_0 + 1 := ⟨_, rfl⟩
              have qy2 : y2.toInt = v5_0.toInt + 1 := zi_add ey2 (rfl) rfl (by omega) (by omega)
              refine lv_iinc (v := y2) (lv' := [(5, .int y2), (6, .int p2), (0, .ref h0), (1, .ref h1), (2, .int p2), (3, .int p3), (4, .int v4_0)]) hx hb dX2_coughsAt_74 hl (k := 6) rfl ey2.symm (by decide) rfl (fun ls hl => ?_)
              have hskb : zSk (zCg (zib f0) Z12 (zIv Z4) (zIv Z5) p2.toInt p3.toInt) y2.toInt = zSk (zCg (zib f0) Z12 (zIv Z4) (zIv Z5) p2.toInt p3.toInt) (v5_0.toInt + 1) := by rw [(by omega : y2.toInt = v5_0.toInt + 1)]
              refine lv_goto (tgt := 6) hx hb dX2_coughsAt_77 (by decide) ?_
              exact ih1 v4_0 y2 (by omega) (by omega) (by omega) (by omega) (by omega) (by omega) _ _ hP hD hS ls (lv_sub hl [2, 3, 4, 5, 6, 0] rfl)
            · have i_5 : p2.toInt ≤ y1.toInt := z_nlt (rfl) (rfl) c_5
              refine lv_iload hx hb dX2_coughsAt_53 (lv_at hl 0 rfl) ?_
              refine lv_aload_n hx hb dX2_coughsAt_55 rfl (lv_at hl 1 rfl) ?_
              refine va_get (D := g.1) (ci := 2) (v := .ref h6) (C := RX2) (T := TX2) (N := 12) hx hb hts zl_X2 hown hK hP 0 rfl rfl 4 (by decide) (hts _ m_f_RX2_24) (fun _ h => h) rfl dX2_coughsAt_56 ?_
              refine lv_iload hx hb dX2_coughsAt_59 (lv_at hl 6 rfl) ?_
              refine va_iald (D := g.1) hx hb hK hP 2 0 rfl rfl (vp_in_iff.mpr ⟨by omega, by omega⟩) dX2_coughsAt_61 ?_
              refine lv_topi (fun y3 ey3 => ?_)
              have qy3_0 : (-40) ≤ y3.toInt := (i_at (N := 5) (lo := (-40)) (hi := 99) (i := v5_0) (a := v5_0.toInt) hF_Z4 (rfl) (by omega) (by omega) ey3).1
              have qy3_1 : y3.toInt ≤ 99 := (i_at (N := 5) (lo := (-40)) (hi := 99) (i := v5_0) (a := v5_0.toInt) hF_Z4 (rfl) (by omega) (by omega) ey3).2
              have qy3_2 : y3.toInt = (Z4 v5_0.toNatClampNeg).toInt := congrArg Int32.toInt ey3
              refine lv_icmp_gt (tgt := 74) hx hb dX2_coughsAt_62 (by decide) (fun c_6 => ?_) (fun c_6 => ?_)
              · have i_6 : y3.toInt < p2.toInt := z_lt (rfl) (rfl) c_6
                have hcg : (zCg (zib f0) Z12 (zIv Z4) (zIv Z5) p2.toInt p3.toInt) v5_0.toNatClampNeg = 0 := zCg_i0 (i := v5_0) (h := p2.toInt) (by omega) (by omega) (by omega)
                have hsk : zSk (zCg (zib f0) Z12 (zIv Z4) (zIv Z5) p2.toInt p3.toInt) (v5_0.toInt + 1) = zSk (zCg (zib f0) Z12 (zIv Z4) (zIv Z5) p2.toInt p3.toInt) v5_0.toInt := zSk_n (by omega) (by omega) hcg
                obtain ⟨y4, ey4⟩ : ∃ z : Int32, z = v5_0 + 1 := ⟨_, rfl⟩
                have qy4 : y4.toInt = v5_0.toInt + 1 := zi_add ey4 (rfl) rfl (by omega) (by omega)
                refine lv_iinc (v := y4) (lv' := [(5, .int y4), (6, .int p2), (0, .ref h0), (1, .ref h1), (2, .int p2), (3, .int p3), (4, .int v4_0)]) hx hb dX2_coughsAt_74 hl (k := 6) rfl ey4.symm (by decide) rfl (fun ls hl => ?_)
                have hskb : zSk (zCg (zib f0) Z12 (zIv Z4) (zIv Z5) p2.toInt p3.toInt) y4.toInt = zSk (zCg (zib f0) Z12 (zIv Z4) (zIv Z5) p2.toInt p3.toInt) (v5_0.toInt + 1) := by rw [(by omega : y4.toInt = v5_0.toInt + 1)]
                refine lv_goto (tgt := 6) hx hb dX2_coughsAt_77 (by decide) ?_
                exact ih1 v4_0 y4 (by omega) (by omega) (by omega) (by omega) (by omega) (by omega) _ _ hP hD hS ls (lv_sub hl [2, 3, 4, 5, 6, 0] rfl)
              · have i_6 : p2.toInt ≤ y3.toInt := z_nlt (rfl) (rfl) c_6
                refine lv_iload hx hb dX2_coughsAt_65 (lv_at hl 5 rfl) ?_
                refine lv_iconst (v := 1) hx hb dX2_coughsAt_67 (by decide) ?_
                refine lv_iload hx hb dX2_coughsAt_68 (lv_at hl 6 rfl) ?_
                refine lv_ishl hx hb dX2_coughsAt_70 ?_
                refine lv_topi (fun y5 ey5 => ?_)
                have qy5_0 : 1 ≤ y5.toInt := (zi_shl 4 ey5 (rfl) (by omega) (by omega) (by decide)).1
                have qy5_1 : y5.toInt ≤ 16 := (zi_shl 4 ey5 (rfl) (by omega) (by omega) (by decide)).2
                have hskr := zSk_r (f := (zCg (zib f0) Z12 (zIv Z4) (zIv Z5) p2.toInt p3.toInt)) zCg_01 (k := v5_0.toInt) (by omega) (by omega)
                refine lv_ior hx hb dX2_coughsAt_71 ?_
                refine lv_topi (fun y6 ey6 => ?_)
                have qy6_0 : v4_0.toInt ≤ y6.toInt := (zi_or ey6 (rfl) (rfl) (by omega) (by omega) (by omega) (by omega)).1
                have qy6_1 : y5.toInt ≤ y6.toInt := (zi_or ey6 (rfl) (rfl) (by omega) (by omega) (by omega) (by omega)).2.1
                have qy6_2 : y6.toInt ≤ 31 := (zi_or ey6 (rfl) (rfl) (by omega) (by omega) (by omega) (by omega)).2.2
                have py6_0 : y6.toInt = v4_0.toInt + zP2 v5_0.toInt := zor_bit ey6 ey5 rfl (by omega) (by omega) (by omega) (by omega)
                refine lv_istore (lv' := [(4, .int y6), (6, .int p2), (0, .ref h0), (1, .ref h1), (2, .int p2), (3, .int p3), (5, .int v5_0)]) hx hb dX2_coughsAt_72 hl (by decide) rfl (fun ls hl => ?_)
                have hcg : (zCg (zib f0) Z12 (zIv Z4) (zIv Z5) p2.toInt p3.toInt) v5_0.toNatClampNeg = 1 := zCg_i1 (i := v5_0) (h := p2.toInt) (by omega) (by omega) (by omega) (by omega) (by omega)
                have hsk : zSk (zCg (zib f0) Z12 (zIv Z4) (zIv Z5) p2.toInt p3.toInt) (v5_0.toInt + 1) = zSk (zCg (zib f0) Z12 (zIv Z4) (zIv Z5) p2.toInt p3.toInt) v5_0.toInt + zP2 v5_0.toInt := zSk_1 (by omega) (by omega) hcg
                obtain ⟨y7, ey7⟩ : ∃ z : Int32, z = v5_0 + 1 := ⟨_, rfl⟩
                have qy7 : y7.toInt = v5_0.toInt + 1 := zi_add ey7 (rfl) rfl (by omega) (by omega)
                refine lv_iinc (v := y7) (lv' := [(5, .int y7), (4, .int y6), (6, .int p2), (0, .ref h0), (1, .ref h1), (2, .int p2), (3, .int p3)]) hx hb dX2_coughsAt_74 hl (k := 6) rfl ey7.symm (by decide) rfl (fun ls hl => ?_)
                have hskb : zSk (zCg (zib f0) Z12 (zIv Z4) (zIv Z5) p2.toInt p3.toInt) y7.toInt = zSk (zCg (zib f0) Z12 (zIv Z4) (zIv Z5) p2.toInt p3.toInt) (v5_0.toInt + 1) := by rw [(by omega : y7.toInt = v5_0.toInt + 1)]
                refine lv_goto (tgt := 6) hx hb dX2_coughsAt_77 (by decide) ?_
                exact ih1 y6 y7 (by omega) (by omega) (by omega) (by omega) (by omega) (by omega) _ _ hP hD hS ls (lv_sub hl [3, 4, 5, 6, 1, 0] rfl)
          · skip
            have i_4 : zbit f0 v5_0 = 0 := i_4
            have hP : va_P g.1 vwCl [(h0, .inr (2, [.ref h2, .ref h3, .ref h4, .ref h5, .ref h6, .ref h7, .int f0, .int f1, .ref h8, .ref h9, .ref h10, .ref h11])), (h1, .inr (0, [.ref h12, .int f2, .ref h13, .int f3, .ref h14, .ref h15, .ref h16, .ref h17, .ref h18, .ref h19, .int f4])), (h6, .inl (zI g, 5, .inl Z4)), (h7, .inl (zI g, 5, .inl Z5)), (h14, .inl (zI g, 5, .inl Z12))] H := hP
            have hD : va_D A [(h0, .inr (2, [.ref h2, .ref h3, .ref h4, .ref h5, .ref h6, .ref h7, .int f0, .int f1, .ref h8, .ref h9, .ref h10, .ref h11])), (h1, .inr (0, [.ref h12, .int f2, .ref h13, .int f3, .ref h14, .ref h15, .ref h16, .ref h17, .ref h18, .ref h19, .int f4])), (h6, .inl (zI g, 5, .inl Z4)), (h7, .inl (zI g, 5, .inl Z5)), (h14, .inl (zI g, 5, .inl Z12))] := hD
            refine lv_if_eq (tgt := 74) hx hb dX2_coughsAt_39 (by decide) (fun _ => ?_) (fun h => absurd h (by decide +kernel))
            have hcg : (zCg (zib f0) Z12 (zIv Z4) (zIv Z5) p2.toInt p3.toInt) v5_0.toNatClampNeg = 0 := zCg_i0 (i := v5_0) (h := p2.toInt) (by omega) (by omega) (by omega)
            have hsk : zSk (zCg (zib f0) Z12 (zIv Z4) (zIv Z5) p2.toInt p3.toInt) (v5_0.toInt + 1) = zSk (zCg (zib f0) Z12 (zIv Z4) (zIv Z5) p2.toInt p3.toInt) v5_0.toInt := zSk_n (by omega) (by omega) hcg
            obtain ⟨y8, ey8⟩ : ∃ z : Int32, z = v5_0 + 1 := ⟨_, rfl⟩
            have qy8 : y8.toInt = v5_0.toInt + 1 := zi_add ey8 (rfl) rfl (by omega) (by omega)
            refine lv_iinc (v := y8) (lv' := [(5, .int y8), (6, .int p2), (0, .ref h0), (1, .ref h1), (2, .int p2), (3, .int p3), (4, .int v4_0)]) hx hb dX2_coughsAt_74 hl (k := 6) rfl ey8.symm (by decide) rfl (fun ls hl => ?_)
            have hskb : zSk (zCg (zib f0) Z12 (zIv Z4) (zIv Z5) p2.toInt p3.toInt) y8.toInt = zSk (zCg (zib f0) Z12 (zIv Z4) (zIv Z5) p2.toInt p3.toInt) (v5_0.toInt + 1) := by rw [(by omega : y8.toInt = v5_0.toInt + 1)]
            refine lv_goto (tgt := 6) hx hb dX2_coughsAt_77 (by decide) ?_
            exact ih1 v4_0 y8 (by omega) (by omega) (by omega) (by omega) (by omega) (by omega) _ _ hP hD hS ls (lv_sub hl [2, 3, 4, 5, 6, 0] rfl)
        · have i_2 : y0.toInt = 1 := z_eq (rfl) (rfl) c_2
          refine lv_iload_n hx hb dX2_coughsAt_23 rfl (lv_at hl 3 rfl) ?_
          refine lv_goto (tgt := 28) hx hb dX2_coughsAt_24 (by decide) ?_
          refine lv_istore (lv' := [(6, .int p3), (0, .ref h0), (1, .ref h1), (2, .int p2), (3, .int p3), (4, .int v4_0), (5, .int v5_0)]) hx hb dX2_coughsAt_28 hl (by decide) rfl (fun ls hl => ?_)
          refine lv_aload_n hx hb dX2_coughsAt_30 rfl (lv_at hl 1 rfl) ?_
          refine va_get (D := g.1) (ci := 2) (v := .int f0) (C := RX2) (T := TX2) (N := 12) hx hb hts zl_X2 hown hK hP 0 rfl rfl 6 (by decide) (hts _ m_f_RX2_30) (fun _ h => h) rfl dX2_coughsAt_31 ?_
          refine lv_iload hx hb dX2_coughsAt_34 (lv_at hl 6 rfl) ?_
          refine z_calli (wr := [(h0, .inr (2, [.ref h2, .ref h3, .ref h4, .ref h5, .ref h6, .ref h7, .int f0, .int f1, .ref h8, .ref h9, .ref h10, .ref h11])), (h1, .inr (0, [.ref h12, .int f2, .ref h13, .int f3, .ref h14, .ref h15, .ref h16, .ref h17, .ref h18, .ref h19, .int f4])), (h6, .inl (zI g, 5, .inl Z4)), (h7, .inl (zI g, 5, .inl Z5)), (h14, .inl (zI g, 5, .inl Z12))]) hP hD hS hA [] [0, 1, 2, 3, 4] (by decide) rfl rfl (by decide) (va_runS (As := [.int f0, .int v5_0]) (rest := []) ⟨hx, hb, hml, hown, hts⟩ (gX2_isIn l g  H.size f0 v5_0) ⟨callB_of 2 hts (zGood m_o_yX2_isIn) rfl rfl rfl (hts _ m_z_RX2) (hts _ m_m_RX2_93) ⟨by decide +kernel, by decide +kernel, by decide +kernel⟩ ⟨Nat.le_of_ble_eq_true rfl, Nat.le_of_ble_eq_true rfl⟩, hts _ m_s_yX2_isIn⟩ (zPreS hK hN hZ hP hD hS hA [] (by decide) rfl rfl) rfl rfl hl.1 rfl (lv_room (Nat.le_of_ble_eq_true rfl)) dX2_coughsAt_36 ⟨Nat.le_of_ble_eq_true rfl, Nat.le_of_ble_eq_true rfl⟩) (fun r u H locs hw hP hD hS => ?_)
          rcases hw with ⟨i_7, rfl⟩ | ⟨i_8, rfl⟩
          · skip
            have i_7 : zbit f0 v5_0 = 1 := i_7
            have hP : va_P g.1 vwCl [(h0, .inr (2, [.ref h2, .ref h3, .ref h4, .ref h5, .ref h6, .ref h7, .int f0, .int f1, .ref h8, .ref h9, .ref h10, .ref h11])), (h1, .inr (0, [.ref h12, .int f2, .ref h13, .int f3, .ref h14, .ref h15, .ref h16, .ref h17, .ref h18, .ref h19, .int f4])), (h6, .inl (zI g, 5, .inl Z4)), (h7, .inl (zI g, 5, .inl Z5)), (h14, .inl (zI g, 5, .inl Z12))] H := hP
            have hD : va_D A [(h0, .inr (2, [.ref h2, .ref h3, .ref h4, .ref h5, .ref h6, .ref h7, .int f0, .int f1, .ref h8, .ref h9, .ref h10, .ref h11])), (h1, .inr (0, [.ref h12, .int f2, .ref h13, .int f3, .ref h14, .ref h15, .ref h16, .ref h17, .ref h18, .ref h19, .int f4])), (h6, .inl (zI g, 5, .inl Z4)), (h7, .inl (zI g, 5, .inl Z5)), (h14, .inl (zI g, 5, .inl Z12))] := hD
            refine lv_if_eq (tgt := 74) hx hb dX2_coughsAt_39 (by decide) (fun h => absurd h (by decide +kernel)) (fun _ => ?_)
            refine lv_iload_n hx hb dX2_coughsAt_42 rfl (lv_at hl 3 rfl) ?_
            refine lv_aload_n hx hb dX2_coughsAt_43 rfl (lv_at hl 1 rfl) ?_
            refine va_get (D := g.1) (ci := 2) (v := .ref h7) (C := RX2) (T := TX2) (N := 12) hx hb hts zl_X2 hown hK hP 0 rfl rfl 5 (by decide) (hts _ m_f_RX2_27) (fun _ h => h) rfl dX2_coughsAt_44 ?_
            refine lv_iload hx hb dX2_coughsAt_47 (lv_at hl 6 rfl) ?_
            refine va_iald (D := g.1) hx hb hK hP 3 0 rfl rfl (vp_in_iff.mpr ⟨by omega, by omega⟩) dX2_coughsAt_49 ?_
            refine lv_topi (fun y9 ey9 => ?_)
            have qy9_0 : (-99) ≤ y9.toInt := (i_at (N := 5) (lo := (-99)) (hi := 10098) (i := v5_0) (a := v5_0.toInt) hF_Z5 (rfl) (by omega) (by omega) ey9).1
            have qy9_1 : y9.toInt ≤ 10098 := (i_at (N := 5) (lo := (-99)) (hi := 10098) (i := v5_0) (a := v5_0.toInt) hF_Z5 (rfl) (by omega) (by omega) ey9).2
            have qy9_2 : y9.toInt = (Z5 v5_0.toNatClampNeg).toInt := congrArg Int32.toInt ey9
            refine lv_icmp_gt (tgt := 74) hx hb dX2_coughsAt_50 (by decide) (fun c_9 => ?_) (fun c_9 => ?_)
            · have i_9 : y9.toInt < p2.toInt := z_lt (rfl) (rfl) c_9
              have hcg : (zCg (zib f0) Z12 (zIv Z4) (zIv Z5) p2.toInt p3.toInt) v5_0.toNatClampNeg = 0 := zCg_i0 (i := v5_0) (h := p3.toInt) (by omega) (by omega) (by omega)
              have hsk : zSk (zCg (zib f0) Z12 (zIv Z4) (zIv Z5) p2.toInt p3.toInt) (v5_0.toInt + 1) = zSk (zCg (zib f0) Z12 (zIv Z4) (zIv Z5) p2.toInt p3.toInt) v5_0.toInt := zSk_n (by omega) (by omega) hcg
              obtain ⟨y10, ey10⟩ : ∃ z : Int32, z = v5_0 + 1 := ⟨_, rfl⟩
              have qy10 : y10.toInt = v5_0.toInt + 1 := zi_add ey10 (rfl) rfl (by omega) (by omega)
              refine lv_iinc (v := y10) (lv' := [(5, .int y10), (6, .int p3), (0, .ref h0), (1, .ref h1), (2, .int p2), (3, .int p3), (4, .int v4_0)]) hx hb dX2_coughsAt_74 hl (k := 6) rfl ey10.symm (by decide) rfl (fun ls hl => ?_)
              have hskb : zSk (zCg (zib f0) Z12 (zIv Z4) (zIv Z5) p2.toInt p3.toInt) y10.toInt = zSk (zCg (zib f0) Z12 (zIv Z4) (zIv Z5) p2.toInt p3.toInt) (v5_0.toInt + 1) := by rw [(by omega : y10.toInt = v5_0.toInt + 1)]
              refine lv_goto (tgt := 6) hx hb dX2_coughsAt_77 (by decide) ?_
              exact ih1 v4_0 y10 (by omega) (by omega) (by omega) (by omega) (by omega) (by omega) _ _ hP hD hS ls (lv_sub hl [2, 3, 4, 5, 6, 0] rfl)
            · have i_9 : p2.toInt ≤ y9.toInt := z_nlt (rfl) (rfl) c_9
              refine lv_iload hx hb dX2_coughsAt_53 (lv_at hl 0 rfl) ?_
              refine lv_aload_n hx hb dX2_coughsAt_55 rfl (lv_at hl 1 rfl) ?_
              refine va_get (D := g.1) (ci := 2) (v := .ref h6) (C := RX2) (T := TX2) (N := 12) hx hb hts zl_X2 hown hK hP 0 rfl rfl 4 (by decide) (hts _ m_f_RX2_24) (fun _ h => h) rfl dX2_coughsAt_56 ?_
              refine lv_iload hx hb dX2_coughsAt_59 (lv_at hl 6 rfl) ?_
              refine va_iald (D := g.1) hx hb hK hP 2 0 rfl rfl (vp_in_iff.mpr ⟨by omega, by omega⟩) dX2_coughsAt_61 ?_
              refine lv_topi (fun y11 ey11 => ?_)
              have qy11_0 : (-40) ≤ y11.toInt := (i_at (N := 5) (lo := (-40)) (hi := 99) (i := v5_0) (a := v5_0.toInt) hF_Z4 (rfl) (by omega) (by omega) ey11).1
              have qy11_1 : y11.toInt ≤ 99 := (i_at (N := 5) (lo := (-40)) (hi := 99) (i := v5_0) (a := v5_0.toInt) hF_Z4 (rfl) (by omega) (by omega) ey11).2
              have qy11_2 : y11.toInt = (Z4 v5_0.toNatClampNeg).toInt := congrArg Int32.toInt ey11
              refine lv_icmp_gt (tgt := 74) hx hb dX2_coughsAt_62 (by decide) (fun c_10 => ?_) (fun c_10 => ?_)
              · have i_10 : y11.toInt < p3.toInt := z_lt (rfl) (rfl) c_10
                have hcg : (zCg (zib f0) Z12 (zIv Z4) (zIv Z5) p2.toInt p3.toInt) v5_0.toNatClampNeg = 0 := zCg_i0 (i := v5_0) (h := p3.toInt) (by omega) (by omega) (by omega)
                have hsk : zSk (zCg (zib f0) Z12 (zIv Z4) (zIv Z5) p2.toInt p3.toInt) (v5_0.toInt + 1) = zSk (zCg (zib f0) Z12 (zIv Z4) (zIv Z5) p2.toInt p3.toInt) v5_0.toInt := zSk_n (by omega) (by omega) hcg
                obtain ⟨y12, ey12⟩ : ∃ z : Int32, z = v5_0 + 1 := ⟨_, rfl⟩
                have qy12 : y12.toInt = v5_0.toInt + 1 := zi_add ey12 (rfl) rfl (by omega) (by omega)
                refine lv_iinc (v := y12) (lv' := [(5, .int y12), (6, .int p3), (0, .ref h0), (1, .ref h1), (2, .int p2), (3, .int p3), (4, .int v4_0)]) hx hb dX2_coughsAt_74 hl (k := 6) rfl ey12.symm (by decide) rfl (fun ls hl => ?_)
                have hskb : zSk (zCg (zib f0) Z12 (zIv Z4) (zIv Z5) p2.toInt p3.toInt) y12.toInt = zSk (zCg (zib f0) Z12 (zIv Z4) (zIv Z5) p2.toInt p3.toInt) (v5_0.toInt + 1) := by rw [(by omega : y12.toInt = v5_0.toInt + 1)]
                refine lv_goto (tgt := 6) hx hb dX2_coughsAt_77 (by decide) ?_
                exact ih1 v4_0 y12 (by omega) (by omega) (by omega) (by omega) (by omega) (by omega) _ _ hP hD hS ls (lv_sub hl [2, 3, 4, 5, 6, 0] rfl)
              · have i_10 : p3.toInt ≤ y11.toInt := z_nlt (rfl) (rfl) c_10
                refine lv_iload hx hb dX2_coughsAt_65 (lv_at hl 5 rfl) ?_
                refine lv_iconst (v := 1) hx hb dX2_coughsAt_67 (by decide) ?_
                refine lv_iload hx hb dX2_coughsAt_68 (lv_at hl 6 rfl) ?_
                refine lv_ishl hx hb dX2_coughsAt_70 ?_
                refine lv_topi (fun y13 ey13 => ?_)
                have qy13_0 : 1 ≤ y13.toInt := (zi_shl 4 ey13 (rfl) (by omega) (by omega) (by decide)).1
                have qy13_1 : y13.toInt ≤ 16 := (zi_shl 4 ey13 (rfl) (by omega) (by omega) (by decide)).2
                have hskr := zSk_r (f := (zCg (zib f0) Z12 (zIv Z4) (zIv Z5) p2.toInt p3.toInt)) zCg_01 (k := v5_0.toInt) (by omega) (by omega)
                refine lv_ior hx hb dX2_coughsAt_71 ?_
                refine lv_topi (fun y14 ey14 => ?_)
                have qy14_0 : v4_0.toInt ≤ y14.toInt := (zi_or ey14 (rfl) (rfl) (by omega) (by omega) (by omega) (by omega)).1
                have qy14_1 : y13.toInt ≤ y14.toInt := (zi_or ey14 (rfl) (rfl) (by omega) (by omega) (by omega) (by omega)).2.1
                have qy14_2 : y14.toInt ≤ 31 := (zi_or ey14 (rfl) (rfl) (by omega) (by omega) (by omega) (by omega)).2.2
                have py14_0 : y14.toInt = v4_0.toInt + zP2 v5_0.toInt := zor_bit ey14 ey13 rfl (by omega) (by omega) (by omega) (by omega)
                refine lv_istore (lv' := [(4, .int y14), (6, .int p3), (0, .ref h0), (1, .ref h1), (2, .int p2), (3, .int p3), (5, .int v5_0)]) hx hb dX2_coughsAt_72 hl (by decide) rfl (fun ls hl => ?_)
                have hcg : (zCg (zib f0) Z12 (zIv Z4) (zIv Z5) p2.toInt p3.toInt) v5_0.toNatClampNeg = 1 := zCg_i1 (i := v5_0) (h := p3.toInt) (by omega) (by omega) (by omega) (by omega) (by omega)
                have hsk : zSk (zCg (zib f0) Z12 (zIv Z4) (zIv Z5) p2.toInt p3.toInt) (v5_0.toInt + 1) = zSk (zCg (zib f0) Z12 (zIv Z4) (zIv Z5) p2.toInt p3.toInt) v5_0.toInt + zP2 v5_0.toInt := zSk_1 (by omega) (by omega) hcg
                obtain ⟨y15, ey15⟩ : ∃ z : Int32, z = v5_0 + 1 := ⟨_, rfl⟩
                have qy15 : y15.toInt = v5_0.toInt + 1 := zi_add ey15 (rfl) rfl (by omega) (by omega)
                refine lv_iinc (v := y15) (lv' := [(5, .int y15), (4, .int y14), (6, .int p3), (0, .ref h0), (1, .ref h1), (2, .int p2), (3, .int p3)]) hx hb dX2_coughsAt_74 hl (k := 6) rfl ey15.symm (by decide) rfl (fun ls hl => ?_)
                have hskb : zSk (zCg (zib f0) Z12 (zIv Z4) (zIv Z5) p2.toInt p3.toInt) y15.toInt = zSk (zCg (zib f0) Z12 (zIv Z4) (zIv Z5) p2.toInt p3.toInt) (v5_0.toInt + 1) := by rw [(by omega : y15.toInt = v5_0.toInt + 1)]
                refine lv_goto (tgt := 6) hx hb dX2_coughsAt_77 (by decide) ?_
                exact ih1 y14 y15 (by omega) (by omega) (by omega) (by omega) (by omega) (by omega) _ _ hP hD hS ls (lv_sub hl [3, 4, 5, 6, 1, 0] rfl)
          · skip
            have i_8 : zbit f0 v5_0 = 0 := i_8
            have hP : va_P g.1 vwCl [(h0, .inr (2, [.ref h2, .ref h3, .ref h4, .ref h5, .ref h6, .ref h7, .int f0, .int f1, .ref h8, .ref h9, .ref h10, .ref h11])), (h1, .inr (0, [.ref h12, .int f2, .ref h13, .int f3, .ref h14, .ref h15, .ref h16, .ref h17, .ref h18, .ref h19, .int f4])), (h6, .inl (zI g, 5, .inl Z4)), (h7, .inl (zI g, 5, .inl Z5)), (h14, .inl (zI g, 5, .inl Z12))] H := hP
            have hD : va_D A [(h0, .inr (2, [.ref h2, .ref h3, .ref h4, .ref h5, .ref h6, .ref h7, .int f0, .int f1, .ref h8, .ref h9, .ref h10, .ref h11])), (h1, .inr (0, [.ref h12, .int f2, .ref h13, .int f3, .ref h14, .ref h15, .ref h16, .ref h17, .ref h18, .ref h19, .int f4])), (h6, .inl (zI g, 5, .inl Z4)), (h7, .inl (zI g, 5, .inl Z5)), (h14, .inl (zI g, 5, .inl Z12))] := hD
            refine lv_if_eq (tgt := 74) hx hb dX2_coughsAt_39 (by decide) (fun _ => ?_) (fun h => absurd h (by decide +kernel))
            have hcg : (zCg (zib f0) Z12 (zIv Z4) (zIv Z5) p2.toInt p3.toInt) v5_0.toNatClampNeg = 0 := zCg_i0 (i := v5_0) (h := p3.toInt) (by omega) (by omega) (by omega)
            have hsk : zSk (zCg (zib f0) Z12 (zIv Z4) (zIv Z5) p2.toInt p3.toInt) (v5_0.toInt + 1) = zSk (zCg (zib f0) Z12 (zIv Z4) (zIv Z5) p2.toInt p3.toInt) v5_0.toInt := zSk_n (by omega) (by omega) hcg
            obtain ⟨y16, ey16⟩ : ∃ z : Int32, z = v5_0 + 1 := ⟨_, rfl⟩
            have qy16 : y16.toInt = v5_0.toInt + 1 := zi_add ey16 (rfl) rfl (by omega) (by omega)
            refine lv_iinc (v := y16) (lv' := [(5, .int y16), (6, .int p3), (0, .ref h0), (1, .ref h1), (2, .int p2), (3, .int p3), (4, .int v4_0)]) hx hb dX2_coughsAt_74 hl (k := 6) rfl ey16.symm (by decide) rfl (fun ls hl => ?_)
            have hskb : zSk (zCg (zib f0) Z12 (zIv Z4) (zIv Z5) p2.toInt p3.toInt) y16.toInt = zSk (zCg (zib f0) Z12 (zIv Z4) (zIv Z5) p2.toInt p3.toInt) (v5_0.toInt + 1) := by rw [(by omega : y16.toInt = v5_0.toInt + 1)]
            refine lv_goto (tgt := 6) hx hb dX2_coughsAt_77 (by decide) ?_
            exact ih1 v4_0 y16 (by omega) (by omega) (by omega) (by omega) (by omega) (by omega) _ _ hP hD hS ls (lv_sub hl [2, 3, 4, 5, 6, 0] rfl)
  have : (0 : Int32).toInt = 0 := rfl
  exact loop6_0 ((5 - 0 : Int).toNat + 1) (0 : Int32) (0 : Int32) (by omega) (by omega) (by omega) (by omega) (by omega) (by omega) _ _ hP hD hS ls (lv_sub hl [2, 3, 4, 5, 1, 0] rfl)

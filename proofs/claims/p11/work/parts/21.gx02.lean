set_option maxHeartbeats 8000000 in
set_option maxRecDepth 100000 in
theorem gX3_readLots (l : Launch) (g : zG) (h0 h1 h2 : Nat) (sz : Nat) (f0 : Int32) (Z0 : Nat → Int32) (Z1 : Nat → Int32) (hp0 : zPos Z1 f0.toInt = 1) (hf_f0 : 0 ≤ f0.toInt ∧ f0.toInt ≤ 60) (hF_Z0 : iKd Z0) : Met l yX3_readLots (.code yX3_readLots cX3_readLots 5 (some .int) :: zBig) ({ frames := 2, cells := 0, slots := 0, locals := 43 }) (va_Pc [.ref h0, .ref h1] (zPre g [(h0, .inr (3, [.ref h2, .int f0])), (h1, .inl (zI g, 6, .inl Z0)), (h2, .inl (zB g, 60, .inl Z1))] sz)) (va_Qi (fun (r : Int32) (u : (Nat → Int32)) => (r.toInt = zLots Z1 f0.toInt) ∧ zKJ Z1 f0.toInt u) (zPost g (fun u : (Nat → Int32) => [(h0, .inr (3, [.ref h2, .int f0])), (h1, .inl (zI g, 6, .inl u)), (h2, .inl (zB g, 60, .inl Z1))]) (va_A [(h0, .inr (3, [.ref h2, .int f0])), (h1, .inl (zI g, 6, .inl Z0)), (h2, .inl (zB g, 60, .inl Z1))] sz)) (va_A [(h0, .inr (3, [.ref h2, .int f0])), (h1, .inl (zI g, 6, .inl Z0)), (h2, .inl (zB g, 60, .inl Z1))] sz)) 0 0 (va_A [(h0, .inr (3, [.ref h2, .int f0])), (h1, .inl (zI g, 6, .inl Z0)), (h2, .inl (zB g, 60, .inl Z1))] sz) := by
  refine zMetI rfl (Nat.le_of_ble_eq_true rfl) ?_
  intro p e s m args below meth c A ls hx hb hml hr hlocks hin hown hts hK hN hZ hP hD hA hS hAe hl
  have hown : s.vm.findClass RX3 = some m.cls := hown
  have hl : lv_has ls 5 [(0, .ref h0), (1, .ref h1)] := hl
  refine lv_iconst (v := 0) hx hb dX3_readLots_0 (by decide) ?_
  refine lv_istore_n (lv' := [(2, .int 0), (0, .ref h0), (1, .ref h1)]) hx hb dX3_readLots_1 rfl hl (by decide) rfl (fun ls hl => ?_)
  refine lv_aload_n hx hb dX3_readLots_2 rfl (lv_at hl 1 rfl) ?_
  refine lv_iconst (v := 0) hx hb dX3_readLots_3 (by decide) ?_
  have : (0 : Int32).toInt = 0 := rfl
  refine z_calli (wr := [(h1, .inl (zI g, 6, .inl Z0))]) hP hD hS hA [0, 2] [1] (by decide) rfl rfl (by decide) (va_runV (As := [.int 0]) (rest := []) ⟨hx, hb, hml, hown, hts⟩ (gX3_behindBlanks l g h0 h2 s.heap.size (0 : Int32) f0 Z1 (by constructor <;> omega)) ⟨callB_of 1 hts (zGood m_o_yX3_behindBlanks) rfl rfl rfl (hts _ m_z_RX3) (hts _ m_m_RX3_31) ⟨by decide +kernel, by decide +kernel, by decide +kernel⟩ ⟨Nat.le_of_ble_eq_true rfl, Nat.le_of_ble_eq_true rfl⟩, hts _ m_i_yX3_behindBlanks, hts _ m_e_yX3_behindBlanks⟩ (zPreV hK hN hZ hP hD hS hA [0, 2] (by decide) rfl rfl 3 0 rfl rfl) rfl rfl hl.1 rfl (lv_room (Nat.le_of_ble_eq_true rfl)) dX3_readLots_4 ⟨Nat.le_of_ble_eq_true rfl, Nat.le_of_ble_eq_true rfl⟩) (fun r u H locs hw hP hD hS => ?_)
  obtain ⟨y0, rfl⟩ : ∃ z, z = r := ⟨_, rfl⟩
  have q1_0 := hw
  have q1_0 : (0 ≤ (0 : Int) → y0.toInt = zsk Z1 f0.toInt (0 : Int)) := q1_0
  have hP : va_P g.1 vwCl [(h1, .inl (zI g, 6, .inl Z0)), (h0, .inr (3, [.ref h2, .int f0])), (h2, .inl (zB g, 60, .inl Z1))] H := hP
  have hD : va_D A [(h1, .inl (zI g, 6, .inl Z0)), (h0, .inr (3, [.ref h2, .int f0])), (h2, .inl (zB g, 60, .inl Z1))] := hD
  have hz1 : y0.toInt = zsk Z1 f0.toInt 0 := by omega
  have hz0 : zLo Z1 f0.toInt y0.toInt (0 : Int32).toInt = zLots Z1 f0.toInt := by rw [hz1]; rfl
  have hzr := zsk_r (F := Z1) (len := f0.toInt) (a := 0) (by omega)
  have hzq0 : 0 ≤ y0.toInt := by omega
  have hzq1 : y0.toInt ≤ 60 := by omega
  have hI2 : zKI Z1 f0.toInt y0.toInt 0 Z0 := ⟨hF_Z0, zKR_0 hz1⟩
  refine lv_istore_n (lv' := [(3, .int y0), (2, .int 0), (0, .ref h0), (1, .ref h1)]) hx hb dX3_readLots_7 rfl hl (by decide) rfl (fun ls hl => ?_)
  have loop8_0 : ∀ (n1 : Nat) (v2_0 : Int32) (v3_0 : Int32) (G0_0 : Nat → Int32) (hG0_0 : zKI Z1 f0.toInt (v3_0.toInt) (v2_0.toInt) G0_0) (n1_0 : 0 ≤ v2_0.toInt) (n1_1 : v2_0.toInt ≤ 6) (n1_2 : 0 ≤ v3_0.toInt) (n1_3 : v3_0.toInt ≤ 60) (n1_4 : v3_0.toInt ≤ f0.toInt) (n1_5 : zLo Z1 f0.toInt v3_0.toInt v2_0.toInt = zLots Z1 f0.toInt) (hm1 : 7 - v2_0.toInt < (n1 : Int)) (H : Heap) (locs : List Loc), va_P g.1 vwCl [(h1, .inl (zI g, 6, .inl G0_0)), (h0, .inr (3, [.ref h2, .int f0])), (h2, .inl (zB g, 60, .inl Z1))] H → va_D A [(h1, .inl (zI g, 6, .inl G0_0)), (h0, .inr (3, [.ref h2, .int f0])), (h2, .inl (zB g, 60, .inl Z1))] → va_S A s.heap H locs → ∀ (ls : Array Slot), lv_has ls 5 [(0, .ref h0), (1, .ref h1), (2, .int v2_0), (3, .int v3_0)] → W p l e ({ frames := 2, cells := 0, slots := 0, locals := 43 }) s m args below meth c H locs 0 0 (MQ below (va_Qi (fun (r : Int32) (u : (Nat → Int32)) => (r.toInt = zLots Z1 f0.toInt) ∧ zKJ Z1 f0.toInt u) (zPost g (fun u : (Nat → Int32) => [(h0, .inr (3, [.ref h2, .int f0])), (h1, .inl (zI g, 6, .inl u)), (h2, .inl (zB g, 60, .inl Z1))]) A) A) args s 0 0 A) (F0 m 8 ls []) := by
    intro n1
    induction n1 with
    | zero => intro v2_0 v3_0 G0_0 hG0_0 n1_0 n1_1 n1_2 n1_3 n1_4 n1_5 hm1; exfalso; omega
    | succ n1 ih1 =>
      intro v2_0 v3_0 G0_0 hG0_0 n1_0 n1_1 n1_2 n1_3 n1_4 n1_5 hm1 H locs hP hD hS ls hl
      refine lv_aload_n hx hb dX3_readLots_8 rfl (lv_at hl 0 rfl) ?_
      refine lv_iload_n hx hb dX3_readLots_9 rfl (lv_at hl 3 rfl) ?_
      refine z_calli (wr := [(h1, .inl (zI g, 6, .inl G0_0))]) hP hD hS hA [1, 2] [0] (by decide) rfl rfl (by decide) (va_runV (As := [.int v3_0]) (rest := []) ⟨hx, hb, hml, hown, hts⟩ (gX3_charAt l g h0 h2 H.size v3_0 f0 Z1 (by constructor <;> omega)) ⟨callB_of 1 hts (zGood m_o_yX3_charAt) rfl rfl rfl (hts _ m_z_RX3) (hts _ m_m_RX3_49) ⟨by decide +kernel, by decide +kernel, by decide +kernel⟩ ⟨Nat.le_of_ble_eq_true rfl, Nat.le_of_ble_eq_true rfl⟩, hts _ m_i_yX3_charAt, hts _ m_e_yX3_charAt⟩ (zPreV hK hN hZ hP hD hS hA [1, 2] (by decide) rfl rfl 3 1 rfl rfl) rfl rfl hl.1 rfl (lv_room (Nat.le_of_ble_eq_true rfl)) dX3_readLots_10 ⟨Nat.le_of_ble_eq_true rfl, Nat.le_of_ble_eq_true rfl⟩) (fun r u H locs hw hP hD hS => ?_)
      obtain ⟨y3, rfl⟩ : ∃ z, z = r := ⟨_, rfl⟩
      obtain ⟨q4_0, q4_1⟩ := hw
      have q4_0 : (0 ≤ v3_0.toInt → v3_0.toInt < f0.toInt → y3.toInt = zc Z1 v3_0.toInt) := q4_0
      have q4_1 : (v3_0.toInt < 0 ∨ f0.toInt ≤ v3_0.toInt → y3.toInt = 0) := q4_1
      have hP : va_P g.1 vwCl [(h1, .inl (zI g, 6, .inl G0_0)), (h0, .inr (3, [.ref h2, .int f0])), (h2, .inl (zB g, 60, .inl Z1))] H := hP
      have hD : va_D A [(h1, .inl (zI g, 6, .inl G0_0)), (h0, .inr (3, [.ref h2, .int f0])), (h2, .inl (zB g, 60, .inl Z1))] := hD
      have hcr : 0 ≤ y3.toInt ∧ y3.toInt ≤ 127 := by
        by_cases h9 : v3_0.toInt < f0.toInt
        · have := zPos_at (F := Z1) hp0 v3_0.toInt (by omega) h9
          omega
        · omega
      refine lv_bipush (v := 48) hx hb dX3_readLots_13 (by decide) ?_
      refine lv_isub hx hb dX3_readLots_15 ?_
      refine lv_topi (fun y5 ey5 => ?_)
      have qy5_0 : y5.toInt = y3.toInt - 48 := zi_sub ey5 (rfl) (rfl) (by omega) (by omega)
      refine lv_istore (lv' := [(4, .int y5), (0, .ref h0), (1, .ref h1), (2, .int v2_0), (3, .int v3_0)]) hx hb dX3_readLots_16 hl (by decide) rfl (fun ls hl => ?_)
      refine lv_iload hx hb dX3_readLots_18 (lv_at hl 0 rfl) ?_
      refine z_calli (wr := [(h1, .inl (zI g, 6, .inl G0_0)), (h0, .inr (3, [.ref h2, .int f0])), (h2, .inl (zB g, 60, .inl Z1))]) hP hD hS hA [] [0, 1, 2] (by decide) rfl rfl (by decide) (va_runSN (As := [.int y5]) (rest := []) ⟨hx, hb, hml, hown, hts⟩ (gX4_isKind l g  H.size y5) ⟨va_cnB 1 hts (zGood m_o_yX4_isKind) rfl rfl rfl (hN.m 11 (q := (RX3, 52, yX4_isKind)) rfl) (hts _ m_z_RX4) ⟨by decide +kernel, by decide +kernel, by decide +kernel⟩ ⟨Nat.le_of_ble_eq_true rfl, Nat.le_of_ble_eq_true rfl⟩, hts _ m_s_yX4_isKind, trivial⟩ (zPreS hK hN hZ hP hD hS hA [] (by decide) rfl rfl) rfl rfl hl.1 rfl (lv_room (Nat.le_of_ble_eq_true rfl)) dX3_readLots_20 ⟨Nat.le_of_ble_eq_true rfl, Nat.le_of_ble_eq_true rfl⟩) (fun r u H locs hw hP hD hS => ?_)
      rcases hw with ⟨i_1, rfl⟩ | ⟨i_2, i_3, rfl⟩ | ⟨i_4, i_5, rfl⟩
      · skip
        have i_1 : y5.toInt < 0 := i_1
        have hP : va_P g.1 vwCl [(h1, .inl (zI g, 6, .inl G0_0)), (h0, .inr (3, [.ref h2, .int f0])), (h2, .inl (zB g, 60, .inl Z1))] H := hP
        have hD : va_D A [(h1, .inl (zI g, 6, .inl G0_0)), (h0, .inr (3, [.ref h2, .int f0])), (h2, .inl (zB g, 60, .inl Z1))] := hD
        refine lv_if_eq (tgt := 32) hx hb dX3_readLots_23 (by decide) (fun _ => ?_) (fun h => absurd h (by decide +kernel))
        have hzb := zLo_bad (F := Z1) (len := f0.toInt) (p := v3_0.toInt) (n := v2_0.toInt) (by omega) (by omega)
        have hI6 : zKJ Z1 f0.toInt G0_0 := ⟨hG0_0.1, zKT_neg (by omega)⟩
        refine lv_bipush (v := (-20)) hx hb dX3_readLots_32 (by decide) ?_
        refine lv_iload_n hx hb dX3_readLots_34 rfl (lv_at hl 4 rfl) ?_
        refine lv_isub hx hb dX3_readLots_35 ?_
        refine lv_topi (fun y7 ey7 => ?_)
        have qy7_0 : y7.toInt = (-20) - v3_0.toInt := zi_sub ey7 (rfl) (rfl) (by omega) (by omega)
        have hP9 := hP.sub (ws' := [(h0, .inr (3, [.ref h2, .int f0])), (h1, .inl (zI g, 6, .inl G0_0)), (h2, .inl (zB g, 60, .inl Z1))]) [1, 0, 2] rfl
        have hD9 := hD.sub (ws' := [(h0, .inr (3, [.ref h2, .int f0])), (h1, .inl (zI g, 6, .inl G0_0)), (h2, .inl (zB g, 60, .inl Z1))]) [1, 0, 2] (by decide) rfl
        exact W.iret (v := y7) hx hb hr (fun t ht hW => ⟨⟨y7, G0_0, rfl, ⟨(by first | omega | decide), hI6⟩, by rw [ht]; exact hP9, hD9⟩, hS.F ht⟩) hS.2.2 dX3_readLots_36
      · skip
        have i_2 : 0 ≤ y5.toInt := i_2
        have i_3 : 4 ≤ y5.toInt := i_3
        have hP : va_P g.1 vwCl [(h1, .inl (zI g, 6, .inl G0_0)), (h0, .inr (3, [.ref h2, .int f0])), (h2, .inl (zB g, 60, .inl Z1))] H := hP
        have hD : va_D A [(h1, .inl (zI g, 6, .inl G0_0)), (h0, .inr (3, [.ref h2, .int f0])), (h2, .inl (zB g, 60, .inl Z1))] := hD
        refine lv_if_eq (tgt := 32) hx hb dX3_readLots_23 (by decide) (fun _ => ?_) (fun h => absurd h (by decide +kernel))
        have hzb := zLo_bad (F := Z1) (len := f0.toInt) (p := v3_0.toInt) (n := v2_0.toInt) (by omega) (by omega)
        have hI8 : zKJ Z1 f0.toInt G0_0 := ⟨hG0_0.1, zKT_neg (by omega)⟩
        refine lv_bipush (v := (-20)) hx hb dX3_readLots_32 (by decide) ?_
        refine lv_iload_n hx hb dX3_readLots_34 rfl (lv_at hl 4 rfl) ?_
        refine lv_isub hx hb dX3_readLots_35 ?_
        refine lv_topi (fun y9 ey9 => ?_)
        have qy9_0 : y9.toInt = (-20) - v3_0.toInt := zi_sub ey9 (rfl) (rfl) (by omega) (by omega)
        have hP9 := hP.sub (ws' := [(h0, .inr (3, [.ref h2, .int f0])), (h1, .inl (zI g, 6, .inl G0_0)), (h2, .inl (zB g, 60, .inl Z1))]) [1, 0, 2] rfl
        have hD9 := hD.sub (ws' := [(h0, .inr (3, [.ref h2, .int f0])), (h1, .inl (zI g, 6, .inl G0_0)), (h2, .inl (zB g, 60, .inl Z1))]) [1, 0, 2] (by decide) rfl
        exact W.iret (v := y9) hx hb hr (fun t ht hW => ⟨⟨y9, G0_0, rfl, ⟨(by first | omega | decide), hI8⟩, by rw [ht]; exact hP9, hD9⟩, hS.F ht⟩) hS.2.2 dX3_readLots_36
      · skip
        have i_4 : 0 ≤ y5.toInt := i_4
        have i_5 : y5.toInt < 4 := i_5
        have hP : va_P g.1 vwCl [(h1, .inl (zI g, 6, .inl G0_0)), (h0, .inr (3, [.ref h2, .int f0])), (h2, .inl (zB g, 60, .inl Z1))] H := hP
        have hD : va_D A [(h1, .inl (zI g, 6, .inl G0_0)), (h0, .inr (3, [.ref h2, .int f0])), (h2, .inl (zB g, 60, .inl Z1))] := hD
        refine lv_if_eq (tgt := 32) hx hb dX3_readLots_23 (by decide) (fun h => absurd h (by decide +kernel)) (fun _ => ?_)
        refine lv_iload_n hx hb dX3_readLots_26 rfl (lv_at hl 3 rfl) ?_
        refine lv_aload_n hx hb dX3_readLots_27 rfl (lv_at hl 2 rfl) ?_
        refine va_alen (D := g.1) hx hb hK hP 0 0 rfl rfl (v := 6) rfl dX3_readLots_28 ?_
        refine lv_icmp_lt (tgt := 37) hx hb dX3_readLots_29 (by decide) (fun c_6 => ?_) (fun c_6 => ?_)
        · have i_6 : v2_0.toInt < 6 := z_lt (rfl) (rfl) c_6
          have hlt : v3_0.toInt < f0.toInt := by omega
          have hgd : v3_0.toInt < f0.toInt ∧ 48 ≤ zc Z1 v3_0.toInt ∧ zc Z1 v3_0.toInt ≤ 51 ∧ v2_0.toInt < 6 := ⟨by omega, by omega, by omega, by omega⟩
          have hb59 : v3_0.toInt ≤ 59 := by omega
          refine lv_aload_n hx hb dX3_readLots_37 rfl (lv_at hl 2 rfl) ?_
          refine lv_iload_n hx hb dX3_readLots_38 rfl (lv_at hl 3 rfl) ?_
          refine lv_iload hx hb dX3_readLots_39 (lv_at hl 0 rfl) ?_
          refine va_iast (D := g.1) hx hb hK hP hD hS 0 0 rfl rfl (vp_in_iff.mpr ⟨by omega, by omega⟩) dX3_readLots_41 (fun H locs hP hD hS => ?_)
          have hP : va_P g.1 vwCl [(h1, .inl (zI g, 6, .inl (upd G0_0 v2_0.toNatClampNeg y5))), (h0, .inr (3, [.ref h2, .int f0])), (h2, .inl (zB g, 60, .inl Z1))] H := hP
          have hD : va_D A [(h1, .inl (zI g, 6, .inl (upd G0_0 v2_0.toNatClampNeg y5))), (h0, .inr (3, [.ref h2, .int f0])), (h2, .inl (zB g, 60, .inl Z1))] := hD
          have hI10 : zKH Z1 f0.toInt v3_0.toInt v2_0.toInt (upd G0_0 v2_0.toNatClampNeg y5) := zKI_put (i := v2_0) hG0_0 hgd (rfl) (by omega) (by omega) (by omega) (by omega)
          obtain ⟨R11, eR11⟩ : ∃ z : Nat → Int32, z = (upd G0_0 v2_0.toNatClampNeg y5) := ⟨_, rfl⟩
          rw [← eR11] at hP hD hI10
          obtain ⟨y12, ey12⟩ : ∃ z : Int32, z = v2_0 + 1 := ⟨_, rfl⟩
          have qy12 : y12.toInt = v2_0.toInt + 1 := zi_add ey12 (rfl) rfl (by omega) (by omega)
          refine lv_iinc (v := y12) (lv' := [(2, .int y12), (4, .int y5), (0, .ref h0), (1, .ref h1), (3, .int v3_0)]) hx hb dX3_readLots_42 hl (k := 3) rfl ey12.symm (by decide) rfl (fun ls hl => ?_)
          refine lv_aload_n hx hb dX3_readLots_45 rfl (lv_at hl 2 rfl) ?_
          refine lv_iload_n hx hb dX3_readLots_46 rfl (lv_at hl 4 rfl) ?_
          refine lv_iconst (v := 1) hx hb dX3_readLots_47 (by decide) ?_
          refine lv_iadd hx hb dX3_readLots_48 ?_
          refine lv_topi (fun y13 ey13 => ?_)
          have qy13_0 : y13.toInt = v3_0.toInt + 1 := zi_add ey13 (rfl) (rfl) (by omega) (by omega)
          refine z_calli (wr := [(h1, .inl (zI g, 6, .inl R11))]) hP hD hS hA [1, 2] [0] (by decide) rfl rfl (by decide) (va_runV (As := [.int y13]) (rest := []) ⟨hx, hb, hml, hown, hts⟩ (gX3_behindBlanks l g h0 h2 H.size y13 f0 Z1 (by constructor <;> omega)) ⟨callB_of 1 hts (zGood m_o_yX3_behindBlanks) rfl rfl rfl (hts _ m_z_RX3) (hts _ m_m_RX3_31) ⟨by decide +kernel, by decide +kernel, by decide +kernel⟩ ⟨Nat.le_of_ble_eq_true rfl, Nat.le_of_ble_eq_true rfl⟩, hts _ m_i_yX3_behindBlanks, hts _ m_e_yX3_behindBlanks⟩ (zPreV hK hN hZ hP hD hS hA [1, 2] (by decide) rfl rfl 3 1 rfl rfl) rfl rfl hl.1 rfl (lv_room (Nat.le_of_ble_eq_true rfl)) dX3_readLots_49 ⟨Nat.le_of_ble_eq_true rfl, Nat.le_of_ble_eq_true rfl⟩) (fun r u H locs hw hP hD hS => ?_)
          obtain ⟨y14, rfl⟩ : ∃ z, z = r := ⟨_, rfl⟩
          have q15_0 := hw
          have q15_0 : (0 ≤ y13.toInt → y14.toInt = zsk Z1 f0.toInt y13.toInt) := q15_0
          have hP : va_P g.1 vwCl [(h1, .inl (zI g, 6, .inl R11)), (h0, .inr (3, [.ref h2, .int f0])), (h2, .inl (zB g, 60, .inl Z1))] H := hP
          have hD : va_D A [(h1, .inl (zI g, 6, .inl R11)), (h0, .inr (3, [.ref h2, .int f0])), (h2, .inl (zB g, 60, .inl Z1))] := hD
          have hk3 : y14.toInt = zsk Z1 f0.toInt (v3_0.toInt + 1) := by
            have e : y13.toInt = v3_0.toInt + 1 := by omega
            rw [← e]
            omega
          have hr3 := zsk_r (F := Z1) (len := f0.toInt) (a := v3_0.toInt + 1) (by omega)
          have hy30 : 0 ≤ y14.toInt := by omega
          have hy36 : y14.toInt ≤ 60 := by omega
          refine lv_istore_n (lv' := [(3, .int y14), (2, .int y12), (4, .int y5), (0, .ref h0), (1, .ref h1)]) hx hb dX3_readLots_52 rfl hl (by decide) rfl (fun ls hl => ?_)
          refine lv_iload_n hx hb dX3_readLots_53 rfl (lv_at hl 0 rfl) ?_
          refine lv_aload_n hx hb dX3_readLots_54 rfl (lv_at hl 3 rfl) ?_
          refine va_get (D := g.1) (ci := 3) (v := .int f0) (C := RX3) (T := TX3) (N := 2) hx hb hts zl_X3 hown hK hP 1 rfl rfl 1 (by decide) (hts _ m_f_RX3_15) (fun _ h => h) rfl dX3_readLots_55 ?_
          refine lv_icmp_ge (tgt := 67) hx hb dX3_readLots_58 (by decide) (fun c_7 => ?_) (fun c_7 => ?_)
          · have i_7 : f0.toInt ≤ y14.toInt := z_le (rfl) (rfl) c_7
            have hzl := zLo_last (F := Z1) (len := f0.toInt) (p := v3_0.toInt) (n := v2_0.toInt) hgd (by omega)
            have hI16 : zKJ Z1 f0.toInt R11 := ⟨hI10.1, zKT_of hI10.2 (by omega) (by omega)⟩
            refine lv_iload_n hx hb dX3_readLots_67 rfl (lv_at hl 1 rfl) ?_
            have hP9 := hP.sub (ws' := [(h0, .inr (3, [.ref h2, .int f0])), (h1, .inl (zI g, 6, .inl R11)), (h2, .inl (zB g, 60, .inl Z1))]) [1, 0, 2] rfl
            have hD9 := hD.sub (ws' := [(h0, .inr (3, [.ref h2, .int f0])), (h1, .inl (zI g, 6, .inl R11)), (h2, .inl (zB g, 60, .inl Z1))]) [1, 0, 2] (by decide) rfl
            exact W.iret (v := y12) hx hb hr (fun t ht hW => ⟨⟨y12, R11, rfl, ⟨(by first | omega | decide), hI16⟩, by rw [ht]; exact hP9, hD9⟩, hS.F ht⟩) hS.2.2 dX3_readLots_68
          · have i_7 : y14.toInt < f0.toInt := z_nle (rfl) (rfl) c_7
            have hzm : zLo Z1 f0.toInt y14.toInt y12.toInt = zLots Z1 f0.toInt := by
              have h1 := zLo_more (F := Z1) (len := f0.toInt) (p := v3_0.toInt) (n := v2_0.toInt) hgd (by omega)
              have e : y12.toInt = v2_0.toInt + 1 := by omega
              rw [e, hk3, ← h1]
              assumption
            have hI17 : zKI Z1 f0.toInt (zsk Z1 f0.toInt (v3_0.toInt + 1)) (v2_0.toInt + 1) R11 := ⟨hI10.1, hI10.2.1 (by omega)⟩
            refine lv_iload_n hx hb dX3_readLots_61 rfl (lv_at hl 1 rfl) ?_
            refine lv_bipush (v := 6) hx hb dX3_readLots_62 (by decide) ?_
            refine lv_icmp_le (tgt := 8) hx hb dX3_readLots_64 (by decide) (fun c_8 => ?_) (fun c_8 => absurd (show 6 < y12.toInt from z_nle (rfl) (rfl) c_8) (by omega))
            have i_8 : y12.toInt ≤ 6 := z_le (rfl) (rfl) c_8
            exact ih1 y12 y14 R11 (zKI_eq hI17 (by omega) (by omega)) (by omega) (by omega) (by omega) (by omega) (by omega) (by omega) (by omega) _ _ hP hD hS ls (lv_sub hl [3, 4, 1, 0] rfl)
        · have i_6 : 6 ≤ v2_0.toInt := z_nlt (rfl) (rfl) c_6
          have hzb := zLo_bad (F := Z1) (len := f0.toInt) (p := v3_0.toInt) (n := v2_0.toInt) (by omega) (by omega)
          have hI18 : zKJ Z1 f0.toInt G0_0 := ⟨hG0_0.1, zKT_neg (by omega)⟩
          refine lv_bipush (v := (-20)) hx hb dX3_readLots_32 (by decide) ?_
          refine lv_iload_n hx hb dX3_readLots_34 rfl (lv_at hl 4 rfl) ?_
          refine lv_isub hx hb dX3_readLots_35 ?_
          refine lv_topi (fun y19 ey19 => ?_)
          have qy19_0 : y19.toInt = (-20) - v3_0.toInt := zi_sub ey19 (rfl) (rfl) (by omega) (by omega)
          have hP9 := hP.sub (ws' := [(h0, .inr (3, [.ref h2, .int f0])), (h1, .inl (zI g, 6, .inl G0_0)), (h2, .inl (zB g, 60, .inl Z1))]) [1, 0, 2] rfl
          have hD9 := hD.sub (ws' := [(h0, .inr (3, [.ref h2, .int f0])), (h1, .inl (zI g, 6, .inl G0_0)), (h2, .inl (zB g, 60, .inl Z1))]) [1, 0, 2] (by decide) rfl
          exact W.iret (v := y19) hx hb hr (fun t ht hW => ⟨⟨y19, G0_0, rfl, ⟨(by first | omega | decide), hI18⟩, by rw [ht]; exact hP9, hD9⟩, hS.F ht⟩) hS.2.2 dX3_readLots_36
  have : (0 : Int32).toInt = 0 := rfl
  exact loop8_0 ((7 - 0 : Int).toNat + 1) (0 : Int32) y0 Z0 (zKI_eq hI2 (by omega) (by omega)) (by omega) (by omega) (by omega) (by omega) (by omega) (by omega) (by omega) _ _ hP hD hS ls (lv_sub hl [2, 3, 1, 0] rfl)
set_option maxHeartbeats 8000000 in
set_option maxRecDepth 100000 in
theorem gX4_lots (l : Launch) (g : zG) (h0 h1 h2 h3 h4 h5 h6 h7 h8 h9 h10 h11 h12 h13 h14 h15 h16 h17 h18 h37 : Nat) (sz : Nat) (f0 : Int32) (f1 : Int32) (f2 : Int32) (f3 : Int32) (f4 : Int32) (f10 : Int32) (Z4 : Nat → Int32) (Z6 : Nat → Int32) (Z31 : Nat → Int32) (hp0 : zPos Z31 f10.toInt = 1) (hf_f2 : 0 ≤ f2.toInt ∧ f2.toInt ≤ 6) (hf_f3 : 0 ≤ f3.toInt ∧ f3.toInt ≤ 5) (hf_f4 : 0 ≤ f4.toInt ∧ f4.toInt ≤ 9999) (hf_f10 : 0 ≤ f10.toInt ∧ f10.toInt ≤ 60) (hF_Z4 : iKd Z4) (hF_Z6 : iKd Z6) : Met l yX4_lots (.code yX4_lots cX4_lots 2 (some .int) :: zBig) ({ frames := 3, cells := 0, slots := 0, locals := 67 }) (va_Pc [.ref h0] (zPre g [(h0, .inr (4, [.ref h1, .ref h2, .int f0, .ref h3, .ref h4, .ref h5, .ref h6, .int f1, .ref h7, .ref h8, .ref h9, .ref h10])), (h1, .inr (0, [.ref h11, .int f2, .ref h12, .int f3, .ref h13, .ref h14, .ref h15, .ref h16, .ref h17, .ref h18, .int f4])), (h4, .inr (3, [.ref h37, .int f10])), (h10, .inl (zI g, 6, .inl Z4)), (h12, .inl (zI g, 6, .inl Z6)), (h37, .inl (zB g, 60, .inl Z31))] sz)) (va_Qi (fun (r : Int32) (u : Int32 × Int32 × (Nat → Int32) × (Nat → Int32)) => (u.2.1.toInt = 0 ∧ r.toInt = zLots Z31 f10.toInt) ∧ (0 ≤ u.1.toInt ∧ u.1.toInt ≤ 6) ∧ (0 ≤ u.2.1.toInt ∧ u.2.1.toInt ≤ 60) ∧ iKd u.2.2.1 ∧ zKdQ Z31 f10.toInt Z6 u.2.2.2 ∧ u.1 = (if (1 ≤ zLots Z31 f10.toInt) then Int32.ofInt (zLots Z31 f10.toInt) else f2)) (zPost g (fun u : Int32 × Int32 × (Nat → Int32) × (Nat → Int32) => [(h0, .inr (4, [.ref h1, .ref h2, .int f0, .ref h3, .ref h4, .ref h5, .ref h6, .int f1, .ref h7, .ref h8, .ref h9, .ref h10])), (h1, .inr (0, [.ref h11, .int u.1, .ref h12, .int f3, .ref h13, .ref h14, .ref h15, .ref h16, .ref h17, .ref h18, .int f4])), (h4, .inr (3, [.ref h37, .int u.2.1])), (h10, .inl (zI g, 6, .inl u.2.2.1)), (h12, .inl (zI g, 6, .inl u.2.2.2)), (h37, .inl (zB g, 60, .inl Z31))]) (va_A [(h0, .inr (4, [.ref h1, .ref h2, .int f0, .ref h3, .ref h4, .ref h5, .ref h6, .int f1, .ref h7, .ref h8, .ref h9, .ref h10])), (h1, .inr (0, [.ref h11, .int f2, .ref h12, .int f3, .ref h13, .ref h14, .ref h15, .ref h16, .ref h17, .ref h18, .int f4])), (h4, .inr (3, [.ref h37, .int f10])), (h10, .inl (zI g, 6, .inl Z4)), (h12, .inl (zI g, 6, .inl Z6)), (h37, .inl (zB g, 60, .inl Z31))] sz)) (va_A [(h0, .inr (4, [.ref h1, .ref h2, .int f0, .ref h3, .ref h4, .ref h5, .ref h6, .int f1, .ref h7, .ref h8, .ref h9, .ref h10])), (h1, .inr (0, [.ref h11, .int f2, .ref h12, .int f3, .ref h13, .ref h14, .ref h15, .ref h16, .ref h17, .ref h18, .int f4])), (h4, .inr (3, [.ref h37, .int f10])), (h10, .inl (zI g, 6, .inl Z4)), (h12, .inl (zI g, 6, .inl Z6)), (h37, .inl (zB g, 60, .inl Z31))] sz)) 0 0 (va_A [(h0, .inr (4, [.ref h1, .ref h2, .int f0, .ref h3, .ref h4, .ref h5, .ref h6, .int f1, .ref h7, .ref h8, .ref h9, .ref h10])), (h1, .inr (0, [.ref h11, .int f2, .ref h12, .int f3, .ref h13, .ref h14, .ref h15, .ref h16, .ref h17, .ref h18, .int f4])), (h4, .inr (3, [.ref h37, .int f10])), (h10, .inl (zI g, 6, .inl Z4)), (h12, .inl (zI g, 6, .inl Z6)), (h37, .inl (zB g, 60, .inl Z31))] sz) := by
  refine zMetI rfl (Nat.le_of_ble_eq_true rfl) ?_
  intro p e s m args below meth c A ls hx hb hml hr hlocks hin hown hts hK hN hZ hP hD hA hS hAe hl
  have hown : s.vm.findClass RX4 = some m.cls := hown
  have hl : lv_has ls 2 [(0, .ref h0)] := hl
  refine lv_aload_n hx hb dX4_lots_0 rfl (lv_at hl 0 rfl) ?_
  refine va_get (D := g.1) (ci := 4) (v := .ref h4) (C := RX4) (T := TX4) (N := 12) hx hb hts zl_X4 hown hK hP 0 rfl rfl 4 (by decide) (hts _ m_f_RX4_33) (fun _ h => h) rfl dX4_lots_1 ?_
  refine lv_aload_n hx hb dX4_lots_4 rfl (lv_at hl 0 rfl) ?_
  refine va_get (D := g.1) (ci := 4) (v := .ref h10) (C := RX4) (T := TX4) (N := 12) hx hb hts zl_X4 hown hK hP 0 rfl rfl 11 (by decide) (hts _ m_f_RX4_61) (fun _ h => h) rfl dX4_lots_5 ?_
  refine z_calli (wr := [(h0, .inr (4, [.ref h1, .ref h2, .int f0, .ref h3, .ref h4, .ref h5, .ref h6, .int f1, .ref h7, .ref h8, .ref h9, .ref h10])), (h1, .inr (0, [.ref h11, .int f2, .ref h12, .int f3, .ref h13, .ref h14, .ref h15, .ref h16, .ref h17, .ref h18, .int f4])), (h12, .inl (zI g, 6, .inl Z6))]) hP hD hS hA [2, 3, 5] [0, 1, 4] (by decide) rfl rfl (by decide) (va_runVN (As := [.ref h10]) (rest := []) ⟨hx, hb, hml, hown, hts⟩ (gX3_readLots l g h4 h10 h37 s.heap.size f10 Z4 Z31 (by omega) (by constructor <;> omega) hF_Z4) ⟨va_cnB 1 hts (zGood m_o_yX3_readLots) rfl rfl rfl (hN.m 10 (q := (RX4, 110, yX3_readLots)) rfl) (hts _ m_z_RX3) ⟨by decide +kernel, by decide +kernel, by decide +kernel⟩ ⟨Nat.le_of_ble_eq_true rfl, Nat.le_of_ble_eq_true rfl⟩, hts _ m_i_yX3_readLots, hts _ m_e_yX3_readLots⟩ (zPreV hK hN hZ hP hD hS hA [2, 3, 5] (by decide) rfl rfl 3 2 rfl rfl) rfl rfl hl.1 rfl (lv_room (Nat.le_of_ble_eq_true rfl)) dX4_lots_8 ⟨Nat.le_of_ble_eq_true rfl, Nat.le_of_ble_eq_true rfl⟩) (fun r u H locs hw hP hD hS => ?_)
  obtain ⟨R0, rfl⟩ : ∃ z, z = u := ⟨_, rfl⟩
  obtain ⟨hw, hI1⟩ := hw
  obtain ⟨y2, rfl⟩ : ∃ z, z = r := ⟨_, rfl⟩
  have q3_0 := hw
  have q3_0 : y2.toInt = zLots Z31 f10.toInt := q3_0
  have hP : va_P g.1 vwCl [(h0, .inr (4, [.ref h1, .ref h2, .int f0, .ref h3, .ref h4, .ref h5, .ref h6, .int f1, .ref h7, .ref h8, .ref h9, .ref h10])), (h1, .inr (0, [.ref h11, .int f2, .ref h12, .int f3, .ref h13, .ref h14, .ref h15, .ref h16, .ref h17, .ref h18, .int f4])), (h12, .inl (zI g, 6, .inl Z6)), (h4, .inr (3, [.ref h37, .int f10])), (h10, .inl (zI g, 6, .inl R0)), (h37, .inl (zB g, 60, .inl Z31))] H := hP
  have hD : va_D A [(h0, .inr (4, [.ref h1, .ref h2, .int f0, .ref h3, .ref h4, .ref h5, .ref h6, .int f1, .ref h7, .ref h8, .ref h9, .ref h10])), (h1, .inr (0, [.ref h11, .int f2, .ref h12, .int f3, .ref h13, .ref h14, .ref h15, .ref h16, .ref h17, .ref h18, .int f4])), (h12, .inl (zI g, 6, .inl Z6)), (h4, .inr (3, [.ref h37, .int f10])), (h10, .inl (zI g, 6, .inl R0)), (h37, .inl (zB g, 60, .inl Z31))] := hD
  have hlr := zLots_r (F := Z31) (len := f10.toInt) (by omega)
  refine lv_istore_n (lv' := [(1, .int y2), (0, .ref h0)]) hx hb dX4_lots_11 rfl hl (by decide) rfl (fun ls hl => ?_)
  refine lv_aload_n hx hb dX4_lots_12 rfl (lv_at hl 1 rfl) ?_
  refine va_get (D := g.1) (ci := 4) (v := .ref h4) (C := RX4) (T := TX4) (N := 12) hx hb hts zl_X4 hown hK hP 0 rfl rfl 4 (by decide) (hts _ m_f_RX4_33) (fun _ h => h) rfl dX4_lots_13 ?_
  refine lv_iconst (v := 0) hx hb dX4_lots_16 (by decide) ?_
  refine va_putN (D := g.1) (ci := 3) (v := .int 0) (ty := .int) (C := RX3) (T := TX3) (N := 2) hx hb hts zl_X3 tyX3 tyX3_ok nmX3 hown hK hP hD hS 3 rfl rfl 1 (by decide) (hN.f 26 (q := (RX4, 107, "FishSteps$Tape", "length", "I")) rfl) (fun _ h => h) rfl (by decide +kernel) rfl rfl (Nat.le_of_ble_eq_true rfl) dX4_lots_17 (fun H locs hP hD hS => ?_)
  have hP : va_P g.1 vwCl [(h0, .inr (4, [.ref h1, .ref h2, .int f0, .ref h3, .ref h4, .ref h5, .ref h6, .int f1, .ref h7, .ref h8, .ref h9, .ref h10])), (h1, .inr (0, [.ref h11, .int f2, .ref h12, .int f3, .ref h13, .ref h14, .ref h15, .ref h16, .ref h17, .ref h18, .int f4])), (h12, .inl (zI g, 6, .inl Z6)), (h4, .inr (3, [.ref h37, .int 0])), (h10, .inl (zI g, 6, .inl R0)), (h37, .inl (zB g, 60, .inl Z31))] H := hP
  have hD : va_D A [(h0, .inr (4, [.ref h1, .ref h2, .int f0, .ref h3, .ref h4, .ref h5, .ref h6, .int f1, .ref h7, .ref h8, .ref h9, .ref h10])), (h1, .inr (0, [.ref h11, .int f2, .ref h12, .int f3, .ref h13, .ref h14, .ref h15, .ref h16, .ref h17, .ref h18, .int f4])), (h12, .inl (zI g, 6, .inl Z6)), (h4, .inr (3, [.ref h37, .int 0])), (h10, .inl (zI g, 6, .inl R0)), (h37, .inl (zB g, 60, .inl Z31))] := hD
  refine lv_iload_n hx hb dX4_lots_20 rfl (lv_at hl 0 rfl) ?_
  refine lv_iconst (v := 1) hx hb dX4_lots_21 (by decide) ?_
  refine lv_icmp_lt (tgt := 57) hx hb dX4_lots_22 (by decide) (fun c_0 => ?_) (fun c_0 => ?_)
  · have i_0 : y2.toInt < 1 := z_lt (rfl) (rfl) c_0
    have hI4 : zKdQ Z31 f10.toInt Z6 Z6 := ⟨hF_Z6, zKdP_same (by omega)⟩
    have hI5 := hI1.1
    refine lv_iload_n hx hb dX4_lots_57 rfl (lv_at hl 0 rfl) ?_
    have hP9 := hP.sub (ws' := [(h0, .inr (4, [.ref h1, .ref h2, .int f0, .ref h3, .ref h4, .ref h5, .ref h6, .int f1, .ref h7, .ref h8, .ref h9, .ref h10])), (h1, .inr (0, [.ref h11, .int f2, .ref h12, .int f3, .ref h13, .ref h14, .ref h15, .ref h16, .ref h17, .ref h18, .int f4])), (h4, .inr (3, [.ref h37, .int 0])), (h10, .inl (zI g, 6, .inl R0)), (h12, .inl (zI g, 6, .inl Z6)), (h37, .inl (zB g, 60, .inl Z31))]) [0, 1, 3, 4, 2, 5] rfl
    have hD9 := hD.sub (ws' := [(h0, .inr (4, [.ref h1, .ref h2, .int f0, .ref h3, .ref h4, .ref h5, .ref h6, .int f1, .ref h7, .ref h8, .ref h9, .ref h10])), (h1, .inr (0, [.ref h11, .int f2, .ref h12, .int f3, .ref h13, .ref h14, .ref h15, .ref h16, .ref h17, .ref h18, .int f4])), (h4, .inr (3, [.ref h37, .int 0])), (h10, .inl (zI g, 6, .inl R0)), (h12, .inl (zI g, 6, .inl Z6)), (h37, .inl (zB g, 60, .inl Z31))]) [0, 1, 3, 4, 2, 5] (by decide) rfl
    exact W.iret (v := y2) hx hb hr (fun t ht hW => ⟨⟨y2, ⟨f2, 0, R0, Z6⟩, rfl, ⟨⟨(show 0 = 0 from by first | omega | decide), (by first | omega | decide)⟩, ⟨show 0 ≤ f2.toInt from by omega, show f2.toInt ≤ 6 from by omega⟩, ⟨show 0 ≤ (0 : Int32).toInt from by decide, show (0 : Int32).toInt ≤ 60 from by decide⟩, hI5, hI4, (by rw [if_neg (by omega)])⟩, by rw [ht]; exact hP9, hD9⟩, hS.F ht⟩) hS.2.2 dX4_lots_58
  · have i_0 : 1 ≤ y2.toInt := z_nlt (rfl) (rfl) c_0
    refine lv_iload_n hx hb dX4_lots_25 rfl (lv_at hl 0 rfl) ?_
    refine lv_bipush (v := 6) hx hb dX4_lots_26 (by decide) ?_
    refine lv_icmp_gt (tgt := 57) hx hb dX4_lots_28 (by decide) (fun c_1 => ?_) (fun c_1 => ?_)
    · have i_1 : 6 < y2.toInt := z_lt (rfl) (rfl) c_1
      have hI6 : zKdQ Z31 f10.toInt Z6 Z6 := ⟨hF_Z6, zKdP_same (by omega)⟩
      have hI7 := hI1.1
      refine lv_iload_n hx hb dX4_lots_57 rfl (lv_at hl 0 rfl) ?_
      have hP9 := hP.sub (ws' := [(h0, .inr (4, [.ref h1, .ref h2, .int f0, .ref h3, .ref h4, .ref h5, .ref h6, .int f1, .ref h7, .ref h8, .ref h9, .ref h10])), (h1, .inr (0, [.ref h11, .int f2, .ref h12, .int f3, .ref h13, .ref h14, .ref h15, .ref h16, .ref h17, .ref h18, .int f4])), (h4, .inr (3, [.ref h37, .int 0])), (h10, .inl (zI g, 6, .inl R0)), (h12, .inl (zI g, 6, .inl Z6)), (h37, .inl (zB g, 60, .inl Z31))]) [0, 1, 3, 4, 2, 5] rfl
      have hD9 := hD.sub (ws' := [(h0, .inr (4, [.ref h1, .ref h2, .int f0, .ref h3, .ref h4, .ref h5, .ref h6, .int f1, .ref h7, .ref h8, .ref h9, .ref h10])), (h1, .inr (0, [.ref h11, .int f2, .ref h12, .int f3, .ref h13, .ref h14, .ref h15, .ref h16, .ref h17, .ref h18, .int f4])), (h4, .inr (3, [.ref h37, .int 0])), (h10, .inl (zI g, 6, .inl R0)), (h12, .inl (zI g, 6, .inl Z6)), (h37, .inl (zB g, 60, .inl Z31))]) [0, 1, 3, 4, 2, 5] (by decide) rfl
      exact W.iret (v := y2) hx hb hr (fun t ht hW => ⟨⟨y2, ⟨f2, 0, R0, Z6⟩, rfl, ⟨⟨(show 0 = 0 from by first | omega | decide), (by first | omega | decide)⟩, ⟨show 0 ≤ f2.toInt from by omega, show f2.toInt ≤ 6 from by omega⟩, ⟨show 0 ≤ (0 : Int32).toInt from by decide, show (0 : Int32).toInt ≤ 60 from by decide⟩, hI7, hI6, (by rw [if_neg (by omega)])⟩, by rw [ht]; exact hP9, hD9⟩, hS.F ht⟩) hS.2.2 dX4_lots_58
    · have i_1 : y2.toInt ≤ 6 := z_nlt (rfl) (rfl) c_1
      refine lv_aload_n hx hb dX4_lots_31 rfl (lv_at hl 1 rfl) ?_
      refine va_get (D := g.1) (ci := 4) (v := .ref h10) (C := RX4) (T := TX4) (N := 12) hx hb hts zl_X4 hown hK hP 0 rfl rfl 11 (by decide) (hts _ m_f_RX4_61) (fun _ h => h) rfl dX4_lots_32 ?_
      refine lv_iconst (v := 0) hx hb dX4_lots_35 (by decide) ?_
      refine lv_aload_n hx hb dX4_lots_36 rfl (lv_at hl 1 rfl) ?_
      refine va_get (D := g.1) (ci := 4) (v := .ref h1) (C := RX4) (T := TX4) (N := 12) hx hb hts zl_X4 hown hK hP 0 rfl rfl 0 (by decide) (hts _ m_f_RX4_10) (fun _ h => h) rfl dX4_lots_37 ?_
      refine va_getN (D := g.1) (ci := 0) (v := .ref h12) (C := RX0) (T := TX0) (N := 11) hx hb hts zl_X0 hown hK hP 1 rfl rfl 2 (by decide) (hN.f 6 (q := (RX4, 113, "FishSteps$Books", "kind", "[I")) rfl) (fun _ h => h) rfl dX4_lots_40 ?_
      refine lv_iconst (v := 0) hx hb dX4_lots_43 (by decide) ?_
      refine lv_bipush (v := 6) hx hb dX4_lots_44 (by decide) ?_
      have hI8 := hI1.1
      have : (0 : Int32).toInt = 0 := rfl
      have : (0 : Int32).toInt = 0 := rfl
      have : (6 : Int32).toInt = 6 := rfl
      refine va_copyi (D := g.1) (ty := .int) (sp := 0) (dp := 0) (n := 6) hx hb (hml.trans hl.1.symm) hown (hts _ m_m_RX4_116) (hts _ m_n_arraycopyName) (hts _ m_s_arraycopyName) (hts _ m_z_RJ10) hK hP hD hS 4 2 0 0 rfl rfl rfl rfl rfl (by decide) (by decide) (by decide) (by decide) (by decide) (fun _ _ => rfl) (Nat.le_of_ble_eq_true rfl) (Nat.le_of_ble_eq_true rfl) dX4_lots_46 (fun H locs hP hD hS => ?_)
      have hP : va_P g.1 vwCl [(h0, .inr (4, [.ref h1, .ref h2, .int f0, .ref h3, .ref h4, .ref h5, .ref h6, .int f1, .ref h7, .ref h8, .ref h9, .ref h10])), (h1, .inr (0, [.ref h11, .int f2, .ref h12, .int f3, .ref h13, .ref h14, .ref h15, .ref h16, .ref h17, .ref h18, .int f4])), (h12, .inl (zI g, 6, .inl (va_cpy R0 Z6 0 0 6))), (h4, .inr (3, [.ref h37, .int 0])), (h10, .inl (zI g, 6, .inl R0)), (h37, .inl (zB g, 60, .inl Z31))] H := hP
      have hD : va_D A [(h0, .inr (4, [.ref h1, .ref h2, .int f0, .ref h3, .ref h4, .ref h5, .ref h6, .int f1, .ref h7, .ref h8, .ref h9, .ref h10])), (h1, .inr (0, [.ref h11, .int f2, .ref h12, .int f3, .ref h13, .ref h14, .ref h15, .ref h16, .ref h17, .ref h18, .int f4])), (h12, .inl (zI g, 6, .inl (va_cpy R0 Z6 0 0 6))), (h4, .inr (3, [.ref h37, .int 0])), (h10, .inl (zI g, 6, .inl R0)), (h37, .inl (zB g, 60, .inl Z31))] := hD
      obtain ⟨R9, eR9⟩ : ∃ z : Nat → Int32, z = (va_cpy R0 Z6 0 0 6) := ⟨_, rfl⟩
      rw [← eR9] at hP hD
      have hI9 : iKd R9 := by rw [eR9]; exact iKd_cpy hI8
      have hI10 : zKdQ Z31 f10.toInt Z6 R9 := ⟨hI9, by rw [eR9]; exact zKdP_cpy hI1.2 (by omega) (by omega)⟩
      refine lv_aload_n hx hb dX4_lots_49 rfl (lv_at hl 1 rfl) ?_
      refine va_get (D := g.1) (ci := 4) (v := .ref h1) (C := RX4) (T := TX4) (N := 12) hx hb hts zl_X4 hown hK hP 0 rfl rfl 0 (by decide) (hts _ m_f_RX4_10) (fun _ h => h) rfl dX4_lots_50 ?_
      refine lv_iload_n hx hb dX4_lots_53 rfl (lv_at hl 0 rfl) ?_
      refine va_putN (D := g.1) (ci := 0) (v := .int y2) (ty := .int) (C := RX0) (T := TX0) (N := 11) hx hb hts zl_X0 tyX0 tyX0_ok nmX0 hown hK hP hD hS 1 rfl rfl 1 (by decide) (hN.f 4 (q := (RX4, 122, "FishSteps$Books", "lots", "I")) rfl) (fun _ h => h) rfl (by decide +kernel) rfl rfl (Nat.le_of_ble_eq_true rfl) dX4_lots_54 (fun H locs hP hD hS => ?_)
      have hP : va_P g.1 vwCl [(h0, .inr (4, [.ref h1, .ref h2, .int f0, .ref h3, .ref h4, .ref h5, .ref h6, .int f1, .ref h7, .ref h8, .ref h9, .ref h10])), (h1, .inr (0, [.ref h11, .int y2, .ref h12, .int f3, .ref h13, .ref h14, .ref h15, .ref h16, .ref h17, .ref h18, .int f4])), (h12, .inl (zI g, 6, .inl R9)), (h4, .inr (3, [.ref h37, .int 0])), (h10, .inl (zI g, 6, .inl R0)), (h37, .inl (zB g, 60, .inl Z31))] H := hP
      have hD : va_D A [(h0, .inr (4, [.ref h1, .ref h2, .int f0, .ref h3, .ref h4, .ref h5, .ref h6, .int f1, .ref h7, .ref h8, .ref h9, .ref h10])), (h1, .inr (0, [.ref h11, .int y2, .ref h12, .int f3, .ref h13, .ref h14, .ref h15, .ref h16, .ref h17, .ref h18, .int f4])), (h12, .inl (zI g, 6, .inl R9)), (h4, .inr (3, [.ref h37, .int 0])), (h10, .inl (zI g, 6, .inl R0)), (h37, .inl (zB g, 60, .inl Z31))] := hD
      have hyl : y2 = Int32.ofInt (zLots Z31 f10.toInt) := by
        rw [← (by omega : y2.toInt = zLots Z31 f10.toInt), Int32.ofInt_toInt]
      refine lv_iload_n hx hb dX4_lots_57 rfl (lv_at hl 0 rfl) ?_
      have hP9 := hP.sub (ws' := [(h0, .inr (4, [.ref h1, .ref h2, .int f0, .ref h3, .ref h4, .ref h5, .ref h6, .int f1, .ref h7, .ref h8, .ref h9, .ref h10])), (h1, .inr (0, [.ref h11, .int y2, .ref h12, .int f3, .ref h13, .ref h14, .ref h15, .ref h16, .ref h17, .ref h18, .int f4])), (h4, .inr (3, [.ref h37, .int 0])), (h10, .inl (zI g, 6, .inl R0)), (h12, .inl (zI g, 6, .inl R9)), (h37, .inl (zB g, 60, .inl Z31))]) [0, 1, 3, 4, 2, 5] rfl
      have hD9 := hD.sub (ws' := [(h0, .inr (4, [.ref h1, .ref h2, .int f0, .ref h3, .ref h4, .ref h5, .ref h6, .int f1, .ref h7, .ref h8, .ref h9, .ref h10])), (h1, .inr (0, [.ref h11, .int y2, .ref h12, .int f3, .ref h13, .ref h14, .ref h15, .ref h16, .ref h17, .ref h18, .int f4])), (h4, .inr (3, [.ref h37, .int 0])), (h10, .inl (zI g, 6, .inl R0)), (h12, .inl (zI g, 6, .inl R9)), (h37, .inl (zB g, 60, .inl Z31))]) [0, 1, 3, 4, 2, 5] (by decide) rfl
      exact W.iret (v := y2) hx hb hr (fun t ht hW => ⟨⟨y2, ⟨y2, 0, R0, R9⟩, rfl, ⟨⟨(show 0 = 0 from by first | omega | decide), (by first | omega | decide)⟩, ⟨show 0 ≤ y2.toInt from by omega, show y2.toInt ≤ 6 from by omega⟩, ⟨show 0 ≤ (0 : Int32).toInt from by decide, show (0 : Int32).toInt ≤ 60 from by decide⟩, hI8, hI10, (by rw [if_pos (by omega), hyl])⟩, by rw [ht]; exact hP9, hD9⟩, hS.F ht⟩) hS.2.2 dX4_lots_58
set_option maxHeartbeats 8000000 in
set_option maxRecDepth 100000 in
theorem gX0_countOwing (l : Launch) (g : zG) (h0 h1 h2 h3 h4 h5 h6 h7 h8 : Nat) (sz : Nat) (f0 : Int32) (f1 : Int32) (f2 : Int32) (Z3 : Nat → Int32) (hf_f0 : 0 ≤ f0.toInt ∧ f0.toInt ≤ 6) (hf_f1 : 0 ≤ f1.toInt ∧ f1.toInt ≤ 5) (hf_f2 : 0 ≤ f2.toInt ∧ f2.toInt ≤ 9999) (hF_Z3 : iPu Z3) : Met l yX0_countOwing (.code yX0_countOwing cX0_countOwing 3 (some .int) :: zBig) ({ frames := 0, cells := 0, slots := 0, locals := 0 }) (va_Pc [.ref h0] (zPre g [(h0, .inr (0, [.ref h1, .int f0, .ref h2, .int f1, .ref h3, .ref h4, .ref h5, .ref h6, .ref h7, .ref h8, .int f2])), (h4, .inl (zI g, 5, .inl Z3))] sz)) (va_Qi (fun (r : Int32) (u : Nat) => r.toInt = zOw Z3 f1.toInt.toNat ∧ 0 ≤ r.toInt ∧ r.toInt ≤ 5) (zPost g (fun u : Nat => [(h0, .inr (0, [.ref h1, .int f0, .ref h2, .int f1, .ref h3, .ref h4, .ref h5, .ref h6, .ref h7, .ref h8, .int f2])), (h4, .inl (zI g, 5, .inl Z3))]) (va_A [(h0, .inr (0, [.ref h1, .int f0, .ref h2, .int f1, .ref h3, .ref h4, .ref h5, .ref h6, .ref h7, .ref h8, .int f2])), (h4, .inl (zI g, 5, .inl Z3))] sz)) (va_A [(h0, .inr (0, [.ref h1, .int f0, .ref h2, .int f1, .ref h3, .ref h4, .ref h5, .ref h6, .ref h7, .ref h8, .int f2])), (h4, .inl (zI g, 5, .inl Z3))] sz)) 0 0 (va_A [(h0, .inr (0, [.ref h1, .int f0, .ref h2, .int f1, .ref h3, .ref h4, .ref h5, .ref h6, .ref h7, .ref h8, .int f2])), (h4, .inl (zI g, 5, .inl Z3))] sz) := by
  refine zMetI rfl (Nat.le_of_ble_eq_true rfl) ?_
  intro p e s m args below meth c A ls hx hb hml hr hlocks hin hown hts hK hN hZ hP hD hA hS hAe hl
  have hown : s.vm.findClass RX0 = some m.cls := hown
  have hl : lv_has ls 3 [(0, .ref h0)] := hl
  refine lv_iconst (v := 0) hx hb dX0_countOwing_0 (by decide) ?_
  refine lv_istore_n (lv' := [(1, .int 0), (0, .ref h0)]) hx hb dX0_countOwing_1 rfl hl (by decide) rfl (fun ls hl => ?_)
  have hw0 : zOw Z3 (0 : Int32).toInt.toNat = 0 := rfl
  refine lv_iconst (v := 0) hx hb dX0_countOwing_2 (by decide) ?_
  refine lv_istore_n (lv' := [(2, .int 0), (1, .int 0), (0, .ref h0)]) hx hb dX0_countOwing_3 rfl hl (by decide) rfl (fun ls hl => ?_)
  have loop4_0 : ∀ (n1 : Nat) (v1_0 : Int32) (v2_0 : Int32) (n1_0 : 0 ≤ v2_0.toInt) (n1_1 : v2_0.toInt ≤ 5) (n1_2 : v2_0.toInt ≤ f1.toInt) (n1_3 : 0 ≤ v1_0.toInt) (n1_4 : v1_0.toInt ≤ v2_0.toInt) (n1_5 : v1_0.toInt = zOw Z3 v2_0.toInt.toNat) (hm1 : 5 - v2_0.toInt < (n1 : Int)) (H : Heap) (locs : List Loc), va_P g.1 vwCl [(h0, .inr (0, [.ref h1, .int f0, .ref h2, .int f1, .ref h3, .ref h4, .ref h5, .ref h6, .ref h7, .ref h8, .int f2])), (h4, .inl (zI g, 5, .inl Z3))] H → va_D A [(h0, .inr (0, [.ref h1, .int f0, .ref h2, .int f1, .ref h3, .ref h4, .ref h5, .ref h6, .ref h7, .ref h8, .int f2])), (h4, .inl (zI g, 5, .inl Z3))] → va_S A s.heap H locs → ∀ (ls : Array Slot), lv_has ls 3 [(0, .ref h0), (1, .int v1_0), (2, .int v2_0)] → W p l e ({ frames := 0, cells := 0, slots := 0, locals := 0 }) s m args below meth c H locs 0 0 (MQ below (va_Qi (fun (r : Int32) (u : Nat) => r.toInt = zOw Z3 f1.toInt.toNat ∧ 0 ≤ r.toInt ∧ r.toInt ≤ 5) (zPost g (fun u : Nat => [(h0, .inr (0, [.ref h1, .int f0, .ref h2, .int f1, .ref h3, .ref h4, .ref h5, .ref h6, .ref h7, .ref h8, .int f2])), (h4, .inl (zI g, 5, .inl Z3))]) A) A) args s 0 0 A) (F0 m 4 ls []) := by
    intro n1
    induction n1 with
    | zero => intro v1_0 v2_0 n1_0 n1_1 n1_2 n1_3 n1_4 n1_5 hm1; exfalso; omega
    | succ n1 ih1 =>
      intro v1_0 v2_0 n1_0 n1_1 n1_2 n1_3 n1_4 n1_5 hm1 H locs hP hD hS ls hl
      refine lv_iload_n hx hb dX0_countOwing_4 rfl (lv_at hl 2 rfl) ?_
      refine lv_iconst (v := 5) hx hb dX0_countOwing_5 (by decide) ?_
      refine lv_icmp_ge (tgt := 40) hx hb dX0_countOwing_6 (by decide) (fun c_1 => ?_) (fun c_1 => ?_)
      · have i_1 : 5 ≤ v2_0.toInt := z_le (rfl) (rfl) c_1
        have hsx : zOw Z3 v2_0.toInt.toNat = zOw Z3 f1.toInt.toNat := by rw [(by omega : v2_0.toInt = f1.toInt)]
        refine lv_iload_n hx hb dX0_countOwing_40 rfl (lv_at hl 1 rfl) ?_
        have hP9 := hP.sub (ws' := [(h0, .inr (0, [.ref h1, .int f0, .ref h2, .int f1, .ref h3, .ref h4, .ref h5, .ref h6, .ref h7, .ref h8, .int f2])), (h4, .inl (zI g, 5, .inl Z3))]) [0, 1] rfl
        have hD9 := hD.sub (ws' := [(h0, .inr (0, [.ref h1, .int f0, .ref h2, .int f1, .ref h3, .ref h4, .ref h5, .ref h6, .ref h7, .ref h8, .int f2])), (h4, .inl (zI g, 5, .inl Z3))]) [0, 1] (by decide) rfl
        exact W.iret (v := v1_0) hx hb hr (fun t ht hW => ⟨⟨v1_0, (0 : Nat), rfl, ⟨(by first | omega | decide), (by first | omega | decide), (by first | omega | decide)⟩, by rw [ht]; exact hP9, hD9⟩, hS.F ht⟩) hS.2.2 dX0_countOwing_41
      · have i_1 : v2_0.toInt < 5 := z_nle (rfl) (rfl) c_1
        refine lv_iload_n hx hb dX0_countOwing_9 rfl (lv_at hl 2 rfl) ?_
        refine lv_aload_n hx hb dX0_countOwing_10 rfl (lv_at hl 0 rfl) ?_
        refine va_get (D := g.1) (ci := 0) (v := .int f1) (C := RX0) (T := TX0) (N := 11) hx hb hts zl_X0 hown hK hP 0 rfl rfl 3 (by decide) (hts _ m_f_RX0_30) (fun _ h => h) rfl dX0_countOwing_11 ?_
        refine lv_icmp_ge (tgt := 40) hx hb dX0_countOwing_14 (by decide) (fun c_2 => ?_) (fun c_2 => ?_)
        · have i_2 : f1.toInt ≤ v2_0.toInt := z_le (rfl) (rfl) c_2
          have hsx : zOw Z3 v2_0.toInt.toNat = zOw Z3 f1.toInt.toNat := by rw [(by omega : v2_0.toInt = f1.toInt)]
          refine lv_iload_n hx hb dX0_countOwing_40 rfl (lv_at hl 1 rfl) ?_
          have hP9 := hP.sub (ws' := [(h0, .inr (0, [.ref h1, .int f0, .ref h2, .int f1, .ref h3, .ref h4, .ref h5, .ref h6, .ref h7, .ref h8, .int f2])), (h4, .inl (zI g, 5, .inl Z3))]) [0, 1] rfl
          have hD9 := hD.sub (ws' := [(h0, .inr (0, [.ref h1, .int f0, .ref h2, .int f1, .ref h3, .ref h4, .ref h5, .ref h6, .ref h7, .ref h8, .int f2])), (h4, .inl (zI g, 5, .inl Z3))]) [0, 1] (by decide) rfl
          exact W.iret (v := v1_0) hx hb hr (fun t ht hW => ⟨⟨v1_0, (0 : Nat), rfl, ⟨(by first | omega | decide), (by first | omega | decide), (by first | omega | decide)⟩, by rw [ht]; exact hP9, hD9⟩, hS.F ht⟩) hS.2.2 dX0_countOwing_41
        · have i_2 : v2_0.toInt < f1.toInt := z_nle (rfl) (rfl) c_2
          refine lv_iload_n hx hb dX0_countOwing_17 rfl (lv_at hl 1 rfl) ?_
          refine lv_aload_n hx hb dX0_countOwing_18 rfl (lv_at hl 0 rfl) ?_
          refine va_get (D := g.1) (ci := 0) (v := .ref h4) (C := RX0) (T := TX0) (N := 11) hx hb hts zl_X0 hown hK hP 0 rfl rfl 5 (by decide) (hts _ m_f_RX0_36) (fun _ h => h) rfl dX0_countOwing_19 ?_
          refine lv_iload_n hx hb dX0_countOwing_22 rfl (lv_at hl 2 rfl) ?_
          refine va_iald (D := g.1) hx hb hK hP 1 0 rfl rfl (vp_in_iff.mpr ⟨by omega, by omega⟩) dX0_countOwing_23 ?_
          refine lv_topi (fun y0 ey0 => ?_)
          have qy0_0 : (-99) ≤ y0.toInt := (i_at (N := 5) (lo := (-99)) (hi := 9999) (i := v2_0) (a := v2_0.toInt) hF_Z3 (rfl) (by omega) (by omega) ey0).1
          have qy0_1 : y0.toInt ≤ 9999 := (i_at (N := 5) (lo := (-99)) (hi := 9999) (i := v2_0) (a := v2_0.toInt) hF_Z3 (rfl) (by omega) (by omega) ey0).2
          have qy0_2 : y0.toInt = (Z3 v2_0.toNatClampNeg).toInt := congrArg Int32.toInt ey0
          have py0_0 : y0.toInt = (Z3 v2_0.toInt.toNat).toInt := congrArg Int32.toInt ey0
          refine lv_if_ge (tgt := 31) hx hb dX0_countOwing_24 (by decide) (fun c_3 => ?_) (fun c_3 => ?_)
          · have i_3 : 0 ≤ y0.toInt := z_le (rfl) (rfl) c_3
            refine lv_iconst (v := 0) hx hb dX0_countOwing_31 (by decide) ?_
            refine lv_iadd hx hb dX0_countOwing_32 ?_
            refine lv_topi (fun y1 ey1 => ?_)
            have qy1_0 : y1.toInt = v1_0.toInt + 0 := zi_add ey1 (rfl) (rfl) (by omega) (by omega)
            refine lv_istore_n (lv' := [(1, .int y1), (0, .ref h0), (2, .int v2_0)]) hx hb dX0_countOwing_33 rfl hl (by decide) rfl (fun ls hl => ?_)
            have hst : zOw Z3 (v2_0.toInt.toNat + 1) = zOw Z3 v2_0.toInt.toNat := zOw_0 (by omega)
            obtain ⟨y2, ey2⟩ : ∃ z : Int32, z = v2_0 + 1 := ⟨_, rfl⟩
            have qy2 : y2.toInt = v2_0.toInt + 1 := zi_add ey2 (rfl) rfl (by omega) (by omega)
            refine lv_iinc (v := y2) (lv' := [(2, .int y2), (1, .int y1), (0, .ref h0)]) hx hb dX0_countOwing_34 hl (k := 2) rfl ey2.symm (by decide) rfl (fun ls hl => ?_)
            have hsb : zOw Z3 y2.toInt.toNat = zOw Z3 (v2_0.toInt.toNat + 1) := by rw [(by omega : y2.toInt.toNat = v2_0.toInt.toNat + 1)]
            refine lv_goto (tgt := 4) hx hb dX0_countOwing_37 (by decide) ?_
            exact ih1 y1 y2 (by omega) (by omega) (by omega) (by omega) (by omega) (by omega) (by omega) _ _ hP hD hS ls (lv_sub hl [2, 1, 0] rfl)
          · have i_3 : y0.toInt < 0 := z_nle (rfl) (rfl) c_3
            refine lv_iconst (v := 1) hx hb dX0_countOwing_27 (by decide) ?_
            refine lv_goto (tgt := 32) hx hb dX0_countOwing_28 (by decide) ?_
            refine lv_iadd hx hb dX0_countOwing_32 ?_
            refine lv_topi (fun y3 ey3 => ?_)
            have qy3_0 : y3.toInt = v1_0.toInt + 1 := zi_add ey3 (rfl) (rfl) (by omega) (by omega)
            refine lv_istore_n (lv' := [(1, .int y3), (0, .ref h0), (2, .int v2_0)]) hx hb dX0_countOwing_33 rfl hl (by decide) rfl (fun ls hl => ?_)
            have hst : zOw Z3 (v2_0.toInt.toNat + 1) = zOw Z3 v2_0.toInt.toNat + 1 := zOw_1 (by omega)
            obtain ⟨y4, ey4⟩ : ∃ z : Int32, z = v2_0 + 1 := ⟨_, rfl⟩
            have qy4 : y4.toInt = v2_0.toInt + 1 := zi_add ey4 (rfl) rfl (by omega) (by omega)
            refine lv_iinc (v := y4) (lv' := [(2, .int y4), (1, .int y3), (0, .ref h0)]) hx hb dX0_countOwing_34 hl (k := 2) rfl ey4.symm (by decide) rfl (fun ls hl => ?_)
            have hsb : zOw Z3 y4.toInt.toNat = zOw Z3 (v2_0.toInt.toNat + 1) := by rw [(by omega : y4.toInt.toNat = v2_0.toInt.toNat + 1)]
            refine lv_goto (tgt := 4) hx hb dX0_countOwing_37 (by decide) ?_
            exact ih1 y3 y4 (by omega) (by omega) (by omega) (by omega) (by omega) (by omega) (by omega) _ _ hP hD hS ls (lv_sub hl [2, 1, 0] rfl)
  have : (0 : Int32).toInt = 0 := rfl
  exact loop4_0 ((5 - 0 : Int).toNat + 1) (0 : Int32) (0 : Int32) (by omega) (by omega) (by omega) (by omega) (by omega) (by omega) (by omega) _ _ hP hD hS ls (lv_sub hl [2, 1, 0] rfl)
set_option maxHeartbeats 8000000 in
set_option maxRecDepth 100000 in
theorem gJ6_bitCount_0f7a4 (l : Launch) (g : zG) (sz : Nat) (p0 : Int32) : Met l yJ6_bitCount_0f7a4 (.code yJ6_bitCount_0f7a4 cJ6_bitCount_0f7a4 1 (some .int) :: zBig) ({ frames := 0, cells := 0, slots := 0, locals := 0 }) (va_Pc [.int p0] (zPre g [] sz)) (va_Qi (fun (r : Int32) (u : Nat) => r.toInt = (zPop p0).toInt) (zPost g (fun u : Nat => []) (va_A [] sz)) (va_A [] sz)) 0 0 (va_A [] sz) := by
  refine zMetI rfl (Nat.le_of_ble_eq_true rfl) ?_
  intro p e s m args below meth c A ls hx hb hml hr hlocks hin hown hts hK hN hZ hP hD hA hS hAe hl
  have hown : s.vm.findClass RJ6 = some m.cls := hown
  have hl : lv_has ls 1 [(0, .int p0)] := hl
  refine lv_iload_n hx hb dJ6_bitCount_0f7a4_0 rfl (lv_at hl 0 rfl) ?_
  refine lv_iload_n hx hb dJ6_bitCount_0f7a4_1 rfl (lv_at hl 0 rfl) ?_
  refine lv_iconst (v := 1) hx hb dJ6_bitCount_0f7a4_2 (by decide) ?_
  refine lv_iushr (v := ((p0.toUInt32 >>> ((1 : Int32).toUInt32 &&& Int32.toUInt32 31)).toInt32)) hx hb dJ6_bitCount_0f7a4_3 rfl ?_
  refine lv_topi (fun y0 ey0 => ?_)
  refine lv_ldcw (v := 1431655765) hx hb hown (hts _ m_k_RJ6_265) dJ6_bitCount_0f7a4_4 ?_
  refine lv_iand hx hb dJ6_bitCount_0f7a4_7 ?_
  refine lv_topi (fun y1 ey1 => ?_)
  refine lv_isub hx hb dJ6_bitCount_0f7a4_8 ?_
  refine lv_topi (fun y2 ey2 => ?_)
  refine lv_istore_n (lv' := [(0, .int y2)]) hx hb dJ6_bitCount_0f7a4_9 rfl hl (by decide) rfl (fun ls hl => ?_)
  refine lv_iload_n hx hb dJ6_bitCount_0f7a4_10 rfl (lv_at hl 0 rfl) ?_
  refine lv_ldcw (v := 858993459) hx hb hown (hts _ m_k_RJ6_266) dJ6_bitCount_0f7a4_11 ?_
  refine lv_iand hx hb dJ6_bitCount_0f7a4_14 ?_
  refine lv_topi (fun y3 ey3 => ?_)
  refine lv_iload_n hx hb dJ6_bitCount_0f7a4_15 rfl (lv_at hl 0 rfl) ?_
  refine lv_iconst (v := 2) hx hb dJ6_bitCount_0f7a4_16 (by decide) ?_
  refine lv_iushr (v := ((y2.toUInt32 >>> ((2 : Int32).toUInt32 &&& Int32.toUInt32 31)).toInt32)) hx hb dJ6_bitCount_0f7a4_17 rfl ?_
  refine lv_topi (fun y4 ey4 => ?_)
  refine lv_ldcw (v := 858993459) hx hb hown (hts _ m_k_RJ6_266) dJ6_bitCount_0f7a4_18 ?_
  refine lv_iand hx hb dJ6_bitCount_0f7a4_21 ?_
  refine lv_topi (fun y5 ey5 => ?_)
  refine lv_iadd hx hb dJ6_bitCount_0f7a4_22 ?_
  refine lv_topi (fun y6 ey6 => ?_)
  refine lv_istore_n (lv' := [(0, .int y6)]) hx hb dJ6_bitCount_0f7a4_23 rfl hl (by decide) rfl (fun ls hl => ?_)
  refine lv_iload_n hx hb dJ6_bitCount_0f7a4_24 rfl (lv_at hl 0 rfl) ?_
  refine lv_iload_n hx hb dJ6_bitCount_0f7a4_25 rfl (lv_at hl 0 rfl) ?_
  refine lv_iconst (v := 4) hx hb dJ6_bitCount_0f7a4_26 (by decide) ?_
  refine lv_iushr (v := ((y6.toUInt32 >>> ((4 : Int32).toUInt32 &&& Int32.toUInt32 31)).toInt32)) hx hb dJ6_bitCount_0f7a4_27 rfl ?_
  refine lv_topi (fun y7 ey7 => ?_)
  refine lv_iadd hx hb dJ6_bitCount_0f7a4_28 ?_
  refine lv_topi (fun y8 ey8 => ?_)
  refine lv_ldcw (v := 252645135) hx hb hown (hts _ m_k_RJ6_267) dJ6_bitCount_0f7a4_29 ?_
  refine lv_iand hx hb dJ6_bitCount_0f7a4_32 ?_
  refine lv_topi (fun y9 ey9 => ?_)
  refine lv_istore_n (lv' := [(0, .int y9)]) hx hb dJ6_bitCount_0f7a4_33 rfl hl (by decide) rfl (fun ls hl => ?_)
  refine lv_iload_n hx hb dJ6_bitCount_0f7a4_34 rfl (lv_at hl 0 rfl) ?_
  refine lv_iload_n hx hb dJ6_bitCount_0f7a4_35 rfl (lv_at hl 0 rfl) ?_
  refine lv_bipush (v := 8) hx hb dJ6_bitCount_0f7a4_36 (by decide) ?_
  refine lv_iushr (v := ((y9.toUInt32 >>> ((8 : Int32).toUInt32 &&& Int32.toUInt32 31)).toInt32)) hx hb dJ6_bitCount_0f7a4_38 rfl ?_
  refine lv_topi (fun y10 ey10 => ?_)
  refine lv_iadd hx hb dJ6_bitCount_0f7a4_39 ?_
  refine lv_topi (fun y11 ey11 => ?_)
  refine lv_istore_n (lv' := [(0, .int y11)]) hx hb dJ6_bitCount_0f7a4_40 rfl hl (by decide) rfl (fun ls hl => ?_)
  refine lv_iload_n hx hb dJ6_bitCount_0f7a4_41 rfl (lv_at hl 0 rfl) ?_
  refine lv_iload_n hx hb dJ6_bitCount_0f7a4_42 rfl (lv_at hl 0 rfl) ?_
  refine lv_bipush (v := 16) hx hb dJ6_bitCount_0f7a4_43 (by decide) ?_
  refine lv_iushr (v := ((y11.toUInt32 >>> ((16 : Int32).toUInt32 &&& Int32.toUInt32 31)).toInt32)) hx hb dJ6_bitCount_0f7a4_45 rfl ?_
  refine lv_topi (fun y12 ey12 => ?_)
  refine lv_iadd hx hb dJ6_bitCount_0f7a4_46 ?_
  refine lv_topi (fun y13 ey13 => ?_)
  refine lv_istore_n (lv' := [(0, .int y13)]) hx hb dJ6_bitCount_0f7a4_47 rfl hl (by decide) rfl (fun ls hl => ?_)
  refine lv_iload_n hx hb dJ6_bitCount_0f7a4_48 rfl (lv_at hl 0 rfl) ?_
  refine lv_bipush (v := 63) hx hb dJ6_bitCount_0f7a4_49 (by decide) ?_
  refine lv_iand hx hb dJ6_bitCount_0f7a4_51 ?_
  refine lv_topi (fun y14 ey14 => ?_)
  have hz : (zPop p0).toInt = y14.toInt := congrArg Int32.toInt (by rw [ey14, ey13, ey12, ey11, ey10, ey9, ey8, ey7, ey6, ey5, ey4, ey3, ey2, ey1, ey0]; rfl)
  have hP9 := hP.sub (ws' := []) [] rfl
  have hD9 := hD.sub (ws' := []) [] (by decide) rfl
  exact W.iret (v := y14) hx hb hr (fun t ht hW => ⟨⟨y14, (0 : Nat), rfl, (by first | omega | decide), by rw [ht]; exact hP9, hD9⟩, hS.F ht⟩) hS.2.2 dJ6_bitCount_0f7a4_52
set_option maxHeartbeats 8000000 in
set_option maxRecDepth 100000 in
theorem gX0_countKinds (l : Launch) (g : zG) (h0 h1 h2 h3 h4 h5 h6 h7 h8 : Nat) (sz : Nat) (f0 : Int32) (f1 : Int32) (f2 : Int32) (Z1 : Nat → Int32) (hf_f0 : 0 ≤ f0.toInt ∧ f0.toInt ≤ 6) (hf_f1 : 0 ≤ f1.toInt ∧ f1.toInt ≤ 5) (hf_f2 : 0 ≤ f2.toInt ∧ f2.toInt ≤ 9999) (hF_Z1 : iKd Z1) : Met l yX0_countKinds (.code yX0_countKinds cX0_countKinds 3 (some .int) :: zBig) ({ frames := 1, cells := 0, slots := 0, locals := 20 }) (va_Pc [.ref h0] (zPre g [(h0, .inr (0, [.ref h1, .int f0, .ref h2, .int f1, .ref h3, .ref h4, .ref h5, .ref h6, .ref h7, .ref h8, .int f2])), (h2, .inl (zI g, 6, .inl Z1))] sz)) (va_Qi (fun (r : Int32) (u : Nat) => r.toInt = zC5 (zKs Z1 f0.toInt.toNat)) (zPost g (fun u : Nat => [(h0, .inr (0, [.ref h1, .int f0, .ref h2, .int f1, .ref h3, .ref h4, .ref h5, .ref h6, .ref h7, .ref h8, .int f2])), (h2, .inl (zI g, 6, .inl Z1))]) (va_A [(h0, .inr (0, [.ref h1, .int f0, .ref h2, .int f1, .ref h3, .ref h4, .ref h5, .ref h6, .ref h7, .ref h8, .int f2])), (h2, .inl (zI g, 6, .inl Z1))] sz)) (va_A [(h0, .inr (0, [.ref h1, .int f0, .ref h2, .int f1, .ref h3, .ref h4, .ref h5, .ref h6, .ref h7, .ref h8, .int f2])), (h2, .inl (zI g, 6, .inl Z1))] sz)) 0 0 (va_A [(h0, .inr (0, [.ref h1, .int f0, .ref h2, .int f1, .ref h3, .ref h4, .ref h5, .ref h6, .ref h7, .ref h8, .int f2])), (h2, .inl (zI g, 6, .inl Z1))] sz) := by
  refine zMetI rfl (Nat.le_of_ble_eq_true rfl) ?_
  intro p e s m args below meth c A ls hx hb hml hr hlocks hin hown hts hK hN hZ hP hD hA hS hAe hl
  have hown : s.vm.findClass RX0 = some m.cls := hown
  have hl : lv_has ls 3 [(0, .ref h0)] := hl
  refine lv_iconst (v := 0) hx hb dX0_countKinds_0 (by decide) ?_
  refine lv_istore_n (lv' := [(1, .int 0), (0, .ref h0)]) hx hb dX0_countKinds_1 rfl hl (by decide) rfl (fun ls hl => ?_)
  have hk0 : zS5 (zKs Z1 (0 : Int32).toInt.toNat) = 0 := rfl
  refine lv_iconst (v := 0) hx hb dX0_countKinds_2 (by decide) ?_
  refine lv_istore_n (lv' := [(2, .int 0), (1, .int 0), (0, .ref h0)]) hx hb dX0_countKinds_3 rfl hl (by decide) rfl (fun ls hl => ?_)
  have loop4_0 : ∀ (n1 : Nat) (v1_0 : Int32) (v2_0 : Int32) (n1_0 : 0 ≤ v2_0.toInt) (n1_1 : v2_0.toInt ≤ 6) (n1_2 : v2_0.toInt ≤ f0.toInt) (n1_3 : 0 ≤ v1_0.toInt) (n1_4 : v1_0.toInt ≤ 31) (n1_5 : v1_0.toInt = zS5 (zKs Z1 v2_0.toInt.toNat)) (hm1 : 6 - v2_0.toInt < (n1 : Int)) (H : Heap) (locs : List Loc), va_P g.1 vwCl [(h0, .inr (0, [.ref h1, .int f0, .ref h2, .int f1, .ref h3, .ref h4, .ref h5, .ref h6, .ref h7, .ref h8, .int f2])), (h2, .inl (zI g, 6, .inl Z1))] H → va_D A [(h0, .inr (0, [.ref h1, .int f0, .ref h2, .int f1, .ref h3, .ref h4, .ref h5, .ref h6, .ref h7, .ref h8, .int f2])), (h2, .inl (zI g, 6, .inl Z1))] → va_S A s.heap H locs → ∀ (ls : Array Slot), lv_has ls 3 [(0, .ref h0), (1, .int v1_0), (2, .int v2_0)] → W p l e ({ frames := 1, cells := 0, slots := 0, locals := 20 }) s m args below meth c H locs 0 0 (MQ below (va_Qi (fun (r : Int32) (u : Nat) => r.toInt = zC5 (zKs Z1 f0.toInt.toNat)) (zPost g (fun u : Nat => [(h0, .inr (0, [.ref h1, .int f0, .ref h2, .int f1, .ref h3, .ref h4, .ref h5, .ref h6, .ref h7, .ref h8, .int f2])), (h2, .inl (zI g, 6, .inl Z1))]) A) A) args s 0 0 A) (F0 m 4 ls []) := by
    intro n1
    induction n1 with
    | zero => intro v1_0 v2_0 n1_0 n1_1 n1_2 n1_3 n1_4 n1_5 hm1; exfalso; omega
    | succ n1 ih1 =>
      intro v1_0 v2_0 n1_0 n1_1 n1_2 n1_3 n1_4 n1_5 hm1 H locs hP hD hS ls hl
      refine lv_iload_n hx hb dX0_countKinds_4 rfl (lv_at hl 2 rfl) ?_
      refine lv_bipush (v := 6) hx hb dX0_countKinds_5 (by decide) ?_
      refine lv_icmp_ge (tgt := 35) hx hb dX0_countKinds_7 (by decide) (fun c_1 => ?_) (fun c_1 => ?_)
      · have i_1 : 6 ≤ v2_0.toInt := z_le (rfl) (rfl) c_1
        have hkx : zS5 (zKs Z1 v2_0.toInt.toNat) = zS5 (zKs Z1 f0.toInt.toNat) := by rw [(by omega : v2_0.toInt = f0.toInt)]
        refine lv_iload_n hx hb dX0_countKinds_35 rfl (lv_at hl 1 rfl) ?_
        refine z_calli (wr := [(h0, .inr (0, [.ref h1, .int f0, .ref h2, .int f1, .ref h3, .ref h4, .ref h5, .ref h6, .ref h7, .ref h8, .int f2])), (h2, .inl (zI g, 6, .inl Z1))]) hP hD hS hA [] [0, 1] (by decide) rfl rfl (by decide) (va_runS (As := [.int v1_0]) (rest := []) ⟨hx, hb, hml, hown, hts⟩ (gJ6_bitCount_0f7a4 l g  H.size v1_0) ⟨callB_of 1 hts (zGood m_o_yJ6_bitCount_0f7a4) rfl rfl rfl (hts _ m_z_RJ6) (hts _ m_m_RX0_73) ⟨by decide +kernel, by decide +kernel, by decide +kernel⟩ ⟨Nat.le_of_ble_eq_true rfl, Nat.le_of_ble_eq_true rfl⟩, hts _ m_s_yJ6_bitCount_0f7a4⟩ (zPreS hK hN hZ hP hD hS hA [] (by decide) rfl rfl) rfl rfl hl.1 rfl (lv_room (Nat.le_of_ble_eq_true rfl)) dX0_countKinds_36 ⟨Nat.le_of_ble_eq_true rfl, Nat.le_of_ble_eq_true rfl⟩) (fun r u H locs hw hP hD hS => ?_)
        obtain ⟨y0, rfl⟩ : ∃ z, z = r := ⟨_, rfl⟩
        have q1_0 := hw
        have q1_0 : y0.toInt = (zPop v1_0).toInt := q1_0
        have hP : va_P g.1 vwCl [(h0, .inr (0, [.ref h1, .int f0, .ref h2, .int f1, .ref h3, .ref h4, .ref h5, .ref h6, .ref h7, .ref h8, .int f2])), (h2, .inl (zI g, 6, .inl Z1))] H := hP
        have hD : va_D A [(h0, .inr (0, [.ref h1, .int f0, .ref h2, .int f1, .ref h3, .ref h4, .ref h5, .ref h6, .ref h7, .ref h8, .int f2])), (h2, .inl (zI g, 6, .inl Z1))] := hD
        have hz : (zPop v1_0).toInt = zC5 (zKs Z1 f0.toInt.toNat) := zPop_S (zKs_01 _) (by omega)
        have hP9 := hP.sub (ws' := [(h0, .inr (0, [.ref h1, .int f0, .ref h2, .int f1, .ref h3, .ref h4, .ref h5, .ref h6, .ref h7, .ref h8, .int f2])), (h2, .inl (zI g, 6, .inl Z1))]) [0, 1] rfl
        have hD9 := hD.sub (ws' := [(h0, .inr (0, [.ref h1, .int f0, .ref h2, .int f1, .ref h3, .ref h4, .ref h5, .ref h6, .ref h7, .ref h8, .int f2])), (h2, .inl (zI g, 6, .inl Z1))]) [0, 1] (by decide) rfl
        exact W.iret (v := y0) hx hb hr (fun t ht hW => ⟨⟨y0, (0 : Nat), rfl, (by first | omega | decide), by rw [ht]; exact hP9, hD9⟩, hS.F ht⟩) hS.2.2 dX0_countKinds_39
      · have i_1 : v2_0.toInt < 6 := z_nle (rfl) (rfl) c_1
        refine lv_iload_n hx hb dX0_countKinds_10 rfl (lv_at hl 2 rfl) ?_
        refine lv_aload_n hx hb dX0_countKinds_11 rfl (lv_at hl 0 rfl) ?_
        refine va_get (D := g.1) (ci := 0) (v := .int f0) (C := RX0) (T := TX0) (N := 11) hx hb hts zl_X0 hown hK hP 0 rfl rfl 1 (by decide) (hts _ m_f_RX0_23) (fun _ h => h) rfl dX0_countKinds_12 ?_
        refine lv_icmp_ge (tgt := 35) hx hb dX0_countKinds_15 (by decide) (fun c_2 => ?_) (fun c_2 => ?_)
        · have i_2 : f0.toInt ≤ v2_0.toInt := z_le (rfl) (rfl) c_2
          have hkx : zS5 (zKs Z1 v2_0.toInt.toNat) = zS5 (zKs Z1 f0.toInt.toNat) := by rw [(by omega : v2_0.toInt = f0.toInt)]
          refine lv_iload_n hx hb dX0_countKinds_35 rfl (lv_at hl 1 rfl) ?_
          refine z_calli (wr := [(h0, .inr (0, [.ref h1, .int f0, .ref h2, .int f1, .ref h3, .ref h4, .ref h5, .ref h6, .ref h7, .ref h8, .int f2])), (h2, .inl (zI g, 6, .inl Z1))]) hP hD hS hA [] [0, 1] (by decide) rfl rfl (by decide) (va_runS (As := [.int v1_0]) (rest := []) ⟨hx, hb, hml, hown, hts⟩ (gJ6_bitCount_0f7a4 l g  H.size v1_0) ⟨callB_of 1 hts (zGood m_o_yJ6_bitCount_0f7a4) rfl rfl rfl (hts _ m_z_RJ6) (hts _ m_m_RX0_73) ⟨by decide +kernel, by decide +kernel, by decide +kernel⟩ ⟨Nat.le_of_ble_eq_true rfl, Nat.le_of_ble_eq_true rfl⟩, hts _ m_s_yJ6_bitCount_0f7a4⟩ (zPreS hK hN hZ hP hD hS hA [] (by decide) rfl rfl) rfl rfl hl.1 rfl (lv_room (Nat.le_of_ble_eq_true rfl)) dX0_countKinds_36 ⟨Nat.le_of_ble_eq_true rfl, Nat.le_of_ble_eq_true rfl⟩) (fun r u H locs hw hP hD hS => ?_)
          obtain ⟨y2, rfl⟩ : ∃ z, z = r := ⟨_, rfl⟩
          have q3_0 := hw
          have q3_0 : y2.toInt = (zPop v1_0).toInt := q3_0
          have hP : va_P g.1 vwCl [(h0, .inr (0, [.ref h1, .int f0, .ref h2, .int f1, .ref h3, .ref h4, .ref h5, .ref h6, .ref h7, .ref h8, .int f2])), (h2, .inl (zI g, 6, .inl Z1))] H := hP
          have hD : va_D A [(h0, .inr (0, [.ref h1, .int f0, .ref h2, .int f1, .ref h3, .ref h4, .ref h5, .ref h6, .ref h7, .ref h8, .int f2])), (h2, .inl (zI g, 6, .inl Z1))] := hD
          have hz : (zPop v1_0).toInt = zC5 (zKs Z1 f0.toInt.toNat) := zPop_S (zKs_01 _) (by omega)
          have hP9 := hP.sub (ws' := [(h0, .inr (0, [.ref h1, .int f0, .ref h2, .int f1, .ref h3, .ref h4, .ref h5, .ref h6, .ref h7, .ref h8, .int f2])), (h2, .inl (zI g, 6, .inl Z1))]) [0, 1] rfl
          have hD9 := hD.sub (ws' := [(h0, .inr (0, [.ref h1, .int f0, .ref h2, .int f1, .ref h3, .ref h4, .ref h5, .ref h6, .ref h7, .ref h8, .int f2])), (h2, .inl (zI g, 6, .inl Z1))]) [0, 1] (by decide) rfl
          exact W.iret (v := y2) hx hb hr (fun t ht hW => ⟨⟨y2, (0 : Nat), rfl, (by first | omega | decide), by rw [ht]; exact hP9, hD9⟩, hS.F ht⟩) hS.2.2 dX0_countKinds_39
        · have i_2 : v2_0.toInt < f0.toInt := z_nle (rfl) (rfl) c_2
          refine lv_iload_n hx hb dX0_countKinds_18 rfl (lv_at hl 1 rfl) ?_
          refine lv_iconst (v := 1) hx hb dX0_countKinds_19 (by decide) ?_
          refine lv_aload_n hx hb dX0_countKinds_20 rfl (lv_at hl 0 rfl) ?_
          refine va_get (D := g.1) (ci := 0) (v := .ref h2) (C := RX0) (T := TX0) (N := 11) hx hb hts zl_X0 hown hK hP 0 rfl rfl 2 (by decide) (hts _ m_f_RX0_27) (fun _ h => h) rfl dX0_countKinds_21 ?_
          refine lv_iload_n hx hb dX0_countKinds_24 rfl (lv_at hl 2 rfl) ?_
          refine va_iald (D := g.1) hx hb hK hP 1 0 rfl rfl (vp_in_iff.mpr ⟨by omega, by omega⟩) dX0_countKinds_25 ?_
          refine lv_topi (fun y4 ey4 => ?_)
          have qy4_0 : 0 ≤ y4.toInt := (iKd_at (i := v2_0) (a := v2_0.toInt) hF_Z1 (rfl) (by omega) (by omega) ey4).1
          have qy4_1 : y4.toInt ≤ 3 := (iKd_at (i := v2_0) (a := v2_0.toInt) hF_Z1 (rfl) (by omega) (by omega) ey4).2
          have qy4_2 : y4.toInt = (Z1 v2_0.toNatClampNeg).toInt := congrArg Int32.toInt ey4
          have py4_0 : y4.toInt = (Z1 v2_0.toInt.toNat).toInt := congrArg Int32.toInt ey4
          refine lv_ishl hx hb dX0_countKinds_26 ?_
          refine lv_topi (fun y5 ey5 => ?_)
          have qy5_0 : 1 ≤ y5.toInt := (zi_shl 3 ey5 (rfl) (by omega) (by omega) (by decide)).1
          have qy5_1 : y5.toInt ≤ 8 := (zi_shl 3 ey5 (rfl) (by omega) (by omega) (by decide)).2
          refine lv_ior hx hb dX0_countKinds_27 ?_
          refine lv_topi (fun y6 ey6 => ?_)
          have qy6_0 : v1_0.toInt ≤ y6.toInt := (zi_or ey6 (rfl) (rfl) (by omega) (by omega) (by omega) (by omega)).1
          have qy6_1 : y5.toInt ≤ y6.toInt := (zi_or ey6 (rfl) (rfl) (by omega) (by omega) (by omega) (by omega)).2.1
          have qy6_2 : y6.toInt ≤ 31 := (zi_or ey6 (rfl) (rfl) (by omega) (by omega) (by omega) (by omega)).2.2
          have py6_0 : y6.toInt = zS5 (zKs Z1 (v2_0.toInt.toNat + 1)) := zKs_or ey6 ey5 (by omega) (by omega) (by omega) (by omega)
          refine lv_istore_n (lv' := [(1, .int y6), (0, .ref h0), (2, .int v2_0)]) hx hb dX0_countKinds_28 rfl hl (by decide) rfl (fun ls hl => ?_)
          obtain ⟨y7, ey7⟩ : ∃ z : Int32, z = v2_0 + 1 := ⟨_, rfl⟩
          have qy7 : y7.toInt = v2_0.toInt + 1 := zi_add ey7 (rfl) rfl (by omega) (by omega)
          refine lv_iinc (v := y7) (lv' := [(2, .int y7), (1, .int y6), (0, .ref h0)]) hx hb dX0_countKinds_29 hl (k := 2) rfl ey7.symm (by decide) rfl (fun ls hl => ?_)
          have hkb : zS5 (zKs Z1 y7.toInt.toNat) = zS5 (zKs Z1 (v2_0.toInt.toNat + 1)) := by rw [(by omega : y7.toInt.toNat = v2_0.toInt.toNat + 1)]
          refine lv_goto (tgt := 4) hx hb dX0_countKinds_32 (by decide) ?_
          exact ih1 y6 y7 (by omega) (by omega) (by omega) (by omega) (by omega) (by omega) (by omega) _ _ hP hD hS ls (lv_sub hl [2, 1, 0] rfl)
  have : (0 : Int32).toInt = 0 := rfl
  exact loop4_0 ((6 - 0 : Int).toNat + 1) (0 : Int32) (0 : Int32) (by omega) (by omega) (by omega) (by omega) (by omega) (by omega) (by omega) _ _ hP hD hS ls (lv_sub hl [2, 1, 0] rfl)
set_option maxHeartbeats 8000000 in
set_option maxRecDepth 100000 in
theorem gX4_count (l : Launch) (g : zG) (h0 h1 h2 h3 h4 h5 h6 h7 h8 h9 h10 h11 h12 h13 h14 h15 h16 h17 h18 : Nat) (sz : Nat) (p1 : Int32) (f0 : Int32) (f1 : Int32) (f2 : Int32) (f3 : Int32) (f4 : Int32) (Z5 : Nat → Int32) (Z6 : Nat → Int32) (Z7 : Nat → Int32) (Z8 : Nat → Int32) (Z9 : Nat → Int32) (Z10 : Nat → Int32) (hf_f2 : 0 ≤ f2.toInt ∧ f2.toInt ≤ 6) (hf_f3 : 0 ≤ f3.toInt ∧ f3.toInt ≤ 5) (hf_f4 : 0 ≤ f4.toInt ∧ f4.toInt ≤ 9999) (hF_Z5 : iLaw Z5) (hF_Z6 : iKd Z6) (hF_Z7 : iSo Z7) (hF_Z8 : iPu Z8) (hF_Z9 : iMa Z9) (hF_Z10 : iWo Z10) : Met l yX4_count (.code yX4_count cX4_count 2 (some .int) :: zBig) ({ frames := 2, cells := 0, slots := 0, locals := 42 }) (va_Pc [.ref h0, .int p1] (zPre g [(h0, .inr (4, [.ref h1, .ref h2, .int f0, .ref h3, .ref h4, .ref h5, .ref h6, .int f1, .ref h7, .ref h8, .ref h9, .ref h10])), (h1, .inr (0, [.ref h11, .int f2, .ref h12, .int f3, .ref h13, .ref h14, .ref h15, .ref h16, .ref h17, .ref h18, .int f4])), (h11, .inl (zI g, 5, .inl Z5)), (h12, .inl (zI g, 6, .inl Z6)), (h13, .inl (zI g, 5, .inl Z7)), (h14, .inl (zI g, 5, .inl Z8)), (h15, .inl (zI g, 5, .inl Z9)), (h16, .inl (zI g, 20, .inl Z10))] sz)) (va_Qi (fun (r : Int32) (u : Nat) => r.toInt = zAcnt f2.toInt f3.toInt f4.toInt Z8 Z6 p1.toInt) (zPost g (fun u : Nat => [(h0, .inr (4, [.ref h1, .ref h2, .int f0, .ref h3, .ref h4, .ref h5, .ref h6, .int f1, .ref h7, .ref h8, .ref h9, .ref h10])), (h1, .inr (0, [.ref h11, .int f2, .ref h12, .int f3, .ref h13, .ref h14, .ref h15, .ref h16, .ref h17, .ref h18, .int f4])), (h11, .inl (zI g, 5, .inl Z5)), (h12, .inl (zI g, 6, .inl Z6)), (h13, .inl (zI g, 5, .inl Z7)), (h14, .inl (zI g, 5, .inl Z8)), (h15, .inl (zI g, 5, .inl Z9)), (h16, .inl (zI g, 20, .inl Z10))]) (va_A [(h0, .inr (4, [.ref h1, .ref h2, .int f0, .ref h3, .ref h4, .ref h5, .ref h6, .int f1, .ref h7, .ref h8, .ref h9, .ref h10])), (h1, .inr (0, [.ref h11, .int f2, .ref h12, .int f3, .ref h13, .ref h14, .ref h15, .ref h16, .ref h17, .ref h18, .int f4])), (h11, .inl (zI g, 5, .inl Z5)), (h12, .inl (zI g, 6, .inl Z6)), (h13, .inl (zI g, 5, .inl Z7)), (h14, .inl (zI g, 5, .inl Z8)), (h15, .inl (zI g, 5, .inl Z9)), (h16, .inl (zI g, 20, .inl Z10))] sz)) (va_A [(h0, .inr (4, [.ref h1, .ref h2, .int f0, .ref h3, .ref h4, .ref h5, .ref h6, .int f1, .ref h7, .ref h8, .ref h9, .ref h10])), (h1, .inr (0, [.ref h11, .int f2, .ref h12, .int f3, .ref h13, .ref h14, .ref h15, .ref h16, .ref h17, .ref h18, .int f4])), (h11, .inl (zI g, 5, .inl Z5)), (h12, .inl (zI g, 6, .inl Z6)), (h13, .inl (zI g, 5, .inl Z7)), (h14, .inl (zI g, 5, .inl Z8)), (h15, .inl (zI g, 5, .inl Z9)), (h16, .inl (zI g, 20, .inl Z10))] sz)) 0 0 (va_A [(h0, .inr (4, [.ref h1, .ref h2, .int f0, .ref h3, .ref h4, .ref h5, .ref h6, .int f1, .ref h7, .ref h8, .ref h9, .ref h10])), (h1, .inr (0, [.ref h11, .int f2, .ref h12, .int f3, .ref h13, .ref h14, .ref h15, .ref h16, .ref h17, .ref h18, .int f4])), (h11, .inl (zI g, 5, .inl Z5)), (h12, .inl (zI g, 6, .inl Z6)), (h13, .inl (zI g, 5, .inl Z7)), (h14, .inl (zI g, 5, .inl Z8)), (h15, .inl (zI g, 5, .inl Z9)), (h16, .inl (zI g, 20, .inl Z10))] sz) := by
  refine zMetI rfl (Nat.le_of_ble_eq_true rfl) ?_
  intro p e s m args below meth c A ls hx hb hml hr hlocks hin hown hts hK hN hZ hP hD hA hS hAe hl
  have hown : s.vm.findClass RX4 = some m.cls := hown
  have hl : lv_has ls 2 [(0, .ref h0), (1, .int p1)] := hl
  refine lv_iload_n hx hb dX4_count_0 rfl (lv_at hl 1 rfl) ?_
  by_cases j_0 : p1 = 0
  · have i_0 : p1.toInt = 0 := by rw [j_0]; rfl
    subst j_0
    refine lv_tableIn (x := 0) (off := 35) (tgt := 36) hx hb dX4_count_1 (by decide) (by decide) rfl (by decide) ?_
    refine lv_aload_n hx hb dX4_count_36 rfl (lv_at hl 0 rfl) ?_
    refine va_get (D := g.1) (ci := 4) (v := .ref h1) (C := RX4) (T := TX4) (N := 12) hx hb hts zl_X4 hown hK hP 0 rfl rfl 0 (by decide) (hts _ m_f_RX4_10) (fun _ h => h) rfl dX4_count_37 ?_
    refine va_getN (D := g.1) (ci := 0) (v := .int f2) (C := RX0) (T := TX0) (N := 11) hx hb hts zl_X0 hown hK hP 1 rfl rfl 1 (by decide) (hN.f 4 (q := (RX4, 122, "FishSteps$Books", "lots", "I")) rfl) (fun _ h => h) rfl dX4_count_40 ?_
    have hz : zAcnt f2.toInt f3.toInt f4.toInt Z8 Z6 (Int32.toInt 0) = f2.toInt := by
      unfold zAcnt
      rw [if_pos (by first | omega | decide)] <;> omega
    have hP9 := hP.sub (ws' := [(h0, .inr (4, [.ref h1, .ref h2, .int f0, .ref h3, .ref h4, .ref h5, .ref h6, .int f1, .ref h7, .ref h8, .ref h9, .ref h10])), (h1, .inr (0, [.ref h11, .int f2, .ref h12, .int f3, .ref h13, .ref h14, .ref h15, .ref h16, .ref h17, .ref h18, .int f4])), (h11, .inl (zI g, 5, .inl Z5)), (h12, .inl (zI g, 6, .inl Z6)), (h13, .inl (zI g, 5, .inl Z7)), (h14, .inl (zI g, 5, .inl Z8)), (h15, .inl (zI g, 5, .inl Z9)), (h16, .inl (zI g, 20, .inl Z10))]) [0, 1, 2, 3, 4, 5, 6, 7] rfl
    have hD9 := hD.sub (ws' := [(h0, .inr (4, [.ref h1, .ref h2, .int f0, .ref h3, .ref h4, .ref h5, .ref h6, .int f1, .ref h7, .ref h8, .ref h9, .ref h10])), (h1, .inr (0, [.ref h11, .int f2, .ref h12, .int f3, .ref h13, .ref h14, .ref h15, .ref h16, .ref h17, .ref h18, .int f4])), (h11, .inl (zI g, 5, .inl Z5)), (h12, .inl (zI g, 6, .inl Z6)), (h13, .inl (zI g, 5, .inl Z7)), (h14, .inl (zI g, 5, .inl Z8)), (h15, .inl (zI g, 5, .inl Z9)), (h16, .inl (zI g, 20, .inl Z10))]) [0, 1, 2, 3, 4, 5, 6, 7] (by decide) rfl
    exact W.iret (v := f2) hx hb hr (fun t ht hW => ⟨⟨f2, (0 : Nat), rfl, (by first | omega | decide), by rw [ht]; exact hP9, hD9⟩, hS.F ht⟩) hS.2.2 dX4_count_43
  have i_0 : p1.toInt ≠ 0 := fun h => j_0 (Int32.toInt_inj.mp (h.trans rfl))
  by_cases j_1 : p1 = 1
  · have i_1 : p1.toInt = 1 := by rw [j_1]; rfl
    subst j_1
    refine lv_tableIn (x := 1) (off := 43) (tgt := 44) hx hb dX4_count_1 (by decide) (by decide) rfl (by decide) ?_
    refine lv_aload_n hx hb dX4_count_44 rfl (lv_at hl 0 rfl) ?_
    refine va_get (D := g.1) (ci := 4) (v := .ref h1) (C := RX4) (T := TX4) (N := 12) hx hb hts zl_X4 hown hK hP 0 rfl rfl 0 (by decide) (hts _ m_f_RX4_10) (fun _ h => h) rfl dX4_count_45 ?_
    refine va_getN (D := g.1) (ci := 0) (v := .int f3) (C := RX0) (T := TX0) (N := 11) hx hb hts zl_X0 hown hK hP 1 rfl rfl 3 (by decide) (hN.f 7 (q := (RX4, 71, "FishSteps$Books", "buyers", "I")) rfl) (fun _ h => h) rfl dX4_count_48 ?_
    have hz : zAcnt f2.toInt f3.toInt f4.toInt Z8 Z6 (Int32.toInt 1) = f3.toInt := by
      unfold zAcnt
      rw [if_neg (by first | omega | decide), if_pos (by first | omega | decide)] <;> omega
    have hP9 := hP.sub (ws' := [(h0, .inr (4, [.ref h1, .ref h2, .int f0, .ref h3, .ref h4, .ref h5, .ref h6, .int f1, .ref h7, .ref h8, .ref h9, .ref h10])), (h1, .inr (0, [.ref h11, .int f2, .ref h12, .int f3, .ref h13, .ref h14, .ref h15, .ref h16, .ref h17, .ref h18, .int f4])), (h11, .inl (zI g, 5, .inl Z5)), (h12, .inl (zI g, 6, .inl Z6)), (h13, .inl (zI g, 5, .inl Z7)), (h14, .inl (zI g, 5, .inl Z8)), (h15, .inl (zI g, 5, .inl Z9)), (h16, .inl (zI g, 20, .inl Z10))]) [0, 1, 2, 3, 4, 5, 6, 7] rfl
    have hD9 := hD.sub (ws' := [(h0, .inr (4, [.ref h1, .ref h2, .int f0, .ref h3, .ref h4, .ref h5, .ref h6, .int f1, .ref h7, .ref h8, .ref h9, .ref h10])), (h1, .inr (0, [.ref h11, .int f2, .ref h12, .int f3, .ref h13, .ref h14, .ref h15, .ref h16, .ref h17, .ref h18, .int f4])), (h11, .inl (zI g, 5, .inl Z5)), (h12, .inl (zI g, 6, .inl Z6)), (h13, .inl (zI g, 5, .inl Z7)), (h14, .inl (zI g, 5, .inl Z8)), (h15, .inl (zI g, 5, .inl Z9)), (h16, .inl (zI g, 20, .inl Z10))]) [0, 1, 2, 3, 4, 5, 6, 7] (by decide) rfl
    exact W.iret (v := f3) hx hb hr (fun t ht hW => ⟨⟨f3, (0 : Nat), rfl, (by first | omega | decide), by rw [ht]; exact hP9, hD9⟩, hS.F ht⟩) hS.2.2 dX4_count_51
  have i_1 : p1.toInt ≠ 1 := fun h => j_1 (Int32.toInt_inj.mp (h.trans rfl))
  by_cases j_2 : p1 = 2
  · have i_2 : p1.toInt = 2 := by rw [j_2]; rfl
    subst j_2
    refine lv_tableIn (x := 2) (off := 51) (tgt := 52) hx hb dX4_count_1 (by decide) (by decide) rfl (by decide) ?_
    refine lv_aload_n hx hb dX4_count_52 rfl (lv_at hl 0 rfl) ?_
    refine va_get (D := g.1) (ci := 4) (v := .ref h1) (C := RX4) (T := TX4) (N := 12) hx hb hts zl_X4 hown hK hP 0 rfl rfl 0 (by decide) (hts _ m_f_RX4_10) (fun _ h => h) rfl dX4_count_53 ?_
    refine va_getN (D := g.1) (ci := 0) (v := .int f4) (C := RX0) (T := TX0) (N := 11) hx hb hts zl_X0 hown hK hP 1 rfl rfl 10 (by decide) (hN.f 18 (q := (RX4, 125, "FishSteps$Books", "held", "I")) rfl) (fun _ h => h) rfl dX4_count_56 ?_
    have hz : zAcnt f2.toInt f3.toInt f4.toInt Z8 Z6 (Int32.toInt 2) = f4.toInt := by
      unfold zAcnt
      rw [if_neg (by first | omega | decide), if_neg (by first | omega | decide), if_pos (by first | omega | decide)] <;> omega
    have hP9 := hP.sub (ws' := [(h0, .inr (4, [.ref h1, .ref h2, .int f0, .ref h3, .ref h4, .ref h5, .ref h6, .int f1, .ref h7, .ref h8, .ref h9, .ref h10])), (h1, .inr (0, [.ref h11, .int f2, .ref h12, .int f3, .ref h13, .ref h14, .ref h15, .ref h16, .ref h17, .ref h18, .int f4])), (h11, .inl (zI g, 5, .inl Z5)), (h12, .inl (zI g, 6, .inl Z6)), (h13, .inl (zI g, 5, .inl Z7)), (h14, .inl (zI g, 5, .inl Z8)), (h15, .inl (zI g, 5, .inl Z9)), (h16, .inl (zI g, 20, .inl Z10))]) [0, 1, 2, 3, 4, 5, 6, 7] rfl
    have hD9 := hD.sub (ws' := [(h0, .inr (4, [.ref h1, .ref h2, .int f0, .ref h3, .ref h4, .ref h5, .ref h6, .int f1, .ref h7, .ref h8, .ref h9, .ref h10])), (h1, .inr (0, [.ref h11, .int f2, .ref h12, .int f3, .ref h13, .ref h14, .ref h15, .ref h16, .ref h17, .ref h18, .int f4])), (h11, .inl (zI g, 5, .inl Z5)), (h12, .inl (zI g, 6, .inl Z6)), (h13, .inl (zI g, 5, .inl Z7)), (h14, .inl (zI g, 5, .inl Z8)), (h15, .inl (zI g, 5, .inl Z9)), (h16, .inl (zI g, 20, .inl Z10))]) [0, 1, 2, 3, 4, 5, 6, 7] (by decide) rfl
    exact W.iret (v := f4) hx hb hr (fun t ht hW => ⟨⟨f4, (0 : Nat), rfl, (by first | omega | decide), by rw [ht]; exact hP9, hD9⟩, hS.F ht⟩) hS.2.2 dX4_count_59
  have i_2 : p1.toInt ≠ 2 := fun h => j_2 (Int32.toInt_inj.mp (h.trans rfl))
  by_cases j_3 : p1 = 3
  · have i_3 : p1.toInt = 3 := by rw [j_3]; rfl
    subst j_3
    refine lv_tableIn (x := 3) (off := 59) (tgt := 60) hx hb dX4_count_1 (by decide) (by decide) rfl (by decide) ?_
    refine lv_aload_n hx hb dX4_count_60 rfl (lv_at hl 0 rfl) ?_
    refine va_get (D := g.1) (ci := 4) (v := .ref h1) (C := RX4) (T := TX4) (N := 12) hx hb hts zl_X4 hown hK hP 0 rfl rfl 0 (by decide) (hts _ m_f_RX4_10) (fun _ h => h) rfl dX4_count_61 ?_
    refine z_calli (wr := [(h0, .inr (4, [.ref h1, .ref h2, .int f0, .ref h3, .ref h4, .ref h5, .ref h6, .int f1, .ref h7, .ref h8, .ref h9, .ref h10])), (h11, .inl (zI g, 5, .inl Z5)), (h12, .inl (zI g, 6, .inl Z6)), (h13, .inl (zI g, 5, .inl Z7)), (h15, .inl (zI g, 5, .inl Z9)), (h16, .inl (zI g, 20, .inl Z10))]) hP hD hS hA [1, 5] [0, 2, 3, 4, 6, 7] (by decide) rfl rfl (by decide) (va_runVN (As := []) (rest := []) ⟨hx, hb, hml, hown, hts⟩ (gX0_countOwing l g h1 h11 h12 h13 h14 h15 h16 h17 h18 s.heap.size f2 f3 f4 Z8 (by constructor <;> omega) (by constructor <;> omega) (by constructor <;> omega) hF_Z8) ⟨va_cnB 0 hts (zGood m_o_yX0_countOwing) rfl rfl rfl (hN.m 12 (q := (RX4, 128, yX0_countOwing)) rfl) (hts _ m_z_RX0) ⟨by decide +kernel, by decide +kernel, by decide +kernel⟩ ⟨Nat.le_of_ble_eq_true rfl, Nat.le_of_ble_eq_true rfl⟩, hts _ m_i_yX0_countOwing, hts _ m_e_yX0_countOwing⟩ (zPreV hK hN hZ hP hD hS hA [1, 5] (by decide) rfl rfl 0 1 rfl rfl) rfl rfl hl.1 rfl (lv_room (Nat.le_of_ble_eq_true rfl)) dX4_count_64 ⟨Nat.le_of_ble_eq_true rfl, Nat.le_of_ble_eq_true rfl⟩) (fun r u H locs hw hP hD hS => ?_)
    obtain ⟨y0, rfl⟩ : ∃ z, z = r := ⟨_, rfl⟩
    obtain ⟨q1_0, q1_1, q1_2⟩ := hw
    have q1_0 : y0.toInt = zOw Z8 f3.toInt.toNat := q1_0
    have q1_1 : 0 ≤ y0.toInt := q1_1
    have q1_2 : y0.toInt ≤ 5 := q1_2
    have hP : va_P g.1 vwCl [(h0, .inr (4, [.ref h1, .ref h2, .int f0, .ref h3, .ref h4, .ref h5, .ref h6, .int f1, .ref h7, .ref h8, .ref h9, .ref h10])), (h11, .inl (zI g, 5, .inl Z5)), (h12, .inl (zI g, 6, .inl Z6)), (h13, .inl (zI g, 5, .inl Z7)), (h15, .inl (zI g, 5, .inl Z9)), (h16, .inl (zI g, 20, .inl Z10)), (h1, .inr (0, [.ref h11, .int f2, .ref h12, .int f3, .ref h13, .ref h14, .ref h15, .ref h16, .ref h17, .ref h18, .int f4])), (h14, .inl (zI g, 5, .inl Z8))] H := hP
    have hD : va_D A [(h0, .inr (4, [.ref h1, .ref h2, .int f0, .ref h3, .ref h4, .ref h5, .ref h6, .int f1, .ref h7, .ref h8, .ref h9, .ref h10])), (h11, .inl (zI g, 5, .inl Z5)), (h12, .inl (zI g, 6, .inl Z6)), (h13, .inl (zI g, 5, .inl Z7)), (h15, .inl (zI g, 5, .inl Z9)), (h16, .inl (zI g, 20, .inl Z10)), (h1, .inr (0, [.ref h11, .int f2, .ref h12, .int f3, .ref h13, .ref h14, .ref h15, .ref h16, .ref h17, .ref h18, .int f4])), (h14, .inl (zI g, 5, .inl Z8))] := hD
    have hz : zAcnt f2.toInt f3.toInt f4.toInt Z8 Z6 (Int32.toInt 3) = y0.toInt := by
      unfold zAcnt
      rw [if_neg (by first | omega | decide), if_neg (by first | omega | decide), if_neg (by first | omega | decide), if_pos (by first | omega | decide)] <;> omega
    have hP9 := hP.sub (ws' := [(h0, .inr (4, [.ref h1, .ref h2, .int f0, .ref h3, .ref h4, .ref h5, .ref h6, .int f1, .ref h7, .ref h8, .ref h9, .ref h10])), (h1, .inr (0, [.ref h11, .int f2, .ref h12, .int f3, .ref h13, .ref h14, .ref h15, .ref h16, .ref h17, .ref h18, .int f4])), (h11, .inl (zI g, 5, .inl Z5)), (h12, .inl (zI g, 6, .inl Z6)), (h13, .inl (zI g, 5, .inl Z7)), (h14, .inl (zI g, 5, .inl Z8)), (h15, .inl (zI g, 5, .inl Z9)), (h16, .inl (zI g, 20, .inl Z10))]) [0, 6, 1, 2, 3, 7, 4, 5] rfl
    have hD9 := hD.sub (ws' := [(h0, .inr (4, [.ref h1, .ref h2, .int f0, .ref h3, .ref h4, .ref h5, .ref h6, .int f1, .ref h7, .ref h8, .ref h9, .ref h10])), (h1, .inr (0, [.ref h11, .int f2, .ref h12, .int f3, .ref h13, .ref h14, .ref h15, .ref h16, .ref h17, .ref h18, .int f4])), (h11, .inl (zI g, 5, .inl Z5)), (h12, .inl (zI g, 6, .inl Z6)), (h13, .inl (zI g, 5, .inl Z7)), (h14, .inl (zI g, 5, .inl Z8)), (h15, .inl (zI g, 5, .inl Z9)), (h16, .inl (zI g, 20, .inl Z10))]) [0, 6, 1, 2, 3, 7, 4, 5] (by decide) rfl
    exact W.iret (v := y0) hx hb hr (fun t ht hW => ⟨⟨y0, (0 : Nat), rfl, (by first | omega | decide), by rw [ht]; exact hP9, hD9⟩, hS.F ht⟩) hS.2.2 dX4_count_67
  have i_3 : p1.toInt ≠ 3 := fun h => j_3 (Int32.toInt_inj.mp (h.trans rfl))
  by_cases j_4 : p1 = 4
  · have i_4 : p1.toInt = 4 := by rw [j_4]; rfl
    subst j_4
    refine lv_tableIn (x := 4) (off := 67) (tgt := 68) hx hb dX4_count_1 (by decide) (by decide) rfl (by decide) ?_
    refine lv_aload_n hx hb dX4_count_68 rfl (lv_at hl 0 rfl) ?_
    refine va_get (D := g.1) (ci := 4) (v := .ref h1) (C := RX4) (T := TX4) (N := 12) hx hb hts zl_X4 hown hK hP 0 rfl rfl 0 (by decide) (hts _ m_f_RX4_10) (fun _ h => h) rfl dX4_count_69 ?_
    refine z_calli (wr := [(h0, .inr (4, [.ref h1, .ref h2, .int f0, .ref h3, .ref h4, .ref h5, .ref h6, .int f1, .ref h7, .ref h8, .ref h9, .ref h10])), (h11, .inl (zI g, 5, .inl Z5)), (h13, .inl (zI g, 5, .inl Z7)), (h14, .inl (zI g, 5, .inl Z8)), (h15, .inl (zI g, 5, .inl Z9)), (h16, .inl (zI g, 20, .inl Z10))]) hP hD hS hA [1, 3] [0, 2, 4, 5, 6, 7] (by decide) rfl rfl (by decide) (va_runVN (As := []) (rest := []) ⟨hx, hb, hml, hown, hts⟩ (gX0_countKinds l g h1 h11 h12 h13 h14 h15 h16 h17 h18 s.heap.size f2 f3 f4 Z6 (by constructor <;> omega) (by constructor <;> omega) (by constructor <;> omega) hF_Z6) ⟨va_cnB 0 hts (zGood m_o_yX0_countKinds) rfl rfl rfl (hN.m 13 (q := (RX4, 132, yX0_countKinds)) rfl) (hts _ m_z_RX0) ⟨by decide +kernel, by decide +kernel, by decide +kernel⟩ ⟨Nat.le_of_ble_eq_true rfl, Nat.le_of_ble_eq_true rfl⟩, hts _ m_i_yX0_countKinds, hts _ m_e_yX0_countKinds⟩ (zPreV hK hN hZ hP hD hS hA [1, 3] (by decide) rfl rfl 0 1 rfl rfl) rfl rfl hl.1 rfl (lv_room (Nat.le_of_ble_eq_true rfl)) dX4_count_72 ⟨Nat.le_of_ble_eq_true rfl, Nat.le_of_ble_eq_true rfl⟩) (fun r u H locs hw hP hD hS => ?_)
    obtain ⟨y2, rfl⟩ : ∃ z, z = r := ⟨_, rfl⟩
    have q3_0 := hw
    have q3_0 : y2.toInt = zC5 (zKs Z6 f2.toInt.toNat) := q3_0
    have hP : va_P g.1 vwCl [(h0, .inr (4, [.ref h1, .ref h2, .int f0, .ref h3, .ref h4, .ref h5, .ref h6, .int f1, .ref h7, .ref h8, .ref h9, .ref h10])), (h11, .inl (zI g, 5, .inl Z5)), (h13, .inl (zI g, 5, .inl Z7)), (h14, .inl (zI g, 5, .inl Z8)), (h15, .inl (zI g, 5, .inl Z9)), (h16, .inl (zI g, 20, .inl Z10)), (h1, .inr (0, [.ref h11, .int f2, .ref h12, .int f3, .ref h13, .ref h14, .ref h15, .ref h16, .ref h17, .ref h18, .int f4])), (h12, .inl (zI g, 6, .inl Z6))] H := hP
    have hD : va_D A [(h0, .inr (4, [.ref h1, .ref h2, .int f0, .ref h3, .ref h4, .ref h5, .ref h6, .int f1, .ref h7, .ref h8, .ref h9, .ref h10])), (h11, .inl (zI g, 5, .inl Z5)), (h13, .inl (zI g, 5, .inl Z7)), (h14, .inl (zI g, 5, .inl Z8)), (h15, .inl (zI g, 5, .inl Z9)), (h16, .inl (zI g, 20, .inl Z10)), (h1, .inr (0, [.ref h11, .int f2, .ref h12, .int f3, .ref h13, .ref h14, .ref h15, .ref h16, .ref h17, .ref h18, .int f4])), (h12, .inl (zI g, 6, .inl Z6))] := hD
    have hz : zAcnt f2.toInt f3.toInt f4.toInt Z8 Z6 (Int32.toInt 4) = y2.toInt := by
      unfold zAcnt
      rw [if_neg (by first | omega | decide), if_neg (by first | omega | decide), if_neg (by first | omega | decide), if_neg (by first | omega | decide), if_pos (by first | omega | decide)] <;> omega
    have hP9 := hP.sub (ws' := [(h0, .inr (4, [.ref h1, .ref h2, .int f0, .ref h3, .ref h4, .ref h5, .ref h6, .int f1, .ref h7, .ref h8, .ref h9, .ref h10])), (h1, .inr (0, [.ref h11, .int f2, .ref h12, .int f3, .ref h13, .ref h14, .ref h15, .ref h16, .ref h17, .ref h18, .int f4])), (h11, .inl (zI g, 5, .inl Z5)), (h12, .inl (zI g, 6, .inl Z6)), (h13, .inl (zI g, 5, .inl Z7)), (h14, .inl (zI g, 5, .inl Z8)), (h15, .inl (zI g, 5, .inl Z9)), (h16, .inl (zI g, 20, .inl Z10))]) [0, 6, 1, 7, 2, 3, 4, 5] rfl
    have hD9 := hD.sub (ws' := [(h0, .inr (4, [.ref h1, .ref h2, .int f0, .ref h3, .ref h4, .ref h5, .ref h6, .int f1, .ref h7, .ref h8, .ref h9, .ref h10])), (h1, .inr (0, [.ref h11, .int f2, .ref h12, .int f3, .ref h13, .ref h14, .ref h15, .ref h16, .ref h17, .ref h18, .int f4])), (h11, .inl (zI g, 5, .inl Z5)), (h12, .inl (zI g, 6, .inl Z6)), (h13, .inl (zI g, 5, .inl Z7)), (h14, .inl (zI g, 5, .inl Z8)), (h15, .inl (zI g, 5, .inl Z9)), (h16, .inl (zI g, 20, .inl Z10))]) [0, 6, 1, 7, 2, 3, 4, 5] (by decide) rfl
    exact W.iret (v := y2) hx hb hr (fun t ht hW => ⟨⟨y2, (0 : Nat), rfl, (by first | omega | decide), by rw [ht]; exact hP9, hD9⟩, hS.F ht⟩) hS.2.2 dX4_count_75
  have i_4 : p1.toInt ≠ 4 := fun h => j_4 (Int32.toInt_inj.mp (h.trans rfl))
  refine lv_tableOut (x := p1) (tgt := 76) hx hb dX4_count_1 (by omega) (by decide) ?_
  refine lv_iconst (v := (-1)) hx hb dX4_count_76 (by decide) ?_
  have : ((-1) : Int32).toInt = (-1) := rfl
  have hz : zAcnt f2.toInt f3.toInt f4.toInt Z8 Z6 p1.toInt = (-1) := by
    unfold zAcnt
    rw [if_neg (by omega), if_neg (by omega), if_neg (by omega), if_neg (by omega), if_neg (by omega)]
  have hP9 := hP.sub (ws' := [(h0, .inr (4, [.ref h1, .ref h2, .int f0, .ref h3, .ref h4, .ref h5, .ref h6, .int f1, .ref h7, .ref h8, .ref h9, .ref h10])), (h1, .inr (0, [.ref h11, .int f2, .ref h12, .int f3, .ref h13, .ref h14, .ref h15, .ref h16, .ref h17, .ref h18, .int f4])), (h11, .inl (zI g, 5, .inl Z5)), (h12, .inl (zI g, 6, .inl Z6)), (h13, .inl (zI g, 5, .inl Z7)), (h14, .inl (zI g, 5, .inl Z8)), (h15, .inl (zI g, 5, .inl Z9)), (h16, .inl (zI g, 20, .inl Z10))]) [0, 1, 2, 3, 4, 5, 6, 7] rfl
  have hD9 := hD.sub (ws' := [(h0, .inr (4, [.ref h1, .ref h2, .int f0, .ref h3, .ref h4, .ref h5, .ref h6, .int f1, .ref h7, .ref h8, .ref h9, .ref h10])), (h1, .inr (0, [.ref h11, .int f2, .ref h12, .int f3, .ref h13, .ref h14, .ref h15, .ref h16, .ref h17, .ref h18, .int f4])), (h11, .inl (zI g, 5, .inl Z5)), (h12, .inl (zI g, 6, .inl Z6)), (h13, .inl (zI g, 5, .inl Z7)), (h14, .inl (zI g, 5, .inl Z8)), (h15, .inl (zI g, 5, .inl Z9)), (h16, .inl (zI g, 20, .inl Z10))]) [0, 1, 2, 3, 4, 5, 6, 7] (by decide) rfl
  exact W.iret (v := (-1)) hx hb hr (fun t ht hW => ⟨⟨(-1), (0 : Nat), rfl, (by first | omega | decide), by rw [ht]; exact hP9, hD9⟩, hS.F ht⟩) hS.2.2 dX4_count_77
set_option maxHeartbeats 8000000 in
set_option maxRecDepth 100000 in
theorem gX2_takeMargins (l : Launch) (g : zG) (h0 h1 h2 h3 h4 h5 h6 h7 h8 h9 h10 h11 h12 h13 h14 h15 h16 h17 h18 h19 : Nat) (sz : Nat) (f0 : Int32) (f1 : Int32) (f2 : Int32) (f3 : Int32) (f4 : Int32) (Z0 : Nat → Int32) (Z14 : Nat → Int32) (hf_f2 : 0 ≤ f2.toInt ∧ f2.toInt ≤ 6) (hf_f3 : 0 ≤ f3.toInt ∧ f3.toInt ≤ 5) (hf_f4 : 0 ≤ f4.toInt ∧ f4.toInt ≤ 9999) (hF_Z0 : iMa Z0) (hF_Z14 : iMa Z14) : Met l yX2_takeMargins (.code yX2_takeMargins cX2_takeMargins 2 none :: zBig) ({ frames := 1, cells := 0, slots := 0, locals := 60 }) (va_Pc [.ref h0, .ref h1] (zPre g [(h0, .inr (2, [.ref h2, .ref h3, .ref h4, .ref h5, .ref h6, .ref h7, .int f0, .int f1, .ref h8, .ref h9, .ref h10, .ref h11])), (h1, .inr (0, [.ref h12, .int f2, .ref h13, .int f3, .ref h14, .ref h15, .ref h16, .ref h17, .ref h18, .ref h19, .int f4])), (h2, .inl (zI g, 5, .inl Z0)), (h16, .inl (zI g, 5, .inl Z14))] sz)) (va_Qv (fun u : (Nat → Int32) => (True) ∧ iMa u ∧ u = va_cpy Z14 Z0 0 0 5) (zPost g (fun u : (Nat → Int32) => [(h0, .inr (2, [.ref h2, .ref h3, .ref h4, .ref h5, .ref h6, .ref h7, .int f0, .int f1, .ref h8, .ref h9, .ref h10, .ref h11])), (h1, .inr (0, [.ref h12, .int f2, .ref h13, .int f3, .ref h14, .ref h15, .ref h16, .ref h17, .ref h18, .ref h19, .int f4])), (h2, .inl (zI g, 5, .inl u)), (h16, .inl (zI g, 5, .inl Z14))]) (va_A [(h0, .inr (2, [.ref h2, .ref h3, .ref h4, .ref h5, .ref h6, .ref h7, .int f0, .int f1, .ref h8, .ref h9, .ref h10, .ref h11])), (h1, .inr (0, [.ref h12, .int f2, .ref h13, .int f3, .ref h14, .ref h15, .ref h16, .ref h17, .ref h18, .ref h19, .int f4])), (h2, .inl (zI g, 5, .inl Z0)), (h16, .inl (zI g, 5, .inl Z14))] sz)) (va_A [(h0, .inr (2, [.ref h2, .ref h3, .ref h4, .ref h5, .ref h6, .ref h7, .int f0, .int f1, .ref h8, .ref h9, .ref h10, .ref h11])), (h1, .inr (0, [.ref h12, .int f2, .ref h13, .int f3, .ref h14, .ref h15, .ref h16, .ref h17, .ref h18, .ref h19, .int f4])), (h2, .inl (zI g, 5, .inl Z0)), (h16, .inl (zI g, 5, .inl Z14))] sz)) 0 0 (va_A [(h0, .inr (2, [.ref h2, .ref h3, .ref h4, .ref h5, .ref h6, .ref h7, .int f0, .int f1, .ref h8, .ref h9, .ref h10, .ref h11])), (h1, .inr (0, [.ref h12, .int f2, .ref h13, .int f3, .ref h14, .ref h15, .ref h16, .ref h17, .ref h18, .ref h19, .int f4])), (h2, .inl (zI g, 5, .inl Z0)), (h16, .inl (zI g, 5, .inl Z14))] sz) := by
  refine zMetV rfl (Nat.le_of_ble_eq_true rfl) ?_
  intro p e s m args below meth c A ls hx hb hml hr hlocks hin hown hts hK hN hZ hP hD hA hS hAe hl
  have hown : s.vm.findClass RX2 = some m.cls := hown
  have hl : lv_has ls 2 [(0, .ref h0), (1, .ref h1)] := hl
  refine lv_aload_n hx hb dX2_takeMargins_0 rfl (lv_at hl 1 rfl) ?_
  refine va_getN (D := g.1) (ci := 0) (v := .ref h16) (C := RX0) (T := TX0) (N := 11) hx hb hts zl_X0 hown hK hP 1 rfl rfl 6 (by decide) (hN.f 13 (q := (RX2, 49, "FishSteps$Books", "margin", "[I")) rfl) (fun _ h => h) rfl dX2_takeMargins_1 ?_
  refine lv_iconst (v := 0) hx hb dX2_takeMargins_4 (by decide) ?_
  refine lv_aload_n hx hb dX2_takeMargins_5 rfl (lv_at hl 0 rfl) ?_
  refine va_get (D := g.1) (ci := 2) (v := .ref h2) (C := RX2) (T := TX2) (N := 12) hx hb hts zl_X2 hown hK hP 0 rfl rfl 0 (by decide) (hts _ m_f_RX2_9) (fun _ h => h) rfl dX2_takeMargins_6 ?_
  refine lv_iconst (v := 0) hx hb dX2_takeMargins_9 (by decide) ?_
  refine lv_iconst (v := 5) hx hb dX2_takeMargins_10 (by decide) ?_
  have : (0 : Int32).toInt = 0 := rfl
  have : (0 : Int32).toInt = 0 := rfl
  have : (5 : Int32).toInt = 5 := rfl
  refine va_copyi (D := g.1) (ty := .int) (sp := 0) (dp := 0) (n := 5) hx hb (hml.trans hl.1.symm) hown (hts _ m_m_RX2_52) (hts _ m_n_arraycopyName) (hts _ m_s_arraycopyName) (hts _ m_z_RJ10) hK hP hD hS 3 2 0 0 rfl rfl rfl rfl rfl (by decide) (by decide) (by decide) (by decide) (by decide) (fun _ _ => rfl) (Nat.le_of_ble_eq_true rfl) (Nat.le_of_ble_eq_true rfl) dX2_takeMargins_11 (fun H locs hP hD hS => ?_)
  have hP : va_P g.1 vwCl [(h0, .inr (2, [.ref h2, .ref h3, .ref h4, .ref h5, .ref h6, .ref h7, .int f0, .int f1, .ref h8, .ref h9, .ref h10, .ref h11])), (h1, .inr (0, [.ref h12, .int f2, .ref h13, .int f3, .ref h14, .ref h15, .ref h16, .ref h17, .ref h18, .ref h19, .int f4])), (h2, .inl (zI g, 5, .inl (va_cpy Z14 Z0 0 0 5))), (h16, .inl (zI g, 5, .inl Z14))] H := hP
  have hD : va_D A [(h0, .inr (2, [.ref h2, .ref h3, .ref h4, .ref h5, .ref h6, .ref h7, .int f0, .int f1, .ref h8, .ref h9, .ref h10, .ref h11])), (h1, .inr (0, [.ref h12, .int f2, .ref h13, .int f3, .ref h14, .ref h15, .ref h16, .ref h17, .ref h18, .ref h19, .int f4])), (h2, .inl (zI g, 5, .inl (va_cpy Z14 Z0 0 0 5))), (h16, .inl (zI g, 5, .inl Z14))] := hD
  obtain ⟨R0, eR0⟩ : ∃ z : Nat → Int32, z = (va_cpy Z14 Z0 0 0 5) := ⟨_, rfl⟩
  rw [← eR0] at hP hD
  have hI0 : iMa R0 := by rw [eR0]; exact iMa_cpy hF_Z14
  have hP9 := hP.sub (ws' := [(h0, .inr (2, [.ref h2, .ref h3, .ref h4, .ref h5, .ref h6, .ref h7, .int f0, .int f1, .ref h8, .ref h9, .ref h10, .ref h11])), (h1, .inr (0, [.ref h12, .int f2, .ref h13, .int f3, .ref h14, .ref h15, .ref h16, .ref h17, .ref h18, .ref h19, .int f4])), (h2, .inl (zI g, 5, .inl R0)), (h16, .inl (zI g, 5, .inl Z14))]) [0, 1, 2, 3] rfl
  have hD9 := hD.sub (ws' := [(h0, .inr (2, [.ref h2, .ref h3, .ref h4, .ref h5, .ref h6, .ref h7, .int f0, .int f1, .ref h8, .ref h9, .ref h10, .ref h11])), (h1, .inr (0, [.ref h12, .int f2, .ref h13, .int f3, .ref h14, .ref h15, .ref h16, .ref h17, .ref h18, .ref h19, .int f4])), (h2, .inl (zI g, 5, .inl R0)), (h16, .inl (zI g, 5, .inl Z14))]) [0, 1, 2, 3] (by decide) rfl
  exact W.vret hx hb hr (fun t ht hW => ⟨⟨R0, rfl, ⟨trivial, hI0, (by rw [eR0])⟩, by rw [ht]; exact hP9, hD9⟩, hS.F ht⟩) hS.2.2 dX2_takeMargins_14
set_option maxHeartbeats 8000000 in
set_option maxRecDepth 100000 in
theorem gX2_begin (l : Launch) (g : zG) (h0 h1 h2 h3 h4 h5 h6 h7 h8 h9 h10 h11 h12 h13 h14 h15 h16 h17 h18 h19 : Nat) (sz : Nat) (f0 : Int32) (f1 : Int32) (f2 : Int32) (f3 : Int32) (f4 : Int32) (Z1 : Nat → Int32) (Z2 : Nat → Int32) (Z3 : Nat → Int32) (Z13 : Nat → Int32) (hf_f2 : 0 ≤ f2.toInt ∧ f2.toInt ≤ 6) (hf_f3 : 0 ≤ f3.toInt ∧ f3.toInt ≤ 5) (hf_f4 : 0 ≤ f4.toInt ∧ f4.toInt ≤ 9999) (hF_Z1 : iPu Z1) (hF_Z2 : iHd Z2) (hF_Z3 : iGa Z3) (hF_Z13 : iPu Z13) : Met l yX2_begin (.code yX2_begin cX2_begin 2 none :: zBig) ({ frames := 1, cells := 0, slots := 0, locals := 60 }) (va_Pc [.ref h0, .ref h1] (zPre g [(h0, .inr (2, [.ref h2, .ref h3, .ref h4, .ref h5, .ref h6, .ref h7, .int f0, .int f1, .ref h8, .ref h9, .ref h10, .ref h11])), (h1, .inr (0, [.ref h12, .int f2, .ref h13, .int f3, .ref h14, .ref h15, .ref h16, .ref h17, .ref h18, .ref h19, .int f4])), (h3, .inl (zI g, 5, .inl Z1)), (h4, .inl (zI g, 5, .inl Z2)), (h5, .inl (zI g, 5, .inl Z3)), (h15, .inl (zI g, 5, .inl Z13))] sz)) (va_Qv (fun u : (Nat → Int32) × (Nat → Int32) × (Nat → Int32) => (True) ∧ iPu u.1 ∧ zHd0 u.2.1 ∧ zGa0 u.2.2 ∧ u.1 = va_cpy Z13 Z1 0 0 5) (zPost g (fun u : (Nat → Int32) × (Nat → Int32) × (Nat → Int32) => [(h0, .inr (2, [.ref h2, .ref h3, .ref h4, .ref h5, .ref h6, .ref h7, .int f0, .int f1, .ref h8, .ref h9, .ref h10, .ref h11])), (h1, .inr (0, [.ref h12, .int f2, .ref h13, .int f3, .ref h14, .ref h15, .ref h16, .ref h17, .ref h18, .ref h19, .int f4])), (h3, .inl (zI g, 5, .inl u.1)), (h4, .inl (zI g, 5, .inl u.2.1)), (h5, .inl (zI g, 5, .inl u.2.2)), (h15, .inl (zI g, 5, .inl Z13))]) (va_A [(h0, .inr (2, [.ref h2, .ref h3, .ref h4, .ref h5, .ref h6, .ref h7, .int f0, .int f1, .ref h8, .ref h9, .ref h10, .ref h11])), (h1, .inr (0, [.ref h12, .int f2, .ref h13, .int f3, .ref h14, .ref h15, .ref h16, .ref h17, .ref h18, .ref h19, .int f4])), (h3, .inl (zI g, 5, .inl Z1)), (h4, .inl (zI g, 5, .inl Z2)), (h5, .inl (zI g, 5, .inl Z3)), (h15, .inl (zI g, 5, .inl Z13))] sz)) (va_A [(h0, .inr (2, [.ref h2, .ref h3, .ref h4, .ref h5, .ref h6, .ref h7, .int f0, .int f1, .ref h8, .ref h9, .ref h10, .ref h11])), (h1, .inr (0, [.ref h12, .int f2, .ref h13, .int f3, .ref h14, .ref h15, .ref h16, .ref h17, .ref h18, .ref h19, .int f4])), (h3, .inl (zI g, 5, .inl Z1)), (h4, .inl (zI g, 5, .inl Z2)), (h5, .inl (zI g, 5, .inl Z3)), (h15, .inl (zI g, 5, .inl Z13))] sz)) 0 0 (va_A [(h0, .inr (2, [.ref h2, .ref h3, .ref h4, .ref h5, .ref h6, .ref h7, .int f0, .int f1, .ref h8, .ref h9, .ref h10, .ref h11])), (h1, .inr (0, [.ref h12, .int f2, .ref h13, .int f3, .ref h14, .ref h15, .ref h16, .ref h17, .ref h18, .ref h19, .int f4])), (h3, .inl (zI g, 5, .inl Z1)), (h4, .inl (zI g, 5, .inl Z2)), (h5, .inl (zI g, 5, .inl Z3)), (h15, .inl (zI g, 5, .inl Z13))] sz) := by
  refine zMetV rfl (Nat.le_of_ble_eq_true rfl) ?_
  intro p e s m args below meth c A ls hx hb hml hr hlocks hin hown hts hK hN hZ hP hD hA hS hAe hl
  have hown : s.vm.findClass RX2 = some m.cls := hown
  have hl : lv_has ls 2 [(0, .ref h0), (1, .ref h1)] := hl
  refine lv_aload_n hx hb dX2_begin_0 rfl (lv_at hl 1 rfl) ?_
  refine va_getN (D := g.1) (ci := 0) (v := .ref h15) (C := RX0) (T := TX0) (N := 11) hx hb hts zl_X0 hown hK hP 1 rfl rfl 5 (by decide) (hN.f 11 (q := (RX2, 58, "FishSteps$Books", "purse", "[I")) rfl) (fun _ h => h) rfl dX2_begin_1 ?_
  refine lv_iconst (v := 0) hx hb dX2_begin_4 (by decide) ?_
  refine lv_aload_n hx hb dX2_begin_5 rfl (lv_at hl 0 rfl) ?_
  refine va_get (D := g.1) (ci := 2) (v := .ref h3) (C := RX2) (T := TX2) (N := 12) hx hb hts zl_X2 hown hK hP 0 rfl rfl 1 (by decide) (hts _ m_f_RX2_15) (fun _ h => h) rfl dX2_begin_6 ?_
  refine lv_iconst (v := 0) hx hb dX2_begin_9 (by decide) ?_
  refine lv_iconst (v := 5) hx hb dX2_begin_10 (by decide) ?_
  have : (0 : Int32).toInt = 0 := rfl
  have : (0 : Int32).toInt = 0 := rfl
  have : (5 : Int32).toInt = 5 := rfl
  refine va_copyi (D := g.1) (ty := .int) (sp := 0) (dp := 0) (n := 5) hx hb (hml.trans hl.1.symm) hown (hts _ m_m_RX2_52) (hts _ m_n_arraycopyName) (hts _ m_s_arraycopyName) (hts _ m_z_RJ10) hK hP hD hS 5 2 0 0 rfl rfl rfl rfl rfl (by decide) (by decide) (by decide) (by decide) (by decide) (fun _ _ => rfl) (Nat.le_of_ble_eq_true rfl) (Nat.le_of_ble_eq_true rfl) dX2_begin_11 (fun H locs hP hD hS => ?_)
  have hP : va_P g.1 vwCl [(h0, .inr (2, [.ref h2, .ref h3, .ref h4, .ref h5, .ref h6, .ref h7, .int f0, .int f1, .ref h8, .ref h9, .ref h10, .ref h11])), (h1, .inr (0, [.ref h12, .int f2, .ref h13, .int f3, .ref h14, .ref h15, .ref h16, .ref h17, .ref h18, .ref h19, .int f4])), (h3, .inl (zI g, 5, .inl (va_cpy Z13 Z1 0 0 5))), (h4, .inl (zI g, 5, .inl Z2)), (h5, .inl (zI g, 5, .inl Z3)), (h15, .inl (zI g, 5, .inl Z13))] H := hP
  have hD : va_D A [(h0, .inr (2, [.ref h2, .ref h3, .ref h4, .ref h5, .ref h6, .ref h7, .int f0, .int f1, .ref h8, .ref h9, .ref h10, .ref h11])), (h1, .inr (0, [.ref h12, .int f2, .ref h13, .int f3, .ref h14, .ref h15, .ref h16, .ref h17, .ref h18, .ref h19, .int f4])), (h3, .inl (zI g, 5, .inl (va_cpy Z13 Z1 0 0 5))), (h4, .inl (zI g, 5, .inl Z2)), (h5, .inl (zI g, 5, .inl Z3)), (h15, .inl (zI g, 5, .inl Z13))] := hD
  obtain ⟨R0, eR0⟩ : ∃ z : Nat → Int32, z = (va_cpy Z13 Z1 0 0 5) := ⟨_, rfl⟩
  rw [← eR0] at hP hD
  have hI0 : iPu R0 := by rw [eR0]; exact iPu_cpy hF_Z13
  refine lv_aload_n hx hb dX2_begin_14 rfl (lv_at hl 0 rfl) ?_
  refine va_get (D := g.1) (ci := 2) (v := .ref h4) (C := RX2) (T := TX2) (N := 12) hx hb hts zl_X2 hown hK hP 0 rfl rfl 2 (by decide) (hts _ m_f_RX2_18) (fun _ h => h) rfl dX2_begin_15 ?_
  refine lv_iconst (v := 0) hx hb dX2_begin_18 (by decide) ?_
  refine z_callv (wr := [(h0, .inr (2, [.ref h2, .ref h3, .ref h4, .ref h5, .ref h6, .ref h7, .int f0, .int f1, .ref h8, .ref h9, .ref h10, .ref h11])), (h1, .inr (0, [.ref h12, .int f2, .ref h13, .int f3, .ref h14, .ref h15, .ref h16, .ref h17, .ref h18, .ref h19, .int f4])), (h3, .inl (zI g, 5, .inl R0)), (h5, .inl (zI g, 5, .inl Z3)), (h15, .inl (zI g, 5, .inl Z13))]) hP hD hS hA [3] [0, 1, 2, 4, 5] (by decide) rfl rfl (by decide) (va_runS (As := [.ref h4, .int 0]) (rest := []) ⟨hx, hb, hml, hown, hts⟩ (gJ7_fill_53178_n5 l g h4 H.size (0 : Int32) Z2) ⟨callB_of 2 hts (zGood m_o_yJ7_fill_53178) rfl rfl rfl (hts _ m_z_RJ7) (hts _ m_m_RX2_59) ⟨by decide +kernel, by decide +kernel, by decide +kernel⟩ ⟨Nat.le_of_ble_eq_true rfl, Nat.le_of_ble_eq_true rfl⟩, hts _ m_s_yJ7_fill_53178⟩ (zPreS hK hN hZ hP hD hS hA [3] (by decide) rfl rfl) rfl rfl hl.1 rfl (lv_room (Nat.le_of_ble_eq_true rfl)) dX2_begin_19 ⟨Nat.le_of_ble_eq_true rfl, Nat.le_of_ble_eq_true rfl⟩) (fun u H locs hw hP hD hS => ?_)
  obtain ⟨R1, rfl⟩ : ∃ z, z = u := ⟨_, rfl⟩
  obtain ⟨hw, hI2⟩ := hw
  have hP : va_P g.1 vwCl [(h0, .inr (2, [.ref h2, .ref h3, .ref h4, .ref h5, .ref h6, .ref h7, .int f0, .int f1, .ref h8, .ref h9, .ref h10, .ref h11])), (h1, .inr (0, [.ref h12, .int f2, .ref h13, .int f3, .ref h14, .ref h15, .ref h16, .ref h17, .ref h18, .ref h19, .int f4])), (h3, .inl (zI g, 5, .inl R0)), (h5, .inl (zI g, 5, .inl Z3)), (h15, .inl (zI g, 5, .inl Z13)), (h4, .inl (zI g, 5, .inl R1))] H := hP
  have hD : va_D A [(h0, .inr (2, [.ref h2, .ref h3, .ref h4, .ref h5, .ref h6, .ref h7, .int f0, .int f1, .ref h8, .ref h9, .ref h10, .ref h11])), (h1, .inr (0, [.ref h12, .int f2, .ref h13, .int f3, .ref h14, .ref h15, .ref h16, .ref h17, .ref h18, .ref h19, .int f4])), (h3, .inl (zI g, 5, .inl R0)), (h5, .inl (zI g, 5, .inl Z3)), (h15, .inl (zI g, 5, .inl Z13)), (h4, .inl (zI g, 5, .inl R1))] := hD
  have hI3 : zHd0 R1 := ⟨i_fil (N := 5) hI2 (by decide) (by decide), hI2⟩
  refine lv_aload_n hx hb dX2_begin_22 rfl (lv_at hl 0 rfl) ?_
  refine va_get (D := g.1) (ci := 2) (v := .ref h5) (C := RX2) (T := TX2) (N := 12) hx hb hts zl_X2 hown hK hP 0 rfl rfl 3 (by decide) (hts _ m_f_RX2_21) (fun _ h => h) rfl dX2_begin_23 ?_
  refine lv_iconst (v := 0) hx hb dX2_begin_26 (by decide) ?_
  refine z_callv (wr := [(h0, .inr (2, [.ref h2, .ref h3, .ref h4, .ref h5, .ref h6, .ref h7, .int f0, .int f1, .ref h8, .ref h9, .ref h10, .ref h11])), (h1, .inr (0, [.ref h12, .int f2, .ref h13, .int f3, .ref h14, .ref h15, .ref h16, .ref h17, .ref h18, .ref h19, .int f4])), (h3, .inl (zI g, 5, .inl R0)), (h15, .inl (zI g, 5, .inl Z13)), (h4, .inl (zI g, 5, .inl R1))]) hP hD hS hA [3] [0, 1, 2, 4, 5] (by decide) rfl rfl (by decide) (va_runS (As := [.ref h5, .int 0]) (rest := []) ⟨hx, hb, hml, hown, hts⟩ (gJ7_fill_53178_n5 l g h5 H.size (0 : Int32) Z3) ⟨callB_of 2 hts (zGood m_o_yJ7_fill_53178) rfl rfl rfl (hts _ m_z_RJ7) (hts _ m_m_RX2_59) ⟨by decide +kernel, by decide +kernel, by decide +kernel⟩ ⟨Nat.le_of_ble_eq_true rfl, Nat.le_of_ble_eq_true rfl⟩, hts _ m_s_yJ7_fill_53178⟩ (zPreS hK hN hZ hP hD hS hA [3] (by decide) rfl rfl) rfl rfl hl.1 rfl (lv_room (Nat.le_of_ble_eq_true rfl)) dX2_begin_27 ⟨Nat.le_of_ble_eq_true rfl, Nat.le_of_ble_eq_true rfl⟩) (fun u H locs hw hP hD hS => ?_)
  obtain ⟨R4, rfl⟩ : ∃ z, z = u := ⟨_, rfl⟩
  obtain ⟨hw, hI5⟩ := hw
  have hP : va_P g.1 vwCl [(h0, .inr (2, [.ref h2, .ref h3, .ref h4, .ref h5, .ref h6, .ref h7, .int f0, .int f1, .ref h8, .ref h9, .ref h10, .ref h11])), (h1, .inr (0, [.ref h12, .int f2, .ref h13, .int f3, .ref h14, .ref h15, .ref h16, .ref h17, .ref h18, .ref h19, .int f4])), (h3, .inl (zI g, 5, .inl R0)), (h15, .inl (zI g, 5, .inl Z13)), (h4, .inl (zI g, 5, .inl R1)), (h5, .inl (zI g, 5, .inl R4))] H := hP
  have hD : va_D A [(h0, .inr (2, [.ref h2, .ref h3, .ref h4, .ref h5, .ref h6, .ref h7, .int f0, .int f1, .ref h8, .ref h9, .ref h10, .ref h11])), (h1, .inr (0, [.ref h12, .int f2, .ref h13, .int f3, .ref h14, .ref h15, .ref h16, .ref h17, .ref h18, .ref h19, .int f4])), (h3, .inl (zI g, 5, .inl R0)), (h15, .inl (zI g, 5, .inl Z13)), (h4, .inl (zI g, 5, .inl R1)), (h5, .inl (zI g, 5, .inl R4))] := hD
  have hI6 : zGa0 R4 := ⟨i_fil (N := 5) hI5 (by decide) (by decide), hI5⟩
  have hP9 := hP.sub (ws' := [(h0, .inr (2, [.ref h2, .ref h3, .ref h4, .ref h5, .ref h6, .ref h7, .int f0, .int f1, .ref h8, .ref h9, .ref h10, .ref h11])), (h1, .inr (0, [.ref h12, .int f2, .ref h13, .int f3, .ref h14, .ref h15, .ref h16, .ref h17, .ref h18, .ref h19, .int f4])), (h3, .inl (zI g, 5, .inl R0)), (h4, .inl (zI g, 5, .inl R1)), (h5, .inl (zI g, 5, .inl R4)), (h15, .inl (zI g, 5, .inl Z13))]) [0, 1, 2, 4, 5, 3] rfl
  have hD9 := hD.sub (ws' := [(h0, .inr (2, [.ref h2, .ref h3, .ref h4, .ref h5, .ref h6, .ref h7, .int f0, .int f1, .ref h8, .ref h9, .ref h10, .ref h11])), (h1, .inr (0, [.ref h12, .int f2, .ref h13, .int f3, .ref h14, .ref h15, .ref h16, .ref h17, .ref h18, .ref h19, .int f4])), (h3, .inl (zI g, 5, .inl R0)), (h4, .inl (zI g, 5, .inl R1)), (h5, .inl (zI g, 5, .inl R4)), (h15, .inl (zI g, 5, .inl Z13))]) [0, 1, 2, 4, 5, 3] (by decide) rfl
  exact W.vret hx hb hr (fun t ht hW => ⟨⟨⟨R0, R1, R4⟩, rfl, ⟨trivial, hI0, hI3, hI6, (by rw [eR0])⟩, by rw [ht]; exact hP9, hD9⟩, hS.F ht⟩) hS.2.2 dX2_begin_30
set_option maxHeartbeats 8000000 in
set_option maxRecDepth 100000 in
theorem gX2_charge (l : Launch) (g : zG) (h0 h1 h2 h3 h4 h5 h6 h7 h8 h9 h10 h11 h12 h13 h14 h15 h16 h17 h18 h19 : Nat) (sz : Nat) (p2 : Int32) (f0 : Int32) (f1 : Int32) (f2 : Int32) (f3 : Int32) (f4 : Int32) (Z0 : Nat → Int32) (Z12 : Nat → Int32) (hp0 : 0 ≤ p2.toInt) (hp1 : p2.toInt ≤ 4) (hf_f2 : 0 ≤ f2.toInt ∧ f2.toInt ≤ 6) (hf_f3 : 0 ≤ f3.toInt ∧ f3.toInt ≤ 5) (hf_f4 : 0 ≤ f4.toInt ∧ f4.toInt ≤ 9999) (hF_Z0 : iMa Z0) (hF_Z12 : iSo Z12) : Met l yX2_charge (.code yX2_charge cX2_charge 3 (some .int) :: zBig) ({ frames := 0, cells := 0, slots := 0, locals := 0 }) (va_Pc [.ref h0, .ref h1, .int p2] (zPre g [(h0, .inr (2, [.ref h2, .ref h3, .ref h4, .ref h5, .ref h6, .ref h7, .int f0, .int f1, .ref h8, .ref h9, .ref h10, .ref h11])), (h1, .inr (0, [.ref h12, .int f2, .ref h13, .int f3, .ref h14, .ref h15, .ref h16, .ref h17, .ref h18, .ref h19, .int f4])), (h2, .inl (zI g, 5, .inl Z0)), (h14, .inl (zI g, 5, .inl Z12))] sz)) (va_Qi (fun (r : Int32) (u : Nat) => r.toInt = zCh Z12 (zIv Z0) p2.toNatClampNeg ∧ 0 ≤ r.toInt ∧ r.toInt ≤ 40) (zPost g (fun u : Nat => [(h0, .inr (2, [.ref h2, .ref h3, .ref h4, .ref h5, .ref h6, .ref h7, .int f0, .int f1, .ref h8, .ref h9, .ref h10, .ref h11])), (h1, .inr (0, [.ref h12, .int f2, .ref h13, .int f3, .ref h14, .ref h15, .ref h16, .ref h17, .ref h18, .ref h19, .int f4])), (h2, .inl (zI g, 5, .inl Z0)), (h14, .inl (zI g, 5, .inl Z12))]) (va_A [(h0, .inr (2, [.ref h2, .ref h3, .ref h4, .ref h5, .ref h6, .ref h7, .int f0, .int f1, .ref h8, .ref h9, .ref h10, .ref h11])), (h1, .inr (0, [.ref h12, .int f2, .ref h13, .int f3, .ref h14, .ref h15, .ref h16, .ref h17, .ref h18, .ref h19, .int f4])), (h2, .inl (zI g, 5, .inl Z0)), (h14, .inl (zI g, 5, .inl Z12))] sz)) (va_A [(h0, .inr (2, [.ref h2, .ref h3, .ref h4, .ref h5, .ref h6, .ref h7, .int f0, .int f1, .ref h8, .ref h9, .ref h10, .ref h11])), (h1, .inr (0, [.ref h12, .int f2, .ref h13, .int f3, .ref h14, .ref h15, .ref h16, .ref h17, .ref h18, .ref h19, .int f4])), (h2, .inl (zI g, 5, .inl Z0)), (h14, .inl (zI g, 5, .inl Z12))] sz)) 0 0 (va_A [(h0, .inr (2, [.ref h2, .ref h3, .ref h4, .ref h5, .ref h6, .ref h7, .int f0, .int f1, .ref h8, .ref h9, .ref h10, .ref h11])), (h1, .inr (0, [.ref h12, .int f2, .ref h13, .int f3, .ref h14, .ref h15, .ref h16, .ref h17, .ref h18, .ref h19, .int f4])), (h2, .inl (zI g, 5, .inl Z0)), (h14, .inl (zI g, 5, .inl Z12))] sz) := by
  refine zMetI rfl (Nat.le_of_ble_eq_true rfl) ?_
  intro p e s m args below meth c A ls hx hb hml hr hlocks hin hown hts hK hN hZ hP hD hA hS hAe hl
  have hown : s.vm.findClass RX2 = some m.cls := hown
  have hl : lv_has ls 3 [(0, .ref h0), (1, .ref h1), (2, .int p2)] := hl
  refine lv_aload_n hx hb dX2_charge_0 rfl (lv_at hl 1 rfl) ?_
  refine va_getN (D := g.1) (ci := 0) (v := .ref h14) (C := RX0) (T := TX0) (N := 11) hx hb hts zl_X0 hown hK hP 1 rfl rfl 4 (by decide) (hN.f 10 (q := (RX2, 134, "FishSteps$Books", "sort", "[I")) rfl) (fun _ h => h) rfl dX2_charge_1 ?_
  refine lv_iload_n hx hb dX2_charge_4 rfl (lv_at hl 2 rfl) ?_
  refine va_iald (D := g.1) hx hb hK hP 3 0 rfl rfl (vp_in_iff.mpr ⟨by omega, by omega⟩) dX2_charge_5 ?_
  refine lv_topi (fun y0 ey0 => ?_)
  have qy0_0 : 0 ≤ y0.toInt := (i_at (N := 5) (lo := 0) (hi := 4) (i := p2) (a := p2.toInt) hF_Z12 (rfl) (by omega) (by omega) ey0).1
  have qy0_1 : y0.toInt ≤ 4 := (i_at (N := 5) (lo := 0) (hi := 4) (i := p2) (a := p2.toInt) hF_Z12 (rfl) (by omega) (by omega) ey0).2
  have qy0_2 : y0.toInt = (Z12 p2.toNatClampNeg).toInt := congrArg Int32.toInt ey0
  refine lv_iconst (v := 3) hx hb dX2_charge_6 (by decide) ?_
  refine lv_icmp_ne (tgt := 21) hx hb dX2_charge_7 (by decide) (fun c_0 => ?_) (fun c_0 => ?_)
  · have i_0 : y0.toInt ≠ 3 := z_ne (rfl) (rfl) c_0
    refine lv_aload_n hx hb dX2_charge_21 rfl (lv_at hl 0 rfl) ?_
    refine va_get (D := g.1) (ci := 2) (v := .ref h2) (C := RX2) (T := TX2) (N := 12) hx hb hts zl_X2 hown hK hP 0 rfl rfl 0 (by decide) (hts _ m_f_RX2_9) (fun _ h => h) rfl dX2_charge_22 ?_
    refine lv_iload_n hx hb dX2_charge_25 rfl (lv_at hl 2 rfl) ?_
    refine va_iald (D := g.1) hx hb hK hP 2 0 rfl rfl (vp_in_iff.mpr ⟨by omega, by omega⟩) dX2_charge_26 ?_
    refine lv_topi (fun y1 ey1 => ?_)
    have qy1_0 : 0 ≤ y1.toInt := (i_at (N := 5) (lo := 0) (hi := 40) (i := p2) (a := p2.toInt) hF_Z0 (rfl) (by omega) (by omega) ey1).1
    have qy1_1 : y1.toInt ≤ 40 := (i_at (N := 5) (lo := 0) (hi := 40) (i := p2) (a := p2.toInt) hF_Z0 (rfl) (by omega) (by omega) ey1).2
    have qy1_2 : y1.toInt = (Z0 p2.toNatClampNeg).toInt := congrArg Int32.toInt ey1
    have hz : zCh Z12 (zIv Z0) p2.toNatClampNeg = y1.toInt := by
      unfold zCh
      rw [if_neg (by omega)]
      show (Z0 p2.toNatClampNeg).toInt = y1.toInt
      omega
    have hP9 := hP.sub (ws' := [(h0, .inr (2, [.ref h2, .ref h3, .ref h4, .ref h5, .ref h6, .ref h7, .int f0, .int f1, .ref h8, .ref h9, .ref h10, .ref h11])), (h1, .inr (0, [.ref h12, .int f2, .ref h13, .int f3, .ref h14, .ref h15, .ref h16, .ref h17, .ref h18, .ref h19, .int f4])), (h2, .inl (zI g, 5, .inl Z0)), (h14, .inl (zI g, 5, .inl Z12))]) [0, 1, 2, 3] rfl
    have hD9 := hD.sub (ws' := [(h0, .inr (2, [.ref h2, .ref h3, .ref h4, .ref h5, .ref h6, .ref h7, .int f0, .int f1, .ref h8, .ref h9, .ref h10, .ref h11])), (h1, .inr (0, [.ref h12, .int f2, .ref h13, .int f3, .ref h14, .ref h15, .ref h16, .ref h17, .ref h18, .ref h19, .int f4])), (h2, .inl (zI g, 5, .inl Z0)), (h14, .inl (zI g, 5, .inl Z12))]) [0, 1, 2, 3] (by decide) rfl
    exact W.iret (v := y1) hx hb hr (fun t ht hW => ⟨⟨y1, (0 : Nat), rfl, ⟨(by first | omega | decide), (by first | omega | decide), (by first | omega | decide)⟩, by rw [ht]; exact hP9, hD9⟩, hS.F ht⟩) hS.2.2 dX2_charge_27
  · have i_0 : y0.toInt = 3 := z_eq (rfl) (rfl) c_0
    refine lv_aload_n hx hb dX2_charge_10 rfl (lv_at hl 0 rfl) ?_
    refine va_get (D := g.1) (ci := 2) (v := .ref h2) (C := RX2) (T := TX2) (N := 12) hx hb hts zl_X2 hown hK hP 0 rfl rfl 0 (by decide) (hts _ m_f_RX2_9) (fun _ h => h) rfl dX2_charge_11 ?_
    refine lv_iload_n hx hb dX2_charge_14 rfl (lv_at hl 2 rfl) ?_
    refine va_iald (D := g.1) hx hb hK hP 2 0 rfl rfl (vp_in_iff.mpr ⟨by omega, by omega⟩) dX2_charge_15 ?_
    refine lv_topi (fun y2 ey2 => ?_)
    have qy2_0 : 0 ≤ y2.toInt := (i_at (N := 5) (lo := 0) (hi := 40) (i := p2) (a := p2.toInt) hF_Z0 (rfl) (by omega) (by omega) ey2).1
    have qy2_1 : y2.toInt ≤ 40 := (i_at (N := 5) (lo := 0) (hi := 40) (i := p2) (a := p2.toInt) hF_Z0 (rfl) (by omega) (by omega) ey2).2
    have qy2_2 : y2.toInt = (Z0 p2.toNatClampNeg).toInt := congrArg Int32.toInt ey2
    refine lv_iconst (v := 2) hx hb dX2_charge_16 (by decide) ?_
    refine lv_idiv hx hb dX2_charge_17 (by decide) ?_
    have : (2 : Int32).toInt = 2 := rfl
    refine lv_topi (fun y3 ey3 => ?_)
    have qy3_0 : 0 ≤ y3.toInt := (zi_div0 ey3 (rfl) (rfl) (by omega) (by omega)).1
    have qy3_1 : y3.toInt ≤ y2.toInt := (zi_div0 ey3 (rfl) (rfl) (by omega) (by omega)).2
    have py3_0 : y3.toInt = y2.toInt / 2 := zi_div ey3 (rfl) (rfl) (by omega) (by omega)
    refine lv_goto (tgt := 27) hx hb dX2_charge_18 (by decide) ?_
    have hz : zCh Z12 (zIv Z0) p2.toNatClampNeg = y3.toInt := by
      unfold zCh
      rw [if_pos (by omega)]
      show (Z0 p2.toNatClampNeg).toInt / 2 = y3.toInt
      omega
    have hP9 := hP.sub (ws' := [(h0, .inr (2, [.ref h2, .ref h3, .ref h4, .ref h5, .ref h6, .ref h7, .int f0, .int f1, .ref h8, .ref h9, .ref h10, .ref h11])), (h1, .inr (0, [.ref h12, .int f2, .ref h13, .int f3, .ref h14, .ref h15, .ref h16, .ref h17, .ref h18, .ref h19, .int f4])), (h2, .inl (zI g, 5, .inl Z0)), (h14, .inl (zI g, 5, .inl Z12))]) [0, 1, 2, 3] rfl
    have hD9 := hD.sub (ws' := [(h0, .inr (2, [.ref h2, .ref h3, .ref h4, .ref h5, .ref h6, .ref h7, .int f0, .int f1, .ref h8, .ref h9, .ref h10, .ref h11])), (h1, .inr (0, [.ref h12, .int f2, .ref h13, .int f3, .ref h14, .ref h15, .ref h16, .ref h17, .ref h18, .ref h19, .int f4])), (h2, .inl (zI g, 5, .inl Z0)), (h14, .inl (zI g, 5, .inl Z12))]) [0, 1, 2, 3] (by decide) rfl
    exact W.iret (v := y3) hx hb hr (fun t ht hW => ⟨⟨y3, (0 : Nat), rfl, ⟨(by first | omega | decide), (by first | omega | decide), (by first | omega | decide)⟩, by rw [ht]; exact hP9, hD9⟩, hS.F ht⟩) hS.2.2 dX2_charge_27

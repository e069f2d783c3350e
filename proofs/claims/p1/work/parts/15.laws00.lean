set_option maxHeartbeats 4000000 in
set_option maxRecDepth 100000 in
theorem lc_tail {p : Program} {l : Launch} {e : Env} {s : State} {m : MethodId} {below : List Frame} {meth : Method} {c : Code} {b : Nat} {xs : Nat → Int32} {g : zG} (C0 : lC g p s m meth c b xs) {q1 q2 : Nat} {H : Heap} {locs : List Loc} (hS : va_S (fun q : Nat => s.heap.size ≤ q) s.heap H locs) {ls : Array Slot} (hl : lv_has ls 4 [(0, .ref b), (1, .ref q1), (2, .ref q2), (3, .int 0)]) : W p l e room_1 s m #[Value.ref b] below meth c H locs 600000 7302250 (lw_Z below #[Value.ref b] s) (F0 m 1054 ls []) := by
  obtain ⟨hx, hb, hml, hr, hlocks, hown, hts, hK, hN, hZ, hX, hbl⟩ := C0
  have hA : ∀ q : Nat, s.heap.size ≤ q → (fun q : Nat => s.heap.size ≤ q) q := fun _ h => h
  have hbA : ¬ (fun q : Nat => s.heap.size ≤ q) b := Nat.not_le.mpr hbl
  refine lv_iinc (v := 6) (lv' := [(3, .int 6), (0, .ref b), (1, .ref q1), (2, .ref q2)]) hx hb dL_law_1054 hl (k := 3) rfl (by decide) (by decide) rfl (fun ls hl => ?_)
  refine lv_goto (tgt := 18) hx hb dL_law_1057 (by decide) ?_
  refine lv_iload_n hx hb dL_law_18 rfl (lv_at hl 0 rfl) ?_
  refine lv_aload_n hx hb dL_law_19 rfl (lv_at hl 1 rfl) ?_
  refine va_slen hx hb hX hbl hbA hS dL_law_20 ?_
  refine lv_topi (nm_r (e' := 6) (by rfl) ?_)
  refine lv_bipush (v := 6) hx hb dL_law_21 (by decide) ?_
  refine lv_isub hx hb dL_law_23 ?_
  refine lv_topi (nm_r (e' := 0) (by decide +kernel) ?_)
  refine lv_icmp_gt (tgt := 1060) hx hb dL_law_24 (by decide) (fun _ => ?_) (fun h => absurd h (by decide +kernel))
  refine lv_iconst (v := 1) hx hb dL_law_1060 (by decide) ?_
  refine va_forget (fun q hq => hS.2.2 q hq) ?_
  exact lw_ret hx hb hr hlocks dL_law_1061
set_option maxHeartbeats 4000000 in
set_option maxRecDepth 100000 in
theorem lc_rule {p : Program} {l : Launch} {e : Env} {s : State} {m : MethodId} {below : List Frame} {meth : Method} {c : Code} {b : Nat} {xs : Nat → Int32} {g : zG} (C0 : lC g p s m meth c b xs) {ax am : Nat → Nat} {H : Heap} {locs : List Loc} (hP : va_P g.1 vwCl (lW g ax am) H) (hD : va_D (fun q : Nat => s.heap.size ≤ q) (lW g ax am)) (hS : va_S (fun q : Nat => s.heap.size ≤ q) s.heap H locs) {ls : Array Slot} (hl : lv_has ls 4 [(0, .ref b), (1, .ref (ax 0)), (2, .ref (am 0)), (3, .int 0)]) : W p l e room_1 s m #[Value.ref b] below meth c H locs 600000 7302250 (lw_Z below #[Value.ref b] s) (F0 m 160 ls []) := by
  obtain ⟨hx, hb, hml, hr, hlocks, hown, hts, hK, hN, hZ, hX, hbl⟩ := C0
  have hA : ∀ q : Nat, s.heap.size ≤ q → (fun q : Nat => s.heap.size ≤ q) q := fun _ h => h
  have hbA : ¬ (fun q : Nat => s.heap.size ≤ q) b := Nat.not_le.mpr hbl
  have hP := hP.sub (ws' := [((ax 0), .inr (4, [.ref (ax 1), .ref (ax 10), .int 0, .ref (ax 19), .ref (ax 30), .ref (ax 32), .ref (ax 36), .int (-1), .ref (ax 37), .ref (ax 38), .ref (ax 39), .ref (ax 40)])), ((ax 1), .inr (0, [.ref (ax 2), .int 0, .ref (ax 3), .int 0, .ref (ax 4), .ref (ax 5), .ref (ax 6), .ref (ax 7), .ref (ax 8), .ref (ax 9), .int 0])), ((ax 2), .inl (zI g, 5, .inl (zA [60, 1, 1, 0, 0]))), ((am 0), .inr (5, [.ref (am 1), .int 0, .ref (am 2), .int 0, .int 0, .ref (am 3), .ref (am 4), .ref (am 5), .ref (am 6), .int 0, .ref (am 7), .ref (am 8), .ref (am 9), .int 0, .ref (am 10), .ref (am 11), .ref (am 12), .ref (am 13), .ref (am 14), .ref (am 15), .ref (am 16), .ref (am 17), .ref (am 18), .ref (am 19), .ref (am 20), .ref (am 21), .ref (am 22)])), ((am 1), .inl (zI g, 180, .inl (upd (upd (upd (fun _ => 0) 0 60) 1 1) 2 1)))]) [0, 1, 2, 41, 42] rfl
  have hD := hD.sub (ws' := [((ax 0), .inr (4, [.ref (ax 1), .ref (ax 10), .int 0, .ref (ax 19), .ref (ax 30), .ref (ax 32), .ref (ax 36), .int (-1), .ref (ax 37), .ref (ax 38), .ref (ax 39), .ref (ax 40)])), ((ax 1), .inr (0, [.ref (ax 2), .int 0, .ref (ax 3), .int 0, .ref (ax 4), .ref (ax 5), .ref (ax 6), .ref (ax 7), .ref (ax 8), .ref (ax 9), .int 0])), ((ax 2), .inl (zI g, 5, .inl (zA [60, 1, 1, 0, 0]))), ((am 0), .inr (5, [.ref (am 1), .int 0, .ref (am 2), .int 0, .int 0, .ref (am 3), .ref (am 4), .ref (am 5), .ref (am 6), .int 0, .ref (am 7), .ref (am 8), .ref (am 9), .int 0, .ref (am 10), .ref (am 11), .ref (am 12), .ref (am 13), .ref (am 14), .ref (am 15), .ref (am 16), .ref (am 17), .ref (am 18), .ref (am 19), .ref (am 20), .ref (am 21), .ref (am 22)])), ((am 1), .inl (zI g, 180, .inl (upd (upd (upd (fun _ => 0) 0 60) 1 1) 2 1)))]) [0, 1, 2, 41, 42] (by decide) rfl
  refine lv_aload_n hx hb dL_law_160 rfl (lv_at hl 1 rfl) ?_
  refine lv_aload_n hx hb dL_law_161 rfl (lv_at hl 0 rfl) ?_
  refine lv_iload_n hx hb dL_law_162 rfl (lv_at hl 3 rfl) ?_
  refine lv_iconst (v := 1) hx hb dL_law_163 (by decide) ?_
  refine lv_iadd hx hb dL_law_164 ?_
  refine lv_topi (nm_r (e' := 1) (by decide +kernel) ?_)
  refine va_sld hx hb hX hbl hbA hS (vp_in_iff.mpr (by decide +kernel)) dL_law_165 ?_
  refine lv_topi (nm_r (e' := (xs 1)) (by rfl) ?_)
  refine lv_aload_n hx hb dL_law_166 rfl (lv_at hl 0 rfl) ?_
  refine lv_iload_n hx hb dL_law_167 rfl (lv_at hl 3 rfl) ?_
  refine lv_iconst (v := 2) hx hb dL_law_168 (by decide) ?_
  refine lv_iadd hx hb dL_law_169 ?_
  refine lv_topi (nm_r (e' := 2) (by decide +kernel) ?_)
  refine va_sld hx hb hX hbl hbA hS (vp_in_iff.mpr (by decide +kernel)) dL_law_170 ?_
  refine lv_topi (nm_r (e' := (xs 2)) (by rfl) ?_)
  refine z_calli (wr := [((am 0), .inr (5, [.ref (am 1), .int 0, .ref (am 2), .int 0, .int 0, .ref (am 3), .ref (am 4), .ref (am 5), .ref (am 6), .int 0, .ref (am 7), .ref (am 8), .ref (am 9), .int 0, .ref (am 10), .ref (am 11), .ref (am 12), .ref (am 13), .ref (am 14), .ref (am 15), .ref (am 16), .ref (am 17), .ref (am 18), .ref (am 19), .ref (am 20), .ref (am 21), .ref (am 22)])), ((am 1), .inl (zI g, 180, .inl (upd (upd (upd (fun _ => 0) 0 60) 1 1) 2 1)))]) hP hD hS hA [0, 1, 2] [3, 4] (by decide) rfl rfl (by decide) (va_runV (As := [.int (xs 1), .int (xs 2)]) (rest := []) ⟨hx, hb, hml, hown, hts⟩ (kX4_rule l g (ax 0) (ax 1) (ax 10) (ax 19) (ax 30) (ax 32) (ax 36) (ax 37) (ax 38) (ax 39) (ax 40) (ax 2) (ax 3) (ax 4) (ax 5) (ax 6) (ax 7) (ax 8) (ax 9) H.size (xs 1) (xs 2)) ⟨callB_of 2 hts (zGood m_o_yX4_rule) rfl rfl rfl (hts _ m_z_RX4) (hts _ m_m_RL_13) ⟨by decide +kernel, by decide +kernel, by decide +kernel⟩ ⟨Nat.le_of_ble_eq_true rfl, Nat.le_of_ble_eq_true rfl⟩, hts _ m_i_yX4_rule, hts _ m_e_yX4_rule⟩ (zPreV hK hN hZ hP hD hS hA [0, 1, 2] (by decide) rfl rfl 4 0 rfl rfl) rfl rfl hl.1 rfl (lv_room (Nat.le_of_ble_eq_true rfl)) dL_law_171 ⟨Nat.le_of_ble_eq_true rfl, Nat.le_of_ble_eq_true rfl⟩) (fun r u H locs hw hP hD hS => ?_)
  rcases hw with ⟨i_0, rfl⟩ | ⟨i_1, i_2, rfl⟩ | ⟨i_3, i_4, i_5, i_6, rfl⟩ | ⟨i_7, i_8, i_9, i_10, i_11, rfl⟩ | ⟨i_12, i_13, i_14, i_15, i_16, rfl⟩ | ⟨i_17, i_18, i_19, i_20, rfl⟩ | ⟨i_21, i_22, i_23, i_24, i_25, rfl⟩ | ⟨i_26, i_27, i_28, i_29, i_30, rfl⟩ | ⟨i_31, i_32, i_33, i_34, rfl⟩ | ⟨i_35, i_36, i_37, i_38, i_39, rfl⟩ | ⟨i_40, i_41, i_42, i_43, i_44, rfl⟩ | ⟨i_45, i_46, i_47, i_48, rfl⟩ | ⟨i_49, i_50, i_51, i_52, i_53, rfl⟩ | ⟨i_54, i_55, i_56, i_57, i_58, rfl⟩ | ⟨i_59, i_60, i_61, i_62, rfl⟩ | ⟨i_63, i_64, i_65, i_66, i_67, rfl⟩ | ⟨i_68, i_69, i_70, i_71, i_72, rfl⟩
  · skip
    have hP : va_P g.1 vwCl [((am 0), .inr (5, [.ref (am 1), .int 0, .ref (am 2), .int 0, .int 0, .ref (am 3), .ref (am 4), .ref (am 5), .ref (am 6), .int 0, .ref (am 7), .ref (am 8), .ref (am 9), .int 0, .ref (am 10), .ref (am 11), .ref (am 12), .ref (am 13), .ref (am 14), .ref (am 15), .ref (am 16), .ref (am 17), .ref (am 18), .ref (am 19), .ref (am 20), .ref (am 21), .ref (am 22)])), ((am 1), .inl (zI g, 180, .inl (upd (upd (upd (fun _ => 0) 0 60) 1 1) 2 1)))] H := hP
    have hD : va_D (fun q : Nat => s.heap.size ≤ q) [((am 0), .inr (5, [.ref (am 1), .int 0, .ref (am 2), .int 0, .int 0, .ref (am 3), .ref (am 4), .ref (am 5), .ref (am 6), .int 0, .ref (am 7), .ref (am 8), .ref (am 9), .int 0, .ref (am 10), .ref (am 11), .ref (am 12), .ref (am 13), .ref (am 14), .ref (am 15), .ref (am 16), .ref (am 17), .ref (am 18), .ref (am 19), .ref (am 20), .ref (am 21), .ref (am 22)])), ((am 1), .inl (zI g, 180, .inl (upd (upd (upd (fun _ => 0) 0 60) 1 1) 2 1)))] := hD
    refine lv_aload_n hx hb dL_law_174 rfl (lv_at hl 2 rfl) ?_
    refine lv_aload_n hx hb dL_law_175 rfl (lv_at hl 0 rfl) ?_
    refine lv_iload_n hx hb dL_law_176 rfl (lv_at hl 3 rfl) ?_
    refine lv_iconst (v := 1) hx hb dL_law_177 (by decide) ?_
    refine lv_iadd hx hb dL_law_178 ?_
    refine lv_topi (nm_r (e' := 1) (by decide +kernel) ?_)
    refine va_sld hx hb hX hbl hbA hS (vp_in_iff.mpr (by decide +kernel)) dL_law_179 ?_
    refine lv_topi (nm_r (e' := (xs 1)) (by rfl) ?_)
    refine lv_aload_n hx hb dL_law_180 rfl (lv_at hl 0 rfl) ?_
    refine lv_iload_n hx hb dL_law_181 rfl (lv_at hl 3 rfl) ?_
    refine lv_iconst (v := 2) hx hb dL_law_182 (by decide) ?_
    refine lv_iadd hx hb dL_law_183 ?_
    refine lv_topi (nm_r (e' := 2) (by decide +kernel) ?_)
    refine va_sld hx hb hX hbl hbA hS (vp_in_iff.mpr (by decide +kernel)) dL_law_184 ?_
    refine lv_topi (nm_r (e' := (xs 2)) (by rfl) ?_)
    refine z_calli (wr := []) hP hD hS hA [0, 1] [] (by decide) rfl rfl (by decide) (va_runV (As := [.int (xs 1), .int (xs 2)]) (rest := [.int (-1)]) ⟨hx, hb, hml, hown, hts⟩ (kX5_rule l g (am 0) (am 1) (am 2) (am 3) (am 4) (am 5) (am 6) (am 7) (am 8) (am 9) (am 10) (am 11) (am 12) (am 13) (am 14) (am 15) (am 16) (am 17) (am 18) (am 19) (am 20) (am 21) (am 22) H.size (xs 1) (xs 2)) ⟨callB_of 2 hts (zGood m_o_yX5_rule) rfl rfl rfl (hts _ m_z_RX5) (hts _ m_m_RL_17) ⟨by decide +kernel, by decide +kernel, by decide +kernel⟩ ⟨Nat.le_of_ble_eq_true rfl, Nat.le_of_ble_eq_true rfl⟩, hts _ m_i_yX5_rule, hts _ m_e_yX5_rule⟩ (zPreV hK hN hZ hP hD hS hA [0, 1] (by decide) rfl rfl 5 0 rfl rfl) rfl rfl hl.1 rfl (lv_room (Nat.le_of_ble_eq_true rfl)) dL_law_185 ⟨Nat.le_of_ble_eq_true rfl, Nat.le_of_ble_eq_true rfl⟩) (fun r u H locs hw hP hD hS => ?_)
    rcases hw with ⟨i_73, rfl⟩ | ⟨i_74, i_75, rfl⟩ | ⟨i_76, i_77, i_78, i_79, i_80, i_81, rfl⟩ | ⟨i_82, i_83, i_84, i_85, i_86, i_87, i_88, rfl⟩ | ⟨i_89, i_90, i_91, i_92, i_93, i_94, i_95, i_96, rfl⟩ | ⟨i_97, i_98, i_99, i_100, i_101, i_102, i_103, i_104, rfl⟩ | ⟨i_105, i_106, i_107, i_108, i_109, i_110, i_111, i_112, rfl⟩ | ⟨i_113, i_114, i_115, i_116, i_117, i_118, rfl⟩ | ⟨i_119, i_120, i_121, i_122, i_123, i_124, i_125, rfl⟩ | ⟨i_126, i_127, i_128, i_129, i_130, i_131, i_132, rfl⟩ | ⟨i_133, i_134, i_135, i_136, i_137, i_138, rfl⟩ | ⟨i_139, i_140, i_141, i_142, i_143, i_144, i_145, rfl⟩ | ⟨i_146, i_147, i_148, i_149, i_150, i_151, i_152, rfl⟩ | ⟨i_153, i_154, i_155, i_156, i_157, rfl⟩ | ⟨i_158, i_159, i_160, i_161, i_162, i_163, rfl⟩ | ⟨i_164, i_165, i_166, i_167, i_168, i_169, rfl⟩
    · skip
      have hP : va_P g.1 vwCl [] H := hP
      have hD : va_D (fun q : Nat => s.heap.size ≤ q) [] := hD
      refine lv_icmp_eq (tgt := 1054) hx hb dL_law_188 (by decide) (fun _ => ?_) (fun h => absurd h (by decide +kernel))
      exact lc_tail ⟨hx, hb, hml, hr, hlocks, hown, hts, hK, hN, hZ, hX, hbl⟩ hS (lv_sub hl [0, 1, 2, 3] rfl)
    · exfalso; omega
    · exfalso; omega
    · exfalso; omega
    · exfalso; omega
    · exfalso; omega
    · exfalso; omega
    · exfalso; omega
    · exfalso; omega
    · exfalso; omega
    · exfalso; omega
    · exfalso; omega
    · exfalso; omega
    · exfalso; omega
    · exfalso; omega
    · exfalso; omega
  · skip
    have hP : va_P g.1 vwCl [((am 0), .inr (5, [.ref (am 1), .int 0, .ref (am 2), .int 0, .int 0, .ref (am 3), .ref (am 4), .ref (am 5), .ref (am 6), .int 0, .ref (am 7), .ref (am 8), .ref (am 9), .int 0, .ref (am 10), .ref (am 11), .ref (am 12), .ref (am 13), .ref (am 14), .ref (am 15), .ref (am 16), .ref (am 17), .ref (am 18), .ref (am 19), .ref (am 20), .ref (am 21), .ref (am 22)])), ((am 1), .inl (zI g, 180, .inl (upd (upd (upd (fun _ => 0) 0 60) 1 1) 2 1)))] H := hP
    have hD : va_D (fun q : Nat => s.heap.size ≤ q) [((am 0), .inr (5, [.ref (am 1), .int 0, .ref (am 2), .int 0, .int 0, .ref (am 3), .ref (am 4), .ref (am 5), .ref (am 6), .int 0, .ref (am 7), .ref (am 8), .ref (am 9), .int 0, .ref (am 10), .ref (am 11), .ref (am 12), .ref (am 13), .ref (am 14), .ref (am 15), .ref (am 16), .ref (am 17), .ref (am 18), .ref (am 19), .ref (am 20), .ref (am 21), .ref (am 22)])), ((am 1), .inl (zI g, 180, .inl (upd (upd (upd (fun _ => 0) 0 60) 1 1) 2 1)))] := hD
    refine lv_aload_n hx hb dL_law_174 rfl (lv_at hl 2 rfl) ?_
    refine lv_aload_n hx hb dL_law_175 rfl (lv_at hl 0 rfl) ?_
    refine lv_iload_n hx hb dL_law_176 rfl (lv_at hl 3 rfl) ?_
    refine lv_iconst (v := 1) hx hb dL_law_177 (by decide) ?_
    refine lv_iadd hx hb dL_law_178 ?_
    refine lv_topi (nm_r (e' := 1) (by decide +kernel) ?_)
    refine va_sld hx hb hX hbl hbA hS (vp_in_iff.mpr (by decide +kernel)) dL_law_179 ?_
    refine lv_topi (nm_r (e' := (xs 1)) (by rfl) ?_)
    refine lv_aload_n hx hb dL_law_180 rfl (lv_at hl 0 rfl) ?_
    refine lv_iload_n hx hb dL_law_181 rfl (lv_at hl 3 rfl) ?_
    refine lv_iconst (v := 2) hx hb dL_law_182 (by decide) ?_
    refine lv_iadd hx hb dL_law_183 ?_
    refine lv_topi (nm_r (e' := 2) (by decide +kernel) ?_)
    refine va_sld hx hb hX hbl hbA hS (vp_in_iff.mpr (by decide +kernel)) dL_law_184 ?_
    refine lv_topi (nm_r (e' := (xs 2)) (by rfl) ?_)
    refine z_calli (wr := []) hP hD hS hA [0, 1] [] (by decide) rfl rfl (by decide) (va_runV (As := [.int (xs 1), .int (xs 2)]) (rest := [.int (-1)]) ⟨hx, hb, hml, hown, hts⟩ (kX5_rule l g (am 0) (am 1) (am 2) (am 3) (am 4) (am 5) (am 6) (am 7) (am 8) (am 9) (am 10) (am 11) (am 12) (am 13) (am 14) (am 15) (am 16) (am 17) (am 18) (am 19) (am 20) (am 21) (am 22) H.size (xs 1) (xs 2)) ⟨callB_of 2 hts (zGood m_o_yX5_rule) rfl rfl rfl (hts _ m_z_RX5) (hts _ m_m_RL_17) ⟨by decide +kernel, by decide +kernel, by decide +kernel⟩ ⟨Nat.le_of_ble_eq_true rfl, Nat.le_of_ble_eq_true rfl⟩, hts _ m_i_yX5_rule, hts _ m_e_yX5_rule⟩ (zPreV hK hN hZ hP hD hS hA [0, 1] (by decide) rfl rfl 5 0 rfl rfl) rfl rfl hl.1 rfl (lv_room (Nat.le_of_ble_eq_true rfl)) dL_law_185 ⟨Nat.le_of_ble_eq_true rfl, Nat.le_of_ble_eq_true rfl⟩) (fun r u H locs hw hP hD hS => ?_)
    rcases hw with ⟨i_170, rfl⟩ | ⟨i_171, i_172, rfl⟩ | ⟨i_173, i_174, i_175, i_176, i_177, i_178, rfl⟩ | ⟨i_179, i_180, i_181, i_182, i_183, i_184, i_185, rfl⟩ | ⟨i_186, i_187, i_188, i_189, i_190, i_191, i_192, i_193, rfl⟩ | ⟨i_194, i_195, i_196, i_197, i_198, i_199, i_200, i_201, rfl⟩ | ⟨i_202, i_203, i_204, i_205, i_206, i_207, i_208, i_209, rfl⟩ | ⟨i_210, i_211, i_212, i_213, i_214, i_215, rfl⟩ | ⟨i_216, i_217, i_218, i_219, i_220, i_221, i_222, rfl⟩ | ⟨i_223, i_224, i_225, i_226, i_227, i_228, i_229, rfl⟩ | ⟨i_230, i_231, i_232, i_233, i_234, i_235, rfl⟩ | ⟨i_236, i_237, i_238, i_239, i_240, i_241, i_242, rfl⟩ | ⟨i_243, i_244, i_245, i_246, i_247, i_248, i_249, rfl⟩ | ⟨i_250, i_251, i_252, i_253, i_254, rfl⟩ | ⟨i_255, i_256, i_257, i_258, i_259, i_260, rfl⟩ | ⟨i_261, i_262, i_263, i_264, i_265, i_266, rfl⟩
    · exfalso; omega
    · skip
      have hP : va_P g.1 vwCl [] H := hP
      have hD : va_D (fun q : Nat => s.heap.size ≤ q) [] := hD
      refine lv_icmp_eq (tgt := 1054) hx hb dL_law_188 (by decide) (fun _ => ?_) (fun h => absurd h (by decide +kernel))
      exact lc_tail ⟨hx, hb, hml, hr, hlocks, hown, hts, hK, hN, hZ, hX, hbl⟩ hS (lv_sub hl [0, 1, 2, 3] rfl)
    · exfalso; omega
    · exfalso; omega
    · exfalso; omega
    · exfalso; omega
    · exfalso; omega
    · exfalso; omega
    · exfalso; omega
    · exfalso; omega
    · exfalso; omega
    · exfalso; omega
    · exfalso; omega
    · exfalso; omega
    · exfalso; omega
    · exfalso; omega
  · skip
    have hP : va_P g.1 vwCl [((am 0), .inr (5, [.ref (am 1), .int 0, .ref (am 2), .int 0, .int 0, .ref (am 3), .ref (am 4), .ref (am 5), .ref (am 6), .int 0, .ref (am 7), .ref (am 8), .ref (am 9), .int 0, .ref (am 10), .ref (am 11), .ref (am 12), .ref (am 13), .ref (am 14), .ref (am 15), .ref (am 16), .ref (am 17), .ref (am 18), .ref (am 19), .ref (am 20), .ref (am 21), .ref (am 22)])), ((am 1), .inl (zI g, 180, .inl (upd (upd (upd (fun _ => 0) 0 60) 1 1) 2 1)))] H := hP
    have hD : va_D (fun q : Nat => s.heap.size ≤ q) [((am 0), .inr (5, [.ref (am 1), .int 0, .ref (am 2), .int 0, .int 0, .ref (am 3), .ref (am 4), .ref (am 5), .ref (am 6), .int 0, .ref (am 7), .ref (am 8), .ref (am 9), .int 0, .ref (am 10), .ref (am 11), .ref (am 12), .ref (am 13), .ref (am 14), .ref (am 15), .ref (am 16), .ref (am 17), .ref (am 18), .ref (am 19), .ref (am 20), .ref (am 21), .ref (am 22)])), ((am 1), .inl (zI g, 180, .inl (upd (upd (upd (fun _ => 0) 0 60) 1 1) 2 1)))] := hD
    refine lv_aload_n hx hb dL_law_174 rfl (lv_at hl 2 rfl) ?_
    refine lv_aload_n hx hb dL_law_175 rfl (lv_at hl 0 rfl) ?_
    refine lv_iload_n hx hb dL_law_176 rfl (lv_at hl 3 rfl) ?_
    refine lv_iconst (v := 1) hx hb dL_law_177 (by decide) ?_
    refine lv_iadd hx hb dL_law_178 ?_
    refine lv_topi (nm_r (e' := 1) (by decide +kernel) ?_)
    refine va_sld hx hb hX hbl hbA hS (vp_in_iff.mpr (by decide +kernel)) dL_law_179 ?_
    refine lv_topi (nm_r (e' := (xs 1)) (by rfl) ?_)
    refine lv_aload_n hx hb dL_law_180 rfl (lv_at hl 0 rfl) ?_
    refine lv_iload_n hx hb dL_law_181 rfl (lv_at hl 3 rfl) ?_
    refine lv_iconst (v := 2) hx hb dL_law_182 (by decide) ?_
    refine lv_iadd hx hb dL_law_183 ?_
    refine lv_topi (nm_r (e' := 2) (by decide +kernel) ?_)
    refine va_sld hx hb hX hbl hbA hS (vp_in_iff.mpr (by decide +kernel)) dL_law_184 ?_
    refine lv_topi (nm_r (e' := (xs 2)) (by rfl) ?_)
    refine z_calli (wr := []) hP hD hS hA [0, 1] [] (by decide) rfl rfl (by decide) (va_runV (As := [.int (xs 1), .int (xs 2)]) (rest := [.int (-1)]) ⟨hx, hb, hml, hown, hts⟩ (kX5_rule l g (am 0) (am 1) (am 2) (am 3) (am 4) (am 5) (am 6) (am 7) (am 8) (am 9) (am 10) (am 11) (am 12) (am 13) (am 14) (am 15) (am 16) (am 17) (am 18) (am 19) (am 20) (am 21) (am 22) H.size (xs 1) (xs 2)) ⟨callB_of 2 hts (zGood m_o_yX5_rule) rfl rfl rfl (hts _ m_z_RX5) (hts _ m_m_RL_17) ⟨by decide +kernel, by decide +kernel, by decide +kernel⟩ ⟨Nat.le_of_ble_eq_true rfl, Nat.le_of_ble_eq_true rfl⟩, hts _ m_i_yX5_rule, hts _ m_e_yX5_rule⟩ (zPreV hK hN hZ hP hD hS hA [0, 1] (by decide) rfl rfl 5 0 rfl rfl) rfl rfl hl.1 rfl (lv_room (Nat.le_of_ble_eq_true rfl)) dL_law_185 ⟨Nat.le_of_ble_eq_true rfl, Nat.le_of_ble_eq_true rfl⟩) (fun r u H locs hw hP hD hS => ?_)
    rcases hw with ⟨i_267, rfl⟩ | ⟨i_268, i_269, rfl⟩ | ⟨i_270, i_271, i_272, i_273, i_274, i_275, rfl⟩ | ⟨i_276, i_277, i_278, i_279, i_280, i_281, i_282, rfl⟩ | ⟨i_283, i_284, i_285, i_286, i_287, i_288, i_289, i_290, rfl⟩ | ⟨i_291, i_292, i_293, i_294, i_295, i_296, i_297, i_298, rfl⟩ | ⟨i_299, i_300, i_301, i_302, i_303, i_304, i_305, i_306, rfl⟩ | ⟨i_307, i_308, i_309, i_310, i_311, i_312, rfl⟩ | ⟨i_313, i_314, i_315, i_316, i_317, i_318, i_319, rfl⟩ | ⟨i_320, i_321, i_322, i_323, i_324, i_325, i_326, rfl⟩ | ⟨i_327, i_328, i_329, i_330, i_331, i_332, rfl⟩ | ⟨i_333, i_334, i_335, i_336, i_337, i_338, i_339, rfl⟩ | ⟨i_340, i_341, i_342, i_343, i_344, i_345, i_346, rfl⟩ | ⟨i_347, i_348, i_349, i_350, i_351, rfl⟩ | ⟨i_352, i_353, i_354, i_355, i_356, i_357, rfl⟩ | ⟨i_358, i_359, i_360, i_361, i_362, i_363, rfl⟩
    · exfalso; omega
    · exfalso; omega
    · exfalso; omega
    · exfalso; omega
    · exfalso; omega
    · exfalso; omega
    · exfalso; omega
    · exfalso; omega
    · exfalso; omega
    · exfalso; omega
    · skip
      have hP : va_P g.1 vwCl [] H := hP
      have hD : va_D (fun q : Nat => s.heap.size ≤ q) [] := hD
      refine lv_icmp_eq (tgt := 1054) hx hb dL_law_188 (by decide) (fun _ => ?_) (fun h => absurd h (by decide +kernel))
      exact lc_tail ⟨hx, hb, hml, hr, hlocks, hown, hts, hK, hN, hZ, hX, hbl⟩ hS (lv_sub hl [0, 1, 2, 3] rfl)
    · exfalso; omega
    · exfalso; omega
    · exfalso; omega
    · exfalso; omega
    · exfalso; omega
  · skip
    have hP : va_P g.1 vwCl [((am 0), .inr (5, [.ref (am 1), .int 0, .ref (am 2), .int 0, .int 0, .ref (am 3), .ref (am 4), .ref (am 5), .ref (am 6), .int 0, .ref (am 7), .ref (am 8), .ref (am 9), .int 0, .ref (am 10), .ref (am 11), .ref (am 12), .ref (am 13), .ref (am 14), .ref (am 15), .ref (am 16), .ref (am 17), .ref (am 18), .ref (am 19), .ref (am 20), .ref (am 21), .ref (am 22)])), ((am 1), .inl (zI g, 180, .inl (upd (upd (upd (fun _ => 0) 0 60) 1 1) 2 1)))] H := hP
    have hD : va_D (fun q : Nat => s.heap.size ≤ q) [((am 0), .inr (5, [.ref (am 1), .int 0, .ref (am 2), .int 0, .int 0, .ref (am 3), .ref (am 4), .ref (am 5), .ref (am 6), .int 0, .ref (am 7), .ref (am 8), .ref (am 9), .int 0, .ref (am 10), .ref (am 11), .ref (am 12), .ref (am 13), .ref (am 14), .ref (am 15), .ref (am 16), .ref (am 17), .ref (am 18), .ref (am 19), .ref (am 20), .ref (am 21), .ref (am 22)])), ((am 1), .inl (zI g, 180, .inl (upd (upd (upd (fun _ => 0) 0 60) 1 1) 2 1)))] := hD
    refine lv_aload_n hx hb dL_law_174 rfl (lv_at hl 2 rfl) ?_
    refine lv_aload_n hx hb dL_law_175 rfl (lv_at hl 0 rfl) ?_
    refine lv_iload_n hx hb dL_law_176 rfl (lv_at hl 3 rfl) ?_
    refine lv_iconst (v := 1) hx hb dL_law_177 (by decide) ?_
    refine lv_iadd hx hb dL_law_178 ?_
    refine lv_topi (nm_r (e' := 1) (by decide +kernel) ?_)
    refine va_sld hx hb hX hbl hbA hS (vp_in_iff.mpr (by decide +kernel)) dL_law_179 ?_
    refine lv_topi (nm_r (e' := (xs 1)) (by rfl) ?_)
    refine lv_aload_n hx hb dL_law_180 rfl (lv_at hl 0 rfl) ?_
    refine lv_iload_n hx hb dL_law_181 rfl (lv_at hl 3 rfl) ?_
    refine lv_iconst (v := 2) hx hb dL_law_182 (by decide) ?_
    refine lv_iadd hx hb dL_law_183 ?_
    refine lv_topi (nm_r (e' := 2) (by decide +kernel) ?_)
    refine va_sld hx hb hX hbl hbA hS (vp_in_iff.mpr (by decide +kernel)) dL_law_184 ?_
    refine lv_topi (nm_r (e' := (xs 2)) (by rfl) ?_)
    refine z_calli (wr := []) hP hD hS hA [0, 1] [] (by decide) rfl rfl (by decide) (va_runV (As := [.int (xs 1), .int (xs 2)]) (rest := [.int (-1)]) ⟨hx, hb, hml, hown, hts⟩ (kX5_rule l g (am 0) (am 1) (am 2) (am 3) (am 4) (am 5) (am 6) (am 7) (am 8) (am 9) (am 10) (am 11) (am 12) (am 13) (am 14) (am 15) (am 16) (am 17) (am 18) (am 19) (am 20) (am 21) (am 22) H.size (xs 1) (xs 2)) ⟨callB_of 2 hts (zGood m_o_yX5_rule) rfl rfl rfl (hts _ m_z_RX5) (hts _ m_m_RL_17) ⟨by decide +kernel, by decide +kernel, by decide +kernel⟩ ⟨Nat.le_of_ble_eq_true rfl, Nat.le_of_ble_eq_true rfl⟩, hts _ m_i_yX5_rule, hts _ m_e_yX5_rule⟩ (zPreV hK hN hZ hP hD hS hA [0, 1] (by decide) rfl rfl 5 0 rfl rfl) rfl rfl hl.1 rfl (lv_room (Nat.le_of_ble_eq_true rfl)) dL_law_185 ⟨Nat.le_of_ble_eq_true rfl, Nat.le_of_ble_eq_true rfl⟩) (fun r u H locs hw hP hD hS => ?_)
    rcases hw with ⟨i_364, rfl⟩ | ⟨i_365, i_366, rfl⟩ | ⟨i_367, i_368, i_369, i_370, i_371, i_372, rfl⟩ | ⟨i_373, i_374, i_375, i_376, i_377, i_378, i_379, rfl⟩ | ⟨i_380, i_381, i_382, i_383, i_384, i_385, i_386, i_387, rfl⟩ | ⟨i_388, i_389, i_390, i_391, i_392, i_393, i_394, i_395, rfl⟩ | ⟨i_396, i_397, i_398, i_399, i_400, i_401, i_402, i_403, rfl⟩ | ⟨i_404, i_405, i_406, i_407, i_408, i_409, rfl⟩ | ⟨i_410, i_411, i_412, i_413, i_414, i_415, i_416, rfl⟩ | ⟨i_417, i_418, i_419, i_420, i_421, i_422, i_423, rfl⟩ | ⟨i_424, i_425, i_426, i_427, i_428, i_429, rfl⟩ | ⟨i_430, i_431, i_432, i_433, i_434, i_435, i_436, rfl⟩ | ⟨i_437, i_438, i_439, i_440, i_441, i_442, i_443, rfl⟩ | ⟨i_444, i_445, i_446, i_447, i_448, rfl⟩ | ⟨i_449, i_450, i_451, i_452, i_453, i_454, rfl⟩ | ⟨i_455, i_456, i_457, i_458, i_459, i_460, rfl⟩
    · exfalso; omega
    · exfalso; omega
    · exfalso; omega
    · exfalso; omega
    · exfalso; omega
    · exfalso; omega
    · exfalso; omega
    · exfalso; omega
    · exfalso; omega
    · exfalso; omega
    · exfalso; omega
    · skip
      have hP : va_P g.1 vwCl [] H := hP
      have hD : va_D (fun q : Nat => s.heap.size ≤ q) [] := hD
      refine lv_icmp_eq (tgt := 1054) hx hb dL_law_188 (by decide) (fun _ => ?_) (fun h => absurd h (by decide +kernel))
      exact lc_tail ⟨hx, hb, hml, hr, hlocks, hown, hts, hK, hN, hZ, hX, hbl⟩ hS (lv_sub hl [0, 1, 2, 3] rfl)
    · exfalso; omega
    · exfalso; omega
    · exfalso; omega
    · exfalso; omega
  · skip
    have hP : va_P g.1 vwCl [((am 0), .inr (5, [.ref (am 1), .int 0, .ref (am 2), .int 0, .int 0, .ref (am 3), .ref (am 4), .ref (am 5), .ref (am 6), .int 0, .ref (am 7), .ref (am 8), .ref (am 9), .int 0, .ref (am 10), .ref (am 11), .ref (am 12), .ref (am 13), .ref (am 14), .ref (am 15), .ref (am 16), .ref (am 17), .ref (am 18), .ref (am 19), .ref (am 20), .ref (am 21), .ref (am 22)])), ((am 1), .inl (zI g, 180, .inl (upd (upd (upd (fun _ => 0) 0 60) 1 1) 2 1)))] H := hP
    have hD : va_D (fun q : Nat => s.heap.size ≤ q) [((am 0), .inr (5, [.ref (am 1), .int 0, .ref (am 2), .int 0, .int 0, .ref (am 3), .ref (am 4), .ref (am 5), .ref (am 6), .int 0, .ref (am 7), .ref (am 8), .ref (am 9), .int 0, .ref (am 10), .ref (am 11), .ref (am 12), .ref (am 13), .ref (am 14), .ref (am 15), .ref (am 16), .ref (am 17), .ref (am 18), .ref (am 19), .ref (am 20), .ref (am 21), .ref (am 22)])), ((am 1), .inl (zI g, 180, .inl (upd (upd (upd (fun _ => 0) 0 60) 1 1) 2 1)))] := hD
    refine lv_aload_n hx hb dL_law_174 rfl (lv_at hl 2 rfl) ?_
    refine lv_aload_n hx hb dL_law_175 rfl (lv_at hl 0 rfl) ?_
    refine lv_iload_n hx hb dL_law_176 rfl (lv_at hl 3 rfl) ?_
    refine lv_iconst (v := 1) hx hb dL_law_177 (by decide) ?_
    refine lv_iadd hx hb dL_law_178 ?_
    refine lv_topi (nm_r (e' := 1) (by decide +kernel) ?_)
    refine va_sld hx hb hX hbl hbA hS (vp_in_iff.mpr (by decide +kernel)) dL_law_179 ?_
    refine lv_topi (nm_r (e' := (xs 1)) (by rfl) ?_)
    refine lv_aload_n hx hb dL_law_180 rfl (lv_at hl 0 rfl) ?_
    refine lv_iload_n hx hb dL_law_181 rfl (lv_at hl 3 rfl) ?_
    refine lv_iconst (v := 2) hx hb dL_law_182 (by decide) ?_
    refine lv_iadd hx hb dL_law_183 ?_
    refine lv_topi (nm_r (e' := 2) (by decide +kernel) ?_)
    refine va_sld hx hb hX hbl hbA hS (vp_in_iff.mpr (by decide +kernel)) dL_law_184 ?_
    refine lv_topi (nm_r (e' := (xs 2)) (by rfl) ?_)
    refine z_calli (wr := []) hP hD hS hA [0, 1] [] (by decide) rfl rfl (by decide) (va_runV (As := [.int (xs 1), .int (xs 2)]) (rest := [.int 60]) ⟨hx, hb, hml, hown, hts⟩ (kX5_rule l g (am 0) (am 1) (am 2) (am 3) (am 4) (am 5) (am 6) (am 7) (am 8) (am 9) (am 10) (am 11) (am 12) (am 13) (am 14) (am 15) (am 16) (am 17) (am 18) (am 19) (am 20) (am 21) (am 22) H.size (xs 1) (xs 2)) ⟨callB_of 2 hts (zGood m_o_yX5_rule) rfl rfl rfl (hts _ m_z_RX5) (hts _ m_m_RL_17) ⟨by decide +kernel, by decide +kernel, by decide +kernel⟩ ⟨Nat.le_of_ble_eq_true rfl, Nat.le_of_ble_eq_true rfl⟩, hts _ m_i_yX5_rule, hts _ m_e_yX5_rule⟩ (zPreV hK hN hZ hP hD hS hA [0, 1] (by decide) rfl rfl 5 0 rfl rfl) rfl rfl hl.1 rfl (lv_room (Nat.le_of_ble_eq_true rfl)) dL_law_185 ⟨Nat.le_of_ble_eq_true rfl, Nat.le_of_ble_eq_true rfl⟩) (fun r u H locs hw hP hD hS => ?_)
    rcases hw with ⟨i_461, rfl⟩ | ⟨i_462, i_463, rfl⟩ | ⟨i_464, i_465, i_466, i_467, i_468, i_469, rfl⟩ | ⟨i_470, i_471, i_472, i_473, i_474, i_475, i_476, rfl⟩ | ⟨i_477, i_478, i_479, i_480, i_481, i_482, i_483, i_484, rfl⟩ | ⟨i_485, i_486, i_487, i_488, i_489, i_490, i_491, i_492, rfl⟩ | ⟨i_493, i_494, i_495, i_496, i_497, i_498, i_499, i_500, rfl⟩ | ⟨i_501, i_502, i_503, i_504, i_505, i_506, rfl⟩ | ⟨i_507, i_508, i_509, i_510, i_511, i_512, i_513, rfl⟩ | ⟨i_514, i_515, i_516, i_517, i_518, i_519, i_520, rfl⟩ | ⟨i_521, i_522, i_523, i_524, i_525, i_526, rfl⟩ | ⟨i_527, i_528, i_529, i_530, i_531, i_532, i_533, rfl⟩ | ⟨i_534, i_535, i_536, i_537, i_538, i_539, i_540, rfl⟩ | ⟨i_541, i_542, i_543, i_544, i_545, rfl⟩ | ⟨i_546, i_547, i_548, i_549, i_550, i_551, rfl⟩ | ⟨i_552, i_553, i_554, i_555, i_556, i_557, rfl⟩
    · exfalso; omega
    · exfalso; omega
    · exfalso; omega
    · exfalso; omega
    · exfalso; omega
    · exfalso; omega
    · exfalso; omega
    · exfalso; omega
    · exfalso; omega
    · exfalso; omega
    · exfalso; omega
    · exfalso; omega
    · skip
      have hP : va_P g.1 vwCl [] H := hP
      have hD : va_D (fun q : Nat => s.heap.size ≤ q) [] := hD
      refine lv_icmp_eq (tgt := 1054) hx hb dL_law_188 (by decide) (fun _ => ?_) (fun h => absurd h (by decide +kernel))
      exact lc_tail ⟨hx, hb, hml, hr, hlocks, hown, hts, hK, hN, hZ, hX, hbl⟩ hS (lv_sub hl [0, 1, 2, 3] rfl)
    · exfalso; omega
    · exfalso; omega
    · exfalso; omega
  · skip
    have hP : va_P g.1 vwCl [((am 0), .inr (5, [.ref (am 1), .int 0, .ref (am 2), .int 0, .int 0, .ref (am 3), .ref (am 4), .ref (am 5), .ref (am 6), .int 0, .ref (am 7), .ref (am 8), .ref (am 9), .int 0, .ref (am 10), .ref (am 11), .ref (am 12), .ref (am 13), .ref (am 14), .ref (am 15), .ref (am 16), .ref (am 17), .ref (am 18), .ref (am 19), .ref (am 20), .ref (am 21), .ref (am 22)])), ((am 1), .inl (zI g, 180, .inl (upd (upd (upd (fun _ => 0) 0 60) 1 1) 2 1)))] H := hP
    have hD : va_D (fun q : Nat => s.heap.size ≤ q) [((am 0), .inr (5, [.ref (am 1), .int 0, .ref (am 2), .int 0, .int 0, .ref (am 3), .ref (am 4), .ref (am 5), .ref (am 6), .int 0, .ref (am 7), .ref (am 8), .ref (am 9), .int 0, .ref (am 10), .ref (am 11), .ref (am 12), .ref (am 13), .ref (am 14), .ref (am 15), .ref (am 16), .ref (am 17), .ref (am 18), .ref (am 19), .ref (am 20), .ref (am 21), .ref (am 22)])), ((am 1), .inl (zI g, 180, .inl (upd (upd (upd (fun _ => 0) 0 60) 1 1) 2 1)))] := hD
    refine lv_aload_n hx hb dL_law_174 rfl (lv_at hl 2 rfl) ?_
    refine lv_aload_n hx hb dL_law_175 rfl (lv_at hl 0 rfl) ?_
    refine lv_iload_n hx hb dL_law_176 rfl (lv_at hl 3 rfl) ?_
    refine lv_iconst (v := 1) hx hb dL_law_177 (by decide) ?_
    refine lv_iadd hx hb dL_law_178 ?_
    refine lv_topi (nm_r (e' := 1) (by decide +kernel) ?_)
    refine va_sld hx hb hX hbl hbA hS (vp_in_iff.mpr (by decide +kernel)) dL_law_179 ?_
    refine lv_topi (nm_r (e' := (xs 1)) (by rfl) ?_)
    refine lv_aload_n hx hb dL_law_180 rfl (lv_at hl 0 rfl) ?_
    refine lv_iload_n hx hb dL_law_181 rfl (lv_at hl 3 rfl) ?_
    refine lv_iconst (v := 2) hx hb dL_law_182 (by decide) ?_
    refine lv_iadd hx hb dL_law_183 ?_
    refine lv_topi (nm_r (e' := 2) (by decide +kernel) ?_)
    refine va_sld hx hb hX hbl hbA hS (vp_in_iff.mpr (by decide +kernel)) dL_law_184 ?_
    refine lv_topi (nm_r (e' := (xs 2)) (by rfl) ?_)
    refine z_calli (wr := []) hP hD hS hA [0, 1] [] (by decide) rfl rfl (by decide) (va_runV (As := [.int (xs 1), .int (xs 2)]) (rest := [.int (-1)]) ⟨hx, hb, hml, hown, hts⟩ (kX5_rule l g (am 0) (am 1) (am 2) (am 3) (am 4) (am 5) (am 6) (am 7) (am 8) (am 9) (am 10) (am 11) (am 12) (am 13) (am 14) (am 15) (am 16) (am 17) (am 18) (am 19) (am 20) (am 21) (am 22) H.size (xs 1) (xs 2)) ⟨callB_of 2 hts (zGood m_o_yX5_rule) rfl rfl rfl (hts _ m_z_RX5) (hts _ m_m_RL_17) ⟨by decide +kernel, by decide +kernel, by decide +kernel⟩ ⟨Nat.le_of_ble_eq_true rfl, Nat.le_of_ble_eq_true rfl⟩, hts _ m_i_yX5_rule, hts _ m_e_yX5_rule⟩ (zPreV hK hN hZ hP hD hS hA [0, 1] (by decide) rfl rfl 5 0 rfl rfl) rfl rfl hl.1 rfl (lv_room (Nat.le_of_ble_eq_true rfl)) dL_law_185 ⟨Nat.le_of_ble_eq_true rfl, Nat.le_of_ble_eq_true rfl⟩) (fun r u H locs hw hP hD hS => ?_)
    rcases hw with ⟨i_558, rfl⟩ | ⟨i_559, i_560, rfl⟩ | ⟨i_561, i_562, i_563, i_564, i_565, i_566, rfl⟩ | ⟨i_567, i_568, i_569, i_570, i_571, i_572, i_573, rfl⟩ | ⟨i_574, i_575, i_576, i_577, i_578, i_579, i_580, i_581, rfl⟩ | ⟨i_582, i_583, i_584, i_585, i_586, i_587, i_588, i_589, rfl⟩ | ⟨i_590, i_591, i_592, i_593, i_594, i_595, i_596, i_597, rfl⟩ | ⟨i_598, i_599, i_600, i_601, i_602, i_603, rfl⟩ | ⟨i_604, i_605, i_606, i_607, i_608, i_609, i_610, rfl⟩ | ⟨i_611, i_612, i_613, i_614, i_615, i_616, i_617, rfl⟩ | ⟨i_618, i_619, i_620, i_621, i_622, i_623, rfl⟩ | ⟨i_624, i_625, i_626, i_627, i_628, i_629, i_630, rfl⟩ | ⟨i_631, i_632, i_633, i_634, i_635, i_636, i_637, rfl⟩ | ⟨i_638, i_639, i_640, i_641, i_642, rfl⟩ | ⟨i_643, i_644, i_645, i_646, i_647, i_648, rfl⟩ | ⟨i_649, i_650, i_651, i_652, i_653, i_654, rfl⟩
    · exfalso; omega
    · exfalso; omega
    · exfalso; omega
    · exfalso; omega
    · exfalso; omega
    · exfalso; omega
    · exfalso; omega
    · exfalso; omega
    · exfalso; omega
    · exfalso; omega
    · exfalso; omega
    · exfalso; omega
    · exfalso; omega
    · skip
      have hP : va_P g.1 vwCl [] H := hP
      have hD : va_D (fun q : Nat => s.heap.size ≤ q) [] := hD
      refine lv_icmp_eq (tgt := 1054) hx hb dL_law_188 (by decide) (fun _ => ?_) (fun h => absurd h (by decide +kernel))
      exact lc_tail ⟨hx, hb, hml, hr, hlocks, hown, hts, hK, hN, hZ, hX, hbl⟩ hS (lv_sub hl [0, 1, 2, 3] rfl)
    · exfalso; omega
    · exfalso; omega
  · skip
    have hP : va_P g.1 vwCl [((am 0), .inr (5, [.ref (am 1), .int 0, .ref (am 2), .int 0, .int 0, .ref (am 3), .ref (am 4), .ref (am 5), .ref (am 6), .int 0, .ref (am 7), .ref (am 8), .ref (am 9), .int 0, .ref (am 10), .ref (am 11), .ref (am 12), .ref (am 13), .ref (am 14), .ref (am 15), .ref (am 16), .ref (am 17), .ref (am 18), .ref (am 19), .ref (am 20), .ref (am 21), .ref (am 22)])), ((am 1), .inl (zI g, 180, .inl (upd (upd (upd (fun _ => 0) 0 60) 1 1) 2 1)))] H := hP
    have hD : va_D (fun q : Nat => s.heap.size ≤ q) [((am 0), .inr (5, [.ref (am 1), .int 0, .ref (am 2), .int 0, .int 0, .ref (am 3), .ref (am 4), .ref (am 5), .ref (am 6), .int 0, .ref (am 7), .ref (am 8), .ref (am 9), .int 0, .ref (am 10), .ref (am 11), .ref (am 12), .ref (am 13), .ref (am 14), .ref (am 15), .ref (am 16), .ref (am 17), .ref (am 18), .ref (am 19), .ref (am 20), .ref (am 21), .ref (am 22)])), ((am 1), .inl (zI g, 180, .inl (upd (upd (upd (fun _ => 0) 0 60) 1 1) 2 1)))] := hD
    refine lv_aload_n hx hb dL_law_174 rfl (lv_at hl 2 rfl) ?_
    refine lv_aload_n hx hb dL_law_175 rfl (lv_at hl 0 rfl) ?_
    refine lv_iload_n hx hb dL_law_176 rfl (lv_at hl 3 rfl) ?_
    refine lv_iconst (v := 1) hx hb dL_law_177 (by decide) ?_
    refine lv_iadd hx hb dL_law_178 ?_
    refine lv_topi (nm_r (e' := 1) (by decide +kernel) ?_)
    refine va_sld hx hb hX hbl hbA hS (vp_in_iff.mpr (by decide +kernel)) dL_law_179 ?_
    refine lv_topi (nm_r (e' := (xs 1)) (by rfl) ?_)
    refine lv_aload_n hx hb dL_law_180 rfl (lv_at hl 0 rfl) ?_
    refine lv_iload_n hx hb dL_law_181 rfl (lv_at hl 3 rfl) ?_
    refine lv_iconst (v := 2) hx hb dL_law_182 (by decide) ?_
    refine lv_iadd hx hb dL_law_183 ?_
    refine lv_topi (nm_r (e' := 2) (by decide +kernel) ?_)
    refine va_sld hx hb hX hbl hbA hS (vp_in_iff.mpr (by decide +kernel)) dL_law_184 ?_
    refine lv_topi (nm_r (e' := (xs 2)) (by rfl) ?_)
    refine z_calli (wr := []) hP hD hS hA [0, 1] [] (by decide) rfl rfl (by decide) (va_runV (As := [.int (xs 1), .int (xs 2)]) (rest := [.int (-1)]) ⟨hx, hb, hml, hown, hts⟩ (kX5_rule l g (am 0) (am 1) (am 2) (am 3) (am 4) (am 5) (am 6) (am 7) (am 8) (am 9) (am 10) (am 11) (am 12) (am 13) (am 14) (am 15) (am 16) (am 17) (am 18) (am 19) (am 20) (am 21) (am 22) H.size (xs 1) (xs 2)) ⟨callB_of 2 hts (zGood m_o_yX5_rule) rfl rfl rfl (hts _ m_z_RX5) (hts _ m_m_RL_17) ⟨by decide +kernel, by decide +kernel, by decide +kernel⟩ ⟨Nat.le_of_ble_eq_true rfl, Nat.le_of_ble_eq_true rfl⟩, hts _ m_i_yX5_rule, hts _ m_e_yX5_rule⟩ (zPreV hK hN hZ hP hD hS hA [0, 1] (by decide) rfl rfl 5 0 rfl rfl) rfl rfl hl.1 rfl (lv_room (Nat.le_of_ble_eq_true rfl)) dL_law_185 ⟨Nat.le_of_ble_eq_true rfl, Nat.le_of_ble_eq_true rfl⟩) (fun r u H locs hw hP hD hS => ?_)
    rcases hw with ⟨i_655, rfl⟩ | ⟨i_656, i_657, rfl⟩ | ⟨i_658, i_659, i_660, i_661, i_662, i_663, rfl⟩ | ⟨i_664, i_665, i_666, i_667, i_668, i_669, i_670, rfl⟩ | ⟨i_671, i_672, i_673, i_674, i_675, i_676, i_677, i_678, rfl⟩ | ⟨i_679, i_680, i_681, i_682, i_683, i_684, i_685, i_686, rfl⟩ | ⟨i_687, i_688, i_689, i_690, i_691, i_692, i_693, i_694, rfl⟩ | ⟨i_695, i_696, i_697, i_698, i_699, i_700, rfl⟩ | ⟨i_701, i_702, i_703, i_704, i_705, i_706, i_707, rfl⟩ | ⟨i_708, i_709, i_710, i_711, i_712, i_713, i_714, rfl⟩ | ⟨i_715, i_716, i_717, i_718, i_719, i_720, rfl⟩ | ⟨i_721, i_722, i_723, i_724, i_725, i_726, i_727, rfl⟩ | ⟨i_728, i_729, i_730, i_731, i_732, i_733, i_734, rfl⟩ | ⟨i_735, i_736, i_737, i_738, i_739, rfl⟩ | ⟨i_740, i_741, i_742, i_743, i_744, i_745, rfl⟩ | ⟨i_746, i_747, i_748, i_749, i_750, i_751, rfl⟩
    · exfalso; omega
    · exfalso; omega
    · exfalso; omega
    · exfalso; omega
    · exfalso; omega
    · exfalso; omega
    · exfalso; omega
    · exfalso; omega
    · exfalso; omega
    · exfalso; omega
    · exfalso; omega
    · exfalso; omega
    · exfalso; omega
    · exfalso; omega
    · skip
      have hP : va_P g.1 vwCl [] H := hP
      have hD : va_D (fun q : Nat => s.heap.size ≤ q) [] := hD
      refine lv_icmp_eq (tgt := 1054) hx hb dL_law_188 (by decide) (fun _ => ?_) (fun h => absurd h (by decide +kernel))
      exact lc_tail ⟨hx, hb, hml, hr, hlocks, hown, hts, hK, hN, hZ, hX, hbl⟩ hS (lv_sub hl [0, 1, 2, 3] rfl)
    · exfalso; omega
  · skip
    have hP : va_P g.1 vwCl [((am 0), .inr (5, [.ref (am 1), .int 0, .ref (am 2), .int 0, .int 0, .ref (am 3), .ref (am 4), .ref (am 5), .ref (am 6), .int 0, .ref (am 7), .ref (am 8), .ref (am 9), .int 0, .ref (am 10), .ref (am 11), .ref (am 12), .ref (am 13), .ref (am 14), .ref (am 15), .ref (am 16), .ref (am 17), .ref (am 18), .ref (am 19), .ref (am 20), .ref (am 21), .ref (am 22)])), ((am 1), .inl (zI g, 180, .inl (upd (upd (upd (fun _ => 0) 0 60) 1 1) 2 1)))] H := hP
    have hD : va_D (fun q : Nat => s.heap.size ≤ q) [((am 0), .inr (5, [.ref (am 1), .int 0, .ref (am 2), .int 0, .int 0, .ref (am 3), .ref (am 4), .ref (am 5), .ref (am 6), .int 0, .ref (am 7), .ref (am 8), .ref (am 9), .int 0, .ref (am 10), .ref (am 11), .ref (am 12), .ref (am 13), .ref (am 14), .ref (am 15), .ref (am 16), .ref (am 17), .ref (am 18), .ref (am 19), .ref (am 20), .ref (am 21), .ref (am 22)])), ((am 1), .inl (zI g, 180, .inl (upd (upd (upd (fun _ => 0) 0 60) 1 1) 2 1)))] := hD
    refine lv_aload_n hx hb dL_law_174 rfl (lv_at hl 2 rfl) ?_
    refine lv_aload_n hx hb dL_law_175 rfl (lv_at hl 0 rfl) ?_
    refine lv_iload_n hx hb dL_law_176 rfl (lv_at hl 3 rfl) ?_
    refine lv_iconst (v := 1) hx hb dL_law_177 (by decide) ?_
    refine lv_iadd hx hb dL_law_178 ?_
    refine lv_topi (nm_r (e' := 1) (by decide +kernel) ?_)
    refine va_sld hx hb hX hbl hbA hS (vp_in_iff.mpr (by decide +kernel)) dL_law_179 ?_
    refine lv_topi (nm_r (e' := (xs 1)) (by rfl) ?_)
    refine lv_aload_n hx hb dL_law_180 rfl (lv_at hl 0 rfl) ?_
    refine lv_iload_n hx hb dL_law_181 rfl (lv_at hl 3 rfl) ?_
    refine lv_iconst (v := 2) hx hb dL_law_182 (by decide) ?_
    refine lv_iadd hx hb dL_law_183 ?_
    refine lv_topi (nm_r (e' := 2) (by decide +kernel) ?_)
    refine va_sld hx hb hX hbl hbA hS (vp_in_iff.mpr (by decide +kernel)) dL_law_184 ?_
    refine lv_topi (nm_r (e' := (xs 2)) (by rfl) ?_)
    refine z_calli (wr := []) hP hD hS hA [0, 1] [] (by decide) rfl rfl (by decide) (va_runV (As := [.int (xs 1), .int (xs 2)]) (rest := [.int 1]) ⟨hx, hb, hml, hown, hts⟩ (kX5_rule l g (am 0) (am 1) (am 2) (am 3) (am 4) (am 5) (am 6) (am 7) (am 8) (am 9) (am 10) (am 11) (am 12) (am 13) (am 14) (am 15) (am 16) (am 17) (am 18) (am 19) (am 20) (am 21) (am 22) H.size (xs 1) (xs 2)) ⟨callB_of 2 hts (zGood m_o_yX5_rule) rfl rfl rfl (hts _ m_z_RX5) (hts _ m_m_RL_17) ⟨by decide +kernel, by decide +kernel, by decide +kernel⟩ ⟨Nat.le_of_ble_eq_true rfl, Nat.le_of_ble_eq_true rfl⟩, hts _ m_i_yX5_rule, hts _ m_e_yX5_rule⟩ (zPreV hK hN hZ hP hD hS hA [0, 1] (by decide) rfl rfl 5 0 rfl rfl) rfl rfl hl.1 rfl (lv_room (Nat.le_of_ble_eq_true rfl)) dL_law_185 ⟨Nat.le_of_ble_eq_true rfl, Nat.le_of_ble_eq_true rfl⟩) (fun r u H locs hw hP hD hS => ?_)
    rcases hw with ⟨i_752, rfl⟩ | ⟨i_753, i_754, rfl⟩ | ⟨i_755, i_756, i_757, i_758, i_759, i_760, rfl⟩ | ⟨i_761, i_762, i_763, i_764, i_765, i_766, i_767, rfl⟩ | ⟨i_768, i_769, i_770, i_771, i_772, i_773, i_774, i_775, rfl⟩ | ⟨i_776, i_777, i_778, i_779, i_780, i_781, i_782, i_783, rfl⟩ | ⟨i_784, i_785, i_786, i_787, i_788, i_789, i_790, i_791, rfl⟩ | ⟨i_792, i_793, i_794, i_795, i_796, i_797, rfl⟩ | ⟨i_798, i_799, i_800, i_801, i_802, i_803, i_804, rfl⟩ | ⟨i_805, i_806, i_807, i_808, i_809, i_810, i_811, rfl⟩ | ⟨i_812, i_813, i_814, i_815, i_816, i_817, rfl⟩ | ⟨i_818, i_819, i_820, i_821, i_822, i_823, i_824, rfl⟩ | ⟨i_825, i_826, i_827, i_828, i_829, i_830, i_831, rfl⟩ | ⟨i_832, i_833, i_834, i_835, i_836, rfl⟩ | ⟨i_837, i_838, i_839, i_840, i_841, i_842, rfl⟩ | ⟨i_843, i_844, i_845, i_846, i_847, i_848, rfl⟩
    · exfalso; omega
    · exfalso; omega
    · exfalso; omega
    · exfalso; omega
    · exfalso; omega
    · exfalso; omega
    · exfalso; omega
    · exfalso; omega
    · exfalso; omega
    · exfalso; omega
    · exfalso; omega
    · exfalso; omega
    · exfalso; omega
    · exfalso; omega
    · exfalso; omega
    · skip
      have hP : va_P g.1 vwCl [] H := hP
      have hD : va_D (fun q : Nat => s.heap.size ≤ q) [] := hD
      refine lv_icmp_eq (tgt := 1054) hx hb dL_law_188 (by decide) (fun _ => ?_) (fun h => absurd h (by decide +kernel))
      exact lc_tail ⟨hx, hb, hml, hr, hlocks, hown, hts, hK, hN, hZ, hX, hbl⟩ hS (lv_sub hl [0, 1, 2, 3] rfl)
  · skip
    have hP : va_P g.1 vwCl [((am 0), .inr (5, [.ref (am 1), .int 0, .ref (am 2), .int 0, .int 0, .ref (am 3), .ref (am 4), .ref (am 5), .ref (am 6), .int 0, .ref (am 7), .ref (am 8), .ref (am 9), .int 0, .ref (am 10), .ref (am 11), .ref (am 12), .ref (am 13), .ref (am 14), .ref (am 15), .ref (am 16), .ref (am 17), .ref (am 18), .ref (am 19), .ref (am 20), .ref (am 21), .ref (am 22)])), ((am 1), .inl (zI g, 180, .inl (upd (upd (upd (fun _ => 0) 0 60) 1 1) 2 1)))] H := hP
    have hD : va_D (fun q : Nat => s.heap.size ≤ q) [((am 0), .inr (5, [.ref (am 1), .int 0, .ref (am 2), .int 0, .int 0, .ref (am 3), .ref (am 4), .ref (am 5), .ref (am 6), .int 0, .ref (am 7), .ref (am 8), .ref (am 9), .int 0, .ref (am 10), .ref (am 11), .ref (am 12), .ref (am 13), .ref (am 14), .ref (am 15), .ref (am 16), .ref (am 17), .ref (am 18), .ref (am 19), .ref (am 20), .ref (am 21), .ref (am 22)])), ((am 1), .inl (zI g, 180, .inl (upd (upd (upd (fun _ => 0) 0 60) 1 1) 2 1)))] := hD
    refine lv_aload_n hx hb dL_law_174 rfl (lv_at hl 2 rfl) ?_
    refine lv_aload_n hx hb dL_law_175 rfl (lv_at hl 0 rfl) ?_
    refine lv_iload_n hx hb dL_law_176 rfl (lv_at hl 3 rfl) ?_
    refine lv_iconst (v := 1) hx hb dL_law_177 (by decide) ?_
    refine lv_iadd hx hb dL_law_178 ?_
    refine lv_topi (nm_r (e' := 1) (by decide +kernel) ?_)
    refine va_sld hx hb hX hbl hbA hS (vp_in_iff.mpr (by decide +kernel)) dL_law_179 ?_
    refine lv_topi (nm_r (e' := (xs 1)) (by rfl) ?_)
    refine lv_aload_n hx hb dL_law_180 rfl (lv_at hl 0 rfl) ?_
    refine lv_iload_n hx hb dL_law_181 rfl (lv_at hl 3 rfl) ?_
    refine lv_iconst (v := 2) hx hb dL_law_182 (by decide) ?_
    refine lv_iadd hx hb dL_law_183 ?_
    refine lv_topi (nm_r (e' := 2) (by decide +kernel) ?_)
    refine va_sld hx hb hX hbl hbA hS (vp_in_iff.mpr (by decide +kernel)) dL_law_184 ?_
    refine lv_topi (nm_r (e' := (xs 2)) (by rfl) ?_)
    refine z_calli (wr := []) hP hD hS hA [0, 1] [] (by decide) rfl rfl (by decide) (va_runV (As := [.int (xs 1), .int (xs 2)]) (rest := [.int (-1)]) ⟨hx, hb, hml, hown, hts⟩ (kX5_rule l g (am 0) (am 1) (am 2) (am 3) (am 4) (am 5) (am 6) (am 7) (am 8) (am 9) (am 10) (am 11) (am 12) (am 13) (am 14) (am 15) (am 16) (am 17) (am 18) (am 19) (am 20) (am 21) (am 22) H.size (xs 1) (xs 2)) ⟨callB_of 2 hts (zGood m_o_yX5_rule) rfl rfl rfl (hts _ m_z_RX5) (hts _ m_m_RL_17) ⟨by decide +kernel, by decide +kernel, by decide +kernel⟩ ⟨Nat.le_of_ble_eq_true rfl, Nat.le_of_ble_eq_true rfl⟩, hts _ m_i_yX5_rule, hts _ m_e_yX5_rule⟩ (zPreV hK hN hZ hP hD hS hA [0, 1] (by decide) rfl rfl 5 0 rfl rfl) rfl rfl hl.1 rfl (lv_room (Nat.le_of_ble_eq_true rfl)) dL_law_185 ⟨Nat.le_of_ble_eq_true rfl, Nat.le_of_ble_eq_true rfl⟩) (fun r u H locs hw hP hD hS => ?_)
    rcases hw with ⟨i_849, rfl⟩ | ⟨i_850, i_851, rfl⟩ | ⟨i_852, i_853, i_854, i_855, i_856, i_857, rfl⟩ | ⟨i_858, i_859, i_860, i_861, i_862, i_863, i_864, rfl⟩ | ⟨i_865, i_866, i_867, i_868, i_869, i_870, i_871, i_872, rfl⟩ | ⟨i_873, i_874, i_875, i_876, i_877, i_878, i_879, i_880, rfl⟩ | ⟨i_881, i_882, i_883, i_884, i_885, i_886, i_887, i_888, rfl⟩ | ⟨i_889, i_890, i_891, i_892, i_893, i_894, rfl⟩ | ⟨i_895, i_896, i_897, i_898, i_899, i_900, i_901, rfl⟩ | ⟨i_902, i_903, i_904, i_905, i_906, i_907, i_908, rfl⟩ | ⟨i_909, i_910, i_911, i_912, i_913, i_914, rfl⟩ | ⟨i_915, i_916, i_917, i_918, i_919, i_920, i_921, rfl⟩ | ⟨i_922, i_923, i_924, i_925, i_926, i_927, i_928, rfl⟩ | ⟨i_929, i_930, i_931, i_932, i_933, rfl⟩ | ⟨i_934, i_935, i_936, i_937, i_938, i_939, rfl⟩ | ⟨i_940, i_941, i_942, i_943, i_944, i_945, rfl⟩
    · exfalso; omega
    · exfalso; omega
    · skip
      have hP : va_P g.1 vwCl [] H := hP
      have hD : va_D (fun q : Nat => s.heap.size ≤ q) [] := hD
      refine lv_icmp_eq (tgt := 1054) hx hb dL_law_188 (by decide) (fun _ => ?_) (fun h => absurd h (by decide +kernel))
      exact lc_tail ⟨hx, hb, hml, hr, hlocks, hown, hts, hK, hN, hZ, hX, hbl⟩ hS (lv_sub hl [0, 1, 2, 3] rfl)
    · exfalso; omega
    · exfalso; omega
    · exfalso; omega
    · exfalso; omega
    · exfalso; omega
    · exfalso; omega
    · exfalso; omega
    · exfalso; omega
    · exfalso; omega
    · exfalso; omega
    · exfalso; omega
    · exfalso; omega
    · exfalso; omega
  · skip
    have hP : va_P g.1 vwCl [((am 0), .inr (5, [.ref (am 1), .int 0, .ref (am 2), .int 0, .int 0, .ref (am 3), .ref (am 4), .ref (am 5), .ref (am 6), .int 0, .ref (am 7), .ref (am 8), .ref (am 9), .int 0, .ref (am 10), .ref (am 11), .ref (am 12), .ref (am 13), .ref (am 14), .ref (am 15), .ref (am 16), .ref (am 17), .ref (am 18), .ref (am 19), .ref (am 20), .ref (am 21), .ref (am 22)])), ((am 1), .inl (zI g, 180, .inl (upd (upd (upd (fun _ => 0) 0 60) 1 1) 2 1)))] H := hP
    have hD : va_D (fun q : Nat => s.heap.size ≤ q) [((am 0), .inr (5, [.ref (am 1), .int 0, .ref (am 2), .int 0, .int 0, .ref (am 3), .ref (am 4), .ref (am 5), .ref (am 6), .int 0, .ref (am 7), .ref (am 8), .ref (am 9), .int 0, .ref (am 10), .ref (am 11), .ref (am 12), .ref (am 13), .ref (am 14), .ref (am 15), .ref (am 16), .ref (am 17), .ref (am 18), .ref (am 19), .ref (am 20), .ref (am 21), .ref (am 22)])), ((am 1), .inl (zI g, 180, .inl (upd (upd (upd (fun _ => 0) 0 60) 1 1) 2 1)))] := hD
    refine lv_aload_n hx hb dL_law_174 rfl (lv_at hl 2 rfl) ?_
    refine lv_aload_n hx hb dL_law_175 rfl (lv_at hl 0 rfl) ?_
    refine lv_iload_n hx hb dL_law_176 rfl (lv_at hl 3 rfl) ?_
    refine lv_iconst (v := 1) hx hb dL_law_177 (by decide) ?_
    refine lv_iadd hx hb dL_law_178 ?_
    refine lv_topi (nm_r (e' := 1) (by decide +kernel) ?_)
    refine va_sld hx hb hX hbl hbA hS (vp_in_iff.mpr (by decide +kernel)) dL_law_179 ?_
    refine lv_topi (nm_r (e' := (xs 1)) (by rfl) ?_)
    refine lv_aload_n hx hb dL_law_180 rfl (lv_at hl 0 rfl) ?_
    refine lv_iload_n hx hb dL_law_181 rfl (lv_at hl 3 rfl) ?_
    refine lv_iconst (v := 2) hx hb dL_law_182 (by decide) ?_
    refine lv_iadd hx hb dL_law_183 ?_
    refine lv_topi (nm_r (e' := 2) (by decide +kernel) ?_)
    refine va_sld hx hb hX hbl hbA hS (vp_in_iff.mpr (by decide +kernel)) dL_law_184 ?_
    refine lv_topi (nm_r (e' := (xs 2)) (by rfl) ?_)
    refine z_calli (wr := []) hP hD hS hA [0, 1] [] (by decide) rfl rfl (by decide) (va_runV (As := [.int (xs 1), .int (xs 2)]) (rest := [.int (-1)]) ⟨hx, hb, hml, hown, hts⟩ (kX5_rule l g (am 0) (am 1) (am 2) (am 3) (am 4) (am 5) (am 6) (am 7) (am 8) (am 9) (am 10) (am 11) (am 12) (am 13) (am 14) (am 15) (am 16) (am 17) (am 18) (am 19) (am 20) (am 21) (am 22) H.size (xs 1) (xs 2)) ⟨callB_of 2 hts (zGood m_o_yX5_rule) rfl rfl rfl (hts _ m_z_RX5) (hts _ m_m_RL_17) ⟨by decide +kernel, by decide +kernel, by decide +kernel⟩ ⟨Nat.le_of_ble_eq_true rfl, Nat.le_of_ble_eq_true rfl⟩, hts _ m_i_yX5_rule, hts _ m_e_yX5_rule⟩ (zPreV hK hN hZ hP hD hS hA [0, 1] (by decide) rfl rfl 5 0 rfl rfl) rfl rfl hl.1 rfl (lv_room (Nat.le_of_ble_eq_true rfl)) dL_law_185 ⟨Nat.le_of_ble_eq_true rfl, Nat.le_of_ble_eq_true rfl⟩) (fun r u H locs hw hP hD hS => ?_)
    rcases hw with ⟨i_946, rfl⟩ | ⟨i_947, i_948, rfl⟩ | ⟨i_949, i_950, i_951, i_952, i_953, i_954, rfl⟩ | ⟨i_955, i_956, i_957, i_958, i_959, i_960, i_961, rfl⟩ | ⟨i_962, i_963, i_964, i_965, i_966, i_967, i_968, i_969, rfl⟩ | ⟨i_970, i_971, i_972, i_973, i_974, i_975, i_976, i_977, rfl⟩ | ⟨i_978, i_979, i_980, i_981, i_982, i_983, i_984, i_985, rfl⟩ | ⟨i_986, i_987, i_988, i_989, i_990, i_991, rfl⟩ | ⟨i_992, i_993, i_994, i_995, i_996, i_997, i_998, rfl⟩ | ⟨i_999, i_1000, i_1001, i_1002, i_1003, i_1004, i_1005, rfl⟩ | ⟨i_1006, i_1007, i_1008, i_1009, i_1010, i_1011, rfl⟩ | ⟨i_1012, i_1013, i_1014, i_1015, i_1016, i_1017, i_1018, rfl⟩ | ⟨i_1019, i_1020, i_1021, i_1022, i_1023, i_1024, i_1025, rfl⟩ | ⟨i_1026, i_1027, i_1028, i_1029, i_1030, rfl⟩ | ⟨i_1031, i_1032, i_1033, i_1034, i_1035, i_1036, rfl⟩ | ⟨i_1037, i_1038, i_1039, i_1040, i_1041, i_1042, rfl⟩
    · exfalso; omega
    · exfalso; omega
    · exfalso; omega
    · skip
      have hP : va_P g.1 vwCl [] H := hP
      have hD : va_D (fun q : Nat => s.heap.size ≤ q) [] := hD
      refine lv_icmp_eq (tgt := 1054) hx hb dL_law_188 (by decide) (fun _ => ?_) (fun h => absurd h (by decide +kernel))
      exact lc_tail ⟨hx, hb, hml, hr, hlocks, hown, hts, hK, hN, hZ, hX, hbl⟩ hS (lv_sub hl [0, 1, 2, 3] rfl)
    · exfalso; omega
    · exfalso; omega
    · exfalso; omega
    · exfalso; omega
    · exfalso; omega
    · exfalso; omega
    · exfalso; omega
    · exfalso; omega
    · exfalso; omega
    · exfalso; omega
    · exfalso; omega
    · exfalso; omega
  · skip
    have hP : va_P g.1 vwCl [((am 0), .inr (5, [.ref (am 1), .int 0, .ref (am 2), .int 0, .int 0, .ref (am 3), .ref (am 4), .ref (am 5), .ref (am 6), .int 0, .ref (am 7), .ref (am 8), .ref (am 9), .int 0, .ref (am 10), .ref (am 11), .ref (am 12), .ref (am 13), .ref (am 14), .ref (am 15), .ref (am 16), .ref (am 17), .ref (am 18), .ref (am 19), .ref (am 20), .ref (am 21), .ref (am 22)])), ((am 1), .inl (zI g, 180, .inl (upd (upd (upd (fun _ => 0) 0 60) 1 1) 2 1)))] H := hP
    have hD : va_D (fun q : Nat => s.heap.size ≤ q) [((am 0), .inr (5, [.ref (am 1), .int 0, .ref (am 2), .int 0, .int 0, .ref (am 3), .ref (am 4), .ref (am 5), .ref (am 6), .int 0, .ref (am 7), .ref (am 8), .ref (am 9), .int 0, .ref (am 10), .ref (am 11), .ref (am 12), .ref (am 13), .ref (am 14), .ref (am 15), .ref (am 16), .ref (am 17), .ref (am 18), .ref (am 19), .ref (am 20), .ref (am 21), .ref (am 22)])), ((am 1), .inl (zI g, 180, .inl (upd (upd (upd (fun _ => 0) 0 60) 1 1) 2 1)))] := hD
    refine lv_aload_n hx hb dL_law_174 rfl (lv_at hl 2 rfl) ?_
    refine lv_aload_n hx hb dL_law_175 rfl (lv_at hl 0 rfl) ?_
    refine lv_iload_n hx hb dL_law_176 rfl (lv_at hl 3 rfl) ?_
    refine lv_iconst (v := 1) hx hb dL_law_177 (by decide) ?_
    refine lv_iadd hx hb dL_law_178 ?_
    refine lv_topi (nm_r (e' := 1) (by decide +kernel) ?_)
    refine va_sld hx hb hX hbl hbA hS (vp_in_iff.mpr (by decide +kernel)) dL_law_179 ?_
    refine lv_topi (nm_r (e' := (xs 1)) (by rfl) ?_)
    refine lv_aload_n hx hb dL_law_180 rfl (lv_at hl 0 rfl) ?_
    refine lv_iload_n hx hb dL_law_181 rfl (lv_at hl 3 rfl) ?_
    refine lv_iconst (v := 2) hx hb dL_law_182 (by decide) ?_
    refine lv_iadd hx hb dL_law_183 ?_
    refine lv_topi (nm_r (e' := 2) (by decide +kernel) ?_)
    refine va_sld hx hb hX hbl hbA hS (vp_in_iff.mpr (by decide +kernel)) dL_law_184 ?_
    refine lv_topi (nm_r (e' := (xs 2)) (by rfl) ?_)
    refine z_calli (wr := []) hP hD hS hA [0, 1] [] (by decide) rfl rfl (by decide) (va_runV (As := [.int (xs 1), .int (xs 2)]) (rest := [.int 1]) ⟨hx, hb, hml, hown, hts⟩ (kX5_rule l g (am 0) (am 1) (am 2) (am 3) (am 4) (am 5) (am 6) (am 7) (am 8) (am 9) (am 10) (am 11) (am 12) (am 13) (am 14) (am 15) (am 16) (am 17) (am 18) (am 19) (am 20) (am 21) (am 22) H.size (xs 1) (xs 2)) ⟨callB_of 2 hts (zGood m_o_yX5_rule) rfl rfl rfl (hts _ m_z_RX5) (hts _ m_m_RL_17) ⟨by decide +kernel, by decide +kernel, by decide +kernel⟩ ⟨Nat.le_of_ble_eq_true rfl, Nat.le_of_ble_eq_true rfl⟩, hts _ m_i_yX5_rule, hts _ m_e_yX5_rule⟩ (zPreV hK hN hZ hP hD hS hA [0, 1] (by decide) rfl rfl 5 0 rfl rfl) rfl rfl hl.1 rfl (lv_room (Nat.le_of_ble_eq_true rfl)) dL_law_185 ⟨Nat.le_of_ble_eq_true rfl, Nat.le_of_ble_eq_true rfl⟩) (fun r u H locs hw hP hD hS => ?_)
    rcases hw with ⟨i_1043, rfl⟩ | ⟨i_1044, i_1045, rfl⟩ | ⟨i_1046, i_1047, i_1048, i_1049, i_1050, i_1051, rfl⟩ | ⟨i_1052, i_1053, i_1054, i_1055, i_1056, i_1057, i_1058, rfl⟩ | ⟨i_1059, i_1060, i_1061, i_1062, i_1063, i_1064, i_1065, i_1066, rfl⟩ | ⟨i_1067, i_1068, i_1069, i_1070, i_1071, i_1072, i_1073, i_1074, rfl⟩ | ⟨i_1075, i_1076, i_1077, i_1078, i_1079, i_1080, i_1081, i_1082, rfl⟩ | ⟨i_1083, i_1084, i_1085, i_1086, i_1087, i_1088, rfl⟩ | ⟨i_1089, i_1090, i_1091, i_1092, i_1093, i_1094, i_1095, rfl⟩ | ⟨i_1096, i_1097, i_1098, i_1099, i_1100, i_1101, i_1102, rfl⟩ | ⟨i_1103, i_1104, i_1105, i_1106, i_1107, i_1108, rfl⟩ | ⟨i_1109, i_1110, i_1111, i_1112, i_1113, i_1114, i_1115, rfl⟩ | ⟨i_1116, i_1117, i_1118, i_1119, i_1120, i_1121, i_1122, rfl⟩ | ⟨i_1123, i_1124, i_1125, i_1126, i_1127, rfl⟩ | ⟨i_1128, i_1129, i_1130, i_1131, i_1132, i_1133, rfl⟩ | ⟨i_1134, i_1135, i_1136, i_1137, i_1138, i_1139, rfl⟩
    · exfalso; omega
    · exfalso; omega
    · exfalso; omega
    · exfalso; omega
    · skip
      have hP : va_P g.1 vwCl [] H := hP
      have hD : va_D (fun q : Nat => s.heap.size ≤ q) [] := hD
      refine lv_icmp_eq (tgt := 1054) hx hb dL_law_188 (by decide) (fun _ => ?_) (fun h => absurd h (by decide +kernel))
      exact lc_tail ⟨hx, hb, hml, hr, hlocks, hown, hts, hK, hN, hZ, hX, hbl⟩ hS (lv_sub hl [0, 1, 2, 3] rfl)
    · exfalso; omega
    · exfalso; omega
    · exfalso; omega
    · exfalso; omega
    · exfalso; omega
    · exfalso; omega
    · exfalso; omega
    · exfalso; omega
    · exfalso; omega
    · exfalso; omega
    · exfalso; omega
  · skip
    have hP : va_P g.1 vwCl [((am 0), .inr (5, [.ref (am 1), .int 0, .ref (am 2), .int 0, .int 0, .ref (am 3), .ref (am 4), .ref (am 5), .ref (am 6), .int 0, .ref (am 7), .ref (am 8), .ref (am 9), .int 0, .ref (am 10), .ref (am 11), .ref (am 12), .ref (am 13), .ref (am 14), .ref (am 15), .ref (am 16), .ref (am 17), .ref (am 18), .ref (am 19), .ref (am 20), .ref (am 21), .ref (am 22)])), ((am 1), .inl (zI g, 180, .inl (upd (upd (upd (fun _ => 0) 0 60) 1 1) 2 1)))] H := hP
    have hD : va_D (fun q : Nat => s.heap.size ≤ q) [((am 0), .inr (5, [.ref (am 1), .int 0, .ref (am 2), .int 0, .int 0, .ref (am 3), .ref (am 4), .ref (am 5), .ref (am 6), .int 0, .ref (am 7), .ref (am 8), .ref (am 9), .int 0, .ref (am 10), .ref (am 11), .ref (am 12), .ref (am 13), .ref (am 14), .ref (am 15), .ref (am 16), .ref (am 17), .ref (am 18), .ref (am 19), .ref (am 20), .ref (am 21), .ref (am 22)])), ((am 1), .inl (zI g, 180, .inl (upd (upd (upd (fun _ => 0) 0 60) 1 1) 2 1)))] := hD
    refine lv_aload_n hx hb dL_law_174 rfl (lv_at hl 2 rfl) ?_
    refine lv_aload_n hx hb dL_law_175 rfl (lv_at hl 0 rfl) ?_
    refine lv_iload_n hx hb dL_law_176 rfl (lv_at hl 3 rfl) ?_
    refine lv_iconst (v := 1) hx hb dL_law_177 (by decide) ?_
    refine lv_iadd hx hb dL_law_178 ?_
    refine lv_topi (nm_r (e' := 1) (by decide +kernel) ?_)
    refine va_sld hx hb hX hbl hbA hS (vp_in_iff.mpr (by decide +kernel)) dL_law_179 ?_
    refine lv_topi (nm_r (e' := (xs 1)) (by rfl) ?_)
    refine lv_aload_n hx hb dL_law_180 rfl (lv_at hl 0 rfl) ?_
    refine lv_iload_n hx hb dL_law_181 rfl (lv_at hl 3 rfl) ?_
    refine lv_iconst (v := 2) hx hb dL_law_182 (by decide) ?_
    refine lv_iadd hx hb dL_law_183 ?_
    refine lv_topi (nm_r (e' := 2) (by decide +kernel) ?_)
    refine va_sld hx hb hX hbl hbA hS (vp_in_iff.mpr (by decide +kernel)) dL_law_184 ?_
    refine lv_topi (nm_r (e' := (xs 2)) (by rfl) ?_)
    refine z_calli (wr := []) hP hD hS hA [0, 1] [] (by decide) rfl rfl (by decide) (va_runV (As := [.int (xs 1), .int (xs 2)]) (rest := [.int (-1)]) ⟨hx, hb, hml, hown, hts⟩ (kX5_rule l g (am 0) (am 1) (am 2) (am 3) (am 4) (am 5) (am 6) (am 7) (am 8) (am 9) (am 10) (am 11) (am 12) (am 13) (am 14) (am 15) (am 16) (am 17) (am 18) (am 19) (am 20) (am 21) (am 22) H.size (xs 1) (xs 2)) ⟨callB_of 2 hts (zGood m_o_yX5_rule) rfl rfl rfl (hts _ m_z_RX5) (hts _ m_m_RL_17) ⟨by decide +kernel, by decide +kernel, by decide +kernel⟩ ⟨Nat.le_of_ble_eq_true rfl, Nat.le_of_ble_eq_true rfl⟩, hts _ m_i_yX5_rule, hts _ m_e_yX5_rule⟩ (zPreV hK hN hZ hP hD hS hA [0, 1] (by decide) rfl rfl 5 0 rfl rfl) rfl rfl hl.1 rfl (lv_room (Nat.le_of_ble_eq_true rfl)) dL_law_185 ⟨Nat.le_of_ble_eq_true rfl, Nat.le_of_ble_eq_true rfl⟩) (fun r u H locs hw hP hD hS => ?_)
    rcases hw with ⟨i_1140, rfl⟩ | ⟨i_1141, i_1142, rfl⟩ | ⟨i_1143, i_1144, i_1145, i_1146, i_1147, i_1148, rfl⟩ | ⟨i_1149, i_1150, i_1151, i_1152, i_1153, i_1154, i_1155, rfl⟩ | ⟨i_1156, i_1157, i_1158, i_1159, i_1160, i_1161, i_1162, i_1163, rfl⟩ | ⟨i_1164, i_1165, i_1166, i_1167, i_1168, i_1169, i_1170, i_1171, rfl⟩ | ⟨i_1172, i_1173, i_1174, i_1175, i_1176, i_1177, i_1178, i_1179, rfl⟩ | ⟨i_1180, i_1181, i_1182, i_1183, i_1184, i_1185, rfl⟩ | ⟨i_1186, i_1187, i_1188, i_1189, i_1190, i_1191, i_1192, rfl⟩ | ⟨i_1193, i_1194, i_1195, i_1196, i_1197, i_1198, i_1199, rfl⟩ | ⟨i_1200, i_1201, i_1202, i_1203, i_1204, i_1205, rfl⟩ | ⟨i_1206, i_1207, i_1208, i_1209, i_1210, i_1211, i_1212, rfl⟩ | ⟨i_1213, i_1214, i_1215, i_1216, i_1217, i_1218, i_1219, rfl⟩ | ⟨i_1220, i_1221, i_1222, i_1223, i_1224, rfl⟩ | ⟨i_1225, i_1226, i_1227, i_1228, i_1229, i_1230, rfl⟩ | ⟨i_1231, i_1232, i_1233, i_1234, i_1235, i_1236, rfl⟩
    · exfalso; omega
    · exfalso; omega
    · exfalso; omega
    · exfalso; omega
    · exfalso; omega
    · exfalso; omega
    · exfalso; omega
    · skip
      have hP : va_P g.1 vwCl [] H := hP
      have hD : va_D (fun q : Nat => s.heap.size ≤ q) [] := hD
      refine lv_icmp_eq (tgt := 1054) hx hb dL_law_188 (by decide) (fun _ => ?_) (fun h => absurd h (by decide +kernel))
      exact lc_tail ⟨hx, hb, hml, hr, hlocks, hown, hts, hK, hN, hZ, hX, hbl⟩ hS (lv_sub hl [0, 1, 2, 3] rfl)
    · exfalso; omega
    · exfalso; omega
    · exfalso; omega
    · exfalso; omega
    · exfalso; omega
    · exfalso; omega
    · exfalso; omega
    · exfalso; omega
  · skip
    have hP : va_P g.1 vwCl [((am 0), .inr (5, [.ref (am 1), .int 0, .ref (am 2), .int 0, .int 0, .ref (am 3), .ref (am 4), .ref (am 5), .ref (am 6), .int 0, .ref (am 7), .ref (am 8), .ref (am 9), .int 0, .ref (am 10), .ref (am 11), .ref (am 12), .ref (am 13), .ref (am 14), .ref (am 15), .ref (am 16), .ref (am 17), .ref (am 18), .ref (am 19), .ref (am 20), .ref (am 21), .ref (am 22)])), ((am 1), .inl (zI g, 180, .inl (upd (upd (upd (fun _ => 0) 0 60) 1 1) 2 1)))] H := hP
    have hD : va_D (fun q : Nat => s.heap.size ≤ q) [((am 0), .inr (5, [.ref (am 1), .int 0, .ref (am 2), .int 0, .int 0, .ref (am 3), .ref (am 4), .ref (am 5), .ref (am 6), .int 0, .ref (am 7), .ref (am 8), .ref (am 9), .int 0, .ref (am 10), .ref (am 11), .ref (am 12), .ref (am 13), .ref (am 14), .ref (am 15), .ref (am 16), .ref (am 17), .ref (am 18), .ref (am 19), .ref (am 20), .ref (am 21), .ref (am 22)])), ((am 1), .inl (zI g, 180, .inl (upd (upd (upd (fun _ => 0) 0 60) 1 1) 2 1)))] := hD
    refine lv_aload_n hx hb dL_law_174 rfl (lv_at hl 2 rfl) ?_
    refine lv_aload_n hx hb dL_law_175 rfl (lv_at hl 0 rfl) ?_
    refine lv_iload_n hx hb dL_law_176 rfl (lv_at hl 3 rfl) ?_
    refine lv_iconst (v := 1) hx hb dL_law_177 (by decide) ?_
    refine lv_iadd hx hb dL_law_178 ?_
    refine lv_topi (nm_r (e' := 1) (by decide +kernel) ?_)
    refine va_sld hx hb hX hbl hbA hS (vp_in_iff.mpr (by decide +kernel)) dL_law_179 ?_
    refine lv_topi (nm_r (e' := (xs 1)) (by rfl) ?_)
    refine lv_aload_n hx hb dL_law_180 rfl (lv_at hl 0 rfl) ?_
    refine lv_iload_n hx hb dL_law_181 rfl (lv_at hl 3 rfl) ?_
    refine lv_iconst (v := 2) hx hb dL_law_182 (by decide) ?_
    refine lv_iadd hx hb dL_law_183 ?_
    refine lv_topi (nm_r (e' := 2) (by decide +kernel) ?_)
    refine va_sld hx hb hX hbl hbA hS (vp_in_iff.mpr (by decide +kernel)) dL_law_184 ?_
    refine lv_topi (nm_r (e' := (xs 2)) (by rfl) ?_)
    refine z_calli (wr := []) hP hD hS hA [0, 1] [] (by decide) rfl rfl (by decide) (va_runV (As := [.int (xs 1), .int (xs 2)]) (rest := [.int (-1)]) ⟨hx, hb, hml, hown, hts⟩ (kX5_rule l g (am 0) (am 1) (am 2) (am 3) (am 4) (am 5) (am 6) (am 7) (am 8) (am 9) (am 10) (am 11) (am 12) (am 13) (am 14) (am 15) (am 16) (am 17) (am 18) (am 19) (am 20) (am 21) (am 22) H.size (xs 1) (xs 2)) ⟨callB_of 2 hts (zGood m_o_yX5_rule) rfl rfl rfl (hts _ m_z_RX5) (hts _ m_m_RL_17) ⟨by decide +kernel, by decide +kernel, by decide +kernel⟩ ⟨Nat.le_of_ble_eq_true rfl, Nat.le_of_ble_eq_true rfl⟩, hts _ m_i_yX5_rule, hts _ m_e_yX5_rule⟩ (zPreV hK hN hZ hP hD hS hA [0, 1] (by decide) rfl rfl 5 0 rfl rfl) rfl rfl hl.1 rfl (lv_room (Nat.le_of_ble_eq_true rfl)) dL_law_185 ⟨Nat.le_of_ble_eq_true rfl, Nat.le_of_ble_eq_true rfl⟩) (fun r u H locs hw hP hD hS => ?_)
    rcases hw with ⟨i_1237, rfl⟩ | ⟨i_1238, i_1239, rfl⟩ | ⟨i_1240, i_1241, i_1242, i_1243, i_1244, i_1245, rfl⟩ | ⟨i_1246, i_1247, i_1248, i_1249, i_1250, i_1251, i_1252, rfl⟩ | ⟨i_1253, i_1254, i_1255, i_1256, i_1257, i_1258, i_1259, i_1260, rfl⟩ | ⟨i_1261, i_1262, i_1263, i_1264, i_1265, i_1266, i_1267, i_1268, rfl⟩ | ⟨i_1269, i_1270, i_1271, i_1272, i_1273, i_1274, i_1275, i_1276, rfl⟩ | ⟨i_1277, i_1278, i_1279, i_1280, i_1281, i_1282, rfl⟩ | ⟨i_1283, i_1284, i_1285, i_1286, i_1287, i_1288, i_1289, rfl⟩ | ⟨i_1290, i_1291, i_1292, i_1293, i_1294, i_1295, i_1296, rfl⟩ | ⟨i_1297, i_1298, i_1299, i_1300, i_1301, i_1302, rfl⟩ | ⟨i_1303, i_1304, i_1305, i_1306, i_1307, i_1308, i_1309, rfl⟩ | ⟨i_1310, i_1311, i_1312, i_1313, i_1314, i_1315, i_1316, rfl⟩ | ⟨i_1317, i_1318, i_1319, i_1320, i_1321, rfl⟩ | ⟨i_1322, i_1323, i_1324, i_1325, i_1326, i_1327, rfl⟩ | ⟨i_1328, i_1329, i_1330, i_1331, i_1332, i_1333, rfl⟩
    · exfalso; omega
    · exfalso; omega
    · exfalso; omega
    · exfalso; omega
    · exfalso; omega
    · exfalso; omega
    · exfalso; omega
    · exfalso; omega
    · skip
      have hP : va_P g.1 vwCl [] H := hP
      have hD : va_D (fun q : Nat => s.heap.size ≤ q) [] := hD
      refine lv_icmp_eq (tgt := 1054) hx hb dL_law_188 (by decide) (fun _ => ?_) (fun h => absurd h (by decide +kernel))
      exact lc_tail ⟨hx, hb, hml, hr, hlocks, hown, hts, hK, hN, hZ, hX, hbl⟩ hS (lv_sub hl [0, 1, 2, 3] rfl)
    · exfalso; omega
    · exfalso; omega
    · exfalso; omega
    · exfalso; omega
    · exfalso; omega
    · exfalso; omega
    · exfalso; omega
  · skip
    have hP : va_P g.1 vwCl [((am 0), .inr (5, [.ref (am 1), .int 0, .ref (am 2), .int 0, .int 0, .ref (am 3), .ref (am 4), .ref (am 5), .ref (am 6), .int 0, .ref (am 7), .ref (am 8), .ref (am 9), .int 0, .ref (am 10), .ref (am 11), .ref (am 12), .ref (am 13), .ref (am 14), .ref (am 15), .ref (am 16), .ref (am 17), .ref (am 18), .ref (am 19), .ref (am 20), .ref (am 21), .ref (am 22)])), ((am 1), .inl (zI g, 180, .inl (upd (upd (upd (fun _ => 0) 0 60) 1 1) 2 1)))] H := hP
    have hD : va_D (fun q : Nat => s.heap.size ≤ q) [((am 0), .inr (5, [.ref (am 1), .int 0, .ref (am 2), .int 0, .int 0, .ref (am 3), .ref (am 4), .ref (am 5), .ref (am 6), .int 0, .ref (am 7), .ref (am 8), .ref (am 9), .int 0, .ref (am 10), .ref (am 11), .ref (am 12), .ref (am 13), .ref (am 14), .ref (am 15), .ref (am 16), .ref (am 17), .ref (am 18), .ref (am 19), .ref (am 20), .ref (am 21), .ref (am 22)])), ((am 1), .inl (zI g, 180, .inl (upd (upd (upd (fun _ => 0) 0 60) 1 1) 2 1)))] := hD
    refine lv_aload_n hx hb dL_law_174 rfl (lv_at hl 2 rfl) ?_
    refine lv_aload_n hx hb dL_law_175 rfl (lv_at hl 0 rfl) ?_
    refine lv_iload_n hx hb dL_law_176 rfl (lv_at hl 3 rfl) ?_
    refine lv_iconst (v := 1) hx hb dL_law_177 (by decide) ?_
    refine lv_iadd hx hb dL_law_178 ?_
    refine lv_topi (nm_r (e' := 1) (by decide +kernel) ?_)
    refine va_sld hx hb hX hbl hbA hS (vp_in_iff.mpr (by decide +kernel)) dL_law_179 ?_
    refine lv_topi (nm_r (e' := (xs 1)) (by rfl) ?_)
    refine lv_aload_n hx hb dL_law_180 rfl (lv_at hl 0 rfl) ?_
    refine lv_iload_n hx hb dL_law_181 rfl (lv_at hl 3 rfl) ?_
    refine lv_iconst (v := 2) hx hb dL_law_182 (by decide) ?_
    refine lv_iadd hx hb dL_law_183 ?_
    refine lv_topi (nm_r (e' := 2) (by decide +kernel) ?_)
    refine va_sld hx hb hX hbl hbA hS (vp_in_iff.mpr (by decide +kernel)) dL_law_184 ?_
    refine lv_topi (nm_r (e' := (xs 2)) (by rfl) ?_)
    refine z_calli (wr := []) hP hD hS hA [0, 1] [] (by decide) rfl rfl (by decide) (va_runV (As := [.int (xs 1), .int (xs 2)]) (rest := [.int 0]) ⟨hx, hb, hml, hown, hts⟩ (kX5_rule l g (am 0) (am 1) (am 2) (am 3) (am 4) (am 5) (am 6) (am 7) (am 8) (am 9) (am 10) (am 11) (am 12) (am 13) (am 14) (am 15) (am 16) (am 17) (am 18) (am 19) (am 20) (am 21) (am 22) H.size (xs 1) (xs 2)) ⟨callB_of 2 hts (zGood m_o_yX5_rule) rfl rfl rfl (hts _ m_z_RX5) (hts _ m_m_RL_17) ⟨by decide +kernel, by decide +kernel, by decide +kernel⟩ ⟨Nat.le_of_ble_eq_true rfl, Nat.le_of_ble_eq_true rfl⟩, hts _ m_i_yX5_rule, hts _ m_e_yX5_rule⟩ (zPreV hK hN hZ hP hD hS hA [0, 1] (by decide) rfl rfl 5 0 rfl rfl) rfl rfl hl.1 rfl (lv_room (Nat.le_of_ble_eq_true rfl)) dL_law_185 ⟨Nat.le_of_ble_eq_true rfl, Nat.le_of_ble_eq_true rfl⟩) (fun r u H locs hw hP hD hS => ?_)
    rcases hw with ⟨i_1334, rfl⟩ | ⟨i_1335, i_1336, rfl⟩ | ⟨i_1337, i_1338, i_1339, i_1340, i_1341, i_1342, rfl⟩ | ⟨i_1343, i_1344, i_1345, i_1346, i_1347, i_1348, i_1349, rfl⟩ | ⟨i_1350, i_1351, i_1352, i_1353, i_1354, i_1355, i_1356, i_1357, rfl⟩ | ⟨i_1358, i_1359, i_1360, i_1361, i_1362, i_1363, i_1364, i_1365, rfl⟩ | ⟨i_1366, i_1367, i_1368, i_1369, i_1370, i_1371, i_1372, i_1373, rfl⟩ | ⟨i_1374, i_1375, i_1376, i_1377, i_1378, i_1379, rfl⟩ | ⟨i_1380, i_1381, i_1382, i_1383, i_1384, i_1385, i_1386, rfl⟩ | ⟨i_1387, i_1388, i_1389, i_1390, i_1391, i_1392, i_1393, rfl⟩ | ⟨i_1394, i_1395, i_1396, i_1397, i_1398, i_1399, rfl⟩ | ⟨i_1400, i_1401, i_1402, i_1403, i_1404, i_1405, i_1406, rfl⟩ | ⟨i_1407, i_1408, i_1409, i_1410, i_1411, i_1412, i_1413, rfl⟩ | ⟨i_1414, i_1415, i_1416, i_1417, i_1418, rfl⟩ | ⟨i_1419, i_1420, i_1421, i_1422, i_1423, i_1424, rfl⟩ | ⟨i_1425, i_1426, i_1427, i_1428, i_1429, i_1430, rfl⟩
    · exfalso; omega
    · exfalso; omega
    · exfalso; omega
    · exfalso; omega
    · exfalso; omega
    · exfalso; omega
    · exfalso; omega
    · exfalso; omega
    · exfalso; omega
    · skip
      have hP : va_P g.1 vwCl [] H := hP
      have hD : va_D (fun q : Nat => s.heap.size ≤ q) [] := hD
      refine lv_icmp_eq (tgt := 1054) hx hb dL_law_188 (by decide) (fun _ => ?_) (fun h => absurd h (by decide +kernel))
      exact lc_tail ⟨hx, hb, hml, hr, hlocks, hown, hts, hK, hN, hZ, hX, hbl⟩ hS (lv_sub hl [0, 1, 2, 3] rfl)
    · exfalso; omega
    · exfalso; omega
    · exfalso; omega
    · exfalso; omega
    · exfalso; omega
    · exfalso; omega
  · skip
    have hP : va_P g.1 vwCl [((am 0), .inr (5, [.ref (am 1), .int 0, .ref (am 2), .int 0, .int 0, .ref (am 3), .ref (am 4), .ref (am 5), .ref (am 6), .int 0, .ref (am 7), .ref (am 8), .ref (am 9), .int 0, .ref (am 10), .ref (am 11), .ref (am 12), .ref (am 13), .ref (am 14), .ref (am 15), .ref (am 16), .ref (am 17), .ref (am 18), .ref (am 19), .ref (am 20), .ref (am 21), .ref (am 22)])), ((am 1), .inl (zI g, 180, .inl (upd (upd (upd (fun _ => 0) 0 60) 1 1) 2 1)))] H := hP
    have hD : va_D (fun q : Nat => s.heap.size ≤ q) [((am 0), .inr (5, [.ref (am 1), .int 0, .ref (am 2), .int 0, .int 0, .ref (am 3), .ref (am 4), .ref (am 5), .ref (am 6), .int 0, .ref (am 7), .ref (am 8), .ref (am 9), .int 0, .ref (am 10), .ref (am 11), .ref (am 12), .ref (am 13), .ref (am 14), .ref (am 15), .ref (am 16), .ref (am 17), .ref (am 18), .ref (am 19), .ref (am 20), .ref (am 21), .ref (am 22)])), ((am 1), .inl (zI g, 180, .inl (upd (upd (upd (fun _ => 0) 0 60) 1 1) 2 1)))] := hD
    refine lv_aload_n hx hb dL_law_174 rfl (lv_at hl 2 rfl) ?_
    refine lv_aload_n hx hb dL_law_175 rfl (lv_at hl 0 rfl) ?_
    refine lv_iload_n hx hb dL_law_176 rfl (lv_at hl 3 rfl) ?_
    refine lv_iconst (v := 1) hx hb dL_law_177 (by decide) ?_
    refine lv_iadd hx hb dL_law_178 ?_
    refine lv_topi (nm_r (e' := 1) (by decide +kernel) ?_)
    refine va_sld hx hb hX hbl hbA hS (vp_in_iff.mpr (by decide +kernel)) dL_law_179 ?_
    refine lv_topi (nm_r (e' := (xs 1)) (by rfl) ?_)
    refine lv_aload_n hx hb dL_law_180 rfl (lv_at hl 0 rfl) ?_
    refine lv_iload_n hx hb dL_law_181 rfl (lv_at hl 3 rfl) ?_
    refine lv_iconst (v := 2) hx hb dL_law_182 (by decide) ?_
    refine lv_iadd hx hb dL_law_183 ?_
    refine lv_topi (nm_r (e' := 2) (by decide +kernel) ?_)
    refine va_sld hx hb hX hbl hbA hS (vp_in_iff.mpr (by decide +kernel)) dL_law_184 ?_
    refine lv_topi (nm_r (e' := (xs 2)) (by rfl) ?_)
    refine z_calli (wr := []) hP hD hS hA [0, 1] [] (by decide) rfl rfl (by decide) (va_runV (As := [.int (xs 1), .int (xs 2)]) (rest := [.int (-1)]) ⟨hx, hb, hml, hown, hts⟩ (kX5_rule l g (am 0) (am 1) (am 2) (am 3) (am 4) (am 5) (am 6) (am 7) (am 8) (am 9) (am 10) (am 11) (am 12) (am 13) (am 14) (am 15) (am 16) (am 17) (am 18) (am 19) (am 20) (am 21) (am 22) H.size (xs 1) (xs 2)) ⟨callB_of 2 hts (zGood m_o_yX5_rule) rfl rfl rfl (hts _ m_z_RX5) (hts _ m_m_RL_17) ⟨by decide +kernel, by decide +kernel, by decide +kernel⟩ ⟨Nat.le_of_ble_eq_true rfl, Nat.le_of_ble_eq_true rfl⟩, hts _ m_i_yX5_rule, hts _ m_e_yX5_rule⟩ (zPreV hK hN hZ hP hD hS hA [0, 1] (by decide) rfl rfl 5 0 rfl rfl) rfl rfl hl.1 rfl (lv_room (Nat.le_of_ble_eq_true rfl)) dL_law_185 ⟨Nat.le_of_ble_eq_true rfl, Nat.le_of_ble_eq_true rfl⟩) (fun r u H locs hw hP hD hS => ?_)
    rcases hw with ⟨i_1431, rfl⟩ | ⟨i_1432, i_1433, rfl⟩ | ⟨i_1434, i_1435, i_1436, i_1437, i_1438, i_1439, rfl⟩ | ⟨i_1440, i_1441, i_1442, i_1443, i_1444, i_1445, i_1446, rfl⟩ | ⟨i_1447, i_1448, i_1449, i_1450, i_1451, i_1452, i_1453, i_1454, rfl⟩ | ⟨i_1455, i_1456, i_1457, i_1458, i_1459, i_1460, i_1461, i_1462, rfl⟩ | ⟨i_1463, i_1464, i_1465, i_1466, i_1467, i_1468, i_1469, i_1470, rfl⟩ | ⟨i_1471, i_1472, i_1473, i_1474, i_1475, i_1476, rfl⟩ | ⟨i_1477, i_1478, i_1479, i_1480, i_1481, i_1482, i_1483, rfl⟩ | ⟨i_1484, i_1485, i_1486, i_1487, i_1488, i_1489, i_1490, rfl⟩ | ⟨i_1491, i_1492, i_1493, i_1494, i_1495, i_1496, rfl⟩ | ⟨i_1497, i_1498, i_1499, i_1500, i_1501, i_1502, i_1503, rfl⟩ | ⟨i_1504, i_1505, i_1506, i_1507, i_1508, i_1509, i_1510, rfl⟩ | ⟨i_1511, i_1512, i_1513, i_1514, i_1515, rfl⟩ | ⟨i_1516, i_1517, i_1518, i_1519, i_1520, i_1521, rfl⟩ | ⟨i_1522, i_1523, i_1524, i_1525, i_1526, i_1527, rfl⟩
    · exfalso; omega
    · exfalso; omega
    · skip
      have hP : va_P g.1 vwCl [] H := hP
      have hD : va_D (fun q : Nat => s.heap.size ≤ q) [] := hD
      refine lv_icmp_eq (tgt := 1054) hx hb dL_law_188 (by decide) (fun _ => ?_) (fun h => absurd h (by decide +kernel))
      exact lc_tail ⟨hx, hb, hml, hr, hlocks, hown, hts, hK, hN, hZ, hX, hbl⟩ hS (lv_sub hl [0, 1, 2, 3] rfl)
    · exfalso; omega
    · exfalso; omega
    · exfalso; omega
    · exfalso; omega
    · exfalso; omega
    · exfalso; omega
    · exfalso; omega
    · exfalso; omega
    · exfalso; omega
    · exfalso; omega
    · exfalso; omega
    · exfalso; omega
    · exfalso; omega
  · skip
    have hP : va_P g.1 vwCl [((am 0), .inr (5, [.ref (am 1), .int 0, .ref (am 2), .int 0, .int 0, .ref (am 3), .ref (am 4), .ref (am 5), .ref (am 6), .int 0, .ref (am 7), .ref (am 8), .ref (am 9), .int 0, .ref (am 10), .ref (am 11), .ref (am 12), .ref (am 13), .ref (am 14), .ref (am 15), .ref (am 16), .ref (am 17), .ref (am 18), .ref (am 19), .ref (am 20), .ref (am 21), .ref (am 22)])), ((am 1), .inl (zI g, 180, .inl (upd (upd (upd (fun _ => 0) 0 60) 1 1) 2 1)))] H := hP
    have hD : va_D (fun q : Nat => s.heap.size ≤ q) [((am 0), .inr (5, [.ref (am 1), .int 0, .ref (am 2), .int 0, .int 0, .ref (am 3), .ref (am 4), .ref (am 5), .ref (am 6), .int 0, .ref (am 7), .ref (am 8), .ref (am 9), .int 0, .ref (am 10), .ref (am 11), .ref (am 12), .ref (am 13), .ref (am 14), .ref (am 15), .ref (am 16), .ref (am 17), .ref (am 18), .ref (am 19), .ref (am 20), .ref (am 21), .ref (am 22)])), ((am 1), .inl (zI g, 180, .inl (upd (upd (upd (fun _ => 0) 0 60) 1 1) 2 1)))] := hD
    refine lv_aload_n hx hb dL_law_174 rfl (lv_at hl 2 rfl) ?_
    refine lv_aload_n hx hb dL_law_175 rfl (lv_at hl 0 rfl) ?_
    refine lv_iload_n hx hb dL_law_176 rfl (lv_at hl 3 rfl) ?_
    refine lv_iconst (v := 1) hx hb dL_law_177 (by decide) ?_
    refine lv_iadd hx hb dL_law_178 ?_
    refine lv_topi (nm_r (e' := 1) (by decide +kernel) ?_)
    refine va_sld hx hb hX hbl hbA hS (vp_in_iff.mpr (by decide +kernel)) dL_law_179 ?_
    refine lv_topi (nm_r (e' := (xs 1)) (by rfl) ?_)
    refine lv_aload_n hx hb dL_law_180 rfl (lv_at hl 0 rfl) ?_
    refine lv_iload_n hx hb dL_law_181 rfl (lv_at hl 3 rfl) ?_
    refine lv_iconst (v := 2) hx hb dL_law_182 (by decide) ?_
    refine lv_iadd hx hb dL_law_183 ?_
    refine lv_topi (nm_r (e' := 2) (by decide +kernel) ?_)
    refine va_sld hx hb hX hbl hbA hS (vp_in_iff.mpr (by decide +kernel)) dL_law_184 ?_
    refine lv_topi (nm_r (e' := (xs 2)) (by rfl) ?_)
    refine z_calli (wr := []) hP hD hS hA [0, 1] [] (by decide) rfl rfl (by decide) (va_runV (As := [.int (xs 1), .int (xs 2)]) (rest := [.int (-1)]) ⟨hx, hb, hml, hown, hts⟩ (kX5_rule l g (am 0) (am 1) (am 2) (am 3) (am 4) (am 5) (am 6) (am 7) (am 8) (am 9) (am 10) (am 11) (am 12) (am 13) (am 14) (am 15) (am 16) (am 17) (am 18) (am 19) (am 20) (am 21) (am 22) H.size (xs 1) (xs 2)) ⟨callB_of 2 hts (zGood m_o_yX5_rule) rfl rfl rfl (hts _ m_z_RX5) (hts _ m_m_RL_17) ⟨by decide +kernel, by decide +kernel, by decide +kernel⟩ ⟨Nat.le_of_ble_eq_true rfl, Nat.le_of_ble_eq_true rfl⟩, hts _ m_i_yX5_rule, hts _ m_e_yX5_rule⟩ (zPreV hK hN hZ hP hD hS hA [0, 1] (by decide) rfl rfl 5 0 rfl rfl) rfl rfl hl.1 rfl (lv_room (Nat.le_of_ble_eq_true rfl)) dL_law_185 ⟨Nat.le_of_ble_eq_true rfl, Nat.le_of_ble_eq_true rfl⟩) (fun r u H locs hw hP hD hS => ?_)
    rcases hw with ⟨i_1528, rfl⟩ | ⟨i_1529, i_1530, rfl⟩ | ⟨i_1531, i_1532, i_1533, i_1534, i_1535, i_1536, rfl⟩ | ⟨i_1537, i_1538, i_1539, i_1540, i_1541, i_1542, i_1543, rfl⟩ | ⟨i_1544, i_1545, i_1546, i_1547, i_1548, i_1549, i_1550, i_1551, rfl⟩ | ⟨i_1552, i_1553, i_1554, i_1555, i_1556, i_1557, i_1558, i_1559, rfl⟩ | ⟨i_1560, i_1561, i_1562, i_1563, i_1564, i_1565, i_1566, i_1567, rfl⟩ | ⟨i_1568, i_1569, i_1570, i_1571, i_1572, i_1573, rfl⟩ | ⟨i_1574, i_1575, i_1576, i_1577, i_1578, i_1579, i_1580, rfl⟩ | ⟨i_1581, i_1582, i_1583, i_1584, i_1585, i_1586, i_1587, rfl⟩ | ⟨i_1588, i_1589, i_1590, i_1591, i_1592, i_1593, rfl⟩ | ⟨i_1594, i_1595, i_1596, i_1597, i_1598, i_1599, i_1600, rfl⟩ | ⟨i_1601, i_1602, i_1603, i_1604, i_1605, i_1606, i_1607, rfl⟩ | ⟨i_1608, i_1609, i_1610, i_1611, i_1612, rfl⟩ | ⟨i_1613, i_1614, i_1615, i_1616, i_1617, i_1618, rfl⟩ | ⟨i_1619, i_1620, i_1621, i_1622, i_1623, i_1624, rfl⟩
    · exfalso; omega
    · exfalso; omega
    · exfalso; omega
    · skip
      have hP : va_P g.1 vwCl [] H := hP
      have hD : va_D (fun q : Nat => s.heap.size ≤ q) [] := hD
      refine lv_icmp_eq (tgt := 1054) hx hb dL_law_188 (by decide) (fun _ => ?_) (fun h => absurd h (by decide +kernel))
      exact lc_tail ⟨hx, hb, hml, hr, hlocks, hown, hts, hK, hN, hZ, hX, hbl⟩ hS (lv_sub hl [0, 1, 2, 3] rfl)
    · exfalso; omega
    · exfalso; omega
    · exfalso; omega
    · exfalso; omega
    · exfalso; omega
    · exfalso; omega
    · exfalso; omega
    · exfalso; omega
    · exfalso; omega
    · exfalso; omega
    · exfalso; omega
    · exfalso; omega
  · skip
    have hP : va_P g.1 vwCl [((am 0), .inr (5, [.ref (am 1), .int 0, .ref (am 2), .int 0, .int 0, .ref (am 3), .ref (am 4), .ref (am 5), .ref (am 6), .int 0, .ref (am 7), .ref (am 8), .ref (am 9), .int 0, .ref (am 10), .ref (am 11), .ref (am 12), .ref (am 13), .ref (am 14), .ref (am 15), .ref (am 16), .ref (am 17), .ref (am 18), .ref (am 19), .ref (am 20), .ref (am 21), .ref (am 22)])), ((am 1), .inl (zI g, 180, .inl (upd (upd (upd (fun _ => 0) 0 60) 1 1) 2 1)))] H := hP
    have hD : va_D (fun q : Nat => s.heap.size ≤ q) [((am 0), .inr (5, [.ref (am 1), .int 0, .ref (am 2), .int 0, .int 0, .ref (am 3), .ref (am 4), .ref (am 5), .ref (am 6), .int 0, .ref (am 7), .ref (am 8), .ref (am 9), .int 0, .ref (am 10), .ref (am 11), .ref (am 12), .ref (am 13), .ref (am 14), .ref (am 15), .ref (am 16), .ref (am 17), .ref (am 18), .ref (am 19), .ref (am 20), .ref (am 21), .ref (am 22)])), ((am 1), .inl (zI g, 180, .inl (upd (upd (upd (fun _ => 0) 0 60) 1 1) 2 1)))] := hD
    refine lv_aload_n hx hb dL_law_174 rfl (lv_at hl 2 rfl) ?_
    refine lv_aload_n hx hb dL_law_175 rfl (lv_at hl 0 rfl) ?_
    refine lv_iload_n hx hb dL_law_176 rfl (lv_at hl 3 rfl) ?_
    refine lv_iconst (v := 1) hx hb dL_law_177 (by decide) ?_
    refine lv_iadd hx hb dL_law_178 ?_
    refine lv_topi (nm_r (e' := 1) (by decide +kernel) ?_)
    refine va_sld hx hb hX hbl hbA hS (vp_in_iff.mpr (by decide +kernel)) dL_law_179 ?_
    refine lv_topi (nm_r (e' := (xs 1)) (by rfl) ?_)
    refine lv_aload_n hx hb dL_law_180 rfl (lv_at hl 0 rfl) ?_
    refine lv_iload_n hx hb dL_law_181 rfl (lv_at hl 3 rfl) ?_
    refine lv_iconst (v := 2) hx hb dL_law_182 (by decide) ?_
    refine lv_iadd hx hb dL_law_183 ?_
    refine lv_topi (nm_r (e' := 2) (by decide +kernel) ?_)
    refine va_sld hx hb hX hbl hbA hS (vp_in_iff.mpr (by decide +kernel)) dL_law_184 ?_
    refine lv_topi (nm_r (e' := (xs 2)) (by rfl) ?_)
    refine z_calli (wr := []) hP hD hS hA [0, 1] [] (by decide) rfl rfl (by decide) (va_runV (As := [.int (xs 1), .int (xs 2)]) (rest := [.int 0]) ⟨hx, hb, hml, hown, hts⟩ (kX5_rule l g (am 0) (am 1) (am 2) (am 3) (am 4) (am 5) (am 6) (am 7) (am 8) (am 9) (am 10) (am 11) (am 12) (am 13) (am 14) (am 15) (am 16) (am 17) (am 18) (am 19) (am 20) (am 21) (am 22) H.size (xs 1) (xs 2)) ⟨callB_of 2 hts (zGood m_o_yX5_rule) rfl rfl rfl (hts _ m_z_RX5) (hts _ m_m_RL_17) ⟨by decide +kernel, by decide +kernel, by decide +kernel⟩ ⟨Nat.le_of_ble_eq_true rfl, Nat.le_of_ble_eq_true rfl⟩, hts _ m_i_yX5_rule, hts _ m_e_yX5_rule⟩ (zPreV hK hN hZ hP hD hS hA [0, 1] (by decide) rfl rfl 5 0 rfl rfl) rfl rfl hl.1 rfl (lv_room (Nat.le_of_ble_eq_true rfl)) dL_law_185 ⟨Nat.le_of_ble_eq_true rfl, Nat.le_of_ble_eq_true rfl⟩) (fun r u H locs hw hP hD hS => ?_)
    rcases hw with ⟨i_1625, rfl⟩ | ⟨i_1626, i_1627, rfl⟩ | ⟨i_1628, i_1629, i_1630, i_1631, i_1632, i_1633, rfl⟩ | ⟨i_1634, i_1635, i_1636, i_1637, i_1638, i_1639, i_1640, rfl⟩ | ⟨i_1641, i_1642, i_1643, i_1644, i_1645, i_1646, i_1647, i_1648, rfl⟩ | ⟨i_1649, i_1650, i_1651, i_1652, i_1653, i_1654, i_1655, i_1656, rfl⟩ | ⟨i_1657, i_1658, i_1659, i_1660, i_1661, i_1662, i_1663, i_1664, rfl⟩ | ⟨i_1665, i_1666, i_1667, i_1668, i_1669, i_1670, rfl⟩ | ⟨i_1671, i_1672, i_1673, i_1674, i_1675, i_1676, i_1677, rfl⟩ | ⟨i_1678, i_1679, i_1680, i_1681, i_1682, i_1683, i_1684, rfl⟩ | ⟨i_1685, i_1686, i_1687, i_1688, i_1689, i_1690, rfl⟩ | ⟨i_1691, i_1692, i_1693, i_1694, i_1695, i_1696, i_1697, rfl⟩ | ⟨i_1698, i_1699, i_1700, i_1701, i_1702, i_1703, i_1704, rfl⟩ | ⟨i_1705, i_1706, i_1707, i_1708, i_1709, rfl⟩ | ⟨i_1710, i_1711, i_1712, i_1713, i_1714, i_1715, rfl⟩ | ⟨i_1716, i_1717, i_1718, i_1719, i_1720, i_1721, rfl⟩
    · exfalso; omega
    · exfalso; omega
    · exfalso; omega
    · exfalso; omega
    · exfalso; omega
    · exfalso; omega
    · skip
      have hP : va_P g.1 vwCl [] H := hP
      have hD : va_D (fun q : Nat => s.heap.size ≤ q) [] := hD
      refine lv_icmp_eq (tgt := 1054) hx hb dL_law_188 (by decide) (fun _ => ?_) (fun h => absurd h (by decide +kernel))
      exact lc_tail ⟨hx, hb, hml, hr, hlocks, hown, hts, hK, hN, hZ, hX, hbl⟩ hS (lv_sub hl [0, 1, 2, 3] rfl)
    · exfalso; omega
    · exfalso; omega
    · exfalso; omega
    · exfalso; omega
    · exfalso; omega
    · exfalso; omega
    · exfalso; omega
    · exfalso; omega
    · exfalso; omega
set_option maxHeartbeats 4000000 in
set_option maxRecDepth 100000 in
theorem lc_buyer {p : Program} {l : Launch} {e : Env} {s : State} {m : MethodId} {below : List Frame} {meth : Method} {c : Code} {b : Nat} {xs : Nat → Int32} {g : zG} (C0 : lC g p s m meth c b xs) {ax am : Nat → Nat} {H : Heap} {locs : List Loc} (hP : va_P g.1 vwCl (lW g ax am) H) (hD : va_D (fun q : Nat => s.heap.size ≤ q) (lW g ax am)) (hS : va_S (fun q : Nat => s.heap.size ≤ q) s.heap H locs) {ls : Array Slot} (hl : lv_has ls 4 [(0, .ref b), (1, .ref (ax 0)), (2, .ref (am 0)), (3, .int 0)]) : W p l e room_1 s m #[Value.ref b] below meth c H locs 600000 7302250 (lw_Z below #[Value.ref b] s) (F0 m 193 ls []) := by
  obtain ⟨hx, hb, hml, hr, hlocks, hown, hts, hK, hN, hZ, hX, hbl⟩ := C0
  have hA : ∀ q : Nat, s.heap.size ≤ q → (fun q : Nat => s.heap.size ≤ q) q := fun _ h => h
  have hbA : ¬ (fun q : Nat => s.heap.size ≤ q) b := Nat.not_le.mpr hbl
  have hP := hP.sub (ws' := [((ax 0), .inr (4, [.ref (ax 1), .ref (ax 10), .int 0, .ref (ax 19), .ref (ax 30), .ref (ax 32), .ref (ax 36), .int (-1), .ref (ax 37), .ref (ax 38), .ref (ax 39), .ref (ax 40)])), ((ax 1), .inr (0, [.ref (ax 2), .int 0, .ref (ax 3), .int 0, .ref (ax 4), .ref (ax 5), .ref (ax 6), .ref (ax 7), .ref (ax 8), .ref (ax 9), .int 0])), ((ax 4), .inl (zI g, 5, .inl (fun _ => 0))), ((ax 5), .inl (zI g, 5, .inl (fun _ => 0))), ((am 0), .inr (5, [.ref (am 1), .int 0, .ref (am 2), .int 0, .int 0, .ref (am 3), .ref (am 4), .ref (am 5), .ref (am 6), .int 0, .ref (am 7), .ref (am 8), .ref (am 9), .int 0, .ref (am 10), .ref (am 11), .ref (am 12), .ref (am 13), .ref (am 14), .ref (am 15), .ref (am 16), .ref (am 17), .ref (am 18), .ref (am 19), .ref (am 20), .ref (am 21), .ref (am 22)])), ((am 1), .inl (zI g, 180, .inl (upd (upd (upd (fun _ => 0) 0 60) 1 1) 2 1)))]) [0, 1, 4, 5, 41, 42] rfl
  have hD := hD.sub (ws' := [((ax 0), .inr (4, [.ref (ax 1), .ref (ax 10), .int 0, .ref (ax 19), .ref (ax 30), .ref (ax 32), .ref (ax 36), .int (-1), .ref (ax 37), .ref (ax 38), .ref (ax 39), .ref (ax 40)])), ((ax 1), .inr (0, [.ref (ax 2), .int 0, .ref (ax 3), .int 0, .ref (ax 4), .ref (ax 5), .ref (ax 6), .ref (ax 7), .ref (ax 8), .ref (ax 9), .int 0])), ((ax 4), .inl (zI g, 5, .inl (fun _ => 0))), ((ax 5), .inl (zI g, 5, .inl (fun _ => 0))), ((am 0), .inr (5, [.ref (am 1), .int 0, .ref (am 2), .int 0, .int 0, .ref (am 3), .ref (am 4), .ref (am 5), .ref (am 6), .int 0, .ref (am 7), .ref (am 8), .ref (am 9), .int 0, .ref (am 10), .ref (am 11), .ref (am 12), .ref (am 13), .ref (am 14), .ref (am 15), .ref (am 16), .ref (am 17), .ref (am 18), .ref (am 19), .ref (am 20), .ref (am 21), .ref (am 22)])), ((am 1), .inl (zI g, 180, .inl (upd (upd (upd (fun _ => 0) 0 60) 1 1) 2 1)))]) [0, 1, 4, 5, 41, 42] (by decide) rfl
  refine lv_aload_n hx hb dL_law_193 rfl (lv_at hl 1 rfl) ?_
  refine lv_aload_n hx hb dL_law_194 rfl (lv_at hl 0 rfl) ?_
  refine lv_iload_n hx hb dL_law_195 rfl (lv_at hl 3 rfl) ?_
  refine lv_iconst (v := 1) hx hb dL_law_196 (by decide) ?_
  refine lv_iadd hx hb dL_law_197 ?_
  refine lv_topi (nm_r (e' := 1) (by decide +kernel) ?_)
  refine va_sld hx hb hX hbl hbA hS (vp_in_iff.mpr (by decide +kernel)) dL_law_198 ?_
  refine lv_topi (nm_r (e' := (xs 1)) (by rfl) ?_)
  refine lv_aload_n hx hb dL_law_199 rfl (lv_at hl 0 rfl) ?_
  refine lv_iload_n hx hb dL_law_200 rfl (lv_at hl 3 rfl) ?_
  refine lv_iconst (v := 2) hx hb dL_law_201 (by decide) ?_
  refine lv_iadd hx hb dL_law_202 ?_
  refine lv_topi (nm_r (e' := 2) (by decide +kernel) ?_)
  refine va_sld hx hb hX hbl hbA hS (vp_in_iff.mpr (by decide +kernel)) dL_law_203 ?_
  refine lv_topi (nm_r (e' := (xs 2)) (by rfl) ?_)
  refine z_calli (wr := [((am 0), .inr (5, [.ref (am 1), .int 0, .ref (am 2), .int 0, .int 0, .ref (am 3), .ref (am 4), .ref (am 5), .ref (am 6), .int 0, .ref (am 7), .ref (am 8), .ref (am 9), .int 0, .ref (am 10), .ref (am 11), .ref (am 12), .ref (am 13), .ref (am 14), .ref (am 15), .ref (am 16), .ref (am 17), .ref (am 18), .ref (am 19), .ref (am 20), .ref (am 21), .ref (am 22)])), ((am 1), .inl (zI g, 180, .inl (upd (upd (upd (fun _ => 0) 0 60) 1 1) 2 1)))]) hP hD hS hA [0, 1, 2, 3] [4, 5] (by decide) rfl rfl (by decide) (va_runV (As := [.int (xs 1), .int (xs 2)]) (rest := []) ⟨hx, hb, hml, hown, hts⟩ (kX4_buyer l g (ax 0) (ax 1) (ax 10) (ax 19) (ax 30) (ax 32) (ax 36) (ax 37) (ax 38) (ax 39) (ax 40) (ax 2) (ax 3) (ax 4) (ax 5) (ax 6) (ax 7) (ax 8) (ax 9) H.size (xs 1) (xs 2)) ⟨callB_of 2 hts (zGood m_o_yX4_buyer) rfl rfl rfl (hts _ m_z_RX4) (hts _ m_m_RL_18) ⟨by decide +kernel, by decide +kernel, by decide +kernel⟩ ⟨Nat.le_of_ble_eq_true rfl, Nat.le_of_ble_eq_true rfl⟩, hts _ m_i_yX4_buyer, hts _ m_e_yX4_buyer⟩ (zPreV hK hN hZ hP hD hS hA [0, 1, 2, 3] (by decide) rfl rfl 4 0 rfl rfl) rfl rfl hl.1 rfl (lv_room (Nat.le_of_ble_eq_true rfl)) dL_law_204 ⟨Nat.le_of_ble_eq_true rfl, Nat.le_of_ble_eq_true rfl⟩) (fun r u H locs hw hP hD hS => ?_)
  rcases hw with ⟨i_0, rfl⟩ | ⟨i_1, i_2, rfl⟩ | ⟨i_3, i_4, i_5, rfl⟩ | ⟨i_6, i_7, i_8, i_9, rfl⟩ | ⟨i_10, i_11, i_12, i_13, rfl⟩
  · skip
    have hP : va_P g.1 vwCl [((am 0), .inr (5, [.ref (am 1), .int 0, .ref (am 2), .int 0, .int 0, .ref (am 3), .ref (am 4), .ref (am 5), .ref (am 6), .int 0, .ref (am 7), .ref (am 8), .ref (am 9), .int 0, .ref (am 10), .ref (am 11), .ref (am 12), .ref (am 13), .ref (am 14), .ref (am 15), .ref (am 16), .ref (am 17), .ref (am 18), .ref (am 19), .ref (am 20), .ref (am 21), .ref (am 22)])), ((am 1), .inl (zI g, 180, .inl (upd (upd (upd (fun _ => 0) 0 60) 1 1) 2 1)))] H := hP
    have hD : va_D (fun q : Nat => s.heap.size ≤ q) [((am 0), .inr (5, [.ref (am 1), .int 0, .ref (am 2), .int 0, .int 0, .ref (am 3), .ref (am 4), .ref (am 5), .ref (am 6), .int 0, .ref (am 7), .ref (am 8), .ref (am 9), .int 0, .ref (am 10), .ref (am 11), .ref (am 12), .ref (am 13), .ref (am 14), .ref (am 15), .ref (am 16), .ref (am 17), .ref (am 18), .ref (am 19), .ref (am 20), .ref (am 21), .ref (am 22)])), ((am 1), .inl (zI g, 180, .inl (upd (upd (upd (fun _ => 0) 0 60) 1 1) 2 1)))] := hD
    refine lv_aload_n hx hb dL_law_207 rfl (lv_at hl 2 rfl) ?_
    refine lv_aload_n hx hb dL_law_208 rfl (lv_at hl 0 rfl) ?_
    refine lv_iload_n hx hb dL_law_209 rfl (lv_at hl 3 rfl) ?_
    refine lv_iconst (v := 1) hx hb dL_law_210 (by decide) ?_
    refine lv_iadd hx hb dL_law_211 ?_
    refine lv_topi (nm_r (e' := 1) (by decide +kernel) ?_)
    refine va_sld hx hb hX hbl hbA hS (vp_in_iff.mpr (by decide +kernel)) dL_law_212 ?_
    refine lv_topi (nm_r (e' := (xs 1)) (by rfl) ?_)
    refine lv_aload_n hx hb dL_law_213 rfl (lv_at hl 0 rfl) ?_
    refine lv_iload_n hx hb dL_law_214 rfl (lv_at hl 3 rfl) ?_
    refine lv_iconst (v := 2) hx hb dL_law_215 (by decide) ?_
    refine lv_iadd hx hb dL_law_216 ?_
    refine lv_topi (nm_r (e' := 2) (by decide +kernel) ?_)
    refine va_sld hx hb hX hbl hbA hS (vp_in_iff.mpr (by decide +kernel)) dL_law_217 ?_
    refine lv_topi (nm_r (e' := (xs 2)) (by rfl) ?_)
    refine z_calli (wr := []) hP hD hS hA [0, 1] [] (by decide) rfl rfl (by decide) (va_runV (As := [.int (xs 1), .int (xs 2)]) (rest := [.int (-1)]) ⟨hx, hb, hml, hown, hts⟩ (kX5_buyer l g (am 0) (am 1) (am 2) (am 3) (am 4) (am 5) (am 6) (am 7) (am 8) (am 9) (am 10) (am 11) (am 12) (am 13) (am 14) (am 15) (am 16) (am 17) (am 18) (am 19) (am 20) (am 21) (am 22) H.size (xs 1) (xs 2)) ⟨callB_of 2 hts (zGood m_o_yX5_buyer) rfl rfl rfl (hts _ m_z_RX5) (hts _ m_m_RL_21) ⟨by decide +kernel, by decide +kernel, by decide +kernel⟩ ⟨Nat.le_of_ble_eq_true rfl, Nat.le_of_ble_eq_true rfl⟩, hts _ m_i_yX5_buyer, hts _ m_e_yX5_buyer⟩ (zPreV hK hN hZ hP hD hS hA [0, 1] (by decide) rfl rfl 5 0 rfl rfl) rfl rfl hl.1 rfl (lv_room (Nat.le_of_ble_eq_true rfl)) dL_law_218 ⟨Nat.le_of_ble_eq_true rfl, Nat.le_of_ble_eq_true rfl⟩) (fun r u H locs hw hP hD hS => ?_)
    rcases hw with ⟨i_14, rfl⟩ | ⟨i_15, i_16, rfl⟩ | ⟨i_17, i_18, i_19, rfl⟩ | ⟨i_20, i_21, i_22, i_23, rfl⟩ | ⟨i_24, i_25, i_26, i_27, rfl⟩
    · skip
      have hP : va_P g.1 vwCl [] H := hP
      have hD : va_D (fun q : Nat => s.heap.size ≤ q) [] := hD
      refine lv_icmp_eq (tgt := 1054) hx hb dL_law_221 (by decide) (fun _ => ?_) (fun h => absurd h (by decide +kernel))
      exact lc_tail ⟨hx, hb, hml, hr, hlocks, hown, hts, hK, hN, hZ, hX, hbl⟩ hS (lv_sub hl [0, 1, 2, 3] rfl)
    · exfalso; omega
    · exfalso; omega
    · exfalso; omega
    · exfalso; omega
  · skip
    have hP : va_P g.1 vwCl [((am 0), .inr (5, [.ref (am 1), .int 0, .ref (am 2), .int 0, .int 0, .ref (am 3), .ref (am 4), .ref (am 5), .ref (am 6), .int 0, .ref (am 7), .ref (am 8), .ref (am 9), .int 0, .ref (am 10), .ref (am 11), .ref (am 12), .ref (am 13), .ref (am 14), .ref (am 15), .ref (am 16), .ref (am 17), .ref (am 18), .ref (am 19), .ref (am 20), .ref (am 21), .ref (am 22)])), ((am 1), .inl (zI g, 180, .inl (upd (upd (upd (fun _ => 0) 0 60) 1 1) 2 1)))] H := hP
    have hD : va_D (fun q : Nat => s.heap.size ≤ q) [((am 0), .inr (5, [.ref (am 1), .int 0, .ref (am 2), .int 0, .int 0, .ref (am 3), .ref (am 4), .ref (am 5), .ref (am 6), .int 0, .ref (am 7), .ref (am 8), .ref (am 9), .int 0, .ref (am 10), .ref (am 11), .ref (am 12), .ref (am 13), .ref (am 14), .ref (am 15), .ref (am 16), .ref (am 17), .ref (am 18), .ref (am 19), .ref (am 20), .ref (am 21), .ref (am 22)])), ((am 1), .inl (zI g, 180, .inl (upd (upd (upd (fun _ => 0) 0 60) 1 1) 2 1)))] := hD
    refine lv_aload_n hx hb dL_law_207 rfl (lv_at hl 2 rfl) ?_
    refine lv_aload_n hx hb dL_law_208 rfl (lv_at hl 0 rfl) ?_
    refine lv_iload_n hx hb dL_law_209 rfl (lv_at hl 3 rfl) ?_
    refine lv_iconst (v := 1) hx hb dL_law_210 (by decide) ?_
    refine lv_iadd hx hb dL_law_211 ?_
    refine lv_topi (nm_r (e' := 1) (by decide +kernel) ?_)
    refine va_sld hx hb hX hbl hbA hS (vp_in_iff.mpr (by decide +kernel)) dL_law_212 ?_
    refine lv_topi (nm_r (e' := (xs 1)) (by rfl) ?_)
    refine lv_aload_n hx hb dL_law_213 rfl (lv_at hl 0 rfl) ?_
    refine lv_iload_n hx hb dL_law_214 rfl (lv_at hl 3 rfl) ?_
    refine lv_iconst (v := 2) hx hb dL_law_215 (by decide) ?_
    refine lv_iadd hx hb dL_law_216 ?_
    refine lv_topi (nm_r (e' := 2) (by decide +kernel) ?_)
    refine va_sld hx hb hX hbl hbA hS (vp_in_iff.mpr (by decide +kernel)) dL_law_217 ?_
    refine lv_topi (nm_r (e' := (xs 2)) (by rfl) ?_)
    refine z_calli (wr := []) hP hD hS hA [0, 1] [] (by decide) rfl rfl (by decide) (va_runV (As := [.int (xs 1), .int (xs 2)]) (rest := [.int (-1)]) ⟨hx, hb, hml, hown, hts⟩ (kX5_buyer l g (am 0) (am 1) (am 2) (am 3) (am 4) (am 5) (am 6) (am 7) (am 8) (am 9) (am 10) (am 11) (am 12) (am 13) (am 14) (am 15) (am 16) (am 17) (am 18) (am 19) (am 20) (am 21) (am 22) H.size (xs 1) (xs 2)) ⟨callB_of 2 hts (zGood m_o_yX5_buyer) rfl rfl rfl (hts _ m_z_RX5) (hts _ m_m_RL_21) ⟨by decide +kernel, by decide +kernel, by decide +kernel⟩ ⟨Nat.le_of_ble_eq_true rfl, Nat.le_of_ble_eq_true rfl⟩, hts _ m_i_yX5_buyer, hts _ m_e_yX5_buyer⟩ (zPreV hK hN hZ hP hD hS hA [0, 1] (by decide) rfl rfl 5 0 rfl rfl) rfl rfl hl.1 rfl (lv_room (Nat.le_of_ble_eq_true rfl)) dL_law_218 ⟨Nat.le_of_ble_eq_true rfl, Nat.le_of_ble_eq_true rfl⟩) (fun r u H locs hw hP hD hS => ?_)
    rcases hw with ⟨i_28, rfl⟩ | ⟨i_29, i_30, rfl⟩ | ⟨i_31, i_32, i_33, rfl⟩ | ⟨i_34, i_35, i_36, i_37, rfl⟩ | ⟨i_38, i_39, i_40, i_41, rfl⟩
    · exfalso; omega
    · skip
      have hP : va_P g.1 vwCl [] H := hP
      have hD : va_D (fun q : Nat => s.heap.size ≤ q) [] := hD
      refine lv_icmp_eq (tgt := 1054) hx hb dL_law_221 (by decide) (fun _ => ?_) (fun h => absurd h (by decide +kernel))
      exact lc_tail ⟨hx, hb, hml, hr, hlocks, hown, hts, hK, hN, hZ, hX, hbl⟩ hS (lv_sub hl [0, 1, 2, 3] rfl)
    · exfalso; omega
    · exfalso; omega
    · exfalso; omega
  · skip
    have hP : va_P g.1 vwCl [((am 0), .inr (5, [.ref (am 1), .int 0, .ref (am 2), .int 0, .int 0, .ref (am 3), .ref (am 4), .ref (am 5), .ref (am 6), .int 0, .ref (am 7), .ref (am 8), .ref (am 9), .int 0, .ref (am 10), .ref (am 11), .ref (am 12), .ref (am 13), .ref (am 14), .ref (am 15), .ref (am 16), .ref (am 17), .ref (am 18), .ref (am 19), .ref (am 20), .ref (am 21), .ref (am 22)])), ((am 1), .inl (zI g, 180, .inl (upd (upd (upd (fun _ => 0) 0 60) 1 1) 2 1)))] H := hP
    have hD : va_D (fun q : Nat => s.heap.size ≤ q) [((am 0), .inr (5, [.ref (am 1), .int 0, .ref (am 2), .int 0, .int 0, .ref (am 3), .ref (am 4), .ref (am 5), .ref (am 6), .int 0, .ref (am 7), .ref (am 8), .ref (am 9), .int 0, .ref (am 10), .ref (am 11), .ref (am 12), .ref (am 13), .ref (am 14), .ref (am 15), .ref (am 16), .ref (am 17), .ref (am 18), .ref (am 19), .ref (am 20), .ref (am 21), .ref (am 22)])), ((am 1), .inl (zI g, 180, .inl (upd (upd (upd (fun _ => 0) 0 60) 1 1) 2 1)))] := hD
    refine lv_aload_n hx hb dL_law_207 rfl (lv_at hl 2 rfl) ?_
    refine lv_aload_n hx hb dL_law_208 rfl (lv_at hl 0 rfl) ?_
    refine lv_iload_n hx hb dL_law_209 rfl (lv_at hl 3 rfl) ?_
    refine lv_iconst (v := 1) hx hb dL_law_210 (by decide) ?_
    refine lv_iadd hx hb dL_law_211 ?_
    refine lv_topi (nm_r (e' := 1) (by decide +kernel) ?_)
    refine va_sld hx hb hX hbl hbA hS (vp_in_iff.mpr (by decide +kernel)) dL_law_212 ?_
    refine lv_topi (nm_r (e' := (xs 1)) (by rfl) ?_)
    refine lv_aload_n hx hb dL_law_213 rfl (lv_at hl 0 rfl) ?_
    refine lv_iload_n hx hb dL_law_214 rfl (lv_at hl 3 rfl) ?_
    refine lv_iconst (v := 2) hx hb dL_law_215 (by decide) ?_
    refine lv_iadd hx hb dL_law_216 ?_
    refine lv_topi (nm_r (e' := 2) (by decide +kernel) ?_)
    refine va_sld hx hb hX hbl hbA hS (vp_in_iff.mpr (by decide +kernel)) dL_law_217 ?_
    refine lv_topi (nm_r (e' := (xs 2)) (by rfl) ?_)
    refine z_calli (wr := []) hP hD hS hA [0, 1] [] (by decide) rfl rfl (by decide) (va_runV (As := [.int (xs 1), .int (xs 2)]) (rest := [.int (-1)]) ⟨hx, hb, hml, hown, hts⟩ (kX5_buyer l g (am 0) (am 1) (am 2) (am 3) (am 4) (am 5) (am 6) (am 7) (am 8) (am 9) (am 10) (am 11) (am 12) (am 13) (am 14) (am 15) (am 16) (am 17) (am 18) (am 19) (am 20) (am 21) (am 22) H.size (xs 1) (xs 2)) ⟨callB_of 2 hts (zGood m_o_yX5_buyer) rfl rfl rfl (hts _ m_z_RX5) (hts _ m_m_RL_21) ⟨by decide +kernel, by decide +kernel, by decide +kernel⟩ ⟨Nat.le_of_ble_eq_true rfl, Nat.le_of_ble_eq_true rfl⟩, hts _ m_i_yX5_buyer, hts _ m_e_yX5_buyer⟩ (zPreV hK hN hZ hP hD hS hA [0, 1] (by decide) rfl rfl 5 0 rfl rfl) rfl rfl hl.1 rfl (lv_room (Nat.le_of_ble_eq_true rfl)) dL_law_218 ⟨Nat.le_of_ble_eq_true rfl, Nat.le_of_ble_eq_true rfl⟩) (fun r u H locs hw hP hD hS => ?_)
    rcases hw with ⟨i_42, rfl⟩ | ⟨i_43, i_44, rfl⟩ | ⟨i_45, i_46, i_47, rfl⟩ | ⟨i_48, i_49, i_50, i_51, rfl⟩ | ⟨i_52, i_53, i_54, i_55, rfl⟩
    · exfalso; omega
    · exfalso; omega
    · skip
      have hP : va_P g.1 vwCl [] H := hP
      have hD : va_D (fun q : Nat => s.heap.size ≤ q) [] := hD
      refine lv_icmp_eq (tgt := 1054) hx hb dL_law_221 (by decide) (fun _ => ?_) (fun h => absurd h (by decide +kernel))
      exact lc_tail ⟨hx, hb, hml, hr, hlocks, hown, hts, hK, hN, hZ, hX, hbl⟩ hS (lv_sub hl [0, 1, 2, 3] rfl)
    · exfalso; omega
    · exfalso; omega
  · skip
    have hP : va_P g.1 vwCl [((am 0), .inr (5, [.ref (am 1), .int 0, .ref (am 2), .int 0, .int 0, .ref (am 3), .ref (am 4), .ref (am 5), .ref (am 6), .int 0, .ref (am 7), .ref (am 8), .ref (am 9), .int 0, .ref (am 10), .ref (am 11), .ref (am 12), .ref (am 13), .ref (am 14), .ref (am 15), .ref (am 16), .ref (am 17), .ref (am 18), .ref (am 19), .ref (am 20), .ref (am 21), .ref (am 22)])), ((am 1), .inl (zI g, 180, .inl (upd (upd (upd (fun _ => 0) 0 60) 1 1) 2 1)))] H := hP
    have hD : va_D (fun q : Nat => s.heap.size ≤ q) [((am 0), .inr (5, [.ref (am 1), .int 0, .ref (am 2), .int 0, .int 0, .ref (am 3), .ref (am 4), .ref (am 5), .ref (am 6), .int 0, .ref (am 7), .ref (am 8), .ref (am 9), .int 0, .ref (am 10), .ref (am 11), .ref (am 12), .ref (am 13), .ref (am 14), .ref (am 15), .ref (am 16), .ref (am 17), .ref (am 18), .ref (am 19), .ref (am 20), .ref (am 21), .ref (am 22)])), ((am 1), .inl (zI g, 180, .inl (upd (upd (upd (fun _ => 0) 0 60) 1 1) 2 1)))] := hD
    refine lv_aload_n hx hb dL_law_207 rfl (lv_at hl 2 rfl) ?_
    refine lv_aload_n hx hb dL_law_208 rfl (lv_at hl 0 rfl) ?_
    refine lv_iload_n hx hb dL_law_209 rfl (lv_at hl 3 rfl) ?_
    refine lv_iconst (v := 1) hx hb dL_law_210 (by decide) ?_
    refine lv_iadd hx hb dL_law_211 ?_
    refine lv_topi (nm_r (e' := 1) (by decide +kernel) ?_)
    refine va_sld hx hb hX hbl hbA hS (vp_in_iff.mpr (by decide +kernel)) dL_law_212 ?_
    refine lv_topi (nm_r (e' := (xs 1)) (by rfl) ?_)
    refine lv_aload_n hx hb dL_law_213 rfl (lv_at hl 0 rfl) ?_
    refine lv_iload_n hx hb dL_law_214 rfl (lv_at hl 3 rfl) ?_
    refine lv_iconst (v := 2) hx hb dL_law_215 (by decide) ?_
    refine lv_iadd hx hb dL_law_216 ?_
    refine lv_topi (nm_r (e' := 2) (by decide +kernel) ?_)
    refine va_sld hx hb hX hbl hbA hS (vp_in_iff.mpr (by decide +kernel)) dL_law_217 ?_
    refine lv_topi (nm_r (e' := (xs 2)) (by rfl) ?_)
    refine z_calli (wr := []) hP hD hS hA [0, 1] [] (by decide) rfl rfl (by decide) (va_runV (As := [.int (xs 1), .int (xs 2)]) (rest := [.int 0]) ⟨hx, hb, hml, hown, hts⟩ (kX5_buyer l g (am 0) (am 1) (am 2) (am 3) (am 4) (am 5) (am 6) (am 7) (am 8) (am 9) (am 10) (am 11) (am 12) (am 13) (am 14) (am 15) (am 16) (am 17) (am 18) (am 19) (am 20) (am 21) (am 22) H.size (xs 1) (xs 2)) ⟨callB_of 2 hts (zGood m_o_yX5_buyer) rfl rfl rfl (hts _ m_z_RX5) (hts _ m_m_RL_21) ⟨by decide +kernel, by decide +kernel, by decide +kernel⟩ ⟨Nat.le_of_ble_eq_true rfl, Nat.le_of_ble_eq_true rfl⟩, hts _ m_i_yX5_buyer, hts _ m_e_yX5_buyer⟩ (zPreV hK hN hZ hP hD hS hA [0, 1] (by decide) rfl rfl 5 0 rfl rfl) rfl rfl hl.1 rfl (lv_room (Nat.le_of_ble_eq_true rfl)) dL_law_218 ⟨Nat.le_of_ble_eq_true rfl, Nat.le_of_ble_eq_true rfl⟩) (fun r u H locs hw hP hD hS => ?_)
    rcases hw with ⟨i_56, rfl⟩ | ⟨i_57, i_58, rfl⟩ | ⟨i_59, i_60, i_61, rfl⟩ | ⟨i_62, i_63, i_64, i_65, rfl⟩ | ⟨i_66, i_67, i_68, i_69, rfl⟩
    · exfalso; omega
    · exfalso; omega
    · exfalso; omega
    · exfalso; omega
    · skip
      have hP : va_P g.1 vwCl [] H := hP
      have hD : va_D (fun q : Nat => s.heap.size ≤ q) [] := hD
      refine lv_icmp_eq (tgt := 1054) hx hb dL_law_221 (by decide) (fun _ => ?_) (fun h => absurd h (by decide +kernel))
      exact lc_tail ⟨hx, hb, hml, hr, hlocks, hown, hts, hK, hN, hZ, hX, hbl⟩ hS (lv_sub hl [0, 1, 2, 3] rfl)
  · skip
    have hP : va_P g.1 vwCl [((am 0), .inr (5, [.ref (am 1), .int 0, .ref (am 2), .int 0, .int 0, .ref (am 3), .ref (am 4), .ref (am 5), .ref (am 6), .int 0, .ref (am 7), .ref (am 8), .ref (am 9), .int 0, .ref (am 10), .ref (am 11), .ref (am 12), .ref (am 13), .ref (am 14), .ref (am 15), .ref (am 16), .ref (am 17), .ref (am 18), .ref (am 19), .ref (am 20), .ref (am 21), .ref (am 22)])), ((am 1), .inl (zI g, 180, .inl (upd (upd (upd (fun _ => 0) 0 60) 1 1) 2 1)))] H := hP
    have hD : va_D (fun q : Nat => s.heap.size ≤ q) [((am 0), .inr (5, [.ref (am 1), .int 0, .ref (am 2), .int 0, .int 0, .ref (am 3), .ref (am 4), .ref (am 5), .ref (am 6), .int 0, .ref (am 7), .ref (am 8), .ref (am 9), .int 0, .ref (am 10), .ref (am 11), .ref (am 12), .ref (am 13), .ref (am 14), .ref (am 15), .ref (am 16), .ref (am 17), .ref (am 18), .ref (am 19), .ref (am 20), .ref (am 21), .ref (am 22)])), ((am 1), .inl (zI g, 180, .inl (upd (upd (upd (fun _ => 0) 0 60) 1 1) 2 1)))] := hD
    refine lv_aload_n hx hb dL_law_207 rfl (lv_at hl 2 rfl) ?_
    refine lv_aload_n hx hb dL_law_208 rfl (lv_at hl 0 rfl) ?_
    refine lv_iload_n hx hb dL_law_209 rfl (lv_at hl 3 rfl) ?_
    refine lv_iconst (v := 1) hx hb dL_law_210 (by decide) ?_
    refine lv_iadd hx hb dL_law_211 ?_
    refine lv_topi (nm_r (e' := 1) (by decide +kernel) ?_)
    refine va_sld hx hb hX hbl hbA hS (vp_in_iff.mpr (by decide +kernel)) dL_law_212 ?_
    refine lv_topi (nm_r (e' := (xs 1)) (by rfl) ?_)
    refine lv_aload_n hx hb dL_law_213 rfl (lv_at hl 0 rfl) ?_
    refine lv_iload_n hx hb dL_law_214 rfl (lv_at hl 3 rfl) ?_
    refine lv_iconst (v := 2) hx hb dL_law_215 (by decide) ?_
    refine lv_iadd hx hb dL_law_216 ?_
    refine lv_topi (nm_r (e' := 2) (by decide +kernel) ?_)
    refine va_sld hx hb hX hbl hbA hS (vp_in_iff.mpr (by decide +kernel)) dL_law_217 ?_
    refine lv_topi (nm_r (e' := (xs 2)) (by rfl) ?_)
    refine z_calli (wr := []) hP hD hS hA [0, 1] [] (by decide) rfl rfl (by decide) (va_runV (As := [.int (xs 1), .int (xs 2)]) (rest := [.int (-1)]) ⟨hx, hb, hml, hown, hts⟩ (kX5_buyer l g (am 0) (am 1) (am 2) (am 3) (am 4) (am 5) (am 6) (am 7) (am 8) (am 9) (am 10) (am 11) (am 12) (am 13) (am 14) (am 15) (am 16) (am 17) (am 18) (am 19) (am 20) (am 21) (am 22) H.size (xs 1) (xs 2)) ⟨callB_of 2 hts (zGood m_o_yX5_buyer) rfl rfl rfl (hts _ m_z_RX5) (hts _ m_m_RL_21) ⟨by decide +kernel, by decide +kernel, by decide +kernel⟩ ⟨Nat.le_of_ble_eq_true rfl, Nat.le_of_ble_eq_true rfl⟩, hts _ m_i_yX5_buyer, hts _ m_e_yX5_buyer⟩ (zPreV hK hN hZ hP hD hS hA [0, 1] (by decide) rfl rfl 5 0 rfl rfl) rfl rfl hl.1 rfl (lv_room (Nat.le_of_ble_eq_true rfl)) dL_law_218 ⟨Nat.le_of_ble_eq_true rfl, Nat.le_of_ble_eq_true rfl⟩) (fun r u H locs hw hP hD hS => ?_)
    rcases hw with ⟨i_70, rfl⟩ | ⟨i_71, i_72, rfl⟩ | ⟨i_73, i_74, i_75, rfl⟩ | ⟨i_76, i_77, i_78, i_79, rfl⟩ | ⟨i_80, i_81, i_82, i_83, rfl⟩
    · exfalso; omega
    · exfalso; omega
    · exfalso; omega
    · skip
      have hP : va_P g.1 vwCl [] H := hP
      have hD : va_D (fun q : Nat => s.heap.size ≤ q) [] := hD
      refine lv_icmp_eq (tgt := 1054) hx hb dL_law_221 (by decide) (fun _ => ?_) (fun h => absurd h (by decide +kernel))
      exact lc_tail ⟨hx, hb, hml, hr, hlocks, hown, hts, hK, hN, hZ, hX, hbl⟩ hS (lv_sub hl [0, 1, 2, 3] rfl)
    · exfalso; omega
set_option maxHeartbeats 4000000 in
set_option maxRecDepth 100000 in
theorem lc_worth {p : Program} {l : Launch} {e : Env} {s : State} {m : MethodId} {below : List Frame} {meth : Method} {c : Code} {b : Nat} {xs : Nat → Int32} {g : zG} (C0 : lC g p s m meth c b xs) {ax am : Nat → Nat} {H : Heap} {locs : List Loc} (hP : va_P g.1 vwCl (lW g ax am) H) (hD : va_D (fun q : Nat => s.heap.size ≤ q) (lW g ax am)) (hS : va_S (fun q : Nat => s.heap.size ≤ q) s.heap H locs) {ls : Array Slot} (hl : lv_has ls 4 [(0, .ref b), (1, .ref (ax 0)), (2, .ref (am 0)), (3, .int 0)]) : W p l e room_1 s m #[Value.ref b] below meth c H locs 600000 7302250 (lw_Z below #[Value.ref b] s) (F0 m 226 ls []) := by
  obtain ⟨hx, hb, hml, hr, hlocks, hown, hts, hK, hN, hZ, hX, hbl⟩ := C0
  have hA : ∀ q : Nat, s.heap.size ≤ q → (fun q : Nat => s.heap.size ≤ q) q := fun _ h => h
  have hbA : ¬ (fun q : Nat => s.heap.size ≤ q) b := Nat.not_le.mpr hbl
  have hP := hP.sub (ws' := [((ax 0), .inr (4, [.ref (ax 1), .ref (ax 10), .int 0, .ref (ax 19), .ref (ax 30), .ref (ax 32), .ref (ax 36), .int (-1), .ref (ax 37), .ref (ax 38), .ref (ax 39), .ref (ax 40)])), ((ax 1), .inr (0, [.ref (ax 2), .int 0, .ref (ax 3), .int 0, .ref (ax 4), .ref (ax 5), .ref (ax 6), .ref (ax 7), .ref (ax 8), .ref (ax 9), .int 0])), ((am 0), .inr (5, [.ref (am 1), .int 0, .ref (am 2), .int 0, .int 0, .ref (am 3), .ref (am 4), .ref (am 5), .ref (am 6), .int 0, .ref (am 7), .ref (am 8), .ref (am 9), .int 0, .ref (am 10), .ref (am 11), .ref (am 12), .ref (am 13), .ref (am 14), .ref (am 15), .ref (am 16), .ref (am 17), .ref (am 18), .ref (am 19), .ref (am 20), .ref (am 21), .ref (am 22)])), ((am 1), .inl (zI g, 180, .inl (upd (upd (upd (fun _ => 0) 0 60) 1 1) 2 1)))]) [0, 1, 41, 42] rfl
  have hD := hD.sub (ws' := [((ax 0), .inr (4, [.ref (ax 1), .ref (ax 10), .int 0, .ref (ax 19), .ref (ax 30), .ref (ax 32), .ref (ax 36), .int (-1), .ref (ax 37), .ref (ax 38), .ref (ax 39), .ref (ax 40)])), ((ax 1), .inr (0, [.ref (ax 2), .int 0, .ref (ax 3), .int 0, .ref (ax 4), .ref (ax 5), .ref (ax 6), .ref (ax 7), .ref (ax 8), .ref (ax 9), .int 0])), ((am 0), .inr (5, [.ref (am 1), .int 0, .ref (am 2), .int 0, .int 0, .ref (am 3), .ref (am 4), .ref (am 5), .ref (am 6), .int 0, .ref (am 7), .ref (am 8), .ref (am 9), .int 0, .ref (am 10), .ref (am 11), .ref (am 12), .ref (am 13), .ref (am 14), .ref (am 15), .ref (am 16), .ref (am 17), .ref (am 18), .ref (am 19), .ref (am 20), .ref (am 21), .ref (am 22)])), ((am 1), .inl (zI g, 180, .inl (upd (upd (upd (fun _ => 0) 0 60) 1 1) 2 1)))]) [0, 1, 41, 42] (by decide) rfl
  refine lv_aload_n hx hb dL_law_226 rfl (lv_at hl 1 rfl) ?_
  refine lv_aload_n hx hb dL_law_227 rfl (lv_at hl 0 rfl) ?_
  refine lv_iload_n hx hb dL_law_228 rfl (lv_at hl 3 rfl) ?_
  refine lv_iconst (v := 1) hx hb dL_law_229 (by decide) ?_
  refine lv_iadd hx hb dL_law_230 ?_
  refine lv_topi (nm_r (e' := 1) (by decide +kernel) ?_)
  refine va_sld hx hb hX hbl hbA hS (vp_in_iff.mpr (by decide +kernel)) dL_law_231 ?_
  refine lv_topi (nm_r (e' := (xs 1)) (by rfl) ?_)
  refine lv_aload_n hx hb dL_law_232 rfl (lv_at hl 0 rfl) ?_
  refine lv_iload_n hx hb dL_law_233 rfl (lv_at hl 3 rfl) ?_
  refine lv_iconst (v := 2) hx hb dL_law_234 (by decide) ?_
  refine lv_iadd hx hb dL_law_235 ?_
  refine lv_topi (nm_r (e' := 2) (by decide +kernel) ?_)
  refine va_sld hx hb hX hbl hbA hS (vp_in_iff.mpr (by decide +kernel)) dL_law_236 ?_
  refine lv_topi (nm_r (e' := (xs 2)) (by rfl) ?_)
  refine lv_aload_n hx hb dL_law_237 rfl (lv_at hl 0 rfl) ?_
  refine lv_iload_n hx hb dL_law_238 rfl (lv_at hl 3 rfl) ?_
  refine lv_iconst (v := 3) hx hb dL_law_239 (by decide) ?_
  refine lv_iadd hx hb dL_law_240 ?_
  refine lv_topi (nm_r (e' := 3) (by decide +kernel) ?_)
  refine va_sld hx hb hX hbl hbA hS (vp_in_iff.mpr (by decide +kernel)) dL_law_241 ?_
  refine lv_topi (nm_r (e' := (xs 3)) (by rfl) ?_)
  refine z_calli (wr := [((am 0), .inr (5, [.ref (am 1), .int 0, .ref (am 2), .int 0, .int 0, .ref (am 3), .ref (am 4), .ref (am 5), .ref (am 6), .int 0, .ref (am 7), .ref (am 8), .ref (am 9), .int 0, .ref (am 10), .ref (am 11), .ref (am 12), .ref (am 13), .ref (am 14), .ref (am 15), .ref (am 16), .ref (am 17), .ref (am 18), .ref (am 19), .ref (am 20), .ref (am 21), .ref (am 22)])), ((am 1), .inl (zI g, 180, .inl (upd (upd (upd (fun _ => 0) 0 60) 1 1) 2 1)))]) hP hD hS hA [0, 1] [2, 3] (by decide) rfl rfl (by decide) (va_runV (As := [.int (xs 1), .int (xs 2), .int (xs 3)]) (rest := []) ⟨hx, hb, hml, hown, hts⟩ (kX4_worth l g (ax 0) (ax 1) (ax 10) (ax 19) (ax 30) (ax 32) (ax 36) (ax 37) (ax 38) (ax 39) (ax 40) (ax 2) (ax 3) (ax 4) (ax 5) (ax 6) (ax 7) (ax 8) (ax 9) H.size (xs 1) (xs 2) (xs 3)) ⟨callB_of 3 hts (zGood m_o_yX4_worth) rfl rfl rfl (hts _ m_z_RX4) (hts _ m_m_RL_22) ⟨by decide +kernel, by decide +kernel, by decide +kernel⟩ ⟨Nat.le_of_ble_eq_true rfl, Nat.le_of_ble_eq_true rfl⟩, hts _ m_i_yX4_worth, hts _ m_e_yX4_worth⟩ (zPreV hK hN hZ hP hD hS hA [0, 1] (by decide) rfl rfl 4 0 rfl rfl) rfl rfl hl.1 rfl (lv_room (Nat.le_of_ble_eq_true rfl)) dL_law_242 ⟨Nat.le_of_ble_eq_true rfl, Nat.le_of_ble_eq_true rfl⟩) (fun r u H locs hw hP hD hS => ?_)
  rcases hw with ⟨i_0, rfl⟩ | ⟨i_1, i_2, rfl⟩ | ⟨i_3, i_4, rfl⟩
  · skip
    have hP : va_P g.1 vwCl [((am 0), .inr (5, [.ref (am 1), .int 0, .ref (am 2), .int 0, .int 0, .ref (am 3), .ref (am 4), .ref (am 5), .ref (am 6), .int 0, .ref (am 7), .ref (am 8), .ref (am 9), .int 0, .ref (am 10), .ref (am 11), .ref (am 12), .ref (am 13), .ref (am 14), .ref (am 15), .ref (am 16), .ref (am 17), .ref (am 18), .ref (am 19), .ref (am 20), .ref (am 21), .ref (am 22)])), ((am 1), .inl (zI g, 180, .inl (upd (upd (upd (fun _ => 0) 0 60) 1 1) 2 1)))] H := hP
    have hD : va_D (fun q : Nat => s.heap.size ≤ q) [((am 0), .inr (5, [.ref (am 1), .int 0, .ref (am 2), .int 0, .int 0, .ref (am 3), .ref (am 4), .ref (am 5), .ref (am 6), .int 0, .ref (am 7), .ref (am 8), .ref (am 9), .int 0, .ref (am 10), .ref (am 11), .ref (am 12), .ref (am 13), .ref (am 14), .ref (am 15), .ref (am 16), .ref (am 17), .ref (am 18), .ref (am 19), .ref (am 20), .ref (am 21), .ref (am 22)])), ((am 1), .inl (zI g, 180, .inl (upd (upd (upd (fun _ => 0) 0 60) 1 1) 2 1)))] := hD
    refine lv_aload_n hx hb dL_law_245 rfl (lv_at hl 2 rfl) ?_
    refine lv_aload_n hx hb dL_law_246 rfl (lv_at hl 0 rfl) ?_
    refine lv_iload_n hx hb dL_law_247 rfl (lv_at hl 3 rfl) ?_
    refine lv_iconst (v := 1) hx hb dL_law_248 (by decide) ?_
    refine lv_iadd hx hb dL_law_249 ?_
    refine lv_topi (nm_r (e' := 1) (by decide +kernel) ?_)
    refine va_sld hx hb hX hbl hbA hS (vp_in_iff.mpr (by decide +kernel)) dL_law_250 ?_
    refine lv_topi (nm_r (e' := (xs 1)) (by rfl) ?_)
    refine lv_aload_n hx hb dL_law_251 rfl (lv_at hl 0 rfl) ?_
    refine lv_iload_n hx hb dL_law_252 rfl (lv_at hl 3 rfl) ?_
    refine lv_iconst (v := 2) hx hb dL_law_253 (by decide) ?_
    refine lv_iadd hx hb dL_law_254 ?_
    refine lv_topi (nm_r (e' := 2) (by decide +kernel) ?_)
    refine va_sld hx hb hX hbl hbA hS (vp_in_iff.mpr (by decide +kernel)) dL_law_255 ?_
    refine lv_topi (nm_r (e' := (xs 2)) (by rfl) ?_)
    refine lv_aload_n hx hb dL_law_256 rfl (lv_at hl 0 rfl) ?_
    refine lv_iload_n hx hb dL_law_257 rfl (lv_at hl 3 rfl) ?_
    refine lv_iconst (v := 3) hx hb dL_law_258 (by decide) ?_
    refine lv_iadd hx hb dL_law_259 ?_
    refine lv_topi (nm_r (e' := 3) (by decide +kernel) ?_)
    refine va_sld hx hb hX hbl hbA hS (vp_in_iff.mpr (by decide +kernel)) dL_law_260 ?_
    refine lv_topi (nm_r (e' := (xs 3)) (by rfl) ?_)
    refine z_calli (wr := []) hP hD hS hA [0, 1] [] (by decide) rfl rfl (by decide) (va_runV (As := [.int (xs 1), .int (xs 2), .int (xs 3)]) (rest := [.int (-1)]) ⟨hx, hb, hml, hown, hts⟩ (kX5_worth l g (am 0) (am 1) (am 2) (am 3) (am 4) (am 5) (am 6) (am 7) (am 8) (am 9) (am 10) (am 11) (am 12) (am 13) (am 14) (am 15) (am 16) (am 17) (am 18) (am 19) (am 20) (am 21) (am 22) H.size (xs 1) (xs 2) (xs 3)) ⟨callB_of 3 hts (zGood m_o_yX5_worth) rfl rfl rfl (hts _ m_z_RX5) (hts _ m_m_RL_26) ⟨by decide +kernel, by decide +kernel, by decide +kernel⟩ ⟨Nat.le_of_ble_eq_true rfl, Nat.le_of_ble_eq_true rfl⟩, hts _ m_i_yX5_worth, hts _ m_e_yX5_worth⟩ (zPreV hK hN hZ hP hD hS hA [0, 1] (by decide) rfl rfl 5 0 rfl rfl) rfl rfl hl.1 rfl (lv_room (Nat.le_of_ble_eq_true rfl)) dL_law_261 ⟨Nat.le_of_ble_eq_true rfl, Nat.le_of_ble_eq_true rfl⟩) (fun r u H locs hw hP hD hS => ?_)
    rcases hw with ⟨i_5, rfl⟩ | ⟨i_6, rfl⟩
    · skip
      have hP : va_P g.1 vwCl [] H := hP
      have hD : va_D (fun q : Nat => s.heap.size ≤ q) [] := hD
      refine lv_icmp_eq (tgt := 1054) hx hb dL_law_264 (by decide) (fun _ => ?_) (fun h => absurd h (by decide +kernel))
      exact lc_tail ⟨hx, hb, hml, hr, hlocks, hown, hts, hK, hN, hZ, hX, hbl⟩ hS (lv_sub hl [0, 1, 2, 3] rfl)
    · exfalso; omega
  · skip
    have hP : va_P g.1 vwCl [((am 0), .inr (5, [.ref (am 1), .int 0, .ref (am 2), .int 0, .int 0, .ref (am 3), .ref (am 4), .ref (am 5), .ref (am 6), .int 0, .ref (am 7), .ref (am 8), .ref (am 9), .int 0, .ref (am 10), .ref (am 11), .ref (am 12), .ref (am 13), .ref (am 14), .ref (am 15), .ref (am 16), .ref (am 17), .ref (am 18), .ref (am 19), .ref (am 20), .ref (am 21), .ref (am 22)])), ((am 1), .inl (zI g, 180, .inl (upd (upd (upd (fun _ => 0) 0 60) 1 1) 2 1)))] H := hP
    have hD : va_D (fun q : Nat => s.heap.size ≤ q) [((am 0), .inr (5, [.ref (am 1), .int 0, .ref (am 2), .int 0, .int 0, .ref (am 3), .ref (am 4), .ref (am 5), .ref (am 6), .int 0, .ref (am 7), .ref (am 8), .ref (am 9), .int 0, .ref (am 10), .ref (am 11), .ref (am 12), .ref (am 13), .ref (am 14), .ref (am 15), .ref (am 16), .ref (am 17), .ref (am 18), .ref (am 19), .ref (am 20), .ref (am 21), .ref (am 22)])), ((am 1), .inl (zI g, 180, .inl (upd (upd (upd (fun _ => 0) 0 60) 1 1) 2 1)))] := hD
    refine lv_aload_n hx hb dL_law_245 rfl (lv_at hl 2 rfl) ?_
    refine lv_aload_n hx hb dL_law_246 rfl (lv_at hl 0 rfl) ?_
    refine lv_iload_n hx hb dL_law_247 rfl (lv_at hl 3 rfl) ?_
    refine lv_iconst (v := 1) hx hb dL_law_248 (by decide) ?_
    refine lv_iadd hx hb dL_law_249 ?_
    refine lv_topi (nm_r (e' := 1) (by decide +kernel) ?_)
    refine va_sld hx hb hX hbl hbA hS (vp_in_iff.mpr (by decide +kernel)) dL_law_250 ?_
    refine lv_topi (nm_r (e' := (xs 1)) (by rfl) ?_)
    refine lv_aload_n hx hb dL_law_251 rfl (lv_at hl 0 rfl) ?_
    refine lv_iload_n hx hb dL_law_252 rfl (lv_at hl 3 rfl) ?_
    refine lv_iconst (v := 2) hx hb dL_law_253 (by decide) ?_
    refine lv_iadd hx hb dL_law_254 ?_
    refine lv_topi (nm_r (e' := 2) (by decide +kernel) ?_)
    refine va_sld hx hb hX hbl hbA hS (vp_in_iff.mpr (by decide +kernel)) dL_law_255 ?_
    refine lv_topi (nm_r (e' := (xs 2)) (by rfl) ?_)
    refine lv_aload_n hx hb dL_law_256 rfl (lv_at hl 0 rfl) ?_
    refine lv_iload_n hx hb dL_law_257 rfl (lv_at hl 3 rfl) ?_
    refine lv_iconst (v := 3) hx hb dL_law_258 (by decide) ?_
    refine lv_iadd hx hb dL_law_259 ?_
    refine lv_topi (nm_r (e' := 3) (by decide +kernel) ?_)
    refine va_sld hx hb hX hbl hbA hS (vp_in_iff.mpr (by decide +kernel)) dL_law_260 ?_
    refine lv_topi (nm_r (e' := (xs 3)) (by rfl) ?_)
    refine z_calli (wr := []) hP hD hS hA [0, 1] [] (by decide) rfl rfl (by decide) (va_runV (As := [.int (xs 1), .int (xs 2), .int (xs 3)]) (rest := [.int (-1)]) ⟨hx, hb, hml, hown, hts⟩ (kX5_worth l g (am 0) (am 1) (am 2) (am 3) (am 4) (am 5) (am 6) (am 7) (am 8) (am 9) (am 10) (am 11) (am 12) (am 13) (am 14) (am 15) (am 16) (am 17) (am 18) (am 19) (am 20) (am 21) (am 22) H.size (xs 1) (xs 2) (xs 3)) ⟨callB_of 3 hts (zGood m_o_yX5_worth) rfl rfl rfl (hts _ m_z_RX5) (hts _ m_m_RL_26) ⟨by decide +kernel, by decide +kernel, by decide +kernel⟩ ⟨Nat.le_of_ble_eq_true rfl, Nat.le_of_ble_eq_true rfl⟩, hts _ m_i_yX5_worth, hts _ m_e_yX5_worth⟩ (zPreV hK hN hZ hP hD hS hA [0, 1] (by decide) rfl rfl 5 0 rfl rfl) rfl rfl hl.1 rfl (lv_room (Nat.le_of_ble_eq_true rfl)) dL_law_261 ⟨Nat.le_of_ble_eq_true rfl, Nat.le_of_ble_eq_true rfl⟩) (fun r u H locs hw hP hD hS => ?_)
    rcases hw with ⟨i_7, rfl⟩ | ⟨i_8, rfl⟩
    · exfalso; omega
    · skip
      have hP : va_P g.1 vwCl [] H := hP
      have hD : va_D (fun q : Nat => s.heap.size ≤ q) [] := hD
      refine lv_icmp_eq (tgt := 1054) hx hb dL_law_264 (by decide) (fun _ => ?_) (fun h => absurd h (by decide +kernel))
      exact lc_tail ⟨hx, hb, hml, hr, hlocks, hown, hts, hK, hN, hZ, hX, hbl⟩ hS (lv_sub hl [0, 1, 2, 3] rfl)
  · skip
    have hP : va_P g.1 vwCl [((am 0), .inr (5, [.ref (am 1), .int 0, .ref (am 2), .int 0, .int 0, .ref (am 3), .ref (am 4), .ref (am 5), .ref (am 6), .int 0, .ref (am 7), .ref (am 8), .ref (am 9), .int 0, .ref (am 10), .ref (am 11), .ref (am 12), .ref (am 13), .ref (am 14), .ref (am 15), .ref (am 16), .ref (am 17), .ref (am 18), .ref (am 19), .ref (am 20), .ref (am 21), .ref (am 22)])), ((am 1), .inl (zI g, 180, .inl (upd (upd (upd (fun _ => 0) 0 60) 1 1) 2 1)))] H := hP
    have hD : va_D (fun q : Nat => s.heap.size ≤ q) [((am 0), .inr (5, [.ref (am 1), .int 0, .ref (am 2), .int 0, .int 0, .ref (am 3), .ref (am 4), .ref (am 5), .ref (am 6), .int 0, .ref (am 7), .ref (am 8), .ref (am 9), .int 0, .ref (am 10), .ref (am 11), .ref (am 12), .ref (am 13), .ref (am 14), .ref (am 15), .ref (am 16), .ref (am 17), .ref (am 18), .ref (am 19), .ref (am 20), .ref (am 21), .ref (am 22)])), ((am 1), .inl (zI g, 180, .inl (upd (upd (upd (fun _ => 0) 0 60) 1 1) 2 1)))] := hD
    refine lv_aload_n hx hb dL_law_245 rfl (lv_at hl 2 rfl) ?_
    refine lv_aload_n hx hb dL_law_246 rfl (lv_at hl 0 rfl) ?_
    refine lv_iload_n hx hb dL_law_247 rfl (lv_at hl 3 rfl) ?_
    refine lv_iconst (v := 1) hx hb dL_law_248 (by decide) ?_
    refine lv_iadd hx hb dL_law_249 ?_
    refine lv_topi (nm_r (e' := 1) (by decide +kernel) ?_)
    refine va_sld hx hb hX hbl hbA hS (vp_in_iff.mpr (by decide +kernel)) dL_law_250 ?_
    refine lv_topi (nm_r (e' := (xs 1)) (by rfl) ?_)
    refine lv_aload_n hx hb dL_law_251 rfl (lv_at hl 0 rfl) ?_
    refine lv_iload_n hx hb dL_law_252 rfl (lv_at hl 3 rfl) ?_
    refine lv_iconst (v := 2) hx hb dL_law_253 (by decide) ?_
    refine lv_iadd hx hb dL_law_254 ?_
    refine lv_topi (nm_r (e' := 2) (by decide +kernel) ?_)
    refine va_sld hx hb hX hbl hbA hS (vp_in_iff.mpr (by decide +kernel)) dL_law_255 ?_
    refine lv_topi (nm_r (e' := (xs 2)) (by rfl) ?_)
    refine lv_aload_n hx hb dL_law_256 rfl (lv_at hl 0 rfl) ?_
    refine lv_iload_n hx hb dL_law_257 rfl (lv_at hl 3 rfl) ?_
    refine lv_iconst (v := 3) hx hb dL_law_258 (by decide) ?_
    refine lv_iadd hx hb dL_law_259 ?_
    refine lv_topi (nm_r (e' := 3) (by decide +kernel) ?_)
    refine va_sld hx hb hX hbl hbA hS (vp_in_iff.mpr (by decide +kernel)) dL_law_260 ?_
    refine lv_topi (nm_r (e' := (xs 3)) (by rfl) ?_)
    refine z_calli (wr := []) hP hD hS hA [0, 1] [] (by decide) rfl rfl (by decide) (va_runV (As := [.int (xs 1), .int (xs 2), .int (xs 3)]) (rest := [.int (-1)]) ⟨hx, hb, hml, hown, hts⟩ (kX5_worth l g (am 0) (am 1) (am 2) (am 3) (am 4) (am 5) (am 6) (am 7) (am 8) (am 9) (am 10) (am 11) (am 12) (am 13) (am 14) (am 15) (am 16) (am 17) (am 18) (am 19) (am 20) (am 21) (am 22) H.size (xs 1) (xs 2) (xs 3)) ⟨callB_of 3 hts (zGood m_o_yX5_worth) rfl rfl rfl (hts _ m_z_RX5) (hts _ m_m_RL_26) ⟨by decide +kernel, by decide +kernel, by decide +kernel⟩ ⟨Nat.le_of_ble_eq_true rfl, Nat.le_of_ble_eq_true rfl⟩, hts _ m_i_yX5_worth, hts _ m_e_yX5_worth⟩ (zPreV hK hN hZ hP hD hS hA [0, 1] (by decide) rfl rfl 5 0 rfl rfl) rfl rfl hl.1 rfl (lv_room (Nat.le_of_ble_eq_true rfl)) dL_law_261 ⟨Nat.le_of_ble_eq_true rfl, Nat.le_of_ble_eq_true rfl⟩) (fun r u H locs hw hP hD hS => ?_)
    rcases hw with ⟨i_9, rfl⟩ | ⟨i_10, rfl⟩
    · exfalso; omega
    · skip
      have hP : va_P g.1 vwCl [] H := hP
      have hD : va_D (fun q : Nat => s.heap.size ≤ q) [] := hD
      refine lv_icmp_eq (tgt := 1054) hx hb dL_law_264 (by decide) (fun _ => ?_) (fun h => absurd h (by decide +kernel))
      exact lc_tail ⟨hx, hb, hml, hr, hlocks, hown, hts, hK, hN, hZ, hX, hbl⟩ hS (lv_sub hl [0, 1, 2, 3] rfl)
set_option maxHeartbeats 4000000 in
set_option maxRecDepth 100000 in
theorem lc_margin {p : Program} {l : Launch} {e : Env} {s : State} {m : MethodId} {below : List Frame} {meth : Method} {c : Code} {b : Nat} {xs : Nat → Int32} {g : zG} (C0 : lC g p s m meth c b xs) {ax am : Nat → Nat} {H : Heap} {locs : List Loc} (hP : va_P g.1 vwCl (lW g ax am) H) (hD : va_D (fun q : Nat => s.heap.size ≤ q) (lW g ax am)) (hS : va_S (fun q : Nat => s.heap.size ≤ q) s.heap H locs) {ls : Array Slot} (hl : lv_has ls 4 [(0, .ref b), (1, .ref (ax 0)), (2, .ref (am 0)), (3, .int 0)]) : W p l e room_1 s m #[Value.ref b] below meth c H locs 600000 7302250 (lw_Z below #[Value.ref b] s) (F0 m 269 ls []) := by
  obtain ⟨hx, hb, hml, hr, hlocks, hown, hts, hK, hN, hZ, hX, hbl⟩ := C0
  have hA : ∀ q : Nat, s.heap.size ≤ q → (fun q : Nat => s.heap.size ≤ q) q := fun _ h => h
  have hbA : ¬ (fun q : Nat => s.heap.size ≤ q) b := Nat.not_le.mpr hbl
  have hP := hP.sub (ws' := [((ax 0), .inr (4, [.ref (ax 1), .ref (ax 10), .int 0, .ref (ax 19), .ref (ax 30), .ref (ax 32), .ref (ax 36), .int (-1), .ref (ax 37), .ref (ax 38), .ref (ax 39), .ref (ax 40)])), ((ax 1), .inr (0, [.ref (ax 2), .int 0, .ref (ax 3), .int 0, .ref (ax 4), .ref (ax 5), .ref (ax 6), .ref (ax 7), .ref (ax 8), .ref (ax 9), .int 0])), ((am 0), .inr (5, [.ref (am 1), .int 0, .ref (am 2), .int 0, .int 0, .ref (am 3), .ref (am 4), .ref (am 5), .ref (am 6), .int 0, .ref (am 7), .ref (am 8), .ref (am 9), .int 0, .ref (am 10), .ref (am 11), .ref (am 12), .ref (am 13), .ref (am 14), .ref (am 15), .ref (am 16), .ref (am 17), .ref (am 18), .ref (am 19), .ref (am 20), .ref (am 21), .ref (am 22)])), ((am 1), .inl (zI g, 180, .inl (upd (upd (upd (fun _ => 0) 0 60) 1 1) 2 1)))]) [0, 1, 41, 42] rfl
  have hD := hD.sub (ws' := [((ax 0), .inr (4, [.ref (ax 1), .ref (ax 10), .int 0, .ref (ax 19), .ref (ax 30), .ref (ax 32), .ref (ax 36), .int (-1), .ref (ax 37), .ref (ax 38), .ref (ax 39), .ref (ax 40)])), ((ax 1), .inr (0, [.ref (ax 2), .int 0, .ref (ax 3), .int 0, .ref (ax 4), .ref (ax 5), .ref (ax 6), .ref (ax 7), .ref (ax 8), .ref (ax 9), .int 0])), ((am 0), .inr (5, [.ref (am 1), .int 0, .ref (am 2), .int 0, .int 0, .ref (am 3), .ref (am 4), .ref (am 5), .ref (am 6), .int 0, .ref (am 7), .ref (am 8), .ref (am 9), .int 0, .ref (am 10), .ref (am 11), .ref (am 12), .ref (am 13), .ref (am 14), .ref (am 15), .ref (am 16), .ref (am 17), .ref (am 18), .ref (am 19), .ref (am 20), .ref (am 21), .ref (am 22)])), ((am 1), .inl (zI g, 180, .inl (upd (upd (upd (fun _ => 0) 0 60) 1 1) 2 1)))]) [0, 1, 41, 42] (by decide) rfl
  refine lv_aload_n hx hb dL_law_269 rfl (lv_at hl 1 rfl) ?_
  refine lv_aload_n hx hb dL_law_270 rfl (lv_at hl 0 rfl) ?_
  refine lv_iload_n hx hb dL_law_271 rfl (lv_at hl 3 rfl) ?_
  refine lv_iconst (v := 1) hx hb dL_law_272 (by decide) ?_
  refine lv_iadd hx hb dL_law_273 ?_
  refine lv_topi (nm_r (e' := 1) (by decide +kernel) ?_)
  refine va_sld hx hb hX hbl hbA hS (vp_in_iff.mpr (by decide +kernel)) dL_law_274 ?_
  refine lv_topi (nm_r (e' := (xs 1)) (by rfl) ?_)
  refine lv_aload_n hx hb dL_law_275 rfl (lv_at hl 0 rfl) ?_
  refine lv_iload_n hx hb dL_law_276 rfl (lv_at hl 3 rfl) ?_
  refine lv_iconst (v := 2) hx hb dL_law_277 (by decide) ?_
  refine lv_iadd hx hb dL_law_278 ?_
  refine lv_topi (nm_r (e' := 2) (by decide +kernel) ?_)
  refine va_sld hx hb hX hbl hbA hS (vp_in_iff.mpr (by decide +kernel)) dL_law_279 ?_
  refine lv_topi (nm_r (e' := (xs 2)) (by rfl) ?_)
  refine z_calli (wr := [((am 0), .inr (5, [.ref (am 1), .int 0, .ref (am 2), .int 0, .int 0, .ref (am 3), .ref (am 4), .ref (am 5), .ref (am 6), .int 0, .ref (am 7), .ref (am 8), .ref (am 9), .int 0, .ref (am 10), .ref (am 11), .ref (am 12), .ref (am 13), .ref (am 14), .ref (am 15), .ref (am 16), .ref (am 17), .ref (am 18), .ref (am 19), .ref (am 20), .ref (am 21), .ref (am 22)])), ((am 1), .inl (zI g, 180, .inl (upd (upd (upd (fun _ => 0) 0 60) 1 1) 2 1)))]) hP hD hS hA [0, 1] [2, 3] (by decide) rfl rfl (by decide) (va_runV (As := [.int (xs 1), .int (xs 2)]) (rest := []) ⟨hx, hb, hml, hown, hts⟩ (kX4_margin l g (ax 0) (ax 1) (ax 10) (ax 19) (ax 30) (ax 32) (ax 36) (ax 37) (ax 38) (ax 39) (ax 40) (ax 2) (ax 3) (ax 4) (ax 5) (ax 6) (ax 7) (ax 8) (ax 9) H.size (xs 1) (xs 2)) ⟨callB_of 2 hts (zGood m_o_yX4_margin) rfl rfl rfl (hts _ m_z_RX4) (hts _ m_m_RL_27) ⟨by decide +kernel, by decide +kernel, by decide +kernel⟩ ⟨Nat.le_of_ble_eq_true rfl, Nat.le_of_ble_eq_true rfl⟩, hts _ m_i_yX4_margin, hts _ m_e_yX4_margin⟩ (zPreV hK hN hZ hP hD hS hA [0, 1] (by decide) rfl rfl 4 0 rfl rfl) rfl rfl hl.1 rfl (lv_room (Nat.le_of_ble_eq_true rfl)) dL_law_280 ⟨Nat.le_of_ble_eq_true rfl, Nat.le_of_ble_eq_true rfl⟩) (fun r u H locs hw hP hD hS => ?_)
  rcases hw with ⟨i_0, rfl⟩ | ⟨i_1, i_2, rfl⟩ | ⟨i_3, i_4, rfl⟩
  · skip
    have hP : va_P g.1 vwCl [((am 0), .inr (5, [.ref (am 1), .int 0, .ref (am 2), .int 0, .int 0, .ref (am 3), .ref (am 4), .ref (am 5), .ref (am 6), .int 0, .ref (am 7), .ref (am 8), .ref (am 9), .int 0, .ref (am 10), .ref (am 11), .ref (am 12), .ref (am 13), .ref (am 14), .ref (am 15), .ref (am 16), .ref (am 17), .ref (am 18), .ref (am 19), .ref (am 20), .ref (am 21), .ref (am 22)])), ((am 1), .inl (zI g, 180, .inl (upd (upd (upd (fun _ => 0) 0 60) 1 1) 2 1)))] H := hP
    have hD : va_D (fun q : Nat => s.heap.size ≤ q) [((am 0), .inr (5, [.ref (am 1), .int 0, .ref (am 2), .int 0, .int 0, .ref (am 3), .ref (am 4), .ref (am 5), .ref (am 6), .int 0, .ref (am 7), .ref (am 8), .ref (am 9), .int 0, .ref (am 10), .ref (am 11), .ref (am 12), .ref (am 13), .ref (am 14), .ref (am 15), .ref (am 16), .ref (am 17), .ref (am 18), .ref (am 19), .ref (am 20), .ref (am 21), .ref (am 22)])), ((am 1), .inl (zI g, 180, .inl (upd (upd (upd (fun _ => 0) 0 60) 1 1) 2 1)))] := hD
    refine lv_aload_n hx hb dL_law_283 rfl (lv_at hl 2 rfl) ?_
    refine lv_aload_n hx hb dL_law_284 rfl (lv_at hl 0 rfl) ?_
    refine lv_iload_n hx hb dL_law_285 rfl (lv_at hl 3 rfl) ?_
    refine lv_iconst (v := 1) hx hb dL_law_286 (by decide) ?_
    refine lv_iadd hx hb dL_law_287 ?_
    refine lv_topi (nm_r (e' := 1) (by decide +kernel) ?_)
    refine va_sld hx hb hX hbl hbA hS (vp_in_iff.mpr (by decide +kernel)) dL_law_288 ?_
    refine lv_topi (nm_r (e' := (xs 1)) (by rfl) ?_)
    refine lv_aload_n hx hb dL_law_289 rfl (lv_at hl 0 rfl) ?_
    refine lv_iload_n hx hb dL_law_290 rfl (lv_at hl 3 rfl) ?_
    refine lv_iconst (v := 2) hx hb dL_law_291 (by decide) ?_
    refine lv_iadd hx hb dL_law_292 ?_
    refine lv_topi (nm_r (e' := 2) (by decide +kernel) ?_)
    refine va_sld hx hb hX hbl hbA hS (vp_in_iff.mpr (by decide +kernel)) dL_law_293 ?_
    refine lv_topi (nm_r (e' := (xs 2)) (by rfl) ?_)
    refine z_calli (wr := []) hP hD hS hA [0, 1] [] (by decide) rfl rfl (by decide) (va_runV (As := [.int (xs 1), .int (xs 2)]) (rest := [.int (-1)]) ⟨hx, hb, hml, hown, hts⟩ (kX5_margin l g (am 0) (am 1) (am 2) (am 3) (am 4) (am 5) (am 6) (am 7) (am 8) (am 9) (am 10) (am 11) (am 12) (am 13) (am 14) (am 15) (am 16) (am 17) (am 18) (am 19) (am 20) (am 21) (am 22) H.size (xs 1) (xs 2)) ⟨callB_of 2 hts (zGood m_o_yX5_margin) rfl rfl rfl (hts _ m_z_RX5) (hts _ m_m_RL_30) ⟨by decide +kernel, by decide +kernel, by decide +kernel⟩ ⟨Nat.le_of_ble_eq_true rfl, Nat.le_of_ble_eq_true rfl⟩, hts _ m_i_yX5_margin, hts _ m_e_yX5_margin⟩ (zPreV hK hN hZ hP hD hS hA [0, 1] (by decide) rfl rfl 5 0 rfl rfl) rfl rfl hl.1 rfl (lv_room (Nat.le_of_ble_eq_true rfl)) dL_law_294 ⟨Nat.le_of_ble_eq_true rfl, Nat.le_of_ble_eq_true rfl⟩) (fun r u H locs hw hP hD hS => ?_)
    rcases hw with ⟨i_5, rfl⟩ | ⟨i_6, rfl⟩
    · skip
      have hP : va_P g.1 vwCl [] H := hP
      have hD : va_D (fun q : Nat => s.heap.size ≤ q) [] := hD
      refine lv_icmp_eq (tgt := 1054) hx hb dL_law_297 (by decide) (fun _ => ?_) (fun h => absurd h (by decide +kernel))
      exact lc_tail ⟨hx, hb, hml, hr, hlocks, hown, hts, hK, hN, hZ, hX, hbl⟩ hS (lv_sub hl [0, 1, 2, 3] rfl)
    · exfalso; omega
  · skip
    have hP : va_P g.1 vwCl [((am 0), .inr (5, [.ref (am 1), .int 0, .ref (am 2), .int 0, .int 0, .ref (am 3), .ref (am 4), .ref (am 5), .ref (am 6), .int 0, .ref (am 7), .ref (am 8), .ref (am 9), .int 0, .ref (am 10), .ref (am 11), .ref (am 12), .ref (am 13), .ref (am 14), .ref (am 15), .ref (am 16), .ref (am 17), .ref (am 18), .ref (am 19), .ref (am 20), .ref (am 21), .ref (am 22)])), ((am 1), .inl (zI g, 180, .inl (upd (upd (upd (fun _ => 0) 0 60) 1 1) 2 1)))] H := hP
    have hD : va_D (fun q : Nat => s.heap.size ≤ q) [((am 0), .inr (5, [.ref (am 1), .int 0, .ref (am 2), .int 0, .int 0, .ref (am 3), .ref (am 4), .ref (am 5), .ref (am 6), .int 0, .ref (am 7), .ref (am 8), .ref (am 9), .int 0, .ref (am 10), .ref (am 11), .ref (am 12), .ref (am 13), .ref (am 14), .ref (am 15), .ref (am 16), .ref (am 17), .ref (am 18), .ref (am 19), .ref (am 20), .ref (am 21), .ref (am 22)])), ((am 1), .inl (zI g, 180, .inl (upd (upd (upd (fun _ => 0) 0 60) 1 1) 2 1)))] := hD
    refine lv_aload_n hx hb dL_law_283 rfl (lv_at hl 2 rfl) ?_
    refine lv_aload_n hx hb dL_law_284 rfl (lv_at hl 0 rfl) ?_
    refine lv_iload_n hx hb dL_law_285 rfl (lv_at hl 3 rfl) ?_
    refine lv_iconst (v := 1) hx hb dL_law_286 (by decide) ?_
    refine lv_iadd hx hb dL_law_287 ?_
    refine lv_topi (nm_r (e' := 1) (by decide +kernel) ?_)
    refine va_sld hx hb hX hbl hbA hS (vp_in_iff.mpr (by decide +kernel)) dL_law_288 ?_
    refine lv_topi (nm_r (e' := (xs 1)) (by rfl) ?_)
    refine lv_aload_n hx hb dL_law_289 rfl (lv_at hl 0 rfl) ?_
    refine lv_iload_n hx hb dL_law_290 rfl (lv_at hl 3 rfl) ?_
    refine lv_iconst (v := 2) hx hb dL_law_291 (by decide) ?_
    refine lv_iadd hx hb dL_law_292 ?_
    refine lv_topi (nm_r (e' := 2) (by decide +kernel) ?_)
    refine va_sld hx hb hX hbl hbA hS (vp_in_iff.mpr (by decide +kernel)) dL_law_293 ?_
    refine lv_topi (nm_r (e' := (xs 2)) (by rfl) ?_)
    refine z_calli (wr := []) hP hD hS hA [0, 1] [] (by decide) rfl rfl (by decide) (va_runV (As := [.int (xs 1), .int (xs 2)]) (rest := [.int (-1)]) ⟨hx, hb, hml, hown, hts⟩ (kX5_margin l g (am 0) (am 1) (am 2) (am 3) (am 4) (am 5) (am 6) (am 7) (am 8) (am 9) (am 10) (am 11) (am 12) (am 13) (am 14) (am 15) (am 16) (am 17) (am 18) (am 19) (am 20) (am 21) (am 22) H.size (xs 1) (xs 2)) ⟨callB_of 2 hts (zGood m_o_yX5_margin) rfl rfl rfl (hts _ m_z_RX5) (hts _ m_m_RL_30) ⟨by decide +kernel, by decide +kernel, by decide +kernel⟩ ⟨Nat.le_of_ble_eq_true rfl, Nat.le_of_ble_eq_true rfl⟩, hts _ m_i_yX5_margin, hts _ m_e_yX5_margin⟩ (zPreV hK hN hZ hP hD hS hA [0, 1] (by decide) rfl rfl 5 0 rfl rfl) rfl rfl hl.1 rfl (lv_room (Nat.le_of_ble_eq_true rfl)) dL_law_294 ⟨Nat.le_of_ble_eq_true rfl, Nat.le_of_ble_eq_true rfl⟩) (fun r u H locs hw hP hD hS => ?_)
    rcases hw with ⟨i_7, rfl⟩ | ⟨i_8, rfl⟩
    · exfalso; omega
    · skip
      have hP : va_P g.1 vwCl [] H := hP
      have hD : va_D (fun q : Nat => s.heap.size ≤ q) [] := hD
      refine lv_icmp_eq (tgt := 1054) hx hb dL_law_297 (by decide) (fun _ => ?_) (fun h => absurd h (by decide +kernel))
      exact lc_tail ⟨hx, hb, hml, hr, hlocks, hown, hts, hK, hN, hZ, hX, hbl⟩ hS (lv_sub hl [0, 1, 2, 3] rfl)
  · skip
    have hP : va_P g.1 vwCl [((am 0), .inr (5, [.ref (am 1), .int 0, .ref (am 2), .int 0, .int 0, .ref (am 3), .ref (am 4), .ref (am 5), .ref (am 6), .int 0, .ref (am 7), .ref (am 8), .ref (am 9), .int 0, .ref (am 10), .ref (am 11), .ref (am 12), .ref (am 13), .ref (am 14), .ref (am 15), .ref (am 16), .ref (am 17), .ref (am 18), .ref (am 19), .ref (am 20), .ref (am 21), .ref (am 22)])), ((am 1), .inl (zI g, 180, .inl (upd (upd (upd (fun _ => 0) 0 60) 1 1) 2 1)))] H := hP
    have hD : va_D (fun q : Nat => s.heap.size ≤ q) [((am 0), .inr (5, [.ref (am 1), .int 0, .ref (am 2), .int 0, .int 0, .ref (am 3), .ref (am 4), .ref (am 5), .ref (am 6), .int 0, .ref (am 7), .ref (am 8), .ref (am 9), .int 0, .ref (am 10), .ref (am 11), .ref (am 12), .ref (am 13), .ref (am 14), .ref (am 15), .ref (am 16), .ref (am 17), .ref (am 18), .ref (am 19), .ref (am 20), .ref (am 21), .ref (am 22)])), ((am 1), .inl (zI g, 180, .inl (upd (upd (upd (fun _ => 0) 0 60) 1 1) 2 1)))] := hD
    refine lv_aload_n hx hb dL_law_283 rfl (lv_at hl 2 rfl) ?_
    refine lv_aload_n hx hb dL_law_284 rfl (lv_at hl 0 rfl) ?_
    refine lv_iload_n hx hb dL_law_285 rfl (lv_at hl 3 rfl) ?_
    refine lv_iconst (v := 1) hx hb dL_law_286 (by decide) ?_
    refine lv_iadd hx hb dL_law_287 ?_
    refine lv_topi (nm_r (e' := 1) (by decide +kernel) ?_)
    refine va_sld hx hb hX hbl hbA hS (vp_in_iff.mpr (by decide +kernel)) dL_law_288 ?_
    refine lv_topi (nm_r (e' := (xs 1)) (by rfl) ?_)
    refine lv_aload_n hx hb dL_law_289 rfl (lv_at hl 0 rfl) ?_
    refine lv_iload_n hx hb dL_law_290 rfl (lv_at hl 3 rfl) ?_
    refine lv_iconst (v := 2) hx hb dL_law_291 (by decide) ?_
    refine lv_iadd hx hb dL_law_292 ?_
    refine lv_topi (nm_r (e' := 2) (by decide +kernel) ?_)
    refine va_sld hx hb hX hbl hbA hS (vp_in_iff.mpr (by decide +kernel)) dL_law_293 ?_
    refine lv_topi (nm_r (e' := (xs 2)) (by rfl) ?_)
    refine z_calli (wr := []) hP hD hS hA [0, 1] [] (by decide) rfl rfl (by decide) (va_runV (As := [.int (xs 1), .int (xs 2)]) (rest := [.int (-1)]) ⟨hx, hb, hml, hown, hts⟩ (kX5_margin l g (am 0) (am 1) (am 2) (am 3) (am 4) (am 5) (am 6) (am 7) (am 8) (am 9) (am 10) (am 11) (am 12) (am 13) (am 14) (am 15) (am 16) (am 17) (am 18) (am 19) (am 20) (am 21) (am 22) H.size (xs 1) (xs 2)) ⟨callB_of 2 hts (zGood m_o_yX5_margin) rfl rfl rfl (hts _ m_z_RX5) (hts _ m_m_RL_30) ⟨by decide +kernel, by decide +kernel, by decide +kernel⟩ ⟨Nat.le_of_ble_eq_true rfl, Nat.le_of_ble_eq_true rfl⟩, hts _ m_i_yX5_margin, hts _ m_e_yX5_margin⟩ (zPreV hK hN hZ hP hD hS hA [0, 1] (by decide) rfl rfl 5 0 rfl rfl) rfl rfl hl.1 rfl (lv_room (Nat.le_of_ble_eq_true rfl)) dL_law_294 ⟨Nat.le_of_ble_eq_true rfl, Nat.le_of_ble_eq_true rfl⟩) (fun r u H locs hw hP hD hS => ?_)
    rcases hw with ⟨i_9, rfl⟩ | ⟨i_10, rfl⟩
    · exfalso; omega
    · skip
      have hP : va_P g.1 vwCl [] H := hP
      have hD : va_D (fun q : Nat => s.heap.size ≤ q) [] := hD
      refine lv_icmp_eq (tgt := 1054) hx hb dL_law_297 (by decide) (fun _ => ?_) (fun h => absurd h (by decide +kernel))
      exact lc_tail ⟨hx, hb, hml, hr, hlocks, hown, hts, hK, hN, hZ, hX, hbl⟩ hS (lv_sub hl [0, 1, 2, 3] rfl)
set_option maxHeartbeats 4000000 in
set_option maxRecDepth 100000 in
theorem lc_told {p : Program} {l : Launch} {e : Env} {s : State} {m : MethodId} {below : List Frame} {meth : Method} {c : Code} {b : Nat} {xs : Nat → Int32} {g : zG} (C0 : lC g p s m meth c b xs) {ax am : Nat → Nat} {H : Heap} {locs : List Loc} (hP : va_P g.1 vwCl (lW g ax am) H) (hD : va_D (fun q : Nat => s.heap.size ≤ q) (lW g ax am)) (hS : va_S (fun q : Nat => s.heap.size ≤ q) s.heap H locs) {ls : Array Slot} (hl : lv_has ls 4 [(0, .ref b), (1, .ref (ax 0)), (2, .ref (am 0)), (3, .int 0)]) : W p l e room_1 s m #[Value.ref b] below meth c H locs 600000 7302250 (lw_Z below #[Value.ref b] s) (F0 m 302 ls []) := by
  obtain ⟨hx, hb, hml, hr, hlocks, hown, hts, hK, hN, hZ, hX, hbl⟩ := C0
  have hA : ∀ q : Nat, s.heap.size ≤ q → (fun q : Nat => s.heap.size ≤ q) q := fun _ h => h
  have hbA : ¬ (fun q : Nat => s.heap.size ≤ q) b := Nat.not_le.mpr hbl
  have hP := hP.sub (ws' := [((ax 0), .inr (4, [.ref (ax 1), .ref (ax 10), .int 0, .ref (ax 19), .ref (ax 30), .ref (ax 32), .ref (ax 36), .int (-1), .ref (ax 37), .ref (ax 38), .ref (ax 39), .ref (ax 40)])), ((ax 1), .inr (0, [.ref (ax 2), .int 0, .ref (ax 3), .int 0, .ref (ax 4), .ref (ax 5), .ref (ax 6), .ref (ax 7), .ref (ax 8), .ref (ax 9), .int 0])), ((am 0), .inr (5, [.ref (am 1), .int 0, .ref (am 2), .int 0, .int 0, .ref (am 3), .ref (am 4), .ref (am 5), .ref (am 6), .int 0, .ref (am 7), .ref (am 8), .ref (am 9), .int 0, .ref (am 10), .ref (am 11), .ref (am 12), .ref (am 13), .ref (am 14), .ref (am 15), .ref (am 16), .ref (am 17), .ref (am 18), .ref (am 19), .ref (am 20), .ref (am 21), .ref (am 22)])), ((am 1), .inl (zI g, 180, .inl (upd (upd (upd (fun _ => 0) 0 60) 1 1) 2 1)))]) [0, 1, 41, 42] rfl
  have hD := hD.sub (ws' := [((ax 0), .inr (4, [.ref (ax 1), .ref (ax 10), .int 0, .ref (ax 19), .ref (ax 30), .ref (ax 32), .ref (ax 36), .int (-1), .ref (ax 37), .ref (ax 38), .ref (ax 39), .ref (ax 40)])), ((ax 1), .inr (0, [.ref (ax 2), .int 0, .ref (ax 3), .int 0, .ref (ax 4), .ref (ax 5), .ref (ax 6), .ref (ax 7), .ref (ax 8), .ref (ax 9), .int 0])), ((am 0), .inr (5, [.ref (am 1), .int 0, .ref (am 2), .int 0, .int 0, .ref (am 3), .ref (am 4), .ref (am 5), .ref (am 6), .int 0, .ref (am 7), .ref (am 8), .ref (am 9), .int 0, .ref (am 10), .ref (am 11), .ref (am 12), .ref (am 13), .ref (am 14), .ref (am 15), .ref (am 16), .ref (am 17), .ref (am 18), .ref (am 19), .ref (am 20), .ref (am 21), .ref (am 22)])), ((am 1), .inl (zI g, 180, .inl (upd (upd (upd (fun _ => 0) 0 60) 1 1) 2 1)))]) [0, 1, 41, 42] (by decide) rfl
  refine lv_aload_n hx hb dL_law_302 rfl (lv_at hl 1 rfl) ?_
  refine lv_aload_n hx hb dL_law_303 rfl (lv_at hl 0 rfl) ?_
  refine lv_iload_n hx hb dL_law_304 rfl (lv_at hl 3 rfl) ?_
  refine lv_iconst (v := 1) hx hb dL_law_305 (by decide) ?_
  refine lv_iadd hx hb dL_law_306 ?_
  refine lv_topi (nm_r (e' := 1) (by decide +kernel) ?_)
  refine va_sld hx hb hX hbl hbA hS (vp_in_iff.mpr (by decide +kernel)) dL_law_307 ?_
  refine lv_topi (nm_r (e' := (xs 1)) (by rfl) ?_)
  refine lv_aload_n hx hb dL_law_308 rfl (lv_at hl 0 rfl) ?_
  refine lv_iload_n hx hb dL_law_309 rfl (lv_at hl 3 rfl) ?_
  refine lv_iconst (v := 2) hx hb dL_law_310 (by decide) ?_
  refine lv_iadd hx hb dL_law_311 ?_
  refine lv_topi (nm_r (e' := 2) (by decide +kernel) ?_)
  refine va_sld hx hb hX hbl hbA hS (vp_in_iff.mpr (by decide +kernel)) dL_law_312 ?_
  refine lv_topi (nm_r (e' := (xs 2)) (by rfl) ?_)
  refine z_calli (wr := [((am 0), .inr (5, [.ref (am 1), .int 0, .ref (am 2), .int 0, .int 0, .ref (am 3), .ref (am 4), .ref (am 5), .ref (am 6), .int 0, .ref (am 7), .ref (am 8), .ref (am 9), .int 0, .ref (am 10), .ref (am 11), .ref (am 12), .ref (am 13), .ref (am 14), .ref (am 15), .ref (am 16), .ref (am 17), .ref (am 18), .ref (am 19), .ref (am 20), .ref (am 21), .ref (am 22)])), ((am 1), .inl (zI g, 180, .inl (upd (upd (upd (fun _ => 0) 0 60) 1 1) 2 1)))]) hP hD hS hA [0, 1] [2, 3] (by decide) rfl rfl (by decide) (va_runV (As := [.int (xs 1), .int (xs 2)]) (rest := []) ⟨hx, hb, hml, hown, hts⟩ (kX4_told l g (ax 0) (ax 1) (ax 10) (ax 19) (ax 30) (ax 32) (ax 36) (ax 37) (ax 38) (ax 39) (ax 40) (ax 2) (ax 3) (ax 4) (ax 5) (ax 6) (ax 7) (ax 8) (ax 9) H.size (xs 1) (xs 2)) ⟨callB_of 2 hts (zGood m_o_yX4_told) rfl rfl rfl (hts _ m_z_RX4) (hts _ m_m_RL_31) ⟨by decide +kernel, by decide +kernel, by decide +kernel⟩ ⟨Nat.le_of_ble_eq_true rfl, Nat.le_of_ble_eq_true rfl⟩, hts _ m_i_yX4_told, hts _ m_e_yX4_told⟩ (zPreV hK hN hZ hP hD hS hA [0, 1] (by decide) rfl rfl 4 0 rfl rfl) rfl rfl hl.1 rfl (lv_room (Nat.le_of_ble_eq_true rfl)) dL_law_313 ⟨Nat.le_of_ble_eq_true rfl, Nat.le_of_ble_eq_true rfl⟩) (fun r u H locs hw hP hD hS => ?_)
  rcases hw with ⟨i_0, rfl⟩ | ⟨i_1, i_2, rfl⟩ | ⟨i_3, i_4, rfl⟩
  · skip
    have hP : va_P g.1 vwCl [((am 0), .inr (5, [.ref (am 1), .int 0, .ref (am 2), .int 0, .int 0, .ref (am 3), .ref (am 4), .ref (am 5), .ref (am 6), .int 0, .ref (am 7), .ref (am 8), .ref (am 9), .int 0, .ref (am 10), .ref (am 11), .ref (am 12), .ref (am 13), .ref (am 14), .ref (am 15), .ref (am 16), .ref (am 17), .ref (am 18), .ref (am 19), .ref (am 20), .ref (am 21), .ref (am 22)])), ((am 1), .inl (zI g, 180, .inl (upd (upd (upd (fun _ => 0) 0 60) 1 1) 2 1)))] H := hP
    have hD : va_D (fun q : Nat => s.heap.size ≤ q) [((am 0), .inr (5, [.ref (am 1), .int 0, .ref (am 2), .int 0, .int 0, .ref (am 3), .ref (am 4), .ref (am 5), .ref (am 6), .int 0, .ref (am 7), .ref (am 8), .ref (am 9), .int 0, .ref (am 10), .ref (am 11), .ref (am 12), .ref (am 13), .ref (am 14), .ref (am 15), .ref (am 16), .ref (am 17), .ref (am 18), .ref (am 19), .ref (am 20), .ref (am 21), .ref (am 22)])), ((am 1), .inl (zI g, 180, .inl (upd (upd (upd (fun _ => 0) 0 60) 1 1) 2 1)))] := hD
    refine lv_aload_n hx hb dL_law_316 rfl (lv_at hl 2 rfl) ?_
    refine lv_aload_n hx hb dL_law_317 rfl (lv_at hl 0 rfl) ?_
    refine lv_iload_n hx hb dL_law_318 rfl (lv_at hl 3 rfl) ?_
    refine lv_iconst (v := 1) hx hb dL_law_319 (by decide) ?_
    refine lv_iadd hx hb dL_law_320 ?_
    refine lv_topi (nm_r (e' := 1) (by decide +kernel) ?_)
    refine va_sld hx hb hX hbl hbA hS (vp_in_iff.mpr (by decide +kernel)) dL_law_321 ?_
    refine lv_topi (nm_r (e' := (xs 1)) (by rfl) ?_)
    refine lv_aload_n hx hb dL_law_322 rfl (lv_at hl 0 rfl) ?_
    refine lv_iload_n hx hb dL_law_323 rfl (lv_at hl 3 rfl) ?_
    refine lv_iconst (v := 2) hx hb dL_law_324 (by decide) ?_
    refine lv_iadd hx hb dL_law_325 ?_
    refine lv_topi (nm_r (e' := 2) (by decide +kernel) ?_)
    refine va_sld hx hb hX hbl hbA hS (vp_in_iff.mpr (by decide +kernel)) dL_law_326 ?_
    refine lv_topi (nm_r (e' := (xs 2)) (by rfl) ?_)
    refine z_calli (wr := []) hP hD hS hA [0, 1] [] (by decide) rfl rfl (by decide) (va_runV (As := [.int (xs 1), .int (xs 2)]) (rest := [.int (-100001)]) ⟨hx, hb, hml, hown, hts⟩ (kX5_told l g (am 0) (am 1) (am 2) (am 3) (am 4) (am 5) (am 6) (am 7) (am 8) (am 9) (am 10) (am 11) (am 12) (am 13) (am 14) (am 15) (am 16) (am 17) (am 18) (am 19) (am 20) (am 21) (am 22) H.size (xs 1) (xs 2)) ⟨callB_of 2 hts (zGood m_o_yX5_told) rfl rfl rfl (hts _ m_z_RX5) (hts _ m_m_RL_34) ⟨by decide +kernel, by decide +kernel, by decide +kernel⟩ ⟨Nat.le_of_ble_eq_true rfl, Nat.le_of_ble_eq_true rfl⟩, hts _ m_i_yX5_told, hts _ m_e_yX5_told⟩ (zPreV hK hN hZ hP hD hS hA [0, 1] (by decide) rfl rfl 5 0 rfl rfl) rfl rfl hl.1 rfl (lv_room (Nat.le_of_ble_eq_true rfl)) dL_law_327 ⟨Nat.le_of_ble_eq_true rfl, Nat.le_of_ble_eq_true rfl⟩) (fun r u H locs hw hP hD hS => ?_)
    rcases hw with ⟨i_5, rfl⟩ | ⟨i_6, rfl⟩
    · skip
      have hP : va_P g.1 vwCl [] H := hP
      have hD : va_D (fun q : Nat => s.heap.size ≤ q) [] := hD
      refine lv_icmp_eq (tgt := 1054) hx hb dL_law_330 (by decide) (fun _ => ?_) (fun h => absurd h (by decide +kernel))
      exact lc_tail ⟨hx, hb, hml, hr, hlocks, hown, hts, hK, hN, hZ, hX, hbl⟩ hS (lv_sub hl [0, 1, 2, 3] rfl)
    · exfalso; omega
  · skip
    have hP : va_P g.1 vwCl [((am 0), .inr (5, [.ref (am 1), .int 0, .ref (am 2), .int 0, .int 0, .ref (am 3), .ref (am 4), .ref (am 5), .ref (am 6), .int 0, .ref (am 7), .ref (am 8), .ref (am 9), .int 0, .ref (am 10), .ref (am 11), .ref (am 12), .ref (am 13), .ref (am 14), .ref (am 15), .ref (am 16), .ref (am 17), .ref (am 18), .ref (am 19), .ref (am 20), .ref (am 21), .ref (am 22)])), ((am 1), .inl (zI g, 180, .inl (upd (upd (upd (fun _ => 0) 0 60) 1 1) 2 1)))] H := hP
    have hD : va_D (fun q : Nat => s.heap.size ≤ q) [((am 0), .inr (5, [.ref (am 1), .int 0, .ref (am 2), .int 0, .int 0, .ref (am 3), .ref (am 4), .ref (am 5), .ref (am 6), .int 0, .ref (am 7), .ref (am 8), .ref (am 9), .int 0, .ref (am 10), .ref (am 11), .ref (am 12), .ref (am 13), .ref (am 14), .ref (am 15), .ref (am 16), .ref (am 17), .ref (am 18), .ref (am 19), .ref (am 20), .ref (am 21), .ref (am 22)])), ((am 1), .inl (zI g, 180, .inl (upd (upd (upd (fun _ => 0) 0 60) 1 1) 2 1)))] := hD
    refine lv_aload_n hx hb dL_law_316 rfl (lv_at hl 2 rfl) ?_
    refine lv_aload_n hx hb dL_law_317 rfl (lv_at hl 0 rfl) ?_
    refine lv_iload_n hx hb dL_law_318 rfl (lv_at hl 3 rfl) ?_
    refine lv_iconst (v := 1) hx hb dL_law_319 (by decide) ?_
    refine lv_iadd hx hb dL_law_320 ?_
    refine lv_topi (nm_r (e' := 1) (by decide +kernel) ?_)
    refine va_sld hx hb hX hbl hbA hS (vp_in_iff.mpr (by decide +kernel)) dL_law_321 ?_
    refine lv_topi (nm_r (e' := (xs 1)) (by rfl) ?_)
    refine lv_aload_n hx hb dL_law_322 rfl (lv_at hl 0 rfl) ?_
    refine lv_iload_n hx hb dL_law_323 rfl (lv_at hl 3 rfl) ?_
    refine lv_iconst (v := 2) hx hb dL_law_324 (by decide) ?_
    refine lv_iadd hx hb dL_law_325 ?_
    refine lv_topi (nm_r (e' := 2) (by decide +kernel) ?_)
    refine va_sld hx hb hX hbl hbA hS (vp_in_iff.mpr (by decide +kernel)) dL_law_326 ?_
    refine lv_topi (nm_r (e' := (xs 2)) (by rfl) ?_)
    refine z_calli (wr := []) hP hD hS hA [0, 1] [] (by decide) rfl rfl (by decide) (va_runV (As := [.int (xs 1), .int (xs 2)]) (rest := [.int (-100001)]) ⟨hx, hb, hml, hown, hts⟩ (kX5_told l g (am 0) (am 1) (am 2) (am 3) (am 4) (am 5) (am 6) (am 7) (am 8) (am 9) (am 10) (am 11) (am 12) (am 13) (am 14) (am 15) (am 16) (am 17) (am 18) (am 19) (am 20) (am 21) (am 22) H.size (xs 1) (xs 2)) ⟨callB_of 2 hts (zGood m_o_yX5_told) rfl rfl rfl (hts _ m_z_RX5) (hts _ m_m_RL_34) ⟨by decide +kernel, by decide +kernel, by decide +kernel⟩ ⟨Nat.le_of_ble_eq_true rfl, Nat.le_of_ble_eq_true rfl⟩, hts _ m_i_yX5_told, hts _ m_e_yX5_told⟩ (zPreV hK hN hZ hP hD hS hA [0, 1] (by decide) rfl rfl 5 0 rfl rfl) rfl rfl hl.1 rfl (lv_room (Nat.le_of_ble_eq_true rfl)) dL_law_327 ⟨Nat.le_of_ble_eq_true rfl, Nat.le_of_ble_eq_true rfl⟩) (fun r u H locs hw hP hD hS => ?_)
    rcases hw with ⟨i_7, rfl⟩ | ⟨i_8, rfl⟩
    · exfalso; omega
    · skip
      have hP : va_P g.1 vwCl [] H := hP
      have hD : va_D (fun q : Nat => s.heap.size ≤ q) [] := hD
      refine lv_icmp_eq (tgt := 1054) hx hb dL_law_330 (by decide) (fun _ => ?_) (fun h => absurd h (by decide +kernel))
      exact lc_tail ⟨hx, hb, hml, hr, hlocks, hown, hts, hK, hN, hZ, hX, hbl⟩ hS (lv_sub hl [0, 1, 2, 3] rfl)
  · skip
    have hP : va_P g.1 vwCl [((am 0), .inr (5, [.ref (am 1), .int 0, .ref (am 2), .int 0, .int 0, .ref (am 3), .ref (am 4), .ref (am 5), .ref (am 6), .int 0, .ref (am 7), .ref (am 8), .ref (am 9), .int 0, .ref (am 10), .ref (am 11), .ref (am 12), .ref (am 13), .ref (am 14), .ref (am 15), .ref (am 16), .ref (am 17), .ref (am 18), .ref (am 19), .ref (am 20), .ref (am 21), .ref (am 22)])), ((am 1), .inl (zI g, 180, .inl (upd (upd (upd (fun _ => 0) 0 60) 1 1) 2 1)))] H := hP
    have hD : va_D (fun q : Nat => s.heap.size ≤ q) [((am 0), .inr (5, [.ref (am 1), .int 0, .ref (am 2), .int 0, .int 0, .ref (am 3), .ref (am 4), .ref (am 5), .ref (am 6), .int 0, .ref (am 7), .ref (am 8), .ref (am 9), .int 0, .ref (am 10), .ref (am 11), .ref (am 12), .ref (am 13), .ref (am 14), .ref (am 15), .ref (am 16), .ref (am 17), .ref (am 18), .ref (am 19), .ref (am 20), .ref (am 21), .ref (am 22)])), ((am 1), .inl (zI g, 180, .inl (upd (upd (upd (fun _ => 0) 0 60) 1 1) 2 1)))] := hD
    refine lv_aload_n hx hb dL_law_316 rfl (lv_at hl 2 rfl) ?_
    refine lv_aload_n hx hb dL_law_317 rfl (lv_at hl 0 rfl) ?_
    refine lv_iload_n hx hb dL_law_318 rfl (lv_at hl 3 rfl) ?_
    refine lv_iconst (v := 1) hx hb dL_law_319 (by decide) ?_
    refine lv_iadd hx hb dL_law_320 ?_
    refine lv_topi (nm_r (e' := 1) (by decide +kernel) ?_)
    refine va_sld hx hb hX hbl hbA hS (vp_in_iff.mpr (by decide +kernel)) dL_law_321 ?_
    refine lv_topi (nm_r (e' := (xs 1)) (by rfl) ?_)
    refine lv_aload_n hx hb dL_law_322 rfl (lv_at hl 0 rfl) ?_
    refine lv_iload_n hx hb dL_law_323 rfl (lv_at hl 3 rfl) ?_
    refine lv_iconst (v := 2) hx hb dL_law_324 (by decide) ?_
    refine lv_iadd hx hb dL_law_325 ?_
    refine lv_topi (nm_r (e' := 2) (by decide +kernel) ?_)
    refine va_sld hx hb hX hbl hbA hS (vp_in_iff.mpr (by decide +kernel)) dL_law_326 ?_
    refine lv_topi (nm_r (e' := (xs 2)) (by rfl) ?_)
    refine z_calli (wr := []) hP hD hS hA [0, 1] [] (by decide) rfl rfl (by decide) (va_runV (As := [.int (xs 1), .int (xs 2)]) (rest := [.int (-100001)]) ⟨hx, hb, hml, hown, hts⟩ (kX5_told l g (am 0) (am 1) (am 2) (am 3) (am 4) (am 5) (am 6) (am 7) (am 8) (am 9) (am 10) (am 11) (am 12) (am 13) (am 14) (am 15) (am 16) (am 17) (am 18) (am 19) (am 20) (am 21) (am 22) H.size (xs 1) (xs 2)) ⟨callB_of 2 hts (zGood m_o_yX5_told) rfl rfl rfl (hts _ m_z_RX5) (hts _ m_m_RL_34) ⟨by decide +kernel, by decide +kernel, by decide +kernel⟩ ⟨Nat.le_of_ble_eq_true rfl, Nat.le_of_ble_eq_true rfl⟩, hts _ m_i_yX5_told, hts _ m_e_yX5_told⟩ (zPreV hK hN hZ hP hD hS hA [0, 1] (by decide) rfl rfl 5 0 rfl rfl) rfl rfl hl.1 rfl (lv_room (Nat.le_of_ble_eq_true rfl)) dL_law_327 ⟨Nat.le_of_ble_eq_true rfl, Nat.le_of_ble_eq_true rfl⟩) (fun r u H locs hw hP hD hS => ?_)
    rcases hw with ⟨i_9, rfl⟩ | ⟨i_10, rfl⟩
    · exfalso; omega
    · skip
      have hP : va_P g.1 vwCl [] H := hP
      have hD : va_D (fun q : Nat => s.heap.size ≤ q) [] := hD
      refine lv_icmp_eq (tgt := 1054) hx hb dL_law_330 (by decide) (fun _ => ?_) (fun h => absurd h (by decide +kernel))
      exact lc_tail ⟨hx, hb, hml, hr, hlocks, hown, hts, hK, hN, hZ, hX, hbl⟩ hS (lv_sub hl [0, 1, 2, 3] rfl)
set_option maxHeartbeats 4000000 in
set_option maxRecDepth 100000 in
theorem lc_earn {p : Program} {l : Launch} {e : Env} {s : State} {m : MethodId} {below : List Frame} {meth : Method} {c : Code} {b : Nat} {xs : Nat → Int32} {g : zG} (C0 : lC g p s m meth c b xs) {ax am : Nat → Nat} {H : Heap} {locs : List Loc} (hP : va_P g.1 vwCl (lW g ax am) H) (hD : va_D (fun q : Nat => s.heap.size ≤ q) (lW g ax am)) (hS : va_S (fun q : Nat => s.heap.size ≤ q) s.heap H locs) {ls : Array Slot} (hl : lv_has ls 4 [(0, .ref b), (1, .ref (ax 0)), (2, .ref (am 0)), (3, .int 0)]) : W p l e room_1 s m #[Value.ref b] below meth c H locs 600000 7302250 (lw_Z below #[Value.ref b] s) (F0 m 335 ls []) := by
  obtain ⟨hx, hb, hml, hr, hlocks, hown, hts, hK, hN, hZ, hX, hbl⟩ := C0
  have hA : ∀ q : Nat, s.heap.size ≤ q → (fun q : Nat => s.heap.size ≤ q) q := fun _ h => h
  have hbA : ¬ (fun q : Nat => s.heap.size ≤ q) b := Nat.not_le.mpr hbl
  have hP := hP.sub (ws' := [((ax 0), .inr (4, [.ref (ax 1), .ref (ax 10), .int 0, .ref (ax 19), .ref (ax 30), .ref (ax 32), .ref (ax 36), .int (-1), .ref (ax 37), .ref (ax 38), .ref (ax 39), .ref (ax 40)])), ((ax 1), .inr (0, [.ref (ax 2), .int 0, .ref (ax 3), .int 0, .ref (ax 4), .ref (ax 5), .ref (ax 6), .ref (ax 7), .ref (ax 8), .ref (ax 9), .int 0])), ((am 0), .inr (5, [.ref (am 1), .int 0, .ref (am 2), .int 0, .int 0, .ref (am 3), .ref (am 4), .ref (am 5), .ref (am 6), .int 0, .ref (am 7), .ref (am 8), .ref (am 9), .int 0, .ref (am 10), .ref (am 11), .ref (am 12), .ref (am 13), .ref (am 14), .ref (am 15), .ref (am 16), .ref (am 17), .ref (am 18), .ref (am 19), .ref (am 20), .ref (am 21), .ref (am 22)])), ((am 1), .inl (zI g, 180, .inl (upd (upd (upd (fun _ => 0) 0 60) 1 1) 2 1)))]) [0, 1, 41, 42] rfl
  have hD := hD.sub (ws' := [((ax 0), .inr (4, [.ref (ax 1), .ref (ax 10), .int 0, .ref (ax 19), .ref (ax 30), .ref (ax 32), .ref (ax 36), .int (-1), .ref (ax 37), .ref (ax 38), .ref (ax 39), .ref (ax 40)])), ((ax 1), .inr (0, [.ref (ax 2), .int 0, .ref (ax 3), .int 0, .ref (ax 4), .ref (ax 5), .ref (ax 6), .ref (ax 7), .ref (ax 8), .ref (ax 9), .int 0])), ((am 0), .inr (5, [.ref (am 1), .int 0, .ref (am 2), .int 0, .int 0, .ref (am 3), .ref (am 4), .ref (am 5), .ref (am 6), .int 0, .ref (am 7), .ref (am 8), .ref (am 9), .int 0, .ref (am 10), .ref (am 11), .ref (am 12), .ref (am 13), .ref (am 14), .ref (am 15), .ref (am 16), .ref (am 17), .ref (am 18), .ref (am 19), .ref (am 20), .ref (am 21), .ref (am 22)])), ((am 1), .inl (zI g, 180, .inl (upd (upd (upd (fun _ => 0) 0 60) 1 1) 2 1)))]) [0, 1, 41, 42] (by decide) rfl
  refine lv_aload_n hx hb dL_law_335 rfl (lv_at hl 1 rfl) ?_
  refine lv_aload_n hx hb dL_law_336 rfl (lv_at hl 0 rfl) ?_
  refine lv_iload_n hx hb dL_law_337 rfl (lv_at hl 3 rfl) ?_
  refine lv_iconst (v := 1) hx hb dL_law_338 (by decide) ?_
  refine lv_iadd hx hb dL_law_339 ?_
  refine lv_topi (nm_r (e' := 1) (by decide +kernel) ?_)
  refine va_sld hx hb hX hbl hbA hS (vp_in_iff.mpr (by decide +kernel)) dL_law_340 ?_
  refine lv_topi (nm_r (e' := (xs 1)) (by rfl) ?_)
  refine lv_aload_n hx hb dL_law_341 rfl (lv_at hl 0 rfl) ?_
  refine lv_iload_n hx hb dL_law_342 rfl (lv_at hl 3 rfl) ?_
  refine lv_iconst (v := 2) hx hb dL_law_343 (by decide) ?_
  refine lv_iadd hx hb dL_law_344 ?_
  refine lv_topi (nm_r (e' := 2) (by decide +kernel) ?_)
  refine va_sld hx hb hX hbl hbA hS (vp_in_iff.mpr (by decide +kernel)) dL_law_345 ?_
  refine lv_topi (nm_r (e' := (xs 2)) (by rfl) ?_)
  refine z_calli (wr := [((am 0), .inr (5, [.ref (am 1), .int 0, .ref (am 2), .int 0, .int 0, .ref (am 3), .ref (am 4), .ref (am 5), .ref (am 6), .int 0, .ref (am 7), .ref (am 8), .ref (am 9), .int 0, .ref (am 10), .ref (am 11), .ref (am 12), .ref (am 13), .ref (am 14), .ref (am 15), .ref (am 16), .ref (am 17), .ref (am 18), .ref (am 19), .ref (am 20), .ref (am 21), .ref (am 22)])), ((am 1), .inl (zI g, 180, .inl (upd (upd (upd (fun _ => 0) 0 60) 1 1) 2 1)))]) hP hD hS hA [0, 1] [2, 3] (by decide) rfl rfl (by decide) (va_runV (As := [.int (xs 1), .int (xs 2)]) (rest := []) ⟨hx, hb, hml, hown, hts⟩ (kX4_earn l g (ax 0) (ax 1) (ax 10) (ax 19) (ax 30) (ax 32) (ax 36) (ax 37) (ax 38) (ax 39) (ax 40) (ax 2) (ax 3) (ax 4) (ax 5) (ax 6) (ax 7) (ax 8) (ax 9) H.size (xs 1) (xs 2)) ⟨callB_of 2 hts (zGood m_o_yX4_earn) rfl rfl rfl (hts _ m_z_RX4) (hts _ m_m_RL_35) ⟨by decide +kernel, by decide +kernel, by decide +kernel⟩ ⟨Nat.le_of_ble_eq_true rfl, Nat.le_of_ble_eq_true rfl⟩, hts _ m_i_yX4_earn, hts _ m_e_yX4_earn⟩ (zPreV hK hN hZ hP hD hS hA [0, 1] (by decide) rfl rfl 4 0 rfl rfl) rfl rfl hl.1 rfl (lv_room (Nat.le_of_ble_eq_true rfl)) dL_law_346 ⟨Nat.le_of_ble_eq_true rfl, Nat.le_of_ble_eq_true rfl⟩) (fun r u H locs hw hP hD hS => ?_)
  rcases hw with ⟨i_0, rfl⟩ | ⟨i_1, i_2, rfl⟩ | ⟨i_3, i_4, rfl⟩
  · skip
    have hP : va_P g.1 vwCl [((am 0), .inr (5, [.ref (am 1), .int 0, .ref (am 2), .int 0, .int 0, .ref (am 3), .ref (am 4), .ref (am 5), .ref (am 6), .int 0, .ref (am 7), .ref (am 8), .ref (am 9), .int 0, .ref (am 10), .ref (am 11), .ref (am 12), .ref (am 13), .ref (am 14), .ref (am 15), .ref (am 16), .ref (am 17), .ref (am 18), .ref (am 19), .ref (am 20), .ref (am 21), .ref (am 22)])), ((am 1), .inl (zI g, 180, .inl (upd (upd (upd (fun _ => 0) 0 60) 1 1) 2 1)))] H := hP
    have hD : va_D (fun q : Nat => s.heap.size ≤ q) [((am 0), .inr (5, [.ref (am 1), .int 0, .ref (am 2), .int 0, .int 0, .ref (am 3), .ref (am 4), .ref (am 5), .ref (am 6), .int 0, .ref (am 7), .ref (am 8), .ref (am 9), .int 0, .ref (am 10), .ref (am 11), .ref (am 12), .ref (am 13), .ref (am 14), .ref (am 15), .ref (am 16), .ref (am 17), .ref (am 18), .ref (am 19), .ref (am 20), .ref (am 21), .ref (am 22)])), ((am 1), .inl (zI g, 180, .inl (upd (upd (upd (fun _ => 0) 0 60) 1 1) 2 1)))] := hD
    refine lv_aload_n hx hb dL_law_349 rfl (lv_at hl 2 rfl) ?_
    refine lv_aload_n hx hb dL_law_350 rfl (lv_at hl 0 rfl) ?_
    refine lv_iload_n hx hb dL_law_351 rfl (lv_at hl 3 rfl) ?_
    refine lv_iconst (v := 1) hx hb dL_law_352 (by decide) ?_
    refine lv_iadd hx hb dL_law_353 ?_
    refine lv_topi (nm_r (e' := 1) (by decide +kernel) ?_)
    refine va_sld hx hb hX hbl hbA hS (vp_in_iff.mpr (by decide +kernel)) dL_law_354 ?_
    refine lv_topi (nm_r (e' := (xs 1)) (by rfl) ?_)
    refine lv_aload_n hx hb dL_law_355 rfl (lv_at hl 0 rfl) ?_
    refine lv_iload_n hx hb dL_law_356 rfl (lv_at hl 3 rfl) ?_
    refine lv_iconst (v := 2) hx hb dL_law_357 (by decide) ?_
    refine lv_iadd hx hb dL_law_358 ?_
    refine lv_topi (nm_r (e' := 2) (by decide +kernel) ?_)
    refine va_sld hx hb hX hbl hbA hS (vp_in_iff.mpr (by decide +kernel)) dL_law_359 ?_
    refine lv_topi (nm_r (e' := (xs 2)) (by rfl) ?_)
    refine z_calli (wr := []) hP hD hS hA [0, 1] [] (by decide) rfl rfl (by decide) (va_runV (As := [.int (xs 1), .int (xs 2)]) (rest := [.int (-100001)]) ⟨hx, hb, hml, hown, hts⟩ (kX5_earn l g (am 0) (am 1) (am 2) (am 3) (am 4) (am 5) (am 6) (am 7) (am 8) (am 9) (am 10) (am 11) (am 12) (am 13) (am 14) (am 15) (am 16) (am 17) (am 18) (am 19) (am 20) (am 21) (am 22) H.size (xs 1) (xs 2)) ⟨callB_of 2 hts (zGood m_o_yX5_earn) rfl rfl rfl (hts _ m_z_RX5) (hts _ m_m_RL_38) ⟨by decide +kernel, by decide +kernel, by decide +kernel⟩ ⟨Nat.le_of_ble_eq_true rfl, Nat.le_of_ble_eq_true rfl⟩, hts _ m_i_yX5_earn, hts _ m_e_yX5_earn⟩ (zPreV hK hN hZ hP hD hS hA [0, 1] (by decide) rfl rfl 5 0 rfl rfl) rfl rfl hl.1 rfl (lv_room (Nat.le_of_ble_eq_true rfl)) dL_law_360 ⟨Nat.le_of_ble_eq_true rfl, Nat.le_of_ble_eq_true rfl⟩) (fun r u H locs hw hP hD hS => ?_)
    rcases hw with ⟨i_5, rfl⟩ | ⟨i_6, rfl⟩
    · skip
      have hP : va_P g.1 vwCl [] H := hP
      have hD : va_D (fun q : Nat => s.heap.size ≤ q) [] := hD
      refine lv_icmp_eq (tgt := 1054) hx hb dL_law_363 (by decide) (fun _ => ?_) (fun h => absurd h (by decide +kernel))
      exact lc_tail ⟨hx, hb, hml, hr, hlocks, hown, hts, hK, hN, hZ, hX, hbl⟩ hS (lv_sub hl [0, 1, 2, 3] rfl)
    · exfalso; omega
  · skip
    have hP : va_P g.1 vwCl [((am 0), .inr (5, [.ref (am 1), .int 0, .ref (am 2), .int 0, .int 0, .ref (am 3), .ref (am 4), .ref (am 5), .ref (am 6), .int 0, .ref (am 7), .ref (am 8), .ref (am 9), .int 0, .ref (am 10), .ref (am 11), .ref (am 12), .ref (am 13), .ref (am 14), .ref (am 15), .ref (am 16), .ref (am 17), .ref (am 18), .ref (am 19), .ref (am 20), .ref (am 21), .ref (am 22)])), ((am 1), .inl (zI g, 180, .inl (upd (upd (upd (fun _ => 0) 0 60) 1 1) 2 1)))] H := hP
    have hD : va_D (fun q : Nat => s.heap.size ≤ q) [((am 0), .inr (5, [.ref (am 1), .int 0, .ref (am 2), .int 0, .int 0, .ref (am 3), .ref (am 4), .ref (am 5), .ref (am 6), .int 0, .ref (am 7), .ref (am 8), .ref (am 9), .int 0, .ref (am 10), .ref (am 11), .ref (am 12), .ref (am 13), .ref (am 14), .ref (am 15), .ref (am 16), .ref (am 17), .ref (am 18), .ref (am 19), .ref (am 20), .ref (am 21), .ref (am 22)])), ((am 1), .inl (zI g, 180, .inl (upd (upd (upd (fun _ => 0) 0 60) 1 1) 2 1)))] := hD
    refine lv_aload_n hx hb dL_law_349 rfl (lv_at hl 2 rfl) ?_
    refine lv_aload_n hx hb dL_law_350 rfl (lv_at hl 0 rfl) ?_
    refine lv_iload_n hx hb dL_law_351 rfl (lv_at hl 3 rfl) ?_
    refine lv_iconst (v := 1) hx hb dL_law_352 (by decide) ?_
    refine lv_iadd hx hb dL_law_353 ?_
    refine lv_topi (nm_r (e' := 1) (by decide +kernel) ?_)
    refine va_sld hx hb hX hbl hbA hS (vp_in_iff.mpr (by decide +kernel)) dL_law_354 ?_
    refine lv_topi (nm_r (e' := (xs 1)) (by rfl) ?_)
    refine lv_aload_n hx hb dL_law_355 rfl (lv_at hl 0 rfl) ?_
    refine lv_iload_n hx hb dL_law_356 rfl (lv_at hl 3 rfl) ?_
    refine lv_iconst (v := 2) hx hb dL_law_357 (by decide) ?_
    refine lv_iadd hx hb dL_law_358 ?_
    refine lv_topi (nm_r (e' := 2) (by decide +kernel) ?_)
    refine va_sld hx hb hX hbl hbA hS (vp_in_iff.mpr (by decide +kernel)) dL_law_359 ?_
    refine lv_topi (nm_r (e' := (xs 2)) (by rfl) ?_)
    refine z_calli (wr := []) hP hD hS hA [0, 1] [] (by decide) rfl rfl (by decide) (va_runV (As := [.int (xs 1), .int (xs 2)]) (rest := [.int (-100001)]) ⟨hx, hb, hml, hown, hts⟩ (kX5_earn l g (am 0) (am 1) (am 2) (am 3) (am 4) (am 5) (am 6) (am 7) (am 8) (am 9) (am 10) (am 11) (am 12) (am 13) (am 14) (am 15) (am 16) (am 17) (am 18) (am 19) (am 20) (am 21) (am 22) H.size (xs 1) (xs 2)) ⟨callB_of 2 hts (zGood m_o_yX5_earn) rfl rfl rfl (hts _ m_z_RX5) (hts _ m_m_RL_38) ⟨by decide +kernel, by decide +kernel, by decide +kernel⟩ ⟨Nat.le_of_ble_eq_true rfl, Nat.le_of_ble_eq_true rfl⟩, hts _ m_i_yX5_earn, hts _ m_e_yX5_earn⟩ (zPreV hK hN hZ hP hD hS hA [0, 1] (by decide) rfl rfl 5 0 rfl rfl) rfl rfl hl.1 rfl (lv_room (Nat.le_of_ble_eq_true rfl)) dL_law_360 ⟨Nat.le_of_ble_eq_true rfl, Nat.le_of_ble_eq_true rfl⟩) (fun r u H locs hw hP hD hS => ?_)
    rcases hw with ⟨i_7, rfl⟩ | ⟨i_8, rfl⟩
    · exfalso; omega
    · skip
      have hP : va_P g.1 vwCl [] H := hP
      have hD : va_D (fun q : Nat => s.heap.size ≤ q) [] := hD
      refine lv_icmp_eq (tgt := 1054) hx hb dL_law_363 (by decide) (fun _ => ?_) (fun h => absurd h (by decide +kernel))
      exact lc_tail ⟨hx, hb, hml, hr, hlocks, hown, hts, hK, hN, hZ, hX, hbl⟩ hS (lv_sub hl [0, 1, 2, 3] rfl)
  · skip
    have hP : va_P g.1 vwCl [((am 0), .inr (5, [.ref (am 1), .int 0, .ref (am 2), .int 0, .int 0, .ref (am 3), .ref (am 4), .ref (am 5), .ref (am 6), .int 0, .ref (am 7), .ref (am 8), .ref (am 9), .int 0, .ref (am 10), .ref (am 11), .ref (am 12), .ref (am 13), .ref (am 14), .ref (am 15), .ref (am 16), .ref (am 17), .ref (am 18), .ref (am 19), .ref (am 20), .ref (am 21), .ref (am 22)])), ((am 1), .inl (zI g, 180, .inl (upd (upd (upd (fun _ => 0) 0 60) 1 1) 2 1)))] H := hP
    have hD : va_D (fun q : Nat => s.heap.size ≤ q) [((am 0), .inr (5, [.ref (am 1), .int 0, .ref (am 2), .int 0, .int 0, .ref (am 3), .ref (am 4), .ref (am 5), .ref (am 6), .int 0, .ref (am 7), .ref (am 8), .ref (am 9), .int 0, .ref (am 10), .ref (am 11), .ref (am 12), .ref (am 13), .ref (am 14), .ref (am 15), .ref (am 16), .ref (am 17), .ref (am 18), .ref (am 19), .ref (am 20), .ref (am 21), .ref (am 22)])), ((am 1), .inl (zI g, 180, .inl (upd (upd (upd (fun _ => 0) 0 60) 1 1) 2 1)))] := hD
    refine lv_aload_n hx hb dL_law_349 rfl (lv_at hl 2 rfl) ?_
    refine lv_aload_n hx hb dL_law_350 rfl (lv_at hl 0 rfl) ?_
    refine lv_iload_n hx hb dL_law_351 rfl (lv_at hl 3 rfl) ?_
    refine lv_iconst (v := 1) hx hb dL_law_352 (by decide) ?_
    refine lv_iadd hx hb dL_law_353 ?_
    refine lv_topi (nm_r (e' := 1) (by decide +kernel) ?_)
    refine va_sld hx hb hX hbl hbA hS (vp_in_iff.mpr (by decide +kernel)) dL_law_354 ?_
    refine lv_topi (nm_r (e' := (xs 1)) (by rfl) ?_)
    refine lv_aload_n hx hb dL_law_355 rfl (lv_at hl 0 rfl) ?_
    refine lv_iload_n hx hb dL_law_356 rfl (lv_at hl 3 rfl) ?_
    refine lv_iconst (v := 2) hx hb dL_law_357 (by decide) ?_
    refine lv_iadd hx hb dL_law_358 ?_
    refine lv_topi (nm_r (e' := 2) (by decide +kernel) ?_)
    refine va_sld hx hb hX hbl hbA hS (vp_in_iff.mpr (by decide +kernel)) dL_law_359 ?_
    refine lv_topi (nm_r (e' := (xs 2)) (by rfl) ?_)
    refine z_calli (wr := []) hP hD hS hA [0, 1] [] (by decide) rfl rfl (by decide) (va_runV (As := [.int (xs 1), .int (xs 2)]) (rest := [.int (-100001)]) ⟨hx, hb, hml, hown, hts⟩ (kX5_earn l g (am 0) (am 1) (am 2) (am 3) (am 4) (am 5) (am 6) (am 7) (am 8) (am 9) (am 10) (am 11) (am 12) (am 13) (am 14) (am 15) (am 16) (am 17) (am 18) (am 19) (am 20) (am 21) (am 22) H.size (xs 1) (xs 2)) ⟨callB_of 2 hts (zGood m_o_yX5_earn) rfl rfl rfl (hts _ m_z_RX5) (hts _ m_m_RL_38) ⟨by decide +kernel, by decide +kernel, by decide +kernel⟩ ⟨Nat.le_of_ble_eq_true rfl, Nat.le_of_ble_eq_true rfl⟩, hts _ m_i_yX5_earn, hts _ m_e_yX5_earn⟩ (zPreV hK hN hZ hP hD hS hA [0, 1] (by decide) rfl rfl 5 0 rfl rfl) rfl rfl hl.1 rfl (lv_room (Nat.le_of_ble_eq_true rfl)) dL_law_360 ⟨Nat.le_of_ble_eq_true rfl, Nat.le_of_ble_eq_true rfl⟩) (fun r u H locs hw hP hD hS => ?_)
    rcases hw with ⟨i_9, rfl⟩ | ⟨i_10, rfl⟩
    · exfalso; omega
    · skip
      have hP : va_P g.1 vwCl [] H := hP
      have hD : va_D (fun q : Nat => s.heap.size ≤ q) [] := hD
      refine lv_icmp_eq (tgt := 1054) hx hb dL_law_363 (by decide) (fun _ => ?_) (fun h => absurd h (by decide +kernel))
      exact lc_tail ⟨hx, hb, hml, hr, hlocks, hown, hts, hK, hN, hZ, hX, hbl⟩ hS (lv_sub hl [0, 1, 2, 3] rfl)

/-! rows of the JDK: a row filled, a static row cloned -/
theorem m_cl_same : Cond.sameMethod "[I" "java/lang/Object" "clone" "()Ljava/lang/Object;" ∈ zBig := zBig_t 28 (by decide +kernel) rfl
theorem m_cl_nat : Cond.native ⟨"java/lang/Object", "clone", "()Ljava/lang/Object;"⟩ ∈ zBig := zBig_t 29 (by decide +kernel) rfl
theorem m_cl_inst : Cond.instanceMethod ⟨"java/lang/Object", "clone", "()Ljava/lang/Object;"⟩ ∈ zBig := zBig_t 30 (by decide +kernel) rfl
theorem m_cl_sel : Cond.selects "[I" ⟨"[I", "clone", "()Ljava/lang/Object;"⟩ ⟨"java/lang/Object", "clone", "()Ljava/lang/Object;"⟩ ∈ zBig := zBig_t 31 (by decide +kernel) rfl
theorem z_b255 (x : Int64) : ((x &&& 255).toInt32).toInt = (x &&& 255).toInt := by
  have h : (x &&& 255).toInt = ((x.toBitVec.toNat &&& 255 : Nat) : Int) := by
    have e : (x &&& 255).toInt = (x.toBitVec &&& 255#64).toInt := rfl
    rw [e, BitVec.toInt_eq_toNat_of_lt]
    · rw [BitVec.toNat_and]; rfl
    · rw [BitVec.toNat_and]
      have : x.toBitVec.toNat &&& (255#64).toNat ≤ 255 := Nat.and_le_right
      omega
  have hb : x.toBitVec.toNat &&& 255 ≤ 255 := Nat.and_le_right
  rw [Int64.toInt_toInt32, h]
  exact Int.bmod_eq_of_le (by omega) (by omega)
section ZJ
variable {p : Program} {l : Launch} {e : Env} {R : Room} {s : State} {m : MethodId} {args : Array Value} {below : List Frame} {meth : Method} {c : Code} {H : Heap} {locs : List Loc} {cells slots : Nat} {Q : State → Prop}
variable {cc : ByteArray} {pc : Nat} {ls : Array Slot} {rest : List Value} {g : zG} {A : Nat → Prop} {ws : va_W}
theorem z_clone (hexec : p.tables.exec = Jvm.exec) (hb : c.code = cc) (hml : c.maxLocals = ls.size) {own : String} {index : Nat} (hown : s.vm.findClass own = some m.cls)
    (hlink : (Cond.methodLink own index ⟨"[I", "clone", "()Ljava/lang/Object;"⟩).before args s = true) (hsame : (Cond.sameMethod "[I" "java/lang/Object" "clone" "()Ljava/lang/Object;").before args s = true)
    (hnat : (Cond.native ⟨"java/lang/Object", "clone", "()Ljava/lang/Object;"⟩).before args s = true) (hinst : (Cond.instanceMethod ⟨"java/lang/Object", "clone", "()Ljava/lang/Object;"⟩).before args s = true)
    (hsel : (Cond.selects "[I" ⟨"[I", "clone", "()Ljava/lang/Object;"⟩ ⟨"java/lang/Object", "clone", "()Ljava/lang/Object;"⟩).before args s = true) (hN : zN s)
    (hK : va_K g.1 vwCl (zTys g) s) {n : String} {t : Nat} {f : Nat → Int32} (hZ : zSt g n t f A s s.heap) (hP : va_P g.1 vwCl ws H) (hD : va_D A ws) (hS : va_S A s.heap H locs) (hA : ∀ q, s.heap.size ≤ q → A q)
    (hframes : 1 ≤ R.frames) (hlocals : (rest.map fun v => v.category).sum + 14 ≤ R.locals) (hcells : cells + 1 ≤ R.cells) (hslots : slots + 5 ≤ R.slots) (hdg : decode cc pc = .ok (.invokevirtual index, 3))
    (kk : ∀ (q : Nat) (H1 : Heap), va_P g.1 vwCl (ws ++ [(q, .inl (zI g, 5, .inl f))]) H1 → va_D A (ws ++ [(q, .inl (zI g, 5, .inl f))]) → va_S A s.heap H1 locs →
      W p l e R s m args below meth c H1 locs (cells + 1) (slots + 5) Q (F0 m (pc + 3) ls (.ref q :: rest))) : W p l e R s m args below meth c H locs cells slots Q (F0 m pc ls (.ref t :: rest)) := by
  obtain ⟨-, -, cell, z1, z2, z3, z4, z5, z6⟩ := hZ
  have hnm : s.vm.findClass "[I" = some (zI g) := va_nm_int (hK.2 0 _ rfl).2
  obtain ⟨c0, t0', f1, f2, f3⟩ := Cond.castable_spec (va_Nw.use (A := args) rfl hN.2.2)
  have ec : c0 = zI g := Option.some.inj (f1.symm.trans hnm)
  subst ec
  have hsz : cell.slots.size = 5 := by rw [z3]; exact arrV_size _ _ _
  intro T hT X
  have hcellT : T.heap[t]? = some cell := by rw [hT, hS.2.1 t (Array.getElem?_eq_some_iff.mp z1).1 z6]; exact z1
  obtain ⟨-, kA, hkA, comp, hkind⟩ := State.isArrayOf_alike X.warmed.alike ((hK.2 0 _ rfl).1 0 (fun _ => .null))
  obtain ⟨-, kS, hkS, compS, hkindS⟩ := (hK.2 0 _ rfl).1 0 (fun _ => .null)
  obtain ⟨vm', X', st⟩ := X.cloneArray hexec hown hlink hsame hnat hinst hsel (a := t) (cell := cell) hcellT z4 z5 (by rw [z2]; exact hnm) f2 (by rw [z2]; exact f3)
    (fun i v hv => by
      rw [z2]
      have hk' : T.vm.classes[g.2.1.1]? = some kA := hkA
      rw [z3] at hv
      have hf := va_fit (ty := .int) (fun i _ => rfl) i v hv
      simpa [State.fitsSlot, State.slotType?, hk', hkind] using hf)
    (g := F0 m pc ls (.ref t :: rest)) rfl (by rw [hml]) rfl (by rw [hb]; exact hdg) hframes (by show 2 * 0 + _ + 14 ≤ _; omega) hcells (by rw [hsz]; exact hslots) (hloader := by rw [z2]; exact Vm.clonesLoader_of_array hkS hkindS)
  have hce : ({ cls := cell.cls, slots := cell.slots } : Cell) = vp_cell (zI g) (5, .inl f) := by
    rw [z2, z3]
    rfl
  rw [hce, hsz] at X'
  generalize hH1 : H.push (vp_cell (zI g) (5, .inl f)) = H1
  have e1 : H1[H.size]? = some (vp_cell (zI g) (5, .inl f)) := by rw [← hH1, Array.getElem?_push_size]
  have o1 : ∀ q : Nat, q < H.size → H1[q]? = H[q]? := fun q hq => by rw [← hH1, Array.getElem?_push, if_neg (Nat.ne_of_lt hq)]
  have z1' : H1.size = H.size + 1 := by rw [← hH1, Array.size_push]
  have hk : ∀ (k : Nat) (y : Nat × va_E), ws[k]? = some y → H1[y.1]? = H[y.1]? := fun k y hy => o1 y.1 ((hP k y hy).lt)
  obtain ⟨t2, b1, b2⟩ := kk H.size H1 ((hP.kept hk).app (fun k y hy => by
      have hz : k < 1 := (List.getElem?_eq_some_iff.mp hy).1
      rw [show k = 0 by omega] at hy
      cases hy
      exact e1)) (hD.push hP rfl (hA _ hS.1)) ⟨Nat.le_trans hS.1 (by omega), fun y h1 h2 => (o1 y (Nat.lt_of_lt_of_le h1 hS.1)).trans (hS.2.1 y h1 h2), hS.2.2⟩
    ((T.setVm vm').pushCell (vp_cell (zI g) (5, .inl f))) (by rw [← hH1, ← hT]; rfl) X'
  refine ⟨t2, st t2 ?_, b2⟩
  rw [hce, hT]
  exact b1
end ZJ
set_option maxHeartbeats 4000000 in
set_option maxRecDepth 100000 in
/-- Arrays.fill(int[], int): every place holds the number -/
theorem kJ7_fill (l : Launch) (g : zG) (h0 sz : Nat) (p1 : Int32) (F0' : Nat → Int32) (n : Nat) (hn : n < 2147483648) : Met l yJ7_fill_53178 (.code yJ7_fill_53178 cJ7_fill_53178 4 none :: zBig) ({ frames := 0, cells := 0, slots := 0, locals := 0 }) (va_Pc [.ref h0, .int p1] (zPre g [(h0, .inl (zI g, n, .inl F0'))] sz)) (va_Qv (fun _ : Nat => True) (zPost g (fun _ : Nat => [(h0, .inl (zI g, n, .inl (fun _ => p1)))]) (va_A [(h0, .inl (zI g, n, .inl F0'))] sz)) (va_A [(h0, .inl (zI g, n, .inl F0'))] sz)) 0 0 (va_A [(h0, .inl (zI g, n, .inl F0'))] sz) := by
  refine zMetV rfl (Nat.le_of_ble_eq_true rfl) ?_
  intro p e s m args below meth c A ls hx hb hml hr hlocks hin hown hts hK hN hZ hP hD hA hS hAe hl
  have hl : lv_has ls 4 [(0, .ref h0), (1, .int p1)] := hl
  refine lv_iconst (v := 0) hx hb dJ7_fill_53178_0 (by decide) ?_
  refine lv_istore_n (lv' := [(2, .int 0), (0, .ref h0), (1, .int p1)]) hx hb dJ7_fill_53178_1 rfl hl (by decide) rfl (fun ls hl => ?_)
  refine lv_aload_n hx hb dJ7_fill_53178_2 rfl (lv_at hl 1 rfl) ?_
  refine va_alen (D := g.1) hx hb hK hP 0 0 rfl rfl (v := nI n) rfl dJ7_fill_53178_3 ?_
  refine lv_istore_n (lv' := [(3, .int (nI n)), (2, .int 0), (0, .ref h0), (1, .int p1)]) hx hb dJ7_fill_53178_4 rfl hl (by decide) rfl (fun ls hl => ?_)
  have loop : ∀ (k i : Nat), i ≤ n → n + 1 ≤ i + k → ∀ (F : Nat → Int32) (H : Heap) (locs : List Loc), (∀ j, j < i → F j = p1) → va_P g.1 vwCl [(h0, .inl (zI g, n, .inl F))] H → va_D A [(h0, .inl (zI g, n, .inl F))] → va_S A s.heap H locs → ∀ (ls : Array Slot), lv_has ls 4 [(2, .int (nI i)), (3, .int (nI n)), (0, .ref h0), (1, .int p1)] → W p l e ({ frames := 0, cells := 0, slots := 0, locals := 0 }) s m args below meth c H locs 0 0 (MQ below (va_Qv (fun _ : Nat => True) (zPost g (fun _ : Nat => [(h0, .inl (zI g, n, .inl (fun _ => p1)))]) A) A) args s 0 0 A) (F0 m 5 ls []) := by
    intro k
    induction k with
    | zero => intro i h1 h2; omega
    | succ k ih =>
      intro i h1 h2 F H locs hF hP hD hS ls hl
      refine lv_iload_n hx hb dJ7_fill_53178_5 rfl (lv_at hl 0 rfl) ?_
      refine lv_iload_n hx hb dJ7_fill_53178_6 rfl (lv_at hl 1 rfl) ?_
      refine lv_icmp_ge (tgt := 20) hx hb dJ7_fill_53178_7 (by decide) (fun c_0 => ?_) (fun c_0 => ?_)
      · have hi : i = n := by
          rcases Nat.lt_or_ge i n with q | q
          · exact absurd c_0 (nI_ge q hn)
          · omega
        subst hi
        have hP9 := z_cong hP 0 rfl (fun _ => p1) (fun j hj => hF j hj)
        exact W.vret hx hb hr (fun t ht hW => ⟨⟨0, rfl, trivial, by rw [ht]; exact hP9, (hD.set (p := 0) rfl)⟩, hS.F ht⟩) hS.2.2 dJ7_fill_53178_20
      · have hi : i < n := by
          rcases Nat.lt_or_ge i n with q | q
          · exact q
          · exact absurd (nI_le q (by omega)) c_0
        refine lv_aload_n hx hb dJ7_fill_53178_10 rfl (lv_at hl 2 rfl) ?_
        refine lv_iload_n hx hb dJ7_fill_53178_11 rfl (lv_at hl 0 rfl) ?_
        refine lv_iload_n hx hb dJ7_fill_53178_12 rfl (lv_at hl 3 rfl) ?_
        refine va_iast (D := g.1) hx hb hK hP hD hS 0 0 rfl rfl (vp_in_nI hi hn) dJ7_fill_53178_13 (fun H locs hP hD hS => ?_)
        rw [nI_clamp (show i < 2 ^ 31 by omega)] at hP hD
        have hP : va_P g.1 vwCl [(h0, .inl (zI g, n, .inl (upd F i p1)))] H := hP
        have hD : va_D A [(h0, .inl (zI g, n, .inl (upd F i p1)))] := hD
        refine lv_iinc (v := nI (i + 1)) (lv' := [(2, .int (nI (i + 1))), (3, .int (nI n)), (0, .ref h0), (1, .int p1)]) hx hb dJ7_fill_53178_14 hl (k := 0) rfl (nI_add _ _) (by decide) rfl (fun ls hl => ?_)
        refine lv_goto (tgt := 5) hx hb dJ7_fill_53178_17 (by decide) ?_
        refine ih (i + 1) (by omega) (by omega) (upd F i p1) _ _ (fun j hj => ?_) hP hD hS ls hl
        simp only [upd]
        by_cases h : j = i
        · rw [if_pos h]
        · rw [if_neg h]
          exact hF j (by omega)
  have hl : lv_has ls 4 [(2, .int (nI 0)), (3, .int (nI n)), (0, .ref h0), (1, .int p1)] := by rw [nI_0]; exact lv_sub hl [1, 0, 2, 3] rfl
  exact loop (n + 1) 0 (Nat.zero_le _) (by omega) F0' _ _ (fun j h => absurd h (Nat.not_lt_zero j)) hP hD hS ls hl

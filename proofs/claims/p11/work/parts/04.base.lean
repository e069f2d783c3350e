/-! what all contracts share: the classes' numbers and slots, the classes of rows, the tables' addresses; nest words; tables; how a contract begins, calls and ends -/
theorem zGood {w : Cond} (h : w ∈ zBig) : GoodIn zBig (w :: zBig) := fun v hv => by
  have h2 : v ∈ zBig := by
    rcases List.mem_cons.mp hv with e | h3
    · rw [e]; exact h
    · exact h3
  exact ⟨h2, good_of_word (List.mem_filter.mp h2).2⟩
theorem zGoodL {w : Cond} (h : w ∈ zBig) : GoodIn lw_tbl (w :: zBig) := fun v hv => ⟨(List.mem_filter.mp ((zGood h) v hv).1).1, ((zGood h) v hv).2⟩
theorem zBigL {args : Array Value} {s : State} (h : ∀ w ∈ lw_tbl, w.before args s = true) : ∀ w ∈ zBig, w.before args s = true := fun w hw => h w (List.mem_filter.mp hw).1
abbrev zG : Type := va_G × (ClassId × ClassId × ClassId) × (Nat × Nat × Nat)
abbrev zI (g : zG) : ClassId := g.2.1.1
abbrev zJ (g : zG) : ClassId := g.2.1.2.1
abbrev zB (g : zG) : ClassId := g.2.1.2.2
abbrev zTys (g : zG) : List (ClassId × FieldType) := [(g.2.1.1, .int), (g.2.1.2.1, .long), (g.2.1.2.2, .byte)]
def zN (U : State) : Prop := (∀ q ∈ zNF, va_Nw (.fieldLinkNest q.1 q.2.1 q.2.2.1 q.2.2.2.1 q.2.2.2.2 RX4) U) ∧ (∀ q ∈ zNM, va_Nw (.methodLinkNest q.1 q.2.1 q.2.2 RX4) U) ∧ va_Nw (.castable "[I" "java/lang/Cloneable") U
theorem zN.warm {s U : State} (hW : s.WarmedH U.vm) (h : zN s) : zN U := ⟨fun q hq => (h.1 q hq).warmF hW, fun q hq => (h.2.1 q hq).warmM hW, h.2.2.warmC hW⟩
theorem zN.call {U : State} {g : JFrame} {mk : MethodId} {a : Array Value} (h : zN U) : zN (U.calling g mk a) := ⟨fun q hq => (h.1 q hq).same rfl rfl, fun q hq => (h.2.1 q hq).same rfl rfl, h.2.2.same rfl rfl⟩
theorem zN.f {U : State} (h : zN U) (i : Nat) {q : String × Nat × String × String × String} (hi : zNF[i]? = some q) {args : Array Value} : (Cond.fieldLinkNest q.1 q.2.1 q.2.2.1 q.2.2.2.1 q.2.2.2.2 RX4).before args U = true := va_Nw.use rfl (h.1 q (List.mem_of_getElem? hi))
theorem zN.m {U : State} (h : zN U) (i : Nat) {q : String × Nat × MethodName} (hi : zNM[i]? = some q) : va_Nw (.methodLinkNest q.1 q.2.1 q.2.2 RX4) U := h.2.1 q (List.mem_of_getElem? hi)
def zA (l : List Int32) : Nat → Int32 := fun k => l.getD k 0
theorem zA_set {l : List Int32} {k : Nat} (h : k < l.length) (x : Int32) : upd (zA l) k x = zA (l.set k x) := by
  funext j
  simp only [upd, zA]
  by_cases hj : j = k
  · subst hj
    rw [if_pos rfl]
    simp [List.getD_eq_getElem?_getD, List.getElem?_set_self h]
  · rw [if_neg hj]
    simp [List.getD_eq_getElem?_getD, List.getElem?_set_ne (Ne.symm hj)]
/-- a static row of five ints that nobody writes -/
def zSt (g : zG) (n : String) (t : Nat) (f : Nat → Int32) (A : Nat → Prop) (U : State) (H : Heap) : Prop := va_Z "FishSteps" n "[I" (.ref t) A U H ∧ va_T .int t 5 (fun j => .int (f j)) A U H ∧ ∃ cell : Cell, H[t]? = some cell ∧ cell.cls = zI g ∧ cell.slots = (arrV (zI g) 5 (fun j => .int (f j))).slots ∧ (∀ k, cell.vm ≠ .statics k) ∧ cell.vm ≠ .unknown ∧ ¬ A t
theorem zSt.moved {g : zG} {n : String} {t : Nat} {f : Nat → Int32} {A : Nat → Prop} {u U : State} {H : Heap} (hvm : u.vm.Alike U.vm) (h : zSt g n t f A u H) : zSt g n t f A U H := ⟨h.1.moved hvm, h.2.1.moved hvm, h.2.2⟩
theorem zSt.kept {g : zG} {n : String} {t : Nat} {f : Nat → Int32} {A : Nat → Prop} {U : State} {H H1 : Heap} (h : zSt g n t f A U H) (hq : ∀ a : Nat, a < H.size → ¬ A a → H1[a]? = H[a]?) : zSt g n t f A U H1 := by
  obtain ⟨h1, h2, cell, c1, c2, c3, c4, c5, c6⟩ := h
  exact ⟨h1.kept hq, h2.kept hq, cell, by rw [hq t (Array.getElem?_eq_some_iff.mp c1).1 c6]; exact c1, c2, c3, c4, c5, c6⟩
theorem zSt.narrow {g : zG} {n : String} {t : Nat} {f : Nat → Int32} {A B : Nat → Prop} {U : State} {H : Heap} (h : zSt g n t f A U H) (hAB : ∀ q, B q → A q) : zSt g n t f B U H := by
  obtain ⟨h1, h2, cell, c1, c2, c3, c4, c5, c6⟩ := h
  exact ⟨h1.narrow hAB, h2.narrow hAB, cell, c1, c2, c3, c4, c5, fun z => c6 (hAB t z)⟩
abbrev zf1 : Nat → Int32 := zA [60, 1, 1, 0, 0]
abbrev zf2 : Nat → Int32 := zA [1, 1, 0, 0, 0]
abbrev zf3 : Nat → Int32 := zA [99, 9, 99, 1, 99]
def zS (g : zG) (A : Nat → Prop) (U : State) (H : Heap) : Prop := zSt g "RULE_FIRST" g.2.2.1 zf1 A U H ∧ zSt g "RULE_LEAST" g.2.2.2.1 zf2 A U H ∧ zSt g "RULE_MOST" g.2.2.2.2 zf3 A U H
theorem zS.moved {g : zG} {A : Nat → Prop} {u U : State} {H : Heap} (hvm : u.vm.Alike U.vm) (h : zS g A u H) : zS g A U H := ⟨h.1.moved hvm, h.2.1.moved hvm, h.2.2.moved hvm⟩
theorem zS.kept {g : zG} {A : Nat → Prop} {U : State} {H H1 : Heap} (h : zS g A U H) (hq : ∀ a : Nat, a < H.size → ¬ A a → H1[a]? = H[a]?) : zS g A U H1 := ⟨h.1.kept hq, h.2.1.kept hq, h.2.2.kept hq⟩
theorem zS.narrow {g : zG} {A B : Nat → Prop} {U : State} {H : Heap} (h : zS g A U H) (hAB : ∀ q, B q → A q) : zS g B U H := ⟨h.1.narrow hAB, h.2.1.narrow hAB, h.2.2.narrow hAB⟩
/-- a contract's start -/
def zPre (g : zG) (W : va_W) (sz : Nat) (U : State) : Prop := U.heap.size = sz ∧ va_P g.1 vwCl W U.heap ∧ va_K g.1 vwCl (zTys g) U ∧ va_D (fun _ => True) W ∧ zN U ∧ zS g (va_A W sz) U U.heap
/-- the world behind it -/
def zPost {S : Type} (g : zG) (W1 : S → va_W) (A : Nat → Prop) : S → State → Prop := fun u t => va_P g.1 vwCl (W1 u) t.heap ∧ va_D A (W1 u)
theorem zBlind {g : zG} {W : va_W} {sz : Nat} {av : List Value} : FrameBlind (va_Pc av (zPre g W sz)) := fun a U gg mk q => ⟨q.1, q.2.1, q.2.2.1, q.2.2.2.1.moved (u := U) (U := U.calling gg mk a) (Vm.Alike.refl U.vm), q.2.2.2.2.1, q.2.2.2.2.2.1.call, q.2.2.2.2.2.2.moved (u := U) (U := U.calling gg mk a) (Vm.Alike.refl U.vm)⟩
section ZB
variable {p : Program} {l : Launch} {e : Env} {R : Room} {s : State} {m : MethodId} {args : Array Value} {below : List Frame} {meth : Method} {c : Code} {H : Heap} {locs : List Loc} {cells slots : Nat} {Q : State → Prop}
variable {cc : ByteArray} {pc : Nat} {ls : Array Slot} {rest st0 : List Value} {g : zG} {A : Nat → Prop} {ws wc wr : va_W}
theorem zPreOf (hK : va_K g.1 vwCl (zTys g) s) (hN : zN s) (hZ : zS g A s s.heap) (hP : va_P g.1 vwCl ws H) (hD : va_D A ws) (hS : va_S A s.heap H locs) (hA : ∀ q, s.heap.size ≤ q → A q) (isC : List Nat) (hn : va_nd isC = true) (hC : isC.map (fun i => ws[i]?) = wc.map some) (hC2 : isC.filterMap (fun i => ws[i]?) = wc) {U : State} (hU : U.heap = H) (hW : s.WarmedH U.vm) : zPre g wc H.size U := by
  have hF := va_free hD hS hA isC hC
  refine ⟨by rw [hU], by rw [hU]; exact hP.sub isC hC2, hK.moved hW.alike, (hD.sub isC hn hC).weaken (fun _ _ _ _ => trivial), hN.warm hW, ?_⟩
  rw [hU]
  exact ((hZ.kept (fun a h1 h2 => hS.2.1 a h1 h2)).narrow hF).moved hW.alike
theorem zPreS {av : List Value} (hK : va_K g.1 vwCl (zTys g) s) (hN : zN s) (hZ : zS g A s s.heap) (hP : va_P g.1 vwCl ws H) (hD : va_D A ws) (hS : va_S A s.heap H locs) (hA : ∀ q, s.heap.size ≤ q → A q) (isC : List Nat) (hn : va_nd isC = true) (hC : isC.map (fun i => ws[i]?) = wc.map some) (hC2 : isC.filterMap (fun i => ws[i]?) = wc) : PreS s H (va_Pc av (zPre g wc H.size)) av := ⟨zBlind, fun _ hU hW => ⟨rfl, zPreOf hK hN hZ hP hD hS hA isC hn hC hC2 hU hW⟩⟩
theorem zPreV {b : Nat} {As : List Value} {q : vw_C} {fs : List Value} (hK : va_K g.1 vwCl (zTys g) s) (hN : zN s) (hZ : zS g A s s.heap) (hP : va_P g.1 vwCl ws H) (hD : va_D A ws) (hS : va_S A s.heap H locs) (hA : ∀ q, s.heap.size ≤ q → A q) (isC : List Nat) (hn : va_nd isC = true) (hC : isC.map (fun i => ws[i]?) = wc.map some) (hC2 : isC.filterMap (fun i => ws[i]?) = wc) (ci q0 : Nat) (hc : vwCl[ci]? = some q) (he : ws[q0]? = some (b, .inr (ci, fs))) : PreV s H q.1 b (va_Pc (.ref b :: As) (zPre g wc H.size)) As := ⟨zBlind, va_recv hK hP hc he, fun _ hU hW => ⟨rfl, zPreOf hK hN hZ hP hD hS hA isC hn hC hC2 hU hW⟩⟩
theorem z_calli {S : Type} {post : Int32 → S → Prop} {W1 : S → va_W} {a : Array Value} {mc ms : Nat} (hP : va_P g.1 vwCl ws H) (hD : va_D A ws) (hS : va_S A s.heap H locs) (hA : ∀ q, s.heap.size ≤ q → A q) (isC isR : List Nat) (hn : va_nd isR = true) (hC : isC.map (fun i => ws[i]?) = wc.map some) (hR : isR.map (fun i => ws[i]?) = wr.map some) (hdis : ∀ i ∈ isR, i ∉ isC)
    (hr : va_Run p l e R s m args below meth c H locs cells slots mc ms (F0 m pc ls st0) rest (va_Qi post (zPost g W1 (va_A wc H.size)) (va_A wc H.size) a) (va_A wc H.size))
    (kk : ∀ (r : Int32) (u : S) (H1 : Heap) (locs1 : List Loc), post r u → va_P g.1 vwCl (wr ++ W1 u) H1 → va_D A (wr ++ W1 u) → va_S A s.heap H1 locs1 → W p l e R s m args below meth c H1 locs1 (cells + mc) (slots + ms) Q (F0 m (pc + 3) ls (.int r :: rest))) : W p l e R s m args below meth c H locs cells slots Q (F0 m pc ls st0) := by
  have hF := va_free hD hS hA isC hC
  refine va_calli hr hS (fun q _ h => hF q h) hF (fun r u t H1 locs1 ht hvm hw hB hz1 hk1 hS1 => ?_)
  obtain ⟨hP1, hD1⟩ := hB
  rw [ht] at hP1
  obtain ⟨hP2, hD2⟩ := va_join hP hD isC isR hC hR hn hdis hk1 hF hP1 hD1
  exact kk r u H1 locs1 hw hP2 hD2 hS1
theorem z_calll {S : Type} {post : Int64 → S → Prop} {W1 : S → va_W} {a : Array Value} {mc ms : Nat} (hP : va_P g.1 vwCl ws H) (hD : va_D A ws) (hS : va_S A s.heap H locs) (hA : ∀ q, s.heap.size ≤ q → A q) (isC isR : List Nat) (hn : va_nd isR = true) (hC : isC.map (fun i => ws[i]?) = wc.map some) (hR : isR.map (fun i => ws[i]?) = wr.map some) (hdis : ∀ i ∈ isR, i ∉ isC)
    (hr : va_Run p l e R s m args below meth c H locs cells slots mc ms (F0 m pc ls st0) rest (va_Ql post (zPost g W1 (va_A wc H.size)) (va_A wc H.size) a) (va_A wc H.size))
    (kk : ∀ (r : Int64) (u : S) (H1 : Heap) (locs1 : List Loc), post r u → va_P g.1 vwCl (wr ++ W1 u) H1 → va_D A (wr ++ W1 u) → va_S A s.heap H1 locs1 → W p l e R s m args below meth c H1 locs1 (cells + mc) (slots + ms) Q (F0 m (pc + 3) ls (.long r :: rest))) : W p l e R s m args below meth c H locs cells slots Q (F0 m pc ls st0) := by
  have hF := va_free hD hS hA isC hC
  refine va_calll hr hS (fun q _ h => hF q h) hF (fun r u t H1 locs1 ht hvm hw hB hz1 hk1 hS1 => ?_)
  obtain ⟨hP1, hD1⟩ := hB
  rw [ht] at hP1
  obtain ⟨hP2, hD2⟩ := va_join hP hD isC isR hC hR hn hdis hk1 hF hP1 hD1
  exact kk r u H1 locs1 hw hP2 hD2 hS1
theorem z_callv {S : Type} {post : S → Prop} {W1 : S → va_W} {a : Array Value} {mc ms : Nat} (hP : va_P g.1 vwCl ws H) (hD : va_D A ws) (hS : va_S A s.heap H locs) (hA : ∀ q, s.heap.size ≤ q → A q) (isC isR : List Nat) (hn : va_nd isR = true) (hC : isC.map (fun i => ws[i]?) = wc.map some) (hR : isR.map (fun i => ws[i]?) = wr.map some) (hdis : ∀ i ∈ isR, i ∉ isC)
    (hr : va_Run p l e R s m args below meth c H locs cells slots mc ms (F0 m pc ls st0) rest (va_Qv post (zPost g W1 (va_A wc H.size)) (va_A wc H.size) a) (va_A wc H.size))
    (kk : ∀ (u : S) (H1 : Heap) (locs1 : List Loc), post u → va_P g.1 vwCl (wr ++ W1 u) H1 → va_D A (wr ++ W1 u) → va_S A s.heap H1 locs1 → W p l e R s m args below meth c H1 locs1 (cells + mc) (slots + ms) Q (F0 m (pc + 3) ls rest)) : W p l e R s m args below meth c H locs cells slots Q (F0 m pc ls st0) := by
  have hF := va_free hD hS hA isC hC
  refine va_callv hr hS (fun q _ h => hF q h) hF (fun u t H1 locs1 ht hvm hw hB hz1 hk1 hS1 => ?_)
  obtain ⟨hP1, hD1⟩ := hB
  rw [ht] at hP1
  obtain ⟨hP2, hD2⟩ := va_join hP hD isC isR hC hR hn hdis hk1 hF hP1 hD1
  exact kk u H1 locs1 hw hP2 hD2 hS1
/-- a new row; its class is the one of that name -/
theorem z_newa (hexec : p.tables.exec = Jvm.exec) (hb : c.code = cc) {atype : ArrayType} (harr : (Cond.arrayClass (newarray.typeOf atype)).before args s = true) {ty : FieldType} (hty : newarray.typeOf atype = ty) (hprim : refKind ty = false) (hK : va_K g.1 vwCl (zTys g) s) (t0 : Nat) {cA : ClassId} (ht : (zTys g)[t0]? = some (cA, ty)) (hP : va_P g.1 vwCl ws H) (hD : va_D A ws) (hS : va_S A s.heap H locs) (hA : ∀ q, s.heap.size ≤ q → A q)
    {n : Int32} {N' : Nat} {a0 : vp_A} (ha : ∀ cA : ClassId, vp_cell cA a0 = arrV cA N' (fun _ => defaultValue ty)) (hn : ¬ n < 0) (hN : n.toNatClampNeg = N') (hbytes : N' * componentBytes ty ≤ 536870912) (hcells : cells + 1 ≤ R.cells) (hslots : slots + N' ≤ R.slots) (hdg : decode cc pc = .ok (.newarray atype, 2))
    (kk : ∀ (q : Nat) (H1 : Heap), va_P g.1 vwCl (ws ++ [(q, .inl (cA, a0))]) H1 → va_D A (ws ++ [(q, .inl (cA, a0))]) → va_S A s.heap H1 locs →
      W p l e R s m args below meth c H1 locs (cells + 1) (slots + N') Q (F0 m (pc + 2) ls (.ref q :: rest))) : W p l e R s m args below meth c H locs cells slots Q (F0 m pc ls (.int n :: rest)) := by
  refine va_newa hexec hb harr hty hK hP hD hS hA ha hn hN hbytes hcells hslots hdg (fun q cB H1 hK1 hP1 hD1 hS1 => ?_)
  have h1 := (hK.2 t0 _ ht).2
  have h2 : va_RA s cB ty := (hK1.2 (zTys g).length (cB, ty) (by simp)).2
  have e1 : cB = cA := by
    cases ty <;> first | (simp [refKind] at hprim; done) | exact Option.some.inj (Eq.trans (Eq.symm h2) h1)
  rw [e1] at hP1 hD1
  exact kk q H1 hP1 hD1 hS1
end ZB
/-- how a contract begins -/
theorem zMet {l : Launch} {g : zG} {W0 : va_W} {sz : Nat} {av : List Value} {y : MethodName} {cc : ByteArray} {maxL : Nat} {ret : Option FieldType} {rm : Room} {Qc : Array Value → State → Outcome → State → Prop} {mc ms : Nat} (hy : plainName y.cls = true) (hlen : (lg_sl av).length ≤ maxL)
    (body : ∀ (p : Program) (e : Env) (s : State) (m : MethodId) (args : Array Value) (below : List Frame) (meth : Method) (c : Code) (A : Nat → Prop) (ls : Array Slot), p.tables.exec = Jvm.exec → c.code = cc → c.maxLocals = maxL → meth.sig.returnType = ret → meth.locks = false → meth.name = y.name → s.vm.findClass y.cls = some m.cls → (∀ w ∈ zBig, w.before args s = true) → va_K g.1 vwCl (zTys g) s → zN s → zS g A s s.heap → va_P g.1 vwCl W0 s.heap → va_D A W0 → (∀ q, s.heap.size ≤ q → A q) → va_S A s.heap s.heap [] → A = va_A W0 sz → lv_has ls maxL (lv_args 0 av) →
      W p l e rm s m args below meth c s.heap [] 0 0 (MQ below Qc args s mc ms A) (F0 m 0 ls [])) :
    Met l y (.code y cc maxL ret :: zBig) rm (va_Pc av (zPre g W0 sz)) Qc mc ms (va_A W0 sz) := by
  refine Met.ofW (cc := cc) (maxL := maxL) (ret := ret) hy rfl ?_
  intro p e s m args below meth c s₁ B hml hv
  obtain ⟨rfl, hsz, hP, hK, hD0, hN, hZ⟩ := hv
  have hts := atoms_spec (ws := .code y cc maxL ret :: zBig) B.pre
  have hl := lv_entry av (n := maxL) hlen
  rw [lg_entry_eq]
  generalize (lg_sl av ++ List.replicate (maxL - (lg_sl av).length) Slot.unset).toArray = ls at hl ⊢
  subst hsz
  exact body p e s m _ below meth c _ ls B.exec B.bytes hml B.returns B.notSynchronized (name_of_methodNamed B.named B.method).1 (findClass_of_methodNamed B.named) (fun w hw => hts w (List.mem_cons_of_mem _ hw)) hK hN hZ hP (hD0.self (sz := s.heap.size)) (fun q h => Or.inr h) va_S.rf rfl hl

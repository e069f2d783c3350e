/-! methods that are handed the script: it stands beside the world, and nobody writes it -/
def zPreX (g : zG) (W : va_W) (sz b L : Nat) (xs : Nat → Int32) (U : State) : Prop := zPre g W sz U ∧ va_X b L xs U U.heap ∧ b < U.heap.size ∧ ¬ va_A W sz b
theorem zBlindX {g : zG} {W : va_W} {sz b L : Nat} {xs : Nat → Int32} {av : List Value} : FrameBlind (va_Pc av (zPreX g W sz b L xs)) := fun a U gg mk q => ⟨q.1, (zBlind (g := g) (W := W) (sz := sz) (av := av) a U gg mk ⟨q.1, q.2.1⟩).2, va_X.moved (u := U) (U := U.calling gg mk a) (Vm.Alike.refl U.vm) q.2.2.1, q.2.2.2.1, q.2.2.2.2⟩
theorem zPreSX {p : Program} {l : Launch} {e : Env} {R : Room} {s : State} {m : MethodId} {args : Array Value} {below : List Frame} {meth : Method} {c : Code} {H : Heap} {locs : List Loc} {g : zG} {A : Nat → Prop} {ws wc : va_W} {av : List Value} {b L : Nat} {xs : Nat → Int32} (hX : va_X b L xs s s.heap) (hbl : b < s.heap.size) (hbA : ¬ A b) (hK : va_K g.1 vwCl (zTys g) s) (hN : zN s) (hZ : zS g A s s.heap) (hP : va_P g.1 vwCl ws H) (hD : va_D A ws) (hS : va_S A s.heap H locs) (hA : ∀ q, s.heap.size ≤ q → A q) (isC : List Nat) (hn : va_nd isC = true) (hC : isC.map (fun i => ws[i]?) = wc.map some) (hC2 : isC.filterMap (fun i => ws[i]?) = wc) : PreS s H (va_Pc av (zPreX g wc H.size b L xs)) av := ⟨zBlindX, fun U hU hW => ⟨rfl, zPreOf hK hN hZ hP hD hS hA isC hn hC hC2 hU hW, by
  rw [hU]
  exact (hX.kept (hS.2.1 b hbl hbA)).moved hW.alike, by
  rw [hU]
  exact Nat.lt_of_lt_of_le hbl hS.1, fun h => hbA (va_free hD hS hA isC hC b h)⟩⟩
theorem zMetX {l : Launch} {g : zG} {W0 : va_W} {sz b0 L0 : Nat} {xs0 : Nat → Int32} {av : List Value} {y : MethodName} {cc : ByteArray} {maxL : Nat} {ret : Option FieldType} {rm : Room} {Qc : Array Value → State → Outcome → State → Prop} {mc ms : Nat} (hy : plainName y.cls = true) (hlen : (lg_sl av).length ≤ maxL)
    (body : ∀ (p : Program) (e : Env) (s : State) (m : MethodId) (args : Array Value) (below : List Frame) (meth : Method) (c : Code) (A : Nat → Prop) (ls : Array Slot), p.tables.exec = Jvm.exec → c.code = cc → c.maxLocals = maxL → meth.sig.returnType = ret → meth.locks = false → meth.name = y.name → s.vm.findClass y.cls = some m.cls → (∀ w ∈ zBig, w.before args s = true) → va_K g.1 vwCl (zTys g) s → zN s → zS g A s s.heap → va_P g.1 vwCl W0 s.heap → va_D A W0 → (∀ q, s.heap.size ≤ q → A q) → va_S A s.heap s.heap [] → A = va_A W0 sz → lv_has ls maxL (lv_args 0 av) → va_X b0 L0 xs0 s s.heap → b0 < s.heap.size → ¬ A b0 →
      W p l e rm s m args below meth c s.heap [] 0 0 (MQ below Qc args s mc ms A) (F0 m 0 ls [])) :
    Met l y (.code y cc maxL ret :: zBig) rm (va_Pc av (zPreX g W0 sz b0 L0 xs0)) Qc mc ms (va_A W0 sz) := by
  refine Met.ofW (cc := cc) (maxL := maxL) (ret := ret) hy rfl ?_
  intro p e s m args below meth c s₁ B hml hv
  obtain ⟨rfl, ⟨hsz, hP, hK, hD0, hN, hZ⟩, hX, hbl, hbA⟩ := hv
  have hts := atoms_spec (ws := .code y cc maxL ret :: zBig) B.pre
  have hl := lv_entry av (n := maxL) hlen
  rw [lg_entry_eq]
  generalize (lg_sl av ++ List.replicate (maxL - (lg_sl av).length) Slot.unset).toArray = ls at hl ⊢
  subst hsz
  exact body p e s m _ below meth c _ ls B.exec B.bytes hml B.returns B.notSynchronized (name_of_methodNamed B.named B.method).1 (findClass_of_methodNamed B.named) (fun w hw => hts w (List.mem_cons_of_mem _ hw)) hK hN hZ hP (hD0.self (sz := s.heap.size)) (fun q h => Or.inr h) va_S.rf rfl hl hX hbl hbA
theorem zMetIX {l : Launch} {g : zG} {W0 : va_W} {sz b0 L0 : Nat} {xs0 : Nat → Int32} {av : List Value} {y : MethodName} {cc : ByteArray} {maxL : Nat} {ret : Option FieldType} {rm : Room} {S : Type} {post : Int32 → S → Prop} {W1 : S → va_W} {mc ms : Nat} (hy : plainName y.cls = true) (hlen : (lg_sl av).length ≤ maxL)
    (body : ∀ (p : Program) (e : Env) (s : State) (m : MethodId) (args : Array Value) (below : List Frame) (meth : Method) (c : Code) (A : Nat → Prop) (ls : Array Slot), p.tables.exec = Jvm.exec → c.code = cc → c.maxLocals = maxL → meth.sig.returnType = ret → meth.locks = false → meth.name = y.name → s.vm.findClass y.cls = some m.cls → (∀ w ∈ zBig, w.before args s = true) → va_K g.1 vwCl (zTys g) s → zN s → zS g A s s.heap → va_P g.1 vwCl W0 s.heap → va_D A W0 → (∀ q, s.heap.size ≤ q → A q) → va_S A s.heap s.heap [] → A = va_A W0 sz → lv_has ls maxL (lv_args 0 av) → va_X b0 L0 xs0 s s.heap → b0 < s.heap.size → ¬ A b0 →
      W p l e rm s m args below meth c s.heap [] 0 0 (MQ below (va_Qi post (zPost g W1 A) A) args s mc ms A) (F0 m 0 ls [])) :
    Met l y (.code y cc maxL ret :: zBig) rm (va_Pc av (zPreX g W0 sz b0 L0 xs0)) (va_Qi post (zPost g W1 (va_A W0 sz)) (va_A W0 sz)) mc ms (va_A W0 sz) :=
  zMetX hy hlen (fun p e s m args below meth c A ls h1 h2 h3 h4 h5 h6 h7 h8 h9 h10 h11 h12 h13 h14 h15 h16 h17 h18 h19 h20 => by subst h16; exact body p e s m args below meth c _ ls h1 h2 h3 h4 h5 h6 h7 h8 h9 h10 h11 h12 h13 h14 h15 rfl h17 h18 h19 h20)
/-! the law's numbers -/
def zlow (v n : Int32) : Int32 := (v &&& 2147483647) - (v &&& 2147483647) / n * n
theorem z_and31 {v y : Int32} (e : y = v &&& 2147483647) : 0 ≤ y.toInt := by
  have h : y.toBitVec.toNat ≤ 2147483647 := by
    rw [e]
    show (v.toBitVec &&& (2147483647 : Int32).toBitVec).toNat ≤ 2147483647
    rw [BitVec.toNat_and]
    exact Nat.and_le_right
  show 0 ≤ y.toBitVec.toInt
  rw [BitVec.toInt_eq_toNat_of_lt (by omega)]
  omega
theorem z_rem {r y n : Int32} {a b : Int} (e : r = y - y / n * n) (hy : y.toInt = a) (hn : n.toInt = b) (h0 : 0 ≤ a) (h1 : 1 ≤ b) : r.toInt = a % b := by
  have q : (y / n).toInt = a / b := by
    rw [lg_idiv_nonneg (by omega) (by omega), hy, hn]
  have d := Int.emod_def a b
  rw [Int.mul_comm] at d
  have e0 := Int.emod_nonneg a (show b ≠ 0 by omega)
  have hm : a ≤ 2147483647 := by
    rw [← hy]
    exact (z_rng y).2
  have hd : 0 ≤ a / b := Int.ediv_nonneg h0 (by omega)
  have hp : 0 ≤ a / b * b := Int.mul_nonneg hd (by omega)
  have p : (y / n * n).toInt = a / b * b := by
    rw [Int32.toInt_mul, q, hn]
    exact Int.bmod_eq_of_le (by omega) (by omega)
  rw [zi_sub e hy p (by omega) (by omega)]
  omega
theorem z_low {v n : Int32} {b : Int} (hn : n.toInt = b) (h1 : 1 ≤ b) : 0 ≤ (zlow v n).toInt ∧ (zlow v n).toInt < b := by
  have k := z_rem (r := zlow v n) (y := v &&& 2147483647) rfl rfl hn (z_and31 rfl) h1
  rw [k]
  exact ⟨Int.emod_nonneg _ (by omega), Int.emod_lt_of_pos _ (by omega)⟩
/-- the script's cell, or a number of its own behind its end -/
def zCell (xs : Nat → Int32) (L : Nat) (k : Int32) : Int32 := if k.toInt < (L : Int) then xs k.toNatClampNeg else 747796405 * (k + 1)
theorem z_andm {v y m : Int32} (k : Nat) (e : y = v &&& m) (hm : m.toBitVec.toNat = k) (h : k < 2147483648) : 0 ≤ y.toInt ∧ y.toInt ≤ (k : Int) := by
  have q : y.toBitVec.toNat ≤ k := by
    rw [e, ← hm]
    show (v.toBitVec &&& m.toBitVec).toNat ≤ m.toBitVec.toNat
    rw [BitVec.toNat_and]
    exact Nat.and_le_right
  show 0 ≤ y.toBitVec.toInt ∧ y.toBitVec.toInt ≤ (k : Int)
  rw [BitVec.toInt_eq_toNat_of_lt (by omega)]
  omega
theorem z_ofNat {L : Nat} {y : Int32} (e : y = Int32.ofNat L) (h : L ≤ 3072) : y.toInt = (L : Int) := by
  rw [e]
  exact Int32.toInt_ofNat_of_lt (by omega)

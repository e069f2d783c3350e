/-! how a contract begins, by the kind of its answer; facts of comparisons over whole numbers; rows that stay -/
theorem zMetI {l : Launch} {g : zG} {W0 : va_W} {sz : Nat} {av : List Value} {y : MethodName} {cc : ByteArray} {maxL : Nat} {ret : Option FieldType} {rm : Room} {S : Type} {post : Int32 → S → Prop} {W1 : S → va_W} {mc ms : Nat} (hy : plainName y.cls = true) (hlen : (lg_sl av).length ≤ maxL)
    (body : ∀ (p : Program) (e : Env) (s : State) (m : MethodId) (args : Array Value) (below : List Frame) (meth : Method) (c : Code) (A : Nat → Prop) (ls : Array Slot), p.tables.exec = Jvm.exec → c.code = cc → c.maxLocals = maxL → meth.sig.returnType = ret → meth.locks = false → meth.name = y.name → s.vm.findClass y.cls = some m.cls → (∀ w ∈ zBig, w.before args s = true) → va_K g.1 vwCl (zTys g) s → zN s → zS g A s s.heap → va_P g.1 vwCl W0 s.heap → va_D A W0 → (∀ q, s.heap.size ≤ q → A q) → va_S A s.heap s.heap [] → A = va_A W0 sz → lv_has ls maxL (lv_args 0 av) →
      W p l e rm s m args below meth c s.heap [] 0 0 (MQ below (va_Qi post (zPost g W1 A) A) args s mc ms A) (F0 m 0 ls [])) :
    Met l y (.code y cc maxL ret :: zBig) rm (va_Pc av (zPre g W0 sz)) (va_Qi post (zPost g W1 (va_A W0 sz)) (va_A W0 sz)) mc ms (va_A W0 sz) :=
  zMet hy hlen (fun p e s m args below meth c A ls h1 h2 h3 h4 h5 h6 h7 h8 h9 h10 h11 h12 h13 h14 h15 h16 h17 => by subst h16; exact body p e s m args below meth c _ ls h1 h2 h3 h4 h5 h6 h7 h8 h9 h10 h11 h12 h13 h14 h15 rfl h17)
theorem zMetL {l : Launch} {g : zG} {W0 : va_W} {sz : Nat} {av : List Value} {y : MethodName} {cc : ByteArray} {maxL : Nat} {ret : Option FieldType} {rm : Room} {S : Type} {post : Int64 → S → Prop} {W1 : S → va_W} {mc ms : Nat} (hy : plainName y.cls = true) (hlen : (lg_sl av).length ≤ maxL)
    (body : ∀ (p : Program) (e : Env) (s : State) (m : MethodId) (args : Array Value) (below : List Frame) (meth : Method) (c : Code) (A : Nat → Prop) (ls : Array Slot), p.tables.exec = Jvm.exec → c.code = cc → c.maxLocals = maxL → meth.sig.returnType = ret → meth.locks = false → meth.name = y.name → s.vm.findClass y.cls = some m.cls → (∀ w ∈ zBig, w.before args s = true) → va_K g.1 vwCl (zTys g) s → zN s → zS g A s s.heap → va_P g.1 vwCl W0 s.heap → va_D A W0 → (∀ q, s.heap.size ≤ q → A q) → va_S A s.heap s.heap [] → A = va_A W0 sz → lv_has ls maxL (lv_args 0 av) →
      W p l e rm s m args below meth c s.heap [] 0 0 (MQ below (va_Ql post (zPost g W1 A) A) args s mc ms A) (F0 m 0 ls [])) :
    Met l y (.code y cc maxL ret :: zBig) rm (va_Pc av (zPre g W0 sz)) (va_Ql post (zPost g W1 (va_A W0 sz)) (va_A W0 sz)) mc ms (va_A W0 sz) :=
  zMet hy hlen (fun p e s m args below meth c A ls h1 h2 h3 h4 h5 h6 h7 h8 h9 h10 h11 h12 h13 h14 h15 h16 h17 => by subst h16; exact body p e s m args below meth c _ ls h1 h2 h3 h4 h5 h6 h7 h8 h9 h10 h11 h12 h13 h14 h15 rfl h17)
theorem zMetV {l : Launch} {g : zG} {W0 : va_W} {sz : Nat} {av : List Value} {y : MethodName} {cc : ByteArray} {maxL : Nat} {ret : Option FieldType} {rm : Room} {S : Type} {post : S → Prop} {W1 : S → va_W} {mc ms : Nat} (hy : plainName y.cls = true) (hlen : (lg_sl av).length ≤ maxL)
    (body : ∀ (p : Program) (e : Env) (s : State) (m : MethodId) (args : Array Value) (below : List Frame) (meth : Method) (c : Code) (A : Nat → Prop) (ls : Array Slot), p.tables.exec = Jvm.exec → c.code = cc → c.maxLocals = maxL → meth.sig.returnType = ret → meth.locks = false → meth.name = y.name → s.vm.findClass y.cls = some m.cls → (∀ w ∈ zBig, w.before args s = true) → va_K g.1 vwCl (zTys g) s → zN s → zS g A s s.heap → va_P g.1 vwCl W0 s.heap → va_D A W0 → (∀ q, s.heap.size ≤ q → A q) → va_S A s.heap s.heap [] → A = va_A W0 sz → lv_has ls maxL (lv_args 0 av) →
      W p l e rm s m args below meth c s.heap [] 0 0 (MQ below (va_Qv post (zPost g W1 A) A) args s mc ms A) (F0 m 0 ls [])) :
    Met l y (.code y cc maxL ret :: zBig) rm (va_Pc av (zPre g W0 sz)) (va_Qv post (zPost g W1 (va_A W0 sz)) (va_A W0 sz)) mc ms (va_A W0 sz) :=
  zMet hy hlen (fun p e s m args below meth c A ls h1 h2 h3 h4 h5 h6 h7 h8 h9 h10 h11 h12 h13 h14 h15 h16 h17 => by subst h16; exact body p e s m args below meth c _ ls h1 h2 h3 h4 h5 h6 h7 h8 h9 h10 h11 h12 h13 h14 h15 rfl h17)
theorem z_lt {x y : Int32} {a b : Int} (hx : x.toInt = a) (hy : y.toInt = b) (h : x < y) : a < b := by rw [← hx, ← hy]; exact Int32.lt_iff_toInt_lt.mp h
theorem z_le {x y : Int32} {a b : Int} (hx : x.toInt = a) (hy : y.toInt = b) (h : x ≤ y) : a ≤ b := by rw [← hx, ← hy]; exact Int32.le_iff_toInt_le.mp h
theorem z_nlt {x y : Int32} {a b : Int} (hx : x.toInt = a) (hy : y.toInt = b) (h : ¬ x < y) : b ≤ a := by rw [← hx, ← hy]; exact Int.not_lt.mp (fun q => h (Int32.lt_iff_toInt_lt.mpr q))
theorem z_nle {x y : Int32} {a b : Int} (hx : x.toInt = a) (hy : y.toInt = b) (h : ¬ x ≤ y) : b < a := by rw [← hx, ← hy]; exact Int.not_le.mp (fun q => h (Int32.le_iff_toInt_le.mpr q))
theorem z_eq {x y : Int32} {a b : Int} (hx : x.toInt = a) (hy : y.toInt = b) (h : x = y) : a = b := by rw [← hx, ← hy, h]
theorem z_ne {x y : Int32} {a b : Int} (hx : x.toInt = a) (hy : y.toInt = b) (h : ¬ x = y) : a ≠ b := by rw [← hx, ← hy]; exact fun q => h (Int32.toInt_inj.mp q)
theorem zl_lt {x y : Int64} {a b : Int} (hx : x.toInt = a) (hy : y.toInt = b) (h : x < y) : a < b := by rw [← hx, ← hy]; exact Int64.lt_iff_toInt_lt.mp h
theorem zl_le {x y : Int64} {a b : Int} (hx : x.toInt = a) (hy : y.toInt = b) (h : x ≤ y) : a ≤ b := by rw [← hx, ← hy]; exact Int64.le_iff_toInt_le.mp h
theorem zl_nlt {x y : Int64} {a b : Int} (hx : x.toInt = a) (hy : y.toInt = b) (h : ¬ x < y) : b ≤ a := by rw [← hx, ← hy]; exact Int.not_lt.mp (fun q => h (Int64.lt_iff_toInt_lt.mpr q))
theorem zl_nle {x y : Int64} {a b : Int} (hx : x.toInt = a) (hy : y.toInt = b) (h : ¬ x ≤ y) : b < a := by rw [← hx, ← hy]; exact Int.not_le.mp (fun q => h (Int64.le_iff_toInt_le.mpr q))
theorem zl_eq {x y : Int64} {a b : Int} (hx : x.toInt = a) (hy : y.toInt = b) (h : x = y) : a = b := by rw [← hx, ← hy, h]
theorem zl_ne {x y : Int64} {a b : Int} (hx : x.toInt = a) (hy : y.toInt = b) (h : ¬ x = y) : a ≠ b := by rw [← hx, ← hy]; exact fun q => h (Int64.toInt_inj.mp q)
theorem zc_set {c : Int32} {k : Nat} : upd (fun _ => c) k c = fun _ => c := by
  funext j
  simp [upd]
theorem zc_setL {c : Int64} {k : Nat} : vp_updL (fun _ => c) k c = fun _ => c := by
  funext j
  simp [vp_updL]
theorem zc_cpy {f : Nat → Int32} {a n : Nat} : va_cpy f f a a n = f := by
  funext k
  simp only [va_cpy]
  split
  · next h => rw [show a + (k - a) = k by omega]
  · rfl
theorem z_cong {D : va_G} {cl : List vw_C} {ws : va_W} {H : Heap} (h : va_P D cl ws H) (i : Nat) {a : Nat} {cA : ClassId} {n : Nat} {f : Nat → Int32} (he : ws[i]? = some (a, .inl (cA, n, .inl f))) (f' : Nat → Int32) (hf : ∀ j, j < n → f j = f' j) : va_P D cl (ws.set i (a, .inl (cA, n, .inl f'))) H := by
  have hl := (List.getElem?_eq_some_iff.mp he).1
  have e : vp_cell cA (n, .inl f) = vp_cell cA (n, .inl f') := by
    rw [vp_cell_i, vp_cell_i]
    unfold arrV
    congr 1
    apply Array.ext
    · simp
    · intro j h1 h2
      have hj : j < n := by simpa using h1
      simp [hf j hj]
  intro k q hk
  by_cases hki : k = i
  · subst hki
    rw [List.getElem?_set_self hl] at hk
    cases hk
    have h0 := h k _ he
    show H[a]? = some (vp_cell cA (n, .inl f'))
    rw [← e]
    exact h0
  · rw [List.getElem?_set_ne (Ne.symm hki)] at hk
    exact h k q hk

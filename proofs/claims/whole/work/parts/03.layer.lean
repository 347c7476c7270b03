/-! the layer: the machine's rows over states that are lists (cells, locals, stack); all wrappers of the kit's lv_ and va_ rows -/
abbrev zg : Type := va_G × ClassId × ClassId × ClassId
def zT (g : zg) : List (ClassId × FieldType) := [(g.2.1, .int), (g.2.2.1, .boolean), (g.2.2.2, .object RX2)]
def zNl : List (String × Nat × MethodName × String) := [(RX2, 36, yX4_numberIn, RX4), (RX0, 47, yX4_changeIn, RX4), (RX0, 64, yX4_numberIn, RX4), (RX1, 29, yX4_changeIn, RX4), (RX1, 33, yX4_numberIn, RX4), (RX2, 44, yX4_changeIn, RX4)]
def zK (g : zg) (U : State) : Prop := va_K g.1 vwCl (zT g) U ∧ ∀ q ∈ zNl, va_Nw (.methodLinkNest q.1 q.2.1 q.2.2.1 q.2.2.2) U
theorem zK.warm {g : zg} {s U : State} (hW : s.WarmedH U.vm) (h : zK g s) : zK g U := ⟨va_K.moved hW.alike h.1, fun q hq => va_Nw.warmM hW (h.2 q hq)⟩
theorem zK.calling {g : zg} {U : State} {gg : JFrame} {mk : MethodId} {a : Array Value} (h : zK g U) : zK g (U.calling gg mk a) := ⟨va_K.moved (u := U) (U := U.calling gg mk a) (Vm.Alike.refl U.vm) h.1, fun q hq => va_Nw.same rfl rfl (h.2 q hq)⟩
/-- the parts of a walk that stay: program, environment, room; state, method, arguments, frames below; method's row, code, the cells that it may change, its goal; cells and slots made so far -/
abbrev zE : Type := (Program × Env × Room) × (State × MethodId × Array Value × List Frame) × (Method × Code × (Nat → Prop) × (State → Prop)) × (Nat × Nat)
abbrev zp (E : zE) : Program := E.1.1
abbrev ze (E : zE) : Env := E.1.2.1
abbrev zR (E : zE) : Room := E.1.2.2
abbrev zs (E : zE) : State := E.2.1.1
abbrev zm (E : zE) : MethodId := E.2.1.2.1
abbrev za (E : zE) : Array Value := E.2.1.2.2.1
abbrev zb (E : zE) : List Frame := E.2.1.2.2.2
abbrev zh (E : zE) : Method := E.2.2.1.1
abbrev zc (E : zE) : Code := E.2.2.1.2.1
abbrev zA (E : zE) : Nat → Prop := E.2.2.1.2.2.1
abbrev zQ (E : zE) : State → Prop := E.2.2.1.2.2.2
abbrev zk (E : zE) : Nat := E.2.2.2.1
abbrev zn (E : zE) : Nat := E.2.2.2.2
/-- from every heap that holds the cells ws, with the locals L and the stack st, at pc, the walk comes to its goal -/
def zG (l : Launch) (g : zg) (nL : Nat) (E : zE) (ws : va_W) (L : List (Nat × Value)) (pc : Nat) (st : List Value) : Prop :=
  ∀ (H : Heap) (locs : List Loc) (ls : Array Slot), va_P g.1 vwCl ws H → va_D (zA E) ws → va_S (zA E) (zs E).heap H locs → lv_has ls nL L → W (zp E) l (ze E) (zR E) (zs E) (zm E) (za E) (zb E) (zh E) (zc E) H locs (zk E) (zn E) (zQ E) (F0 (zm E) pc ls st)
def zX (g : zg) (nL : Nat) (E : zE) (cc : ByteArray) (own : String) (wd : List Cond) (rm : Room) (ret : Option FieldType) : Prop :=
  (zp E).tables.exec = Jvm.exec ∧ (zc E).code = cc ∧ (zc E).maxLocals = nL ∧ (zs E).vm.findClass own = some (zm E).cls ∧ (∀ w ∈ wd, w.before (za E) (zs E) = true) ∧ zK g (zs E) ∧ (∀ q, (zs E).heap.size ≤ q → zA E q) ∧ (zh E).locks = false ∧ zR E = rm ∧ (zh E).sig.returnType = ret
/-- a method's end: the answer, the cells behind it, what isn't its own stays -/
def zQc (g : zg) (wi wo : va_W) (v : Option Value) (sz : Nat) : Array Value → State → Outcome → State → Prop := fun _ st oc t => oc = .returned v ∧ va_P g.1 vwCl wo t.heap ∧ va_F (va_A wi sz) st t
def zPc (g : zg) (av : List Value) (wi : va_W) (sz : Nat) : Array Value → State → Prop := va_Pc av (fun U => U.heap.size = sz ∧ va_P g.1 vwCl wi U.heap ∧ zK g U ∧ va_D (fun _ => True) wi)
/-- a contract: with the arguments av, over the cells wi, the method answers v and leaves wo (the same addresses) -/
def zM (l : Launch) (g : zg) (y : MethodName) (wd : List Cond) (rm : Room) (av : List Value) (wi : va_W) (v : Option Value) (wo : va_W) : Prop :=
  ∀ sz : Nat, Met l y wd rm (zPc g av wi sz) (zQc g wi wo v sz) 0 0 (va_A wi sz)
def zF (g : zg) (E : zE) (wi wo : va_W) (v : Option Value) : Prop :=
  zQ E = MQ (zb E) (zQc g wi wo v (zs E).heap.size) (za E) (zs E) 0 0 (va_A wi (zs E).heap.size) ∧ zA E = va_A wi (zs E).heap.size ∧ zk E = 0 ∧ zn E = 0
theorem zPc.blind {g : zg} {av : List Value} {wi : va_W} {sz : Nat} : FrameBlind (zPc g av wi sz) := fun a U gg mk q => by
  obtain ⟨q0, q1, qP, qK, qD⟩ := q
  exact ⟨q0, q1, qP, zK.calling qK, qD⟩
/-- a contract out of a walk -/
theorem z_met {l : Launch} {g : zg} {y : MethodName} {wd wd' : List Cond} {rm : Room} {av : List Value} {wi wo : va_W} {v : Option Value} {cc : ByteArray} {maxL : Nat} {ret : Option FieldType} {own : String}
    (hy : plainName y.cls = true) (hown : y.cls = own) (hw : wd = Cond.code y cc maxL ret :: wd') (hsl : (lg_sl av).length ≤ maxL)
    (body : ∀ E : zE, zX g maxL E cc own wd rm ret → zF g E wi wo v → zG l g maxL E wi (lv_args 0 av) 0 []) : zM l g y wd rm av wi v wo := by
  intro sz
  refine Met.ofW (cc := cc) (maxL := maxL) (ret := ret) hy hw ?_
  intro p e s m args below meth c s₁ B hml hv
  obtain ⟨rfl, hsz, hP, hK, hD0⟩ := hv
  subst hsz
  have hts := atoms_spec (ws := wd) B.pre
  have h1 := findClass_of_methodNamed B.named
  rw [hown] at h1
  rw [lg_entry_eq]
  exact body ((p, e, (headSpec wd rm).room), (s, m, av.toArray, below), (meth, c, va_A wi s.heap.size, MQ below (zQc g wi wo v s.heap.size) av.toArray s 0 0 (va_A wi s.heap.size)), (0, 0))
    ⟨B.exec, B.bytes, hml, h1, hts, hK, fun q h => Or.inr h, B.notSynchronized, rfl, B.returns⟩ ⟨rfl, rfl, rfl, rfl⟩
    s.heap [] _ hP hD0.self va_S.rf (lv_entry av hsl)
section ZR
variable {l : Launch} {g : zg} {nL : Nat} {E : zE} {cc : ByteArray} {own : String} {wd : List Cond} {rm : Room} {ret : Option FieldType} {ws : va_W} {L : List (Nat × Value)} {pc : Nat} {st : List Value}
theorem z_ls {L' : List (Nat × Value)} (ks : List Nat) (h : lv_pick L ks = L') (k : zG l g nL E ws L' pc st) : zG l g nL E ws L pc st := fun H locs ls hP hD hS hl => k H locs ls hP hD hS (lv_sub hl ks h)
theorem z_top {x y : Int32} (h : x = y) (k : zG l g nL E ws L pc (.int y :: st)) : zG l g nL E ws L pc (.int x :: st) := h ▸ k
theorem z_topl {x y : Int64} (h : x = y) (k : zG l g nL E ws L pc (.long y :: st)) : zG l g nL E ws L pc (.long x :: st) := h ▸ k
theorem z_ws {ws' : va_W} (h : ws = ws') (k : zG l g nL E ws' L pc st) : zG l g nL E ws L pc st := h ▸ k
theorem z_st {st' : List Value} (h : st = st') (k : zG l g nL E ws L pc st') : zG l g nL E ws L pc st := h ▸ k
theorem z_Le {L' : List (Nat × Value)} (h : L = L') (k : zG l g nL E ws L' pc st) : zG l g nL E ws L pc st := h ▸ k
theorem z_iconst {n : Int} {v : Int32} (X : zX g nL E cc own wd rm ret) (d : decode cc pc = .ok (.iconst n, 1)) (hv : Int32.ofInt n = v) (k : zG l g nL E ws L (pc + 1) (.int v :: st)) : zG l g nL E ws L pc (st) := fun H locs ls hP hD hS hl => lv_iconst X.1 X.2.1 d hv (k H locs ls hP hD hS hl)
theorem z_bipush {n : Int} {v : Int32} (X : zX g nL E cc own wd rm ret) (d : decode cc pc = .ok (.bipush n, 2)) (hv : (Int8.ofInt n).toInt32 = v) (k : zG l g nL E ws L (pc + 2) (.int v :: st)) : zG l g nL E ws L pc (st) := fun H locs ls hP hD hS hl => lv_bipush X.1 X.2.1 d hv (k H locs ls hP hD hS hl)
theorem z_sipush {n : Int} {v : Int32} (X : zX g nL E cc own wd rm ret) (d : decode cc pc = .ok (.sipush n, 3)) (hv : (Int16.ofInt n).toInt32 = v) (k : zG l g nL E ws L (pc + 3) (.int v :: st)) : zG l g nL E ws L pc (st) := fun H locs ls hP hD hS hl => lv_sipush X.1 X.2.1 d hv (k H locs ls hP hD hS hl)
theorem z_lconst {n : Fin 2} {v : Int64} (X : zX g nL E cc own wd rm ret) (d : decode cc pc = .ok (.lconst n, 1)) (hv : Int64.ofNat (n : Nat) = v) (k : zG l g nL E ws L (pc + 1) (.long v :: st)) : zG l g nL E ws L pc (st) := fun H locs ls hP hD hS hl => lv_lconst X.1 X.2.1 d hv (k H locs ls hP hD hS hl)
theorem z_ldc {i : Nat} {v : Int32} (X : zX g nL E cc own wd rm ret) (d : decode cc pc = .ok (.ldc i, 2)) (hc : Cond.constant own i v ∈ wd) (k : zG l g nL E ws L (pc + 2) (.int v :: st)) : zG l g nL E ws L pc (st) := fun H locs ls hP hD hS hl => lv_ldc X.1 X.2.1 X.2.2.2.1 (X.2.2.2.2.1 _ hc) d (k H locs ls hP hD hS hl)
theorem z_ldcw {i : Nat} {v : Int32} (X : zX g nL E cc own wd rm ret) (d : decode cc pc = .ok (.ldc_w i, 3)) (hc : Cond.constant own i v ∈ wd) (k : zG l g nL E ws L (pc + 3) (.int v :: st)) : zG l g nL E ws L pc (st) := fun H locs ls hP hD hS hl => lv_ldcw X.1 X.2.1 X.2.2.2.1 (X.2.2.2.2.1 _ hc) d (k H locs ls hP hD hS hl)
theorem z_ldc2 {i : Nat} {v : Int64} (X : zX g nL E cc own wd rm ret) (d : decode cc pc = .ok (.ldc2_w i, 3)) (hc : Cond.constantLong own i v ∈ wd) (k : zG l g nL E ws L (pc + 3) (.long v :: st)) : zG l g nL E ws L pc (st) := fun H locs ls hP hD hS hl => lv_ldc2 X.1 X.2.1 X.2.2.2.1 (X.2.2.2.2.1 _ hc) d (k H locs ls hP hD hS hl)
theorem z_iload_n {q : Fin 4} {i : Nat} {x : Int32} (X : zX g nL E cc own wd rm ret) (d : decode cc pc = .ok (.iload_n q, 1)) (hi : (q : Nat) = i) (j : Nat) (hj : L[j]? = some (i, .int x)) (k : zG l g nL E ws L (pc + 1) (.int x :: st)) : zG l g nL E ws L pc (st) := fun H locs ls hP hD hS hl => lv_iload_n X.1 X.2.1 d hi (lv_at hl j hj) (k H locs ls hP hD hS hl)
theorem z_iload {i : Nat} {x : Int32} (X : zX g nL E cc own wd rm ret) (d : decode cc pc = .ok (.iload i, 2)) (j : Nat) (hj : L[j]? = some (i, .int x)) (k : zG l g nL E ws L (pc + 2) (.int x :: st)) : zG l g nL E ws L pc (st) := fun H locs ls hP hD hS hl => lv_iload X.1 X.2.1 d (lv_at hl j hj) (k H locs ls hP hD hS hl)
theorem z_lload_n {q : Fin 4} {i : Nat} {x : Int64} (X : zX g nL E cc own wd rm ret) (d : decode cc pc = .ok (.lload_n q, 1)) (hi : (q : Nat) = i) (j : Nat) (hj : L[j]? = some (i, .long x)) (k : zG l g nL E ws L (pc + 1) (.long x :: st)) : zG l g nL E ws L pc (st) := fun H locs ls hP hD hS hl => lv_lload_n X.1 X.2.1 d hi (lv_at hl j hj) (k H locs ls hP hD hS hl)
theorem z_lload {i : Nat} {x : Int64} (X : zX g nL E cc own wd rm ret) (d : decode cc pc = .ok (.lload i, 2)) (j : Nat) (hj : L[j]? = some (i, .long x)) (k : zG l g nL E ws L (pc + 2) (.long x :: st)) : zG l g nL E ws L pc (st) := fun H locs ls hP hD hS hl => lv_lload X.1 X.2.1 d (lv_at hl j hj) (k H locs ls hP hD hS hl)
theorem z_aload_n {q : Fin 4} {i : Nat} {x : Nat} (X : zX g nL E cc own wd rm ret) (d : decode cc pc = .ok (.aload_n q, 1)) (hi : (q : Nat) = i) (j : Nat) (hj : L[j]? = some (i, .ref x)) (k : zG l g nL E ws L (pc + 1) (.ref x :: st)) : zG l g nL E ws L pc (st) := fun H locs ls hP hD hS hl => lv_aload_n X.1 X.2.1 d hi (lv_at hl j hj) (k H locs ls hP hD hS hl)
theorem z_aload {i : Nat} {x : Nat} (X : zX g nL E cc own wd rm ret) (d : decode cc pc = .ok (.aload i, 2)) (j : Nat) (hj : L[j]? = some (i, .ref x)) (k : zG l g nL E ws L (pc + 2) (.ref x :: st)) : zG l g nL E ws L pc (st) := fun H locs ls hP hD hS hl => lv_aload X.1 X.2.1 d (lv_at hl j hj) (k H locs ls hP hD hS hl)
theorem z_aload_nN {q : Fin 4} {i : Nat} (X : zX g nL E cc own wd rm ret) (d : decode cc pc = .ok (.aload_n q, 1)) (hi : (q : Nat) = i) (j : Nat) (hj : L[j]? = some (i, .null)) (k : zG l g nL E ws L (pc + 1) (.null :: st)) : zG l g nL E ws L pc (st) := fun H locs ls hP hD hS hl => lv_aload_nN X.1 X.2.1 d hi (lv_at hl j hj) (k H locs ls hP hD hS hl)
theorem z_aloadN {i : Nat} (X : zX g nL E cc own wd rm ret) (d : decode cc pc = .ok (.aload i, 2)) (j : Nat) (hj : L[j]? = some (i, .null)) (k : zG l g nL E ws L (pc + 2) (.null :: st)) : zG l g nL E ws L pc (st) := fun H locs ls hP hD hS hl => lv_aloadN X.1 X.2.1 d (lv_at hl j hj) (k H locs ls hP hD hS hl)
theorem z_istore_n {L' : List (Nat × Value)} {q : Fin 4} {i : Nat} {x : Int32} (X : zX g nL E cc own wd rm ret) (d : decode cc pc = .ok (.istore_n q, 1)) (hi : (q : Nat) = i) (hn : i < nL) (hL : (i, Value.int x) :: L.filter (fun q => !(q.1 == i) && !(q.1 + 1 == i && q.2.category == 2)) = L') (k : zG l g nL E ws L' (pc + 1) st) : zG l g nL E ws L pc (.int x :: st) := fun H locs ls hP hD hS hl => lv_istore_n X.1 X.2.1 d hi hl hn hL (fun ls' hl' => k H locs ls' hP hD hS hl')
theorem z_istore {L' : List (Nat × Value)} {i : Nat} {x : Int32} (X : zX g nL E cc own wd rm ret) (d : decode cc pc = .ok (.istore i, 2)) (hn : i < nL) (hL : (i, Value.int x) :: L.filter (fun q => !(q.1 == i) && !(q.1 + 1 == i && q.2.category == 2)) = L') (k : zG l g nL E ws L' (pc + 2) st) : zG l g nL E ws L pc (.int x :: st) := fun H locs ls hP hD hS hl => lv_istore X.1 X.2.1 d hl hn hL (fun ls' hl' => k H locs ls' hP hD hS hl')
theorem z_lstore_n {L' : List (Nat × Value)} {q : Fin 4} {i : Nat} {x : Int64} (X : zX g nL E cc own wd rm ret) (d : decode cc pc = .ok (.lstore_n q, 1)) (hi : (q : Nat) = i) (hn : i + 1 < nL) (hL : (i, Value.long x) :: L.filter (fun q => !(q.1 == i) && (!(q.1 == i + 1) && !(q.1 + 1 == i && q.2.category == 2))) = L') (k : zG l g nL E ws L' (pc + 1) st) : zG l g nL E ws L pc (.long x :: st) := fun H locs ls hP hD hS hl => lv_lstore_n X.1 X.2.1 d hi hl hn hL (fun ls' hl' => k H locs ls' hP hD hS hl')
theorem z_lstore {L' : List (Nat × Value)} {i : Nat} {x : Int64} (X : zX g nL E cc own wd rm ret) (d : decode cc pc = .ok (.lstore i, 2)) (hn : i + 1 < nL) (hL : (i, Value.long x) :: L.filter (fun q => !(q.1 == i) && (!(q.1 == i + 1) && !(q.1 + 1 == i && q.2.category == 2))) = L') (k : zG l g nL E ws L' (pc + 2) st) : zG l g nL E ws L pc (.long x :: st) := fun H locs ls hP hD hS hl => lv_lstore X.1 X.2.1 d hl hn hL (fun ls' hl' => k H locs ls' hP hD hS hl')
theorem z_astore_n {L' : List (Nat × Value)} {q : Fin 4} {i : Nat} {x : Nat} (X : zX g nL E cc own wd rm ret) (d : decode cc pc = .ok (.astore_n q, 1)) (hi : (q : Nat) = i) (hn : i < nL) (hL : (i, Value.ref x) :: L.filter (fun q => !(q.1 == i) && !(q.1 + 1 == i && q.2.category == 2)) = L') (k : zG l g nL E ws L' (pc + 1) st) : zG l g nL E ws L pc (.ref x :: st) := fun H locs ls hP hD hS hl => lv_astore_n X.1 X.2.1 d hi hl hn hL (fun ls' hl' => k H locs ls' hP hD hS hl')
theorem z_astore {L' : List (Nat × Value)} {i : Nat} {x : Nat} (X : zX g nL E cc own wd rm ret) (d : decode cc pc = .ok (.astore i, 2)) (hn : i < nL) (hL : (i, Value.ref x) :: L.filter (fun q => !(q.1 == i) && !(q.1 + 1 == i && q.2.category == 2)) = L') (k : zG l g nL E ws L' (pc + 2) st) : zG l g nL E ws L pc (.ref x :: st) := fun H locs ls hP hD hS hl => lv_astore X.1 X.2.1 d hl hn hL (fun ls' hl' => k H locs ls' hP hD hS hl')
theorem z_astore_nN {L' : List (Nat × Value)} {q : Fin 4} {i : Nat} (X : zX g nL E cc own wd rm ret) (d : decode cc pc = .ok (.astore_n q, 1)) (hi : (q : Nat) = i) (hn : i < nL) (hL : (i, Value.null) :: L.filter (fun q => !(q.1 == i) && !(q.1 + 1 == i && q.2.category == 2)) = L') (k : zG l g nL E ws L' (pc + 1) st) : zG l g nL E ws L pc (.null :: st) := fun H locs ls hP hD hS hl => lv_astore_nN X.1 X.2.1 d hi hl hn hL (fun ls' hl' => k H locs ls' hP hD hS hl')
theorem z_astoreN {L' : List (Nat × Value)} {i : Nat} (X : zX g nL E cc own wd rm ret) (d : decode cc pc = .ok (.astore i, 2)) (hn : i < nL) (hL : (i, Value.null) :: L.filter (fun q => !(q.1 == i) && !(q.1 + 1 == i && q.2.category == 2)) = L') (k : zG l g nL E ws L' (pc + 2) st) : zG l g nL E ws L pc (.null :: st) := fun H locs ls hP hD hS hl => lv_astoreN X.1 X.2.1 d hl hn hL (fun ls' hl' => k H locs ls' hP hD hS hl')
theorem z_iinc {L' : List (Nat × Value)} {i : Nat} {n : Int} {x v : Int32} (X : zX g nL E cc own wd rm ret) (d : decode cc pc = .ok (.iinc i n, 3)) (j : Nat) (hj : L[j]? = some (i, .int x)) (hv : x + Int32.ofInt n = v) (hn : i < nL) (hL : (i, Value.int v) :: L.filter (fun q => !(q.1 == i) && !(q.1 + 1 == i && q.2.category == 2)) = L') (k : zG l g nL E ws L' (pc + 3) st) : zG l g nL E ws L pc st := fun H locs ls hP hD hS hl => lv_iinc X.1 X.2.1 d hl hj hv hn hL (fun ls' hl' => k H locs ls' hP hD hS hl')
theorem z_iadd {x y : Int32} (X : zX g nL E cc own wd rm ret) (d : decode cc pc = .ok (.iadd, 1))  (k : zG l g nL E ws L (pc + 1) (.int (x + y) :: st)) : zG l g nL E ws L pc (.int y :: .int x :: st) := fun H locs ls hP hD hS hl => lv_iadd X.1 X.2.1 d (k H locs ls hP hD hS hl)
theorem z_iadd' {x y v : Int32} (X : zX g nL E cc own wd rm ret) (d : decode cc pc = .ok (.iadd, 1)) (hv : x + y = v) (k : zG l g nL E ws L (pc + 1) (.int v :: st)) : zG l g nL E ws L pc (.int y :: .int x :: st) := by subst hv; exact z_iadd X d k
theorem z_isub {x y : Int32} (X : zX g nL E cc own wd rm ret) (d : decode cc pc = .ok (.isub, 1))  (k : zG l g nL E ws L (pc + 1) (.int (x - y) :: st)) : zG l g nL E ws L pc (.int y :: .int x :: st) := fun H locs ls hP hD hS hl => lv_isub X.1 X.2.1 d (k H locs ls hP hD hS hl)
theorem z_isub' {x y v : Int32} (X : zX g nL E cc own wd rm ret) (d : decode cc pc = .ok (.isub, 1)) (hv : x - y = v) (k : zG l g nL E ws L (pc + 1) (.int v :: st)) : zG l g nL E ws L pc (.int y :: .int x :: st) := by subst hv; exact z_isub X d k
theorem z_imul {x y : Int32} (X : zX g nL E cc own wd rm ret) (d : decode cc pc = .ok (.imul, 1))  (k : zG l g nL E ws L (pc + 1) (.int (x * y) :: st)) : zG l g nL E ws L pc (.int y :: .int x :: st) := fun H locs ls hP hD hS hl => lv_imul X.1 X.2.1 d (k H locs ls hP hD hS hl)
theorem z_imul' {x y v : Int32} (X : zX g nL E cc own wd rm ret) (d : decode cc pc = .ok (.imul, 1)) (hv : x * y = v) (k : zG l g nL E ws L (pc + 1) (.int v :: st)) : zG l g nL E ws L pc (.int y :: .int x :: st) := by subst hv; exact z_imul X d k
theorem z_iand {x y : Int32} (X : zX g nL E cc own wd rm ret) (d : decode cc pc = .ok (.iand, 1))  (k : zG l g nL E ws L (pc + 1) (.int (x &&& y) :: st)) : zG l g nL E ws L pc (.int y :: .int x :: st) := fun H locs ls hP hD hS hl => lv_iand X.1 X.2.1 d (k H locs ls hP hD hS hl)
theorem z_iand' {x y v : Int32} (X : zX g nL E cc own wd rm ret) (d : decode cc pc = .ok (.iand, 1)) (hv : x &&& y = v) (k : zG l g nL E ws L (pc + 1) (.int v :: st)) : zG l g nL E ws L pc (.int y :: .int x :: st) := by subst hv; exact z_iand X d k
theorem z_ior {x y : Int32} (X : zX g nL E cc own wd rm ret) (d : decode cc pc = .ok (.ior, 1))  (k : zG l g nL E ws L (pc + 1) (.int (x ||| y) :: st)) : zG l g nL E ws L pc (.int y :: .int x :: st) := fun H locs ls hP hD hS hl => lv_ior X.1 X.2.1 d (k H locs ls hP hD hS hl)
theorem z_ior' {x y v : Int32} (X : zX g nL E cc own wd rm ret) (d : decode cc pc = .ok (.ior, 1)) (hv : x ||| y = v) (k : zG l g nL E ws L (pc + 1) (.int v :: st)) : zG l g nL E ws L pc (.int y :: .int x :: st) := by subst hv; exact z_ior X d k
theorem z_ixor {x y : Int32} (X : zX g nL E cc own wd rm ret) (d : decode cc pc = .ok (.ixor, 1))  (k : zG l g nL E ws L (pc + 1) (.int (x ^^^ y) :: st)) : zG l g nL E ws L pc (.int y :: .int x :: st) := fun H locs ls hP hD hS hl => lv_ixor X.1 X.2.1 d (k H locs ls hP hD hS hl)
theorem z_ixor' {x y v : Int32} (X : zX g nL E cc own wd rm ret) (d : decode cc pc = .ok (.ixor, 1)) (hv : x ^^^ y = v) (k : zG l g nL E ws L (pc + 1) (.int v :: st)) : zG l g nL E ws L pc (.int y :: .int x :: st) := by subst hv; exact z_ixor X d k
theorem z_ishl {x y : Int32} (X : zX g nL E cc own wd rm ret) (d : decode cc pc = .ok (.ishl, 1))  (k : zG l g nL E ws L (pc + 1) (.int (x <<< (y &&& 31)) :: st)) : zG l g nL E ws L pc (.int y :: .int x :: st) := fun H locs ls hP hD hS hl => lv_ishl X.1 X.2.1 d (k H locs ls hP hD hS hl)
theorem z_ishl' {x y v : Int32} (X : zX g nL E cc own wd rm ret) (d : decode cc pc = .ok (.ishl, 1)) (hv : x <<< (y &&& 31) = v) (k : zG l g nL E ws L (pc + 1) (.int v :: st)) : zG l g nL E ws L pc (.int y :: .int x :: st) := by subst hv; exact z_ishl X d k
theorem z_ishr {x y : Int32} (X : zX g nL E cc own wd rm ret) (d : decode cc pc = .ok (.ishr, 1))  (k : zG l g nL E ws L (pc + 1) (.int (x >>> (y &&& 31)) :: st)) : zG l g nL E ws L pc (.int y :: .int x :: st) := fun H locs ls hP hD hS hl => lv_ishr X.1 X.2.1 d (k H locs ls hP hD hS hl)
theorem z_ishr' {x y v : Int32} (X : zX g nL E cc own wd rm ret) (d : decode cc pc = .ok (.ishr, 1)) (hv : x >>> (y &&& 31) = v) (k : zG l g nL E ws L (pc + 1) (.int v :: st)) : zG l g nL E ws L pc (.int y :: .int x :: st) := by subst hv; exact z_ishr X d k
theorem z_iushr {x y v : Int32} (X : zX g nL E cc own wd rm ret) (d : decode cc pc = .ok (.iushr, 1)) (hv : (x.toUInt32 >>> (y.toUInt32 &&& Int32.toUInt32 31)).toInt32 = v) (k : zG l g nL E ws L (pc + 1) (.int v :: st)) : zG l g nL E ws L pc (.int y :: .int x :: st) := fun H locs ls hP hD hS hl => lv_iushr X.1 X.2.1 d hv (k H locs ls hP hD hS hl)
theorem z_idiv {x y : Int32} (X : zX g nL E cc own wd rm ret) (d : decode cc pc = .ok (.idiv, 1)) (hne : ¬ y = 0) (k : zG l g nL E ws L (pc + 1) (.int (x / y) :: st)) : zG l g nL E ws L pc (.int y :: .int x :: st) := fun H locs ls hP hD hS hl => lv_idiv X.1 X.2.1 d hne (k H locs ls hP hD hS hl)
theorem z_ladd {x y : Int64} (X : zX g nL E cc own wd rm ret) (d : decode cc pc = .ok (.ladd, 1))  (k : zG l g nL E ws L (pc + 1) (.long (x + y) :: st)) : zG l g nL E ws L pc (.long y :: .long x :: st) := fun H locs ls hP hD hS hl => lv_ladd X.1 X.2.1 d (k H locs ls hP hD hS hl)
theorem z_ladd' {x y v : Int64} (X : zX g nL E cc own wd rm ret) (d : decode cc pc = .ok (.ladd, 1)) (hv : x + y = v) (k : zG l g nL E ws L (pc + 1) (.long v :: st)) : zG l g nL E ws L pc (.long y :: .long x :: st) := by subst hv; exact z_ladd X d k
theorem z_lsub {x y : Int64} (X : zX g nL E cc own wd rm ret) (d : decode cc pc = .ok (.lsub, 1))  (k : zG l g nL E ws L (pc + 1) (.long (x - y) :: st)) : zG l g nL E ws L pc (.long y :: .long x :: st) := fun H locs ls hP hD hS hl => lv_lsub X.1 X.2.1 d (k H locs ls hP hD hS hl)
theorem z_lsub' {x y v : Int64} (X : zX g nL E cc own wd rm ret) (d : decode cc pc = .ok (.lsub, 1)) (hv : x - y = v) (k : zG l g nL E ws L (pc + 1) (.long v :: st)) : zG l g nL E ws L pc (.long y :: .long x :: st) := by subst hv; exact z_lsub X d k
theorem z_lmul {x y : Int64} (X : zX g nL E cc own wd rm ret) (d : decode cc pc = .ok (.lmul, 1))  (k : zG l g nL E ws L (pc + 1) (.long (x * y) :: st)) : zG l g nL E ws L pc (.long y :: .long x :: st) := fun H locs ls hP hD hS hl => lv_lmul X.1 X.2.1 d (k H locs ls hP hD hS hl)
theorem z_lmul' {x y v : Int64} (X : zX g nL E cc own wd rm ret) (d : decode cc pc = .ok (.lmul, 1)) (hv : x * y = v) (k : zG l g nL E ws L (pc + 1) (.long v :: st)) : zG l g nL E ws L pc (.long y :: .long x :: st) := by subst hv; exact z_lmul X d k
theorem z_land {x y : Int64} (X : zX g nL E cc own wd rm ret) (d : decode cc pc = .ok (.land, 1))  (k : zG l g nL E ws L (pc + 1) (.long (x &&& y) :: st)) : zG l g nL E ws L pc (.long y :: .long x :: st) := fun H locs ls hP hD hS hl => lv_land X.1 X.2.1 d (k H locs ls hP hD hS hl)
theorem z_land' {x y v : Int64} (X : zX g nL E cc own wd rm ret) (d : decode cc pc = .ok (.land, 1)) (hv : x &&& y = v) (k : zG l g nL E ws L (pc + 1) (.long v :: st)) : zG l g nL E ws L pc (.long y :: .long x :: st) := by subst hv; exact z_land X d k
theorem z_lor {x y : Int64} (X : zX g nL E cc own wd rm ret) (d : decode cc pc = .ok (.lor, 1))  (k : zG l g nL E ws L (pc + 1) (.long (x ||| y) :: st)) : zG l g nL E ws L pc (.long y :: .long x :: st) := fun H locs ls hP hD hS hl => lv_lor X.1 X.2.1 d (k H locs ls hP hD hS hl)
theorem z_lor' {x y v : Int64} (X : zX g nL E cc own wd rm ret) (d : decode cc pc = .ok (.lor, 1)) (hv : x ||| y = v) (k : zG l g nL E ws L (pc + 1) (.long v :: st)) : zG l g nL E ws L pc (.long y :: .long x :: st) := by subst hv; exact z_lor X d k
theorem z_ldiv {x y : Int64} (X : zX g nL E cc own wd rm ret) (d : decode cc pc = .ok (.ldiv, 1)) (hne : ¬ y = 0) (k : zG l g nL E ws L (pc + 1) (.long (x / y) :: st)) : zG l g nL E ws L pc (.long y :: .long x :: st) := fun H locs ls hP hD hS hl => lv_ldiv X.1 X.2.1 d hne (k H locs ls hP hD hS hl)
theorem z_lrem {x y : Int64} (X : zX g nL E cc own wd rm ret) (d : decode cc pc = .ok (.lrem, 1)) (hne : ¬ y = 0) (k : zG l g nL E ws L (pc + 1) (.long (x - x / y * y) :: st)) : zG l g nL E ws L pc (.long y :: .long x :: st) := fun H locs ls hP hD hS hl => lv_lrem X.1 X.2.1 d hne (k H locs ls hP hD hS hl)
theorem z_lshl {x v : Int64} {y : Int32} (X : zX g nL E cc own wd rm ret) (d : decode cc pc = .ok (.lshl, 1)) (hv : x <<< (y.toInt64 &&& 63) = v) (k : zG l g nL E ws L (pc + 1) (.long v :: st)) : zG l g nL E ws L pc (.int y :: .long x :: st) := fun H locs ls hP hD hS hl => lv_lshl X.1 X.2.1 d hv (k H locs ls hP hD hS hl)
theorem z_i2l {x : Int32} {v : Int64} (X : zX g nL E cc own wd rm ret) (d : decode cc pc = .ok (.i2l, 1)) (hv : x.toInt64 = v) (k : zG l g nL E ws L (pc + 1) (.long v :: st)) : zG l g nL E ws L pc (.int x :: st) := fun H locs ls hP hD hS hl => lv_i2l X.1 X.2.1 d hv (k H locs ls hP hD hS hl)
theorem z_l2i {x : Int64} {v : Int32} (X : zX g nL E cc own wd rm ret) (d : decode cc pc = .ok (.l2i, 1)) (hv : x.toInt32 = v) (k : zG l g nL E ws L (pc + 1) (.int v :: st)) : zG l g nL E ws L pc (.long x :: st) := fun H locs ls hP hD hS hl => lv_l2i X.1 X.2.1 d hv (k H locs ls hP hD hS hl)
theorem z_i2b {x v : Int32} (X : zX g nL E cc own wd rm ret) (d : decode cc pc = .ok (.i2b, 1)) (hv : x.toInt8.toInt32 = v) (k : zG l g nL E ws L (pc + 1) (.int v :: st)) : zG l g nL E ws L pc (.int x :: st) := fun H locs ls hP hD hS hl => lv_i2b X.1 X.2.1 d hv (k H locs ls hP hD hS hl)
theorem z_i2s {x v : Int32} (X : zX g nL E cc own wd rm ret) (d : decode cc pc = .ok (.i2s, 1)) (hv : x.toInt16.toInt32 = v) (k : zG l g nL E ws L (pc + 1) (.int v :: st)) : zG l g nL E ws L pc (.int x :: st) := fun H locs ls hP hD hS hl => lv_i2s X.1 X.2.1 d hv (k H locs ls hP hD hS hl)
theorem z_lcmp {x y : Int64} (X : zX g nL E cc own wd rm ret) (d : decode cc pc = .ok (.lcmp, 1))  (k : zG l g nL E ws L (pc + 1) (.int (lg_cmp x y) :: st)) : zG l g nL E ws L pc (.long y :: .long x :: st) := fun H locs ls hP hD hS hl => W.lcmp X.1 X.2.1 d (k H locs ls hP hD hS hl)
theorem z_dup {va : Value} (X : zX g nL E cc own wd rm ret) (d : decode cc pc = .ok (.dup, 1)) (hva : va.category = 1) (k : zG l g nL E ws L (pc + 1) (va :: va :: st)) : zG l g nL E ws L pc (va :: st) := fun H locs ls hP hD hS hl => lv_dup X.1 X.2.1 d hva (k H locs ls hP hD hS hl)
theorem z_pop {va : Value} (X : zX g nL E cc own wd rm ret) (d : decode cc pc = .ok (.pop, 1)) (hva : va.category = 1) (k : zG l g nL E ws L (pc + 1) (st)) : zG l g nL E ws L pc (va :: st) := fun H locs ls hP hD hS hl => lv_pop X.1 X.2.1 d hva (k H locs ls hP hD hS hl)
theorem z_dup_x1 {va vb : Value} (X : zX g nL E cc own wd rm ret) (d : decode cc pc = .ok (.dup_x1, 1)) (hva : va.category = 1) (hvb : vb.category = 1) (k : zG l g nL E ws L (pc + 1) (va :: vb :: va :: st)) : zG l g nL E ws L pc (va :: vb :: st) := fun H locs ls hP hD hS hl => lv_dup_x1 X.1 X.2.1 d hva hvb (k H locs ls hP hD hS hl)
theorem z_dup2 {va vb : Value} (X : zX g nL E cc own wd rm ret) (d : decode cc pc = .ok (.dup2, 1)) (hva : va.category = 1) (hvb : vb.category = 1) (k : zG l g nL E ws L (pc + 1) (va :: vb :: va :: vb :: st)) : zG l g nL E ws L pc (va :: vb :: st) := fun H locs ls hP hD hS hl => lv_dup2_11 X.1 X.2.1 d hva hvb (k H locs ls hP hD hS hl)
theorem z_null  (X : zX g nL E cc own wd rm ret) (d : decode cc pc = .ok (.aconst_null, 1))  (k : zG l g nL E ws L (pc + 1) (.null :: st)) : zG l g nL E ws L pc (st) := fun H locs ls hP hD hS hl => lv_null X.1 X.2.1 d (k H locs ls hP hD hS hl)
theorem z_goto {off : Int} {tgt : Nat} (X : zX g nL E cc own wd rm ret) (d : decode cc pc = .ok (.goto off, 3)) (ht : (pc : Int) + off = (tgt : Int)) (k : zG l g nL E ws L tgt (st)) : zG l g nL E ws L pc (st) := fun H locs ls hP hD hS hl => lv_goto X.1 X.2.1 d ht (k H locs ls hP hD hS hl)
theorem z_ifnonnull {x : Nat} {off : Int} {tgt : Nat} (X : zX g nL E cc own wd rm ret) (d : decode cc pc = .ok (.ifnonnull off, 3)) (ht : (pc : Int) + off = (tgt : Int)) (k : zG l g nL E ws L tgt (st)) : zG l g nL E ws L pc (.ref x :: st) := fun H locs ls hP hD hS hl => lv_ifnonnull X.1 X.2.1 d ht (k H locs ls hP hD hS hl)
theorem z_ifnonnullN {off : Int} (X : zX g nL E cc own wd rm ret) (d : decode cc pc = .ok (.ifnonnull off, 3))  (k : zG l g nL E ws L (pc + 3) (st)) : zG l g nL E ws L pc (.null :: st) := fun H locs ls hP hD hS hl => lv_ifnonnullN X.1 X.2.1 d (k H locs ls hP hD hS hl)
theorem z_ifnull {x : Nat} {off : Int} (X : zX g nL E cc own wd rm ret) (d : decode cc pc = .ok (.ifnull off, 3))  (k : zG l g nL E ws L (pc + 3) (st)) : zG l g nL E ws L pc (.ref x :: st) := fun H locs ls hP hD hS hl => lv_ifnull X.1 X.2.1 d (k H locs ls hP hD hS hl)
theorem z_ifnullN {off : Int} {tgt : Nat} (X : zX g nL E cc own wd rm ret) (d : decode cc pc = .ok (.ifnull off, 3)) (ht : (pc : Int) + off = (tgt : Int)) (k : zG l g nL E ws L tgt (st)) : zG l g nL E ws L pc (.null :: st) := fun H locs ls hP hD hS hl => lv_ifnullN X.1 X.2.1 d ht (k H locs ls hP hD hS hl)
theorem z_icmp_eq {x y : Int32} {off : Int} {tgt : Nat} (X : zX g nL E cc own wd rm ret) (d : decode cc pc = .ok (.if_icmp .eq off, 3)) (ht : (pc : Int) + off = (tgt : Int)) (kt : x = y → zG l g nL E ws L tgt st) (kf : ¬ x = y → zG l g nL E ws L (pc + 3) st) : zG l g nL E ws L pc (.int y :: .int x :: st) := fun H locs ls hP hD hS hl => lv_icmp_eq X.1 X.2.1 d ht (fun q => kt q H locs ls hP hD hS hl) (fun q => kf q H locs ls hP hD hS hl)
theorem z_if_eq {x : Int32} {off : Int} {tgt : Nat} (X : zX g nL E cc own wd rm ret) (d : decode cc pc = .ok (.ifCond .eq off, 3)) (ht : (pc : Int) + off = (tgt : Int)) (kt : x = 0 → zG l g nL E ws L tgt st) (kf : ¬ x = 0 → zG l g nL E ws L (pc + 3) st) : zG l g nL E ws L pc (.int x :: st) := fun H locs ls hP hD hS hl => lv_if_eq X.1 X.2.1 d ht (fun q => kt q H locs ls hP hD hS hl) (fun q => kf q H locs ls hP hD hS hl)
theorem z_icmp_eqN {a b : Nat} {off : Int} {tgt : Nat} (X : zX g nL E cc own wd rm ret) (d : decode cc pc = .ok (.if_icmp .eq off, 3)) (ht : (pc : Int) + off = (tgt : Int)) (ha : a < 2 ^ 31) (hb : b < 2 ^ 31) (kt : a = b → zG l g nL E ws L tgt st) (kf : a ≠ b → zG l g nL E ws L (pc + 3) st) : zG l g nL E ws L pc (.int (nI b) :: .int (nI a) :: st) := z_icmp_eq X d ht (fun q => kt ((nI_eq ha hb).mp q)) (fun q => kf (fun z => q (congrArg nI z)))
theorem z_icmp_ne {x y : Int32} {off : Int} {tgt : Nat} (X : zX g nL E cc own wd rm ret) (d : decode cc pc = .ok (.if_icmp .ne off, 3)) (ht : (pc : Int) + off = (tgt : Int)) (kt : ¬ x = y → zG l g nL E ws L tgt st) (kf : x = y → zG l g nL E ws L (pc + 3) st) : zG l g nL E ws L pc (.int y :: .int x :: st) := fun H locs ls hP hD hS hl => lv_icmp_ne X.1 X.2.1 d ht (fun q => kt q H locs ls hP hD hS hl) (fun q => kf q H locs ls hP hD hS hl)
theorem z_if_ne {x : Int32} {off : Int} {tgt : Nat} (X : zX g nL E cc own wd rm ret) (d : decode cc pc = .ok (.ifCond .ne off, 3)) (ht : (pc : Int) + off = (tgt : Int)) (kt : ¬ x = 0 → zG l g nL E ws L tgt st) (kf : x = 0 → zG l g nL E ws L (pc + 3) st) : zG l g nL E ws L pc (.int x :: st) := fun H locs ls hP hD hS hl => lv_if_ne X.1 X.2.1 d ht (fun q => kt q H locs ls hP hD hS hl) (fun q => kf q H locs ls hP hD hS hl)
theorem z_icmp_neN {a b : Nat} {off : Int} {tgt : Nat} (X : zX g nL E cc own wd rm ret) (d : decode cc pc = .ok (.if_icmp .ne off, 3)) (ht : (pc : Int) + off = (tgt : Int)) (ha : a < 2 ^ 31) (hb : b < 2 ^ 31) (kt : a ≠ b → zG l g nL E ws L tgt st) (kf : a = b → zG l g nL E ws L (pc + 3) st) : zG l g nL E ws L pc (.int (nI b) :: .int (nI a) :: st) := z_icmp_ne X d ht (fun q => kt (fun z => q (congrArg nI z))) (fun q => kf ((nI_eq ha hb).mp q))
theorem z_icmp_lt {x y : Int32} {off : Int} {tgt : Nat} (X : zX g nL E cc own wd rm ret) (d : decode cc pc = .ok (.if_icmp .lt off, 3)) (ht : (pc : Int) + off = (tgt : Int)) (kt : x < y → zG l g nL E ws L tgt st) (kf : ¬ x < y → zG l g nL E ws L (pc + 3) st) : zG l g nL E ws L pc (.int y :: .int x :: st) := fun H locs ls hP hD hS hl => lv_icmp_lt X.1 X.2.1 d ht (fun q => kt q H locs ls hP hD hS hl) (fun q => kf q H locs ls hP hD hS hl)
theorem z_if_lt {x : Int32} {off : Int} {tgt : Nat} (X : zX g nL E cc own wd rm ret) (d : decode cc pc = .ok (.ifCond .lt off, 3)) (ht : (pc : Int) + off = (tgt : Int)) (kt : x < 0 → zG l g nL E ws L tgt st) (kf : ¬ x < 0 → zG l g nL E ws L (pc + 3) st) : zG l g nL E ws L pc (.int x :: st) := fun H locs ls hP hD hS hl => lv_if_lt X.1 X.2.1 d ht (fun q => kt q H locs ls hP hD hS hl) (fun q => kf q H locs ls hP hD hS hl)
theorem z_icmp_ltN {a b : Nat} {off : Int} {tgt : Nat} (X : zX g nL E cc own wd rm ret) (d : decode cc pc = .ok (.if_icmp .lt off, 3)) (ht : (pc : Int) + off = (tgt : Int)) (ha : a < 2 ^ 31) (hb : b < 2 ^ 31) (kt : a < b → zG l g nL E ws L tgt st) (kf : b ≤ a → zG l g nL E ws L (pc + 3) st) : zG l g nL E ws L pc (.int (nI b) :: .int (nI a) :: st) := z_icmp_lt X d ht (fun q => kt ((nI_ltI ha hb).mp q)) (fun q => kf (Nat.not_lt.mp (fun z => q ((nI_ltI ha hb).mpr z))))
theorem z_icmp_ge {x y : Int32} {off : Int} {tgt : Nat} (X : zX g nL E cc own wd rm ret) (d : decode cc pc = .ok (.if_icmp .ge off, 3)) (ht : (pc : Int) + off = (tgt : Int)) (kt : y ≤ x → zG l g nL E ws L tgt st) (kf : ¬ y ≤ x → zG l g nL E ws L (pc + 3) st) : zG l g nL E ws L pc (.int y :: .int x :: st) := fun H locs ls hP hD hS hl => lv_icmp_ge X.1 X.2.1 d ht (fun q => kt q H locs ls hP hD hS hl) (fun q => kf q H locs ls hP hD hS hl)
theorem z_if_ge {x : Int32} {off : Int} {tgt : Nat} (X : zX g nL E cc own wd rm ret) (d : decode cc pc = .ok (.ifCond .ge off, 3)) (ht : (pc : Int) + off = (tgt : Int)) (kt : 0 ≤ x → zG l g nL E ws L tgt st) (kf : ¬ 0 ≤ x → zG l g nL E ws L (pc + 3) st) : zG l g nL E ws L pc (.int x :: st) := fun H locs ls hP hD hS hl => lv_if_ge X.1 X.2.1 d ht (fun q => kt q H locs ls hP hD hS hl) (fun q => kf q H locs ls hP hD hS hl)
theorem z_icmp_geN {a b : Nat} {off : Int} {tgt : Nat} (X : zX g nL E cc own wd rm ret) (d : decode cc pc = .ok (.if_icmp .ge off, 3)) (ht : (pc : Int) + off = (tgt : Int)) (ha : a < 2 ^ 31) (hb : b < 2 ^ 31) (kt : b ≤ a → zG l g nL E ws L tgt st) (kf : a < b → zG l g nL E ws L (pc + 3) st) : zG l g nL E ws L pc (.int (nI b) :: .int (nI a) :: st) := z_icmp_ge X d ht (fun q => kt ((nI_leI hb ha).mp q)) (fun q => kf (Nat.not_le.mp (fun z => q ((nI_leI hb ha).mpr z))))
theorem z_icmp_gt {x y : Int32} {off : Int} {tgt : Nat} (X : zX g nL E cc own wd rm ret) (d : decode cc pc = .ok (.if_icmp .gt off, 3)) (ht : (pc : Int) + off = (tgt : Int)) (kt : y < x → zG l g nL E ws L tgt st) (kf : ¬ y < x → zG l g nL E ws L (pc + 3) st) : zG l g nL E ws L pc (.int y :: .int x :: st) := fun H locs ls hP hD hS hl => lv_icmp_gt X.1 X.2.1 d ht (fun q => kt q H locs ls hP hD hS hl) (fun q => kf q H locs ls hP hD hS hl)
theorem z_if_gt {x : Int32} {off : Int} {tgt : Nat} (X : zX g nL E cc own wd rm ret) (d : decode cc pc = .ok (.ifCond .gt off, 3)) (ht : (pc : Int) + off = (tgt : Int)) (kt : 0 < x → zG l g nL E ws L tgt st) (kf : ¬ 0 < x → zG l g nL E ws L (pc + 3) st) : zG l g nL E ws L pc (.int x :: st) := fun H locs ls hP hD hS hl => lv_if_gt X.1 X.2.1 d ht (fun q => kt q H locs ls hP hD hS hl) (fun q => kf q H locs ls hP hD hS hl)
theorem z_icmp_gtN {a b : Nat} {off : Int} {tgt : Nat} (X : zX g nL E cc own wd rm ret) (d : decode cc pc = .ok (.if_icmp .gt off, 3)) (ht : (pc : Int) + off = (tgt : Int)) (ha : a < 2 ^ 31) (hb : b < 2 ^ 31) (kt : b < a → zG l g nL E ws L tgt st) (kf : a ≤ b → zG l g nL E ws L (pc + 3) st) : zG l g nL E ws L pc (.int (nI b) :: .int (nI a) :: st) := z_icmp_gt X d ht (fun q => kt ((nI_ltI hb ha).mp q)) (fun q => kf (Nat.not_lt.mp (fun z => q ((nI_ltI hb ha).mpr z))))
theorem z_icmp_le {x y : Int32} {off : Int} {tgt : Nat} (X : zX g nL E cc own wd rm ret) (d : decode cc pc = .ok (.if_icmp .le off, 3)) (ht : (pc : Int) + off = (tgt : Int)) (kt : x ≤ y → zG l g nL E ws L tgt st) (kf : ¬ x ≤ y → zG l g nL E ws L (pc + 3) st) : zG l g nL E ws L pc (.int y :: .int x :: st) := fun H locs ls hP hD hS hl => lv_icmp_le X.1 X.2.1 d ht (fun q => kt q H locs ls hP hD hS hl) (fun q => kf q H locs ls hP hD hS hl)
theorem z_if_le {x : Int32} {off : Int} {tgt : Nat} (X : zX g nL E cc own wd rm ret) (d : decode cc pc = .ok (.ifCond .le off, 3)) (ht : (pc : Int) + off = (tgt : Int)) (kt : x ≤ 0 → zG l g nL E ws L tgt st) (kf : ¬ x ≤ 0 → zG l g nL E ws L (pc + 3) st) : zG l g nL E ws L pc (.int x :: st) := fun H locs ls hP hD hS hl => lv_if_le X.1 X.2.1 d ht (fun q => kt q H locs ls hP hD hS hl) (fun q => kf q H locs ls hP hD hS hl)
theorem z_icmp_leN {a b : Nat} {off : Int} {tgt : Nat} (X : zX g nL E cc own wd rm ret) (d : decode cc pc = .ok (.if_icmp .le off, 3)) (ht : (pc : Int) + off = (tgt : Int)) (ha : a < 2 ^ 31) (hb : b < 2 ^ 31) (kt : a ≤ b → zG l g nL E ws L tgt st) (kf : b < a → zG l g nL E ws L (pc + 3) st) : zG l g nL E ws L pc (.int (nI b) :: .int (nI a) :: st) := z_icmp_le X d ht (fun q => kt ((nI_leI ha hb).mp q)) (fun q => kf (Nat.not_le.mp (fun z => q ((nI_leI ha hb).mpr z))))
theorem z_if_eqN {a : Nat} {off : Int} {tgt : Nat} (X : zX g nL E cc own wd rm ret) (d : decode cc pc = .ok (.ifCond .eq off, 3)) (ht : (pc : Int) + off = (tgt : Int)) (ha : a < 2 ^ 31) (kt : a = 0 → zG l g nL E ws L tgt st) (kf : a ≠ 0 → zG l g nL E ws L (pc + 3) st) : zG l g nL E ws L pc (.int (nI a) :: st) := z_if_eq X d ht (fun q => kt ((nI_eq ha (by decide)).mp (q.trans nI_0.symm))) (fun q => kf (fun z => q ((congrArg nI z).trans nI_0)))
theorem z_if_neN {a : Nat} {off : Int} {tgt : Nat} (X : zX g nL E cc own wd rm ret) (d : decode cc pc = .ok (.ifCond .ne off, 3)) (ht : (pc : Int) + off = (tgt : Int)) (ha : a < 2 ^ 31) (kt : a ≠ 0 → zG l g nL E ws L tgt st) (kf : a = 0 → zG l g nL E ws L (pc + 3) st) : zG l g nL E ws L pc (.int (nI a) :: st) := z_if_ne X d ht (fun q => kt (fun z => q ((congrArg nI z).trans nI_0))) (fun q => kf ((nI_eq ha (by decide)).mp (q.trans nI_0.symm)))
theorem z_if_ltN {a : Nat} {off : Int} {tgt : Nat} (X : zX g nL E cc own wd rm ret) (d : decode cc pc = .ok (.ifCond .lt off, 3)) (ht : (pc : Int) + off = (tgt : Int)) (ha : a < 2 ^ 31) (kt : a < 0 → zG l g nL E ws L tgt st) (kf : 0 ≤ a → zG l g nL E ws L (pc + 3) st) : zG l g nL E ws L pc (.int (nI a) :: st) := z_if_lt X d ht (fun q => kt (absurd q (nI_pos ha))) (fun q => kf (Nat.zero_le _))
theorem z_if_geN {a : Nat} {off : Int} {tgt : Nat} (X : zX g nL E cc own wd rm ret) (d : decode cc pc = .ok (.ifCond .ge off, 3)) (ht : (pc : Int) + off = (tgt : Int)) (ha : a < 2 ^ 31) (kt : 0 ≤ a → zG l g nL E ws L tgt st) (kf : a < 0 → zG l g nL E ws L (pc + 3) st) : zG l g nL E ws L pc (.int (nI a) :: st) := z_if_ge X d ht (fun q => kt (Nat.zero_le _)) (fun q => kf (absurd (nI_pos' ha) q))
theorem z_if_gtN {a : Nat} {off : Int} {tgt : Nat} (X : zX g nL E cc own wd rm ret) (d : decode cc pc = .ok (.ifCond .gt off, 3)) (ht : (pc : Int) + off = (tgt : Int)) (ha : a < 2 ^ 31) (kt : 0 < a → zG l g nL E ws L tgt st) (kf : a ≤ 0 → zG l g nL E ws L (pc + 3) st) : zG l g nL E ws L pc (.int (nI a) :: st) := z_if_gt X d ht (fun q => kt ((nI_ltI (by decide) ha).mp (by rw [nI_0]; exact q))) (fun q => kf (Nat.not_lt.mp (fun z => q (by rw [← nI_0]; exact (nI_ltI (by decide) ha).mpr z))))
theorem z_if_leN {a : Nat} {off : Int} {tgt : Nat} (X : zX g nL E cc own wd rm ret) (d : decode cc pc = .ok (.ifCond .le off, 3)) (ht : (pc : Int) + off = (tgt : Int)) (ha : a < 2 ^ 31) (kt : a ≤ 0 → zG l g nL E ws L tgt st) (kf : 0 < a → zG l g nL E ws L (pc + 3) st) : zG l g nL E ws L pc (.int (nI a) :: st) := z_if_le X d ht (fun q => kt ((nI_leI ha (by decide)).mp (by rw [nI_0]; exact q))) (fun q => kf (Nat.not_le.mp (fun z => q (by rw [← nI_0]; exact (nI_leI ha (by decide)).mpr z))))
/-- a truth value as the machine has it -/
def bI (b : Bool) : Int32 := if b then 1 else 0
theorem bI_0 {b : Bool} : bI b = 0 ↔ b = false := by cases b <;> decide
theorem bI_n0 {b : Bool} : ¬ bI b = 0 ↔ b = true := by cases b <;> decide
theorem bI_inj {b c : Bool} : bI b = bI c ↔ b = c := by cases b <;> cases c <;> decide
theorem bI_nar2 (b : Bool) : vp_nar .boolean (bI b) = bI b := by cases b <;> decide
theorem bI_nar (b : Bool) : narrow .boolean (.int (bI b)) = .int (bI b) := by cases b <;> rfl
theorem z_icmp_eqB {b c : Bool} {off : Int} {tgt : Nat} (X : zX g nL E cc own wd rm ret) (d : decode cc pc = .ok (.if_icmp .eq off, 3)) (ht : (pc : Int) + off = (tgt : Int)) (kt : b = c → zG l g nL E ws L tgt st) (kf : ¬ b = c → zG l g nL E ws L (pc + 3) st) : zG l g nL E ws L pc (.int (bI c) :: .int (bI b) :: st) := z_icmp_eq X d ht (fun q => kt (bI_inj.mp q)) (fun q => kf (fun z => q (bI_inj.mpr z)))
theorem z_icmp_neB {b c : Bool} {off : Int} {tgt : Nat} (X : zX g nL E cc own wd rm ret) (d : decode cc pc = .ok (.if_icmp .ne off, 3)) (ht : (pc : Int) + off = (tgt : Int)) (kt : ¬ b = c → zG l g nL E ws L tgt st) (kf : b = c → zG l g nL E ws L (pc + 3) st) : zG l g nL E ws L pc (.int (bI c) :: .int (bI b) :: st) := z_icmp_ne X d ht (fun q => kt (fun z => q (bI_inj.mpr z))) (fun q => kf (bI_inj.mp q))
theorem z_if_eqB {b : Bool} {off : Int} {tgt : Nat} (X : zX g nL E cc own wd rm ret) (d : decode cc pc = .ok (.ifCond .eq off, 3)) (ht : (pc : Int) + off = (tgt : Int)) (kt : b = false → zG l g nL E ws L tgt st) (kf : b = true → zG l g nL E ws L (pc + 3) st) : zG l g nL E ws L pc (.int (bI b) :: st) := z_if_eq X d ht (fun q => kt (bI_0.mp q)) (fun q => kf (bI_n0.mp q))
theorem z_if_neB {b : Bool} {off : Int} {tgt : Nat} (X : zX g nL E cc own wd rm ret) (d : decode cc pc = .ok (.ifCond .ne off, 3)) (ht : (pc : Int) + off = (tgt : Int)) (kt : b = true → zG l g nL E ws L tgt st) (kf : b = false → zG l g nL E ws L (pc + 3) st) : zG l g nL E ws L pc (.int (bI b) :: st) := z_if_ne X d ht (fun q => kt (bI_n0.mp q)) (fun q => kf (bI_0.mp q))
theorem z_lookup {dflt : Int} {ps : Array (Int × Int)} {len : Nat} {x : Int32} {off : Int} {tgt : Nat} (X : zX g nL E cc own wd rm ret) (d : decode cc pc = .ok (.lookupswitch dflt ps, len)) (hp : (ps.toList.zip (ps.toList.drop 1)).all (fun (a, next) => a.1 < next.1) = true) (ho : Op.lookupswitch.offset ps.toList dflt x.toInt = off) (ht : (pc : Int) + off = (tgt : Int)) (k : zG l g nL E ws L tgt st) : zG l g nL E ws L pc (.int x :: st) := fun H locs ls hP hD hS hl => lv_lookup X.1 X.2.1 d hp ho ht (k H locs ls hP hD hS hl)
theorem z_tableIn {dflt lo hi : Int} {offs : Array Int} {len : Nat} {x : Int32} {off : Int} {tgt : Nat} (X : zX g nL E cc own wd rm ret) (d : decode cc pc = .ok (.tableswitch dflt lo hi offs, len)) (h1 : ¬ x.toInt < lo) (h2 : ¬ hi < x.toInt) (ho : offs[(x.toInt - lo).toNat]? = some off) (ht : (pc : Int) + off = (tgt : Int)) (k : zG l g nL E ws L tgt st) : zG l g nL E ws L pc (.int x :: st) := fun H locs ls hP hD hS hl => lv_tableIn X.1 X.2.1 d h1 h2 ho ht (k H locs ls hP hD hS hl)
theorem z_tableOut {dflt lo hi : Int} {offs : Array Int} {len : Nat} {x : Int32} {tgt : Nat} (X : zX g nL E cc own wd rm ret) (d : decode cc pc = .ok (.tableswitch dflt lo hi offs, len)) (h : x.toInt < lo ∨ hi < x.toInt) (ht : (pc : Int) + dflt = (tgt : Int)) (k : zG l g nL E ws L tgt st) : zG l g nL E ws L pc (.int x :: st) := fun H locs ls hP hD hS hl => lv_tableOut X.1 X.2.1 d h ht (k H locs ls hP hD hS hl)
theorem z_get {C : String} {T : u_T} {N ci index a : Nat} (X : zX g nL E cc own wd rm ret) (hin : ∀ w ∈ u_ws C T N, w ∈ wd) (hc : vwCl[ci]? = some (C, T, N)) (q0 : Nat) {fs : List Value} (he : ws[q0]? = some (a, .inr (ci, fs))) (j : Nat) (hj : j < N) (hlink : Cond.fieldLink own index (T j).1 (T j).2.1 (T j).2.2.1 ∈ wd) {v : Value} (hv : fs[j]? = some v) (d : decode cc pc = .ok (.getfield index, 3)) (k : zG l g nL E ws L (pc + 3) (v :: st)) : zG l g nL E ws L pc (.ref a :: st) := fun H locs ls hP hD hS hl => va_get X.1 X.2.1 X.2.2.2.2.1 hin X.2.2.2.1 X.2.2.2.2.2.1.1 hP q0 he hc j hj (X.2.2.2.2.1 _ hlink) (fun _ h => h) hv d (k H locs ls hP hD hS hl)
theorem z_put {ws' : va_W} {C : String} {T : u_T} {N ci index a : Nat} (X : zX g nL E cc own wd rm ret) (hin : ∀ w ∈ u_ws C T N, w ∈ wd) (hc : vwCl[ci]? = some (C, T, N)) (ty0 : Nat → FieldType) (hty : ∀ k, k < N → parseFieldDescriptor (T k).2.2.1 = some (ty0 k)) (hnm : ∀ a, a < N → ∀ b, b < N → a ≠ b → (T a).2.1 ≠ (T b).2.1) (q0 : Nat) {fs : List Value} (he : ws[q0]? = some (a, .inr (ci, fs))) (j : Nat) (hj : j < N) (hlink : Cond.fieldLink own index (T j).1 (T j).2.1 (T j).2.2.1 ∈ wd) (hfin : (T j).2.2.2 = false) {v : Value} {ty : FieldType} (hd : parseFieldDescriptor (T j).2.2.1 = some ty) (hn : narrow ty v = v) (hfit : fits ty v = true) (hl0 : j < fs.length) (d : decode cc pc = .ok (.putfield index, 3)) (hw : ws.set q0 (a, .inr (ci, fs.set j v)) = ws') (k : zG l g nL E ws' L (pc + 3) st) : zG l g nL E ws L pc (v :: .ref a :: st) := fun H locs ls hP hD hS hl => va_put X.1 X.2.1 X.2.2.2.2.1 hin ty0 hty hnm X.2.2.2.1 X.2.2.2.2.2.1.1 hP hD hS q0 he hc j hj (X.2.2.2.2.1 _ hlink) (fun _ h => h) hfin hd hn hfit hl0 d (fun H1 locs1 hP1 hD1 hS1 => by subst hw; exact k H1 locs1 ls hP1 hD1 hS1 hl)
theorem z_iald {a n : Nat} {f : Nat → Int32} {i : Int32} (X : zX g nL E cc own wd rm ret) (q0 : Nat) (he : ws[q0]? = some (a, .inl (g.2.1, n, .inl f))) (hin : vp_in i n) (d : decode cc pc = .ok (.iaload, 1)) (k : zG l g nL E ws L (pc + 1) (.int (f i.toNatClampNeg) :: st)) : zG l g nL E ws L pc (.int i :: .ref a :: st) := fun H locs ls hP hD hS hl => va_iald X.1 X.2.1 X.2.2.2.2.2.1.1 hP q0 0 he rfl hin d (k H locs ls hP hD hS hl)
theorem z_ialdN {a n i : Nat} {f : Nat → Int32} (X : zX g nL E cc own wd rm ret) (q0 : Nat) (he : ws[q0]? = some (a, .inl (g.2.1, n, .inl f))) (hin : i < n) (hn : n < 2 ^ 31) (d : decode cc pc = .ok (.iaload, 1)) (k : zG l g nL E ws L (pc + 1) (.int (f i) :: st)) : zG l g nL E ws L pc (.int (nI i) :: .ref a :: st) := z_iald X q0 he (vp_in_nI hin hn) d (by rw [nI_clamp (Nat.lt_trans hin hn)]; exact k)
theorem z_zaldN {a n i : Nat} {f : Nat → Int32} (X : zX g nL E cc own wd rm ret) (q0 : Nat) (he : ws[q0]? = some (a, .inl (g.2.2.1, n, .inl f))) (hin : i < n) (hn : n < 2 ^ 31) (d : decode cc pc = .ok (.baload, 1)) (k : zG l g nL E ws L (pc + 1) (.int (f i) :: st)) : zG l g nL E ws L pc (.int (nI i) :: .ref a :: st) := fun H locs ls hP hD hS hl => va_zald X.1 X.2.1 X.2.2.2.2.2.1.1 hP q0 1 he rfl (vp_in_nI hin hn) d (by rw [nI_clamp (Nat.lt_trans hin hn)]; exact k H locs ls hP hD hS hl)
theorem z_iastN {ws' : va_W} {a n i : Nat} {f : Nat → Int32} {x : Int32} (X : zX g nL E cc own wd rm ret) (q0 : Nat) (he : ws[q0]? = some (a, .inl (g.2.1, n, .inl f))) (hin : i < n) (hn : n < 2 ^ 31) (d : decode cc pc = .ok (.iastore, 1)) (hw : ws.set q0 (a, .inl (g.2.1, n, .inl (upd f i x))) = ws') (k : zG l g nL E ws' L (pc + 1) st) : zG l g nL E ws L pc (.int x :: .int (nI i) :: .ref a :: st) := fun H locs ls hP hD hS hl => va_iast X.1 X.2.1 X.2.2.2.2.2.1.1 hP hD hS q0 0 he rfl (vp_in_nI hin hn) d (fun H1 locs1 hP1 hD1 hS1 => by rw [nI_clamp (Nat.lt_trans hin hn)] at hP1 hD1; subst hw; exact k H1 locs1 ls hP1 hD1 hS1 hl)
theorem z_zastN {ws' : va_W} {a n i : Nat} {f : Nat → Int32} {x : Int32} (X : zX g nL E cc own wd rm ret) (q0 : Nat) (he : ws[q0]? = some (a, .inl (g.2.2.1, n, .inl f))) (hin : i < n) (hn : n < 2 ^ 31) (hx : vp_nar .boolean x = x) (d : decode cc pc = .ok (.bastore, 1)) (hw : ws.set q0 (a, .inl (g.2.2.1, n, .inl (upd f i x))) = ws') (k : zG l g nL E ws' L (pc + 1) st) : zG l g nL E ws L pc (.int x :: .int (nI i) :: .ref a :: st) := fun H locs ls hP hD hS hl => va_zast X.1 X.2.1 X.2.2.2.2.2.1.1 hP hD hS q0 1 he rfl (vp_in_nI hin hn) d (fun H1 locs1 hP1 hD1 hS1 => by rw [nI_clamp (Nat.lt_trans hin hn), hx] at hP1 hD1; subst hw; exact k H1 locs1 ls hP1 hD1 hS1 hl)
theorem z_alenI {a n : Nat} {f : Nat → Int32} (X : zX g nL E cc own wd rm ret) (q0 : Nat) (he : ws[q0]? = some (a, .inl (g.2.1, n, .inl f))) (d : decode cc pc = .ok (.arraylength, 1)) (k : zG l g nL E ws L (pc + 1) (.int (nI n) :: st)) : zG l g nL E ws L pc (.ref a :: st) := fun H locs ls hP hD hS hl => va_alen X.1 X.2.1 X.2.2.2.2.2.1.1 hP q0 0 he (ty := .int) rfl rfl d (k H locs ls hP hD hS hl)
theorem z_alenZ {a n : Nat} {f : Nat → Int32} (X : zX g nL E cc own wd rm ret) (q0 : Nat) (he : ws[q0]? = some (a, .inl (g.2.2.1, n, .inl f))) (d : decode cc pc = .ok (.arraylength, 1)) (k : zG l g nL E ws L (pc + 1) (.int (nI n) :: st)) : zG l g nL E ws L pc (.ref a :: st) := fun H locs ls hP hD hS hl => va_alen X.1 X.2.1 X.2.2.2.2.2.1.1 hP q0 1 he (ty := .boolean) rfl rfl d (k H locs ls hP hD hS hl)
theorem z_alenQ {a n : Nat} {f : Nat → Option Nat} (X : zX g nL E cc own wd rm ret) (q0 : Nat) (he : ws[q0]? = some (a, .inl (g.2.2.2, n, .inr (.inr (.inr (.inr f)))))) (d : decode cc pc = .ok (.arraylength, 1)) (k : zG l g nL E ws L (pc + 1) (.int (nI n) :: st)) : zG l g nL E ws L pc (.ref a :: st) := fun H locs ls hP hD hS hl => va_alen X.1 X.2.1 X.2.2.2.2.2.1.1 hP q0 2 he (ty := .object RX2) rfl rfl d (k H locs ls hP hD hS hl)
theorem z_aldqN {a n i : Nat} {f : Nat → Option Nat} {v : Value} (X : zX g nL E cc own wd rm ret) (q0 : Nat) (he : ws[q0]? = some (a, .inl (g.2.2.2, n, .inr (.inr (.inr (.inr f)))))) (hin : i < n) (hn : n < 2 ^ 31) (hv : va_rf (f i) = v) (d : decode cc pc = .ok (.aaload, 1)) (k : zG l g nL E ws L (pc + 1) (v :: st)) : zG l g nL E ws L pc (.int (nI i) :: .ref a :: st) := fun H locs ls hP hD hS hl => va_aldq X.1 X.2.1 X.2.2.2.2.2.1.1 hP q0 2 he (C := RX2) rfl (vp_in_nI hin hn) d (by rw [nI_clamp (Nat.lt_trans hin hn), hv]; exact k H locs ls hP hD hS hl)
theorem z_copy {ws' : va_W} {a a0 n0 n1 sp dp n index : Nat} {f h : Nat → Int32} (X : zX g nL E cc own wd rm ret) (hlink : Cond.methodLink own index arraycopyName ∈ wd) (hnat : Cond.native arraycopyName ∈ wd) (hsta : Cond.static arraycopyName ∈ wd) (hini : Cond.initialized "java/lang/System" ∈ wd) (q0 q1 : Nat) (ha0 : ws[q0]? = some (a0, .inl (g.2.1, n0, .inl f))) (ha1 : ws[q1]? = some (a, .inl (g.2.1, n1, .inl h))) (hn0 : n0 < 2 ^ 31) (hn1 : n1 < 2 ^ 31) (h4 : sp + n ≤ n0) (h5 : dp + n ≤ n1) (hfr : 1 ≤ rm.frames) (hlo : (st.map fun v => v.category).sum + 18 ≤ rm.locals) (d : decode cc pc = .ok (.invokestatic index, 3)) (hw : ws.set q1 (a, .inl (g.2.1, n1, .inl (va_cpy f h sp dp n))) = ws') (k : zG l g nL E ws' L (pc + 3) st) : zG l g nL E ws L pc (.int (nI n) :: .int (nI dp) :: .ref a :: .int (nI sp) :: .ref a0 :: st) := fun H locs ls hP hD hS hl => va_copyi X.1 X.2.1 (X.2.2.1.trans hl.1.symm) X.2.2.2.1 (X.2.2.2.2.1 _ hlink) (X.2.2.2.2.1 _ hnat) (X.2.2.2.2.1 _ hsta) (X.2.2.2.2.1 _ hini) X.2.2.2.2.2.1.1 hP hD hS q0 q1 0 0 ha0 ha1 (ty := .int) rfl rfl rfl (nI_pos (by omega)) (nI_pos (by omega)) (nI_pos (by omega)) (by rw [nI_clamp (by omega), nI_clamp (by omega)]; exact h4) (by rw [nI_clamp (by omega), nI_clamp (by omega)]; exact h5) (fun _ _ => rfl) (by rw [X.2.2.2.2.2.2.2.2.1]; exact hfr) (by rw [X.2.2.2.2.2.2.2.2.1]; exact hlo) d (fun H1 locs1 hP1 hD1 hS1 => by rw [nI_clamp (by omega), nI_clamp (by omega), nI_clamp (by omega)] at hP1 hD1; subst hw; exact k H1 locs1 ls hP1 hD1 hS1 hl)
/-- cells put at places -/
def zput : va_W → List Nat → va_W → va_W
  | ws, i :: is, c :: cs => zput (ws.set i c) is cs
  | ws, _, _ => ws
theorem zput_get : ∀ (is : List Nat) (ws wo : va_W), is.length = wo.length → ∀ (k : Nat) (q : Nat × va_E), (zput ws is wo)[k]? = some q → (k ∉ is ∧ ws[k]? = some q) ∨ ∃ j : Nat, is[j]? = some k ∧ wo[j]? = some q
  | [], ws, wo, _, k, q, h => Or.inl ⟨List.not_mem_nil, by cases wo <;> exact h⟩
  | i :: is, ws, [], hl, k, q, h => by simp at hl
  | i :: is, ws, c :: cs, hl, k, q, h => by
    have hl' : is.length = cs.length := by simpa using hl
    rcases zput_get is (ws.set i c) cs hl' k q h with ⟨h1, h2⟩ | ⟨j, h1, h2⟩
    · by_cases hk : i = k
      · subst hk
        have hlt : i < (ws.set i c).length := (List.getElem?_eq_some_iff.mp h2).1
        rw [List.length_set] at hlt
        rw [List.getElem?_set_self hlt] at h2
        exact Or.inr ⟨0, rfl, h2⟩
      · rw [List.getElem?_set_ne hk] at h2
        exact Or.inl ⟨fun z => (List.mem_cons.mp z).elim (fun e => hk e.symm) h1, h2⟩
    · exact Or.inr ⟨j + 1, h1, h2⟩
/-- behind a call: the callee's cells are put back at their places, the others are as they were -/
theorem z_back {A : Nat → Prop} {ws wi wo : va_W} {H0 H H1 : Heap} {locs L1 : List Loc} {s0 t : State} (isC : List Nat) (hC : isC.map (fun i => ws[i]?) = wi.map some) (hO : wo.map (fun q => q.1) = wi.map (fun q => q.1))
    (hP : va_P g.1 vwCl ws H) (hD : va_D A ws) (hS : va_S A H0 H locs) (hA : ∀ q, H0.size ≤ q → A q) (h0 : s0.heap = H) (h1 : t.heap = H1) (hP1 : va_P g.1 vwCl wo H1) (hF : va_F (va_A wi H.size) s0 t) (hL1 : ∀ q ∈ L1, va_A wi H.size q.base) :
    va_P g.1 vwCl (zput ws isC wo) H1 ∧ va_D A (zput ws isC wo) ∧ va_S A H0 H1 (locs ++ L1) := by
  have hlen : isC.length = wo.length := by
    have e1 := congrArg List.length hC
    have e2 := congrArg List.length hO
    simp only [List.length_map] at e1 e2
    omega
  have at' : ∀ (k : Nat) (q : Nat × va_E), wi[k]? = some q → ∃ i, isC[k]? = some i ∧ ws[i]? = some q := by
    intro k q hq
    have h1 : (isC.map (fun i => ws[i]?))[k]? = some (some q) := by rw [hC, List.getElem?_map, hq]; rfl
    rw [List.getElem?_map] at h1
    cases hi : isC[k]? with
    | none => rw [hi] at h1; cases h1
    | some i => rw [hi] at h1; exact ⟨i, rfl, Option.some.inj h1⟩
  have key : ∀ (k : Nat) (q : Nat × va_E), (zput ws isC wo)[k]? = some q → ∃ q0, ws[k]? = some q0 ∧ q0.1 = q.1 := by
    intro k q hq
    rcases zput_get isC ws wo hlen k q hq with ⟨-, h2⟩ | ⟨j, h2, h3⟩
    · exact ⟨q, h2, rfl⟩
    · have e : (wi.map (fun q => q.1))[j]? = some q.1 := by rw [← hO, List.getElem?_map, h3]; rfl
      rw [List.getElem?_map] at e
      cases hw : wi[j]? with
      | none => rw [hw] at e; cases e
      | some q0 =>
        rw [hw] at e
        obtain ⟨i, a1, a2⟩ := at' j q0 hw
        rw [h2] at a1
        cases a1
        exact ⟨q0, a2, Option.some.inj e⟩
  have fre : ∀ q, va_A wi H.size q → A q := va_free hD hS hA isC hC
  refine ⟨fun k q hq => ?_, ⟨fun i j x y hi hj hxy => ?_, fun k q hq => ?_⟩, ?_, ?_, ?_⟩
  · rcases zput_get isC ws wo hlen k q hq with ⟨h2, h3⟩ | ⟨j, -, h3⟩
    · have hlt := (hP k q h3).lt
      refine (hP k q h3).kept ?_
      have h4 := hF.2 q.1 (by rw [h0]; exact hlt) (fun z => by
        rcases z with ⟨k2, e, z⟩ | z
        · obtain ⟨i, a1, a2⟩ := at' k2 _ z
          have := hD.1 i k _ _ a2 h3 rfl
          subst this
          exact h2 (List.mem_of_getElem? a1)
        · exact absurd hlt (Nat.not_lt.mpr z))
      rw [h0, h1] at h4
      exact h4
    · exact hP1 j q h3
  · obtain ⟨x0, a1, a2⟩ := key i x hi
    obtain ⟨y0, b1, b2⟩ := key j y hj
    exact hD.1 i j x0 y0 a1 b1 (a2.trans (hxy.trans b2.symm))
  · obtain ⟨q0, a1, a2⟩ := key k q hq
    rw [← a2]
    exact hD.2 k q0 a1
  · have := hF.1
    rw [h0, h1] at this
    exact Nat.le_trans hS.1 this
  · intro q hq hnA
    have h4 := hF.2 q (by rw [h0]; exact Nat.lt_of_lt_of_le hq hS.1) (fun z => hnA (fre q z))
    rw [h0, h1] at h4
    exact h4.trans (hS.2.1 q hq hnA)
  · intro q hq
    rcases List.mem_append.mp hq with h | h
    · exact hS.2.2 q h
    · exact fre _ (hL1 q h)
theorem z_run {ws' wi wo : va_W} {v : Option Value} {av : Array Value} {st0 st1 rest : List Value} (X : zX g nL E cc own wd rm ret) (isC : List Nat) (hC : isC.map (fun i => ws[i]?) = wi.map some) (hO : wo.map (fun q => q.1) = wi.map (fun q => q.1)) (hw : zput ws isC wo = ws') (hst : v.toList ++ rest = st1)
    (hr : ∀ (H : Heap) (locs : List Loc) (ls : Array Slot), va_P g.1 vwCl ws H → va_D (zA E) ws → va_S (zA E) (zs E).heap H locs → lv_has ls nL L → va_Run (zp E) l (ze E) (zR E) (zs E) (zm E) (za E) (zb E) (zh E) (zc E) H locs (zk E) (zn E) 0 0 (F0 (zm E) pc ls st0) rest (zQc g wi wo v H.size av) (va_A wi H.size))
    (k : zG l g nL E ws' L (pc + 3) st1) : zG l g nL E ws L pc st0 := by
  intro H locs ls hP hD hS hl T hT S
  obtain ⟨v', s0, t, T', L', h0, S', hL, e1, e2, ⟨hv, hPo, hF⟩, stp⟩ := hr H locs ls hP hD hS hl T hT S
  cases hv
  obtain ⟨b1, b2, b3⟩ := z_back isC hC hO hP hD hS X.2.2.2.2.2.2.1 h0 e1.symm (by rw [e1]; exact hPo) hF hL
  subst hw; subst hst
  obtain ⟨t2, a1, a2⟩ := k T'.heap (locs ++ L') ls b1 b2 b3 hl T' rfl S'
  exact ⟨t2, stp t2 a1, a2⟩
theorem z_sub {wi : va_W} {A : Nat → Prop} {H : Heap} (isC : List Nat) (hn : va_nd isC = true) (hC : isC.map (fun i => ws[i]?) = wi.map some) (hP : va_P g.1 vwCl ws H) (hD : va_D A ws) : va_P g.1 vwCl wi H ∧ va_D A wi := by
  refine ⟨?_, hD.sub isC hn hC⟩
  intro k q hq
  have h1 : (isC.map (fun i => ws[i]?))[k]? = some (some q) := by rw [hC, List.getElem?_map, hq]; rfl
  rw [List.getElem?_map] at h1
  cases hi : isC[k]? with
  | none => rw [hi] at h1; cases h1
  | some i => rw [hi] at h1; exact hP i q (Option.some.inj h1)
/-- a call over all the caller's cells -/
theorem z_runM {wo : va_W} {v : Option Value} {av : Array Value} {st0 st1 rest : List Value} (X : zX g nL E cc own wd rm ret) (hO : wo.map (fun q => q.1) = ws.map (fun q => q.1)) (hst : v.toList ++ rest = st1)
    (hr : ∀ (H : Heap) (locs : List Loc) (ls : Array Slot), va_P g.1 vwCl ws H → va_D (zA E) ws → va_S (zA E) (zs E).heap H locs → lv_has ls nL L → va_Run (zp E) l (ze E) (zR E) (zs E) (zm E) (za E) (zb E) (zh E) (zc E) H locs (zk E) (zn E) 0 0 (F0 (zm E) pc ls st0) rest (zQc g ws wo v H.size av) (va_A ws H.size))
    (k : zG l g nL E wo L (pc + 3) st1) : zG l g nL E ws L pc st0 := by
  intro H locs ls hP hD hS hl T hT S
  obtain ⟨v', s0, t, T', L', h0, S', hL, e1, e2, ⟨hv, hPo, hF⟩, stp⟩ := hr H locs ls hP hD hS hl T hT S
  cases hv
  have key : ∀ (k : Nat) (q : Nat × va_E), wo[k]? = some q → ∃ q0, ws[k]? = some q0 ∧ q0.1 = q.1 := by
    intro k q hq
    have e : (ws.map (fun q => q.1))[k]? = some q.1 := by rw [← hO, List.getElem?_map, hq]; rfl
    rw [List.getElem?_map] at e
    cases hw : ws[k]? with
    | none => rw [hw] at e; cases e
    | some q0 => rw [hw] at e; exact ⟨q0, rfl, Option.some.inj e⟩
  have fre : ∀ q, va_A ws H.size q → zA E q := by
    intro q h
    rcases h with ⟨k2, e, h⟩ | h
    · exact hD.2 k2 (q, e) h
    · exact X.2.2.2.2.2.2.1 q (Nat.le_trans hS.1 h)
  have hz1 := hF.1
  have hz2 := hF.2
  rw [h0, ← e1] at hz1 hz2
  subst hst
  obtain ⟨t2, a1, a2⟩ := k T'.heap (locs ++ L') ls (by rw [e1]; exact hPo) ⟨fun i j x y hi hj hxy => by
    obtain ⟨x0, b1, b2⟩ := key i x hi
    obtain ⟨y0, c1, c2⟩ := key j y hj
    exact hD.1 i j x0 y0 b1 c1 (b2.trans (hxy.trans c2.symm)), fun i x hi => by
    obtain ⟨x0, b1, b2⟩ := key i x hi
    rw [← b2]
    exact hD.2 i x0 b1⟩ ⟨Nat.le_trans hS.1 hz1, fun q hq hnA => (hz2 q (Nat.lt_of_lt_of_le hq hS.1) (fun z => hnA (fre q z))).trans (hS.2.1 q hq hnA), fun q hq => by
      rcases List.mem_append.mp hq with h | h
      · exact hS.2.2 q h
      · exact fre _ (hL q h)⟩ hl T' rfl S'
  exact ⟨t2, stp t2 a1, a2⟩
theorem z_callVM {wo : va_W} {v : Option Value} {b ci N maxL index n : Nat} {C : String} {T : u_T} {fs : List Value} {As rest st0 st1 : List Value} {y : MethodName} {bytes : ByteArray} {ret' : Option FieldType} {wd' wd'' : List Cond} {rm' : Room}
    (X : zX g nL E cc own wd rm ret) (hM : zM l g y wd' rm' (.ref b :: As) ws v wo) (hG : GoodIn wd (wsV own index C y wd')) (hw' : wd' = Cond.code y bytes maxL ret' :: wd'') (hrm : rm'.cells = 0 ∧ rm'.slots = 0) (hd : y.cls = C ∧ y.cls ≠ "java/lang/invoke/MethodHandle" ∧ y.cls ≠ "java/lang/invoke/VarHandle" ∧ (parseMethodDescriptor y.desc).map (fun d => d.parameters.length) = some n) (hR : rm'.frames + 1 ≤ rm.frames ∧ 8 + (maxL + 11) + rm'.locals ≤ rm.locals) (hroom : zk E ≤ (zR E).cells ∧ zn E ≤ (zR E).slots)
    (hc : vwCl[ci]? = some (C, T, N)) (q0 : Nat) (he : ws[q0]? = some (b, .inr (ci, fs))) (hO : wo.map (fun q => q.1) = ws.map (fun q => q.1))
    (hn : As.length = n) (hst0 : st0 = As.reverse ++ .ref b :: rest) (hst : v.toList ++ rest = st1) (hcat : (rest.map fun v => v.category).sum ≤ 8) (d : decode cc pc = .ok (.invokevirtual index, 3)) (k : zG l g nL E wo L (pc + 3) st1) : zG l g nL E ws L pc st0 := by
  refine z_runM (av := (Value.ref b :: As).toArray) (rest := rest) X hO hst (fun H locs ls hP hD hS hl => ?_) k
  obtain ⟨hx, hb, hml, hown, hts, hK, hA, hlocks, hRm, hr⟩ := X
  exact va_runV (C := C) (nL := nL) (As := As) (rest := rest) ⟨hx, hb, hml, hown, hts⟩ (hM H.size) (cwV n hts hG hw' hrm.1 hrm.2 hd (by rw [hRm]; exact hR)) ⟨zPc.blind, va_recv hK.1 hP hc he, fun U hU hW => ⟨rfl, by rw [hU], by rw [hU]; exact hP, hK.warm hW, hD.weaken (fun _ _ _ _ => trivial)⟩⟩ rfl hn hl.1 (g := F0 (zm E) pc ls st0) hst0 (lv_room hcat) d hroom
/-- a static call that touches no cell -/
theorem z_callS0 {v : Option Value} {maxL index n : Nat} {As rest st0 st1 : List Value} {y : MethodName} {bytes : ByteArray} {ret' : Option FieldType} {wd' wd'' : List Cond} {rm' : Room}
    (X : zX g nL E cc own wd rm ret) (hM : zM l g y wd' rm' As [] v []) (hG : GoodIn wd (va_wsS own index y wd')) (hw' : wd' = Cond.code y bytes maxL ret' :: wd'') (hrm : rm'.cells = 0 ∧ rm'.slots = 0) (hd : y.cls ≠ "java/lang/invoke/MethodHandle" ∧ y.cls ≠ "java/lang/invoke/VarHandle" ∧ (parseMethodDescriptor y.desc).map (fun d => d.parameters.length) = some n) (hR : rm'.frames + 1 ≤ rm.frames ∧ 8 + (maxL + 11) + rm'.locals ≤ rm.locals) (hroom : zk E ≤ (zR E).cells ∧ zn E ≤ (zR E).slots)
    (hn : As.length = n) (hst0 : st0 = As.reverse ++ rest) (hst : v.toList ++ rest = st1) (hcat : (rest.map fun v => v.category).sum ≤ 8) (d : decode cc pc = .ok (.invokestatic index, 3)) (k : zG l g nL E ws L (pc + 3) st1) : zG l g nL E ws L pc st0 := by
  refine z_run (av := As.toArray) (rest := rest) (wi := []) (wo := []) X [] rfl rfl (by cases ws <;> rfl) hst (fun H locs ls hP hD hS hl => ?_) k
  obtain ⟨hx, hb, hml, hown, hts, hK, hA, hlocks, hRm, hr⟩ := X
  exact va_runS (nL := nL) (As := As) (rest := rest) ⟨hx, hb, hml, hown, hts⟩ (hM H.size) (va_cwS n hts hG hw' hrm.1 hrm.2 hd (by rw [hRm]; exact hR)) ⟨zPc.blind, fun U hU hW => ⟨rfl, by rw [hU], by rw [hU]; exact (fun k q h => by simp at h), hK.warm hW, ⟨fun i j p q h => by simp at h, fun k q h => by simp at h⟩⟩⟩ rfl hn hl.1 (g := F0 (zm E) pc ls st0) hst0 (lv_room hcat) d hroom
/-- a call of an instance method (its own class's, or another's that isn't private to it) -/
theorem z_callV {ws' wi wo : va_W} {v : Option Value} {b ci N maxL index n : Nat} {C : String} {T : u_T} {fs : List Value} {As rest st0 st1 : List Value} {y : MethodName} {bytes : ByteArray} {ret' : Option FieldType} {wd' wd'' : List Cond} {rm' : Room}
    (X : zX g nL E cc own wd rm ret) (hM : zM l g y wd' rm' (.ref b :: As) wi v wo) (hG : GoodIn wd (wsV own index C y wd')) (hw' : wd' = Cond.code y bytes maxL ret' :: wd'') (hrm : rm'.cells = 0 ∧ rm'.slots = 0) (hd : y.cls = C ∧ y.cls ≠ "java/lang/invoke/MethodHandle" ∧ y.cls ≠ "java/lang/invoke/VarHandle" ∧ (parseMethodDescriptor y.desc).map (fun d => d.parameters.length) = some n) (hR : rm'.frames + 1 ≤ rm.frames ∧ 8 + (maxL + 11) + rm'.locals ≤ rm.locals) (hroom : zk E ≤ (zR E).cells ∧ zn E ≤ (zR E).slots)
    (hc : vwCl[ci]? = some (C, T, N)) (q0 : Nat) (he : ws[q0]? = some (b, .inr (ci, fs))) (isC : List Nat) (hnd : va_nd isC = true) (hC : isC.map (fun i => ws[i]?) = wi.map some) (hO : wo.map (fun q => q.1) = wi.map (fun q => q.1)) (hw : zput ws isC wo = ws')
    (hn : As.length = n) (hst0 : st0 = As.reverse ++ .ref b :: rest) (hst : v.toList ++ rest = st1) (hcat : (rest.map fun v => v.category).sum ≤ 8) (d : decode cc pc = .ok (.invokevirtual index, 3)) (k : zG l g nL E ws' L (pc + 3) st1) : zG l g nL E ws L pc st0 := by
  refine z_run (av := (Value.ref b :: As).toArray) (rest := rest) X isC hC hO hw hst (fun H locs ls hP hD hS hl => ?_) k
  obtain ⟨hx, hb, hml, hown, hts, hK, hA, hlocks, hRm, hr⟩ := X
  obtain ⟨hPc, hDc⟩ := z_sub isC hnd hC hP hD
  exact va_runV (C := C) (nL := nL) (As := As) (rest := rest) ⟨hx, hb, hml, hown, hts⟩ (hM H.size) (cwV n hts hG hw' hrm.1 hrm.2 hd (by rw [hRm]; exact hR)) ⟨zPc.blind, va_recv hK.1 hP hc he, fun U hU hW => ⟨rfl, by rw [hU], by rw [hU]; exact hPc, hK.warm hW, hDc.weaken (fun _ _ _ _ => trivial)⟩⟩ rfl hn hl.1 (g := F0 (zm E) pc ls st0) hst0 (lv_room hcat) d hroom
/-- a call of a static method -/
theorem z_callS {ws' wi wo : va_W} {v : Option Value} {maxL index n : Nat} {As rest st0 st1 : List Value} {y : MethodName} {bytes : ByteArray} {ret' : Option FieldType} {wd' wd'' : List Cond} {rm' : Room}
    (X : zX g nL E cc own wd rm ret) (hM : zM l g y wd' rm' As wi v wo) (hG : GoodIn wd (va_wsS own index y wd')) (hw' : wd' = Cond.code y bytes maxL ret' :: wd'') (hrm : rm'.cells = 0 ∧ rm'.slots = 0) (hd : y.cls ≠ "java/lang/invoke/MethodHandle" ∧ y.cls ≠ "java/lang/invoke/VarHandle" ∧ (parseMethodDescriptor y.desc).map (fun d => d.parameters.length) = some n) (hR : rm'.frames + 1 ≤ rm.frames ∧ 8 + (maxL + 11) + rm'.locals ≤ rm.locals) (hroom : zk E ≤ (zR E).cells ∧ zn E ≤ (zR E).slots)
    (isC : List Nat) (hnd : va_nd isC = true) (hC : isC.map (fun i => ws[i]?) = wi.map some) (hO : wo.map (fun q => q.1) = wi.map (fun q => q.1)) (hw : zput ws isC wo = ws')
    (hn : As.length = n) (hst0 : st0 = As.reverse ++ rest) (hst : v.toList ++ rest = st1) (hcat : (rest.map fun v => v.category).sum ≤ 8) (d : decode cc pc = .ok (.invokestatic index, 3)) (k : zG l g nL E ws' L (pc + 3) st1) : zG l g nL E ws L pc st0 := by
  refine z_run (av := As.toArray) (rest := rest) X isC hC hO hw hst (fun H locs ls hP hD hS hl => ?_) k
  obtain ⟨hx, hb, hml, hown, hts, hK, hA, hlocks, hRm, hr⟩ := X
  obtain ⟨hPc, hDc⟩ := z_sub isC hnd hC hP hD
  exact va_runS (nL := nL) (As := As) (rest := rest) ⟨hx, hb, hml, hown, hts⟩ (hM H.size) (va_cwS n hts hG hw' hrm.1 hrm.2 hd (by rw [hRm]; exact hR)) ⟨zPc.blind, fun U hU hW => ⟨rfl, by rw [hU], by rw [hU]; exact hPc, hK.warm hW, hDc.weaken (fun _ _ _ _ => trivial)⟩⟩ rfl hn hl.1 (g := F0 (zm E) pc ls st0) hst0 (lv_room hcat) d hroom
/-- a call of a nest mate's private static method -/
theorem z_callN {ws' wi wo : va_W} {v : Option Value} {maxL index n : Nat} {host : String} {As rest st0 st1 : List Value} {y : MethodName} {bytes : ByteArray} {ret' : Option FieldType} {wd' wd'' : List Cond} {rm' : Room}
    (X : zX g nL E cc own wd rm ret) (hM : zM l g y wd' rm' As wi v wo) (hG : GoodIn wd wd') (hj : (own, index, y, host) ∈ zNl) (hini : Cond.initialized y.cls ∈ wd) (hsta : Cond.static y ∈ wd) (hw' : wd' = Cond.code y bytes maxL ret' :: wd'') (hrm : rm'.cells = 0 ∧ rm'.slots = 0) (hd : y.cls ≠ "java/lang/invoke/MethodHandle" ∧ y.cls ≠ "java/lang/invoke/VarHandle" ∧ (parseMethodDescriptor y.desc).map (fun d => d.parameters.length) = some n) (hR : rm'.frames + 1 ≤ rm.frames ∧ 8 + (maxL + 11) + rm'.locals ≤ rm.locals) (hroom : zk E ≤ (zR E).cells ∧ zn E ≤ (zR E).slots)
    (isC : List Nat) (hnd : va_nd isC = true) (hC : isC.map (fun i => ws[i]?) = wi.map some) (hO : wo.map (fun q => q.1) = wi.map (fun q => q.1)) (hw : zput ws isC wo = ws')
    (hn : As.length = n) (hst0 : st0 = As.reverse ++ rest) (hst : v.toList ++ rest = st1) (hcat : (rest.map fun v => v.category).sum ≤ 8) (d : decode cc pc = .ok (.invokestatic index, 3)) (k : zG l g nL E ws' L (pc + 3) st1) : zG l g nL E ws L pc st0 := by
  refine z_run (av := As.toArray) (rest := rest) X isC hC hO hw hst (fun H locs ls hP hD hS hl => ?_) k
  obtain ⟨hx, hb, hml, hown, hts, hK, hA, hlocks, hRm, hr⟩ := X
  obtain ⟨hPc, hDc⟩ := z_sub isC hnd hC hP hD
  exact va_runSN (nL := nL) (As := As) (rest := rest) ⟨hx, hb, hml, hown, hts⟩ (hM H.size) ⟨va_cnB n hts hG hw' hrm.1 hrm.2 (hK.2 (own, index, y, host) hj) (hts _ hini) hd (by rw [hRm]; exact hR), hts _ hsta, trivial⟩ ⟨zPc.blind, fun U hU hW => ⟨rfl, by rw [hU], by rw [hU]; exact hPc, hK.warm hW, hDc.weaken (fun _ _ _ _ => trivial)⟩⟩ rfl hn hl.1 (g := F0 (zm E) pc ls st0) hst0 (lv_room hcat) d hroom
/-- the ends -/
theorem zF.end {wi wo : va_W} {v : Option Value} {H : Heap} {locs : List Loc} (F : zF g E wi wo v) (hP : va_P g.1 vwCl wo H) (hS : va_S (zA E) (zs E).heap H locs) (t : State) (ht : t.heap = H) : zQc g wi wo v (zs E).heap.size (za E) (zs E) (.returned v) t := by
  obtain ⟨-, hA, -, -⟩ := F
  rw [hA] at hS
  exact ⟨rfl, by rw [ht]; exact hP, hS.F ht⟩
theorem z_iret {wi wo : va_W} {x r : Int32} (X : zX g nL E cc own wd rm (some .int)) (F : zF g E wi wo (some (.int r))) (d : decode cc pc = .ok (.ireturn, 1)) (hv : x = r) (hw : ws = wo) : zG l g nL E ws L pc [.int x] := by
  subst hv; subst hw
  intro H locs ls hP hD hS hl
  have hloc : ∀ q ∈ locs, va_A wi (zs E).heap.size q.base := by have := hS.2.2; rw [F.2.1] at this; exact this
  rw [F.1, F.2.2.1, F.2.2.2]
  exact W.iret X.1 X.2.1 X.2.2.2.2.2.2.2.2.2 (fun t ht hW => F.end hP hS t ht) hloc d X.2.2.2.2.2.2.2.1
theorem z_zret {wi wo : va_W} {x r : Int32} (X : zX g nL E cc own wd rm (some .boolean)) (F : zF g E wi wo (some (.int r))) (d : decode cc pc = .ok (.ireturn, 1)) (hnar : narrow .boolean (.int r) = .int r) (hv : x = r) (hw : ws = wo) : zG l g nL E ws L pc [.int x] := by
  subst hv; subst hw
  intro H locs ls hP hD hS hl
  have hloc : ∀ q ∈ locs, va_A wi (zs E).heap.size q.base := by have := hS.2.2; rw [F.2.1] at this; exact this
  rw [F.1, F.2.2.1, F.2.2.2]
  exact W.zret X.1 X.2.1 X.2.2.2.2.2.2.2.2.2 hnar (fun t ht hW => F.end hP hS t ht) hloc d X.2.2.2.2.2.2.2.1
theorem z_lret {wi wo : va_W} {x r : Int64} (X : zX g nL E cc own wd rm (some .long)) (F : zF g E wi wo (some (.long r))) (d : decode cc pc = .ok (.lreturn, 1)) (hv : x = r) (hw : ws = wo) : zG l g nL E ws L pc [.long x] := by
  subst hv; subst hw
  intro H locs ls hP hD hS hl
  have hloc : ∀ q ∈ locs, va_A wi (zs E).heap.size q.base := by have := hS.2.2; rw [F.2.1] at this; exact this
  rw [F.1, F.2.2.1, F.2.2.2]
  exact W.lret X.1 X.2.1 X.2.2.2.2.2.2.2.2.2 (fun t ht hW => F.end hP hS t ht) hloc d X.2.2.2.2.2.2.2.1
theorem z_vret {wi wo : va_W} (X : zX g nL E cc own wd rm none) (F : zF g E wi wo none) (d : decode cc pc = .ok (.return_, 1)) (hw : ws = wo) : zG l g nL E ws L pc [] := by
  subst hw
  intro H locs ls hP hD hS hl
  have hloc : ∀ q ∈ locs, va_A wi (zs E).heap.size q.base := by have := hS.2.2; rw [F.2.1] at this; exact this
  rw [F.1, F.2.2.1, F.2.2.2]
  exact W.vret X.1 X.2.1 X.2.2.2.2.2.2.2.2.2 (fun t ht hW => F.end hP hS t ht) hloc d X.2.2.2.2.2.2.2.1
theorem z_aret {wi wo : va_W} {x r : Value} {rt : FieldType} (X : zX g nL E cc own wd rm (some rt)) (F : zF g E wi wo (some r)) (hrt : ∃ n, rt = .object n) (hx : x = .null ∨ ∃ a, x = .ref a) (d : decode cc pc = .ok (.areturn, 1)) (hv : x = r) (hw : ws = wo) : zG l g nL E ws L pc [x] := by
  subst hv; subst hw
  intro H locs ls hP hD hS hl
  have hloc : ∀ q ∈ locs, va_A wi (zs E).heap.size q.base := by have := hS.2.2; rw [F.2.1] at this; exact this
  rw [F.1, F.2.2.1, F.2.2.2]
  exact W.aret X.1 X.2.1 X.2.2.2.2.2.2.2.2.2 (Or.inl hrt) hx (fun t ht hW => F.end hP hS t ht) hloc d X.2.2.2.2.2.2.2.1
theorem zF.room {wi wo : va_W} {v : Option Value} (F : zF g E wi wo v) : zk E ≤ (zR E).cells ∧ zn E ≤ (zR E).slots := by
  rw [F.2.2.1, F.2.2.2]
  exact ⟨Nat.zero_le _, Nat.zero_le _⟩
end ZR

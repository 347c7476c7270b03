/-! making: constructors, and the law's own rows -/
def zNl3 : List (String × Nat × MethodName × String) := [(RX4, 11, yX0_init, RX4), (RX4, 20, yX1_init, RX4), (RX4, 31, yX2_init, RX4)]
def zN3 (U : State) : Prop := (∀ q ∈ zNl3, va_Nw (.methodLinkNest q.1 q.2.1 q.2.2.1 q.2.2.2) U) ∧ va_AO RX2 U
theorem zN3.warm {s U : State} (hW : s.WarmedH U.vm) (h : zN3 s) : zN3 U := ⟨fun q hq => va_Nw.warmM hW (h.1 q hq), va_AO.moved hW.alike h.2⟩
theorem zN3.calling {U : State} {gg : JFrame} {mk : MethodId} {a : Array Value} (h : zN3 U) : zN3 (U.calling gg mk a) := ⟨fun q hq => va_Nw.same rfl rfl (h.1 q hq), va_AO.moved (u := U) (U := U.calling gg mk a) (Vm.Alike.refl U.vm) h.2⟩
def zPn (g : zg) (av : List Value) (wi : va_W) (sz : Nat) : Array Value → State → Prop := va_Pc av (fun U => U.heap.size = sz ∧ va_P g.1 vwCl wi U.heap ∧ (zK g U ∧ zN3 U) ∧ va_D (fun _ => True) wi)
def zQn (g : zg) (wi : va_W) (post : va_W → Prop) (sz : Nat) : Array Value → State → Outcome → State → Prop := fun _ st oc t => oc = .returned none ∧ (∃ wo, post wo ∧ va_P g.1 vwCl wo t.heap ∧ va_D (va_A wi sz) wo) ∧ va_F (va_A wi sz) st t
/-- a constructor's contract: it makes at most mc cells of ms slots; behind it stand the cells wo -/
def zMn (l : Launch) (g : zg) (y : MethodName) (wd : List Cond) (rm : Room) (av : List Value) (wi : va_W) (mc ms : Nat) (post : va_W → Prop) : Prop :=
  ∀ sz : Nat, Met l y wd rm (zPn g av wi sz) (zQn g wi post sz) mc ms (va_A wi sz)
def zFn (g : zg) (E : zE) (wi : va_W) (post : va_W → Prop) (mc ms : Nat) : Prop :=
  zQ E = MQ (zb E) (zQn g wi post (zs E).heap.size) (za E) (zs E) mc ms (va_A wi (zs E).heap.size) ∧ zA E = va_A wi (zs E).heap.size ∧ zN3 (zs E) ∧ (zh E).name = "<init>"
theorem zPn.blind {g : zg} {av : List Value} {wi : va_W} {sz : Nat} : FrameBlind (zPn g av wi sz) := fun a U gg mk q => by
  obtain ⟨q0, q1, qP, ⟨qK, qN⟩, qD⟩ := q
  exact ⟨q0, q1, qP, ⟨zK.calling qK, zN3.calling qN⟩, qD⟩
section ZN
variable {l : Launch} {g : zg} {nL : Nat} {P : Program × Env × Room} {S : State × MethodId × Array Value × List Frame} {M : Method × Code × (Nat → Prop) × (State → Prop)} {kk nn : Nat} {cc : ByteArray} {own : String} {wd : List Cond} {rm : Room} {ret : Option FieldType} {ws : va_W} {L : List (Nat × Value)} {pc : Nat} {st : List Value}
theorem z_metn {y : MethodName} {wd' : List Cond} {av : List Value} {wi : va_W} {maxL mc ms : Nat} {post : va_W → Prop}
    (hy : plainName y.cls = true) (hown : y.cls = own) (hw : wd = Cond.code y cc maxL none :: wd') (hsl : (lg_sl av).length ≤ maxL) (hin : y.name = "<init>")
    (body : ∀ (P : Program × Env × Room) (S : State × MethodId × Array Value × List Frame) (M : Method × Code × (Nat → Prop) × (State → Prop)), zX g maxL (P, S, M, (0, 0)) cc own wd rm none → zFn g (P, S, M, (0, 0)) wi post mc ms → zG l g maxL (P, S, M, (0, 0)) wi (lv_args 0 av) 0 []) : zMn l g y wd rm av wi mc ms post := by
  intro sz
  refine Met.ofW (cc := cc) (maxL := maxL) (ret := none) hy hw ?_
  intro p e s m args below meth c s₁ B hml hv
  obtain ⟨rfl, hsz, hP, ⟨hK, hN⟩, hD0⟩ := hv
  subst hsz
  have hts := atoms_spec (ws := wd) B.pre
  have h1 := findClass_of_methodNamed B.named
  rw [hown] at h1
  rw [lg_entry_eq]
  exact body (p, e, (headSpec wd rm).room) (s, m, av.toArray, below) (meth, c, va_A wi s.heap.size, MQ below (zQn g wi post s.heap.size) av.toArray s mc ms (va_A wi s.heap.size))
    ⟨B.exec, B.bytes, hml, h1, hts, hK, fun q h => Or.inr h, B.notSynchronized, rfl, B.returns⟩ ⟨rfl, rfl, hN, (name_of_methodNamed B.named B.method).1.trans hin⟩
    s.heap [] _ hP hD0.self va_S.rf (lv_entry av hsl)
theorem zX.mv {c c' : Nat × Nat} (X : zX g nL (P, S, M, c) cc own wd rm ret) : zX g nL (P, S, M, c') cc own wd rm ret := X
theorem zFn.mv {c c' : Nat × Nat} {wi : va_W} {post : va_W → Prop} {mc ms : Nat} (F : zFn g (P, S, M, c) wi post mc ms) : zFn g (P, S, M, c') wi post mc ms := F
theorem z_sel {E : zE} {ws' : va_W} (isC : List Nat) (hn : va_nd isC = true) (hC : isC.map (fun i => ws[i]?) = ws'.map some) (k : zG l g nL E ws' L pc st) : zG l g nL E ws L pc st := fun H locs ls hP hD hS hl => by
  obtain ⟨h1, h2⟩ := z_sub isC hn hC hP hD
  exact k H locs ls h1 h2 hS hl
theorem z_vretn {wi wo : va_W} {post : va_W → Prop} {mc ms : Nat} (X : zX g nL (P, S, M, (kk, nn)) cc own wd rm none) (F : zFn g (P, S, M, (kk, nn)) wi post mc ms) (hk : kk ≤ mc) (hn : nn ≤ ms) (d : decode cc pc = .ok (.return_, 1)) (hw : ws = wo) (hp : post wo) : zG l g nL (P, S, M, (kk, nn)) ws L pc [] := by
  subst hw
  intro H locs ls hP hD hS hl
  have hA := F.2.1
  have hloc : ∀ q ∈ locs, va_A wi (zs (P, S, M, (kk, nn))).heap.size q.base := by have := hS.2.2; rw [hA] at this; exact this
  refine W.widen (k := mc) (n := ms) hk hn ?_
  rw [F.1]
  rw [hA] at hD hS
  exact W.vret X.1 X.2.1 X.2.2.2.2.2.2.2.2.2 (fun t ht hW => ⟨rfl, ⟨ws, hp, by rw [ht]; exact hP, hD⟩, hS.F ht⟩) hloc d X.2.2.2.2.2.2.2.1
theorem z_newaI {N : Nat} (X : zX g nL (P, S, M, (kk, nn)) cc own wd rm ret) (harr : Cond.arrayClass .int ∈ wd) (hN : N ≤ 1000) (hc : kk + 1 ≤ rm.cells) (hs : nn + N ≤ rm.slots) (d : decode cc pc = .ok (.newarray .int, 2))
    (k : ∀ q : Nat, zG l g nL (P, S, M, (kk + 1, nn + N)) (ws ++ [(q, .inl (g.2.1, N, .inl (fun _ => 0)))]) L (pc + 2) (.ref q :: st)) : zG l g nL (P, S, M, (kk, nn)) ws L pc (.int (nI N) :: st) := by
  intro H locs ls hP hD hS hl
  have hR : zR (P, S, M, (kk, nn)) = rm := X.2.2.2.2.2.2.2.2.1
  refine va_newa (atype := .int) (ty := .int) (N' := N) (a0 := (N, .inl (fun _ => 0))) X.1 X.2.1 (X.2.2.2.2.1 _ harr) rfl X.2.2.2.2.2.1.1 hP hD hS X.2.2.2.2.2.2.1 (fun cA => rfl) (nI_pos (by omega)) (nI_clamp (by omega)) (by show N * 4 ≤ 536870912; omega) (by rw [hR]; exact hc) (by rw [hR]; exact hs) d (fun q cA H1 hK1 hP1 hD1 hS1 => ?_)
  have e1 := (hK1.2 3 (cA, .int) rfl).2
  have e2 := (X.2.2.2.2.2.1.1.2 0 (g.2.1, .int) rfl).2
  have e : cA = g.2.1 := Option.some.inj (e1.symm.trans e2)
  subst e
  exact k q H1 locs ls hP1 hD1 hS1 hl
theorem z_newaZ {N : Nat} (X : zX g nL (P, S, M, (kk, nn)) cc own wd rm ret) (harr : Cond.arrayClass .boolean ∈ wd) (hN : N ≤ 1000) (hc : kk + 1 ≤ rm.cells) (hs : nn + N ≤ rm.slots) (d : decode cc pc = .ok (.newarray .boolean, 2))
    (k : ∀ q : Nat, zG l g nL (P, S, M, (kk + 1, nn + N)) (ws ++ [(q, .inl (g.2.2.1, N, .inl (fun _ => 0)))]) L (pc + 2) (.ref q :: st)) : zG l g nL (P, S, M, (kk, nn)) ws L pc (.int (nI N) :: st) := by
  intro H locs ls hP hD hS hl
  have hR : zR (P, S, M, (kk, nn)) = rm := X.2.2.2.2.2.2.2.2.1
  refine va_newa (atype := .boolean) (ty := .boolean) (N' := N) (a0 := (N, .inl (fun _ => 0))) X.1 X.2.1 (X.2.2.2.2.1 _ harr) rfl X.2.2.2.2.2.1.1 hP hD hS X.2.2.2.2.2.2.1 (fun cA => rfl) (nI_pos (by omega)) (nI_clamp (by omega)) (by show N * 1 ≤ 536870912; omega) (by rw [hR]; exact hc) (by rw [hR]; exact hs) d (fun q cA H1 hK1 hP1 hD1 hS1 => ?_)
  have e1 := (hK1.2 3 (cA, .boolean) rfl).2
  have e2 := (X.2.2.2.2.2.1.1.2 1 (g.2.2.1, .boolean) rfl).2
  have e : cA = g.2.2.1 := Option.some.inj (e1.symm.trans e2)
  subst e
  exact k q H1 locs ls hP1 hD1 hS1 hl
theorem z_newq {N index : Nat} (X : zX g nL (P, S, M, (kk, nn)) cc own wd rm ret) (hcl : Cond.classLink own index RX2 ∈ wd) (hov : va_AO RX2 (zs (P, S, M, (kk, nn)))) (hN : N ≤ 1000) (hc : kk + 1 ≤ rm.cells) (hs : nn + N ≤ rm.slots) (d : decode cc pc = .ok (.anewarray index, 3))
    (k : ∀ q : Nat, zG l g nL (P, S, M, (kk + 1, nn + N)) (ws ++ [(q, .inl (g.2.2.2, N, .inr (.inr (.inr (.inr (fun _ => none))))))]) L (pc + 3) (.ref q :: st)) : zG l g nL (P, S, M, (kk, nn)) ws L pc (.int (nI N) :: st) := by
  intro H locs ls hP hD hS hl
  have hR : zR (P, S, M, (kk, nn)) = rm := X.2.2.2.2.2.2.2.2.1
  refine va_newq (N' := N) X.1 X.2.1 X.2.2.2.1 (X.2.2.2.2.1 _ hcl) hov X.2.2.2.2.2.1.1 hP hD hS X.2.2.2.2.2.2.1 (nI_pos (by omega)) (nI_clamp (by omega)) (by omega) (by rw [hR]; exact hc) (by rw [hR]; exact hs) d (fun q cA H1 hK1 hP1 hD1 hS1 => ?_)
  obtain ⟨-, -, -, -, -, e1⟩ := (hK1.2 3 (cA, .object RX2) rfl).2
  obtain ⟨-, -, -, -, -, e2⟩ := (X.2.2.2.2.2.1.1.2 2 (g.2.2.2, .object RX2) rfl).2
  have e : cA = g.2.2.2 := Option.some.inj (e1.symm.trans e2)
  subst e
  exact k q H1 locs ls hP1 hD1 hS1 hl
theorem z_newN {C : String} {T : u_T} {N ci index : Nat} {fs : List Value} (X : zX g nL (P, S, M, (kk, nn)) cc own wd rm ret) (hin : ∀ w ∈ u_ws C T N, w ∈ wd) (ty : Nat → FieldType) (hty : ∀ k, k < N → parseFieldDescriptor (T k).2.2.1 = some (ty k)) (hcl : Cond.classLink own index C ∈ wd) (hinst : Cond.instantiable C N ∈ wd) (hini : Cond.initialized C ∈ wd) (hc : vwCl[ci]? = some (C, T, N)) (hfs : ∀ j, j < N → defaultValue (ty j) = vp_V fs j) (hcells : kk + 1 ≤ rm.cells) (hs : nn + N ≤ rm.slots) (d : decode cc pc = .ok (.new index, 3))
    (k : ∀ q : Nat, zG l g nL (P, S, M, (kk + 1, nn + N)) (ws ++ [(q, .inr (ci, fs))]) L (pc + 3) (.ref q :: st)) : zG l g nL (P, S, M, (kk, nn)) ws L pc st := by
  intro H locs ls hP hD hS hl
  have hR : zR (P, S, M, (kk, nn)) = rm := X.2.2.2.2.2.2.2.2.1
  exact va_new X.1 X.2.1 X.2.2.2.2.1 hin ty hty X.2.2.2.1 (X.2.2.2.2.1 _ hcl) (X.2.2.2.2.1 _ hinst) (X.2.2.2.2.1 _ hini) X.2.2.2.2.2.1.1 hP hD hS X.2.2.2.2.2.2.1 hc hfs (by rw [hR]; exact hcells) (by rw [hR]; exact hs) d (fun q H1 hP1 hD1 hS1 => k q H1 locs ls hP1 hD1 hS1 hl)
theorem z_astqN {E : zE} {ws' : va_W} {a n v i ci : Nat} {vs : List Value} {f : Nat → Option Nat} {r : vw_C} (X : zX g nL E cc own wd rm ret) (q0 qk : Nat) (ha : ws[q0]? = some (a, .inl (g.2.2.2, n, .inr (.inr (.inr (.inr f)))))) (hv : ws[qk]? = some (v, .inr (ci, vs))) (hc : vwCl[ci]? = some r) (hr : RX2 = r.1) (hin : i < n) (hn : n < 2 ^ 31) (d : decode cc pc = .ok (.aastore, 1)) (hw : ws.set q0 (a, .inl (g.2.2.2, n, .inr (.inr (.inr (.inr (va_up f i (some v))))))) = ws') (k : zG l g nL E ws' L (pc + 1) st) : zG l g nL E ws L pc (.ref v :: .int (nI i) :: .ref a :: st) := fun H locs ls hP hD hS hl => va_astq X.1 X.2.1 X.2.2.2.2.2.1.1 hP hD hS q0 2 qk ci ha (by rw [← hr]; rfl) hv hc (vp_in_nI hin hn) d (fun H1 locs1 hP1 hD1 hS1 => by rw [nI_clamp (Nat.lt_trans hin hn)] at hP1 hD1; subst hw; exact k H1 locs1 ls hP1 hD1 hS1 hl)
theorem z_putF {E : zE} {ws' : va_W} {C : String} {T : u_T} {N ci index a : Nat} (X : zX g nL E cc own wd rm ret) (hI : (zh E).name = "<init>") (hin : ∀ w ∈ u_ws C T N, w ∈ wd) (hc : vwCl[ci]? = some (C, T, N)) (ty0 : Nat → FieldType) (hty : ∀ k, k < N → parseFieldDescriptor (T k).2.2.1 = some (ty0 k)) (hnm : ∀ a, a < N → ∀ b, b < N → a ≠ b → (T a).2.1 ≠ (T b).2.1) (q0 : Nat) {fs : List Value} (he : ws[q0]? = some (a, .inr (ci, fs))) (j : Nat) (hj : j < N) (hlink : Cond.fieldLink own index (T j).1 (T j).2.1 (T j).2.2.1 ∈ wd) (hfin : (T j).2.2.2 = true) (hdecl : (T j).1 = own) {v : Value} {ty : FieldType} (hd : parseFieldDescriptor (T j).2.2.1 = some ty) (hn : narrow ty v = v) (hfit : fits ty v = true) (hl0 : j < fs.length) (d : decode cc pc = .ok (.putfield index, 3)) (hw : ws.set q0 (a, .inr (ci, fs.set j v)) = ws') (k : zG l g nL E ws' L (pc + 3) st) : zG l g nL E ws L pc (v :: .ref a :: st) := fun H locs ls hP hD hS hl => va_putF X.1 X.2.1 X.2.2.2.2.1 hin ty0 hty hnm X.2.2.2.1 X.2.2.2.2.2.1.1 hP hD hS q0 he hc j hj (X.2.2.2.2.1 _ hlink) (fun _ h => h) hfin hI hdecl hd hn hfit hl0 d (fun H1 locs1 hP1 hD1 hS1 => by subst hw; exact k H1 locs1 ls hP1 hD1 hS1 hl)
theorem z_objInit {E : zE} {a idx : Nat} (X : zX g nL E cc own wd rm ret) (hlink : Cond.methodLink own idx objectInit ∈ wd) (hinst : Cond.instanceMethod objectInit ∈ wd) (hcode : Cond.code objectInit ⟨#[0xb1]⟩ 1 none ∈ wd) (hfr : 1 ≤ rm.frames) (hlo : 20 ≤ rm.locals) (hcat : (st.map fun v => v.category).sum ≤ 8) (d : decode cc pc = .ok (.invokespecial idx, 3)) (k : zG l g nL E ws L (pc + 3) st) : zG l g nL E ws L pc (.ref a :: st) := by
  intro H locs ls hP hD hS hl
  have hR : zR E = rm := X.2.2.2.2.2.2.2.2.1
  refine W.objInit (a := a) (rest := st) X.1 X.2.1 X.2.2.2.1 (X.2.2.2.2.1 _ hlink) (X.2.2.2.2.1 _ hinst) (X.2.2.2.2.1 _ hcode) rfl (hl.1.trans X.2.2.1.symm) rfl d (by rw [hR]; exact hfr) ?_ (k H locs ls hP hD hS hl)
  have h8 := lv_room (m := zm E) (pc := pc) (ls := ls) (rest := .ref a :: st) hcat
  rw [hR]
  omega
/-- behind a constructor: the rest, and what it made -/
theorem z_runN {wi wr : va_W} {post : va_W → Prop} {mc ms : Nat} {av : Array Value} {st0 rest : List Value} (X : zX g nL (P, S, M, (kk, nn)) cc own wd rm ret) (isC isR : List Nat) (hC : isC.map (fun i => ws[i]?) = wi.map some) (hR : isR.map (fun i => ws[i]?) = wr.map some) (hn : va_nd isR = true) (hdis : ∀ i ∈ isR, i ∉ isC)
    (hr : ∀ (H : Heap) (locs : List Loc) (ls : Array Slot), va_P g.1 vwCl ws H → va_D (zA (P, S, M, (kk, nn))) ws → va_S (zA (P, S, M, (kk, nn))) (zs (P, S, M, (kk, nn))).heap H locs → lv_has ls nL L → va_Run (zp (P, S, M, (kk, nn))) l (ze (P, S, M, (kk, nn))) (zR (P, S, M, (kk, nn))) (zs (P, S, M, (kk, nn))) (zm (P, S, M, (kk, nn))) (za (P, S, M, (kk, nn))) (zb (P, S, M, (kk, nn))) (zh (P, S, M, (kk, nn))) (zc (P, S, M, (kk, nn))) H locs kk nn mc ms (F0 (zm (P, S, M, (kk, nn))) pc ls st0) rest (zQn g wi post H.size av) (va_A wi H.size))
    (k : ∀ wo, post wo → zG l g nL (P, S, M, (kk + mc, nn + ms)) (wr ++ wo) L (pc + 3) rest) : zG l g nL (P, S, M, (kk, nn)) ws L pc st0 := by
  intro H locs ls hP hD hS hl T hT Sd
  obtain ⟨v', s0, t, T', L', h0, S', hL, e1, e2, ⟨hv, ⟨wo, hpo, hPo, hDo⟩, hF⟩, stp⟩ := hr H locs ls hP hD hS hl T hT Sd
  cases hv
  have fre := va_free hD hS X.2.2.2.2.2.2.1 isC hC
  have hz1 := hF.1
  have hz2 := hF.2
  rw [h0, ← e1] at hz1 hz2
  obtain ⟨hP2, hD2⟩ := va_join hP hD isC isR hC hR hn hdis (fun q h1 h2 => hz2 q h1 h2) fre (by rw [e1]; exact hPo) hDo
  obtain ⟨t2, a1, a2⟩ := k wo hpo T'.heap (locs ++ L') ls hP2 hD2 ⟨Nat.le_trans hS.1 hz1, fun q hq hnA => (hz2 q (Nat.lt_of_lt_of_le hq hS.1) (fun z => hnA (fre q z))).trans (hS.2.1 q hq hnA), fun q hq => by
      rcases List.mem_append.mp hq with h | h
      · exact hS.2.2 q h
      · exact fre _ (hL q h)⟩ hl T' rfl S'
  exact ⟨t2, stp t2 a1, a2⟩
theorem z_callI {wi wr : va_W} {post : va_W → Prop} {mc ms maxL index n b : Nat} {As rest st0 : List Value} {y : MethodName} {bytes : ByteArray} {wd' wd'' : List Cond} {rm' : Room} (X : zX g nL (P, S, M, (kk, nn)) cc own wd rm ret) (hM : zMn l g y wd' rm' (.ref b :: As) wi mc ms post) (hG : GoodIn wd wd') (hini : Cond.initialized y.cls ∈ wd) (hlk : Cond.methodLink own index y ∈ wd) (hinst : Cond.instanceMethod y ∈ wd) (hy1 : y.name = "<init>") (hw' : wd' = Cond.code y bytes maxL none :: wd'') (hrm : rm'.cells = mc ∧ rm'.slots = ms)
    (hd : y.cls ≠ "java/lang/invoke/MethodHandle" ∧ y.cls ≠ "java/lang/invoke/VarHandle" ∧ (parseMethodDescriptor y.desc).map (fun d => d.parameters.length) = some n) (hRr : rm'.frames + 1 ≤ rm.frames ∧ 8 + (maxL + 11) + rm'.locals ≤ rm.locals) (hroom : kk + mc ≤ rm.cells ∧ nn + ms ≤ rm.slots) (hN : zN3 S.1) (isC isR : List Nat) (hnC : va_nd isC = true) (hC : isC.map (fun i => ws[i]?) = wi.map some) (hR : isR.map (fun i => ws[i]?) = wr.map some) (hn : va_nd isR = true) (hdis : ∀ i ∈ isR, i ∉ isC)
    (hnl : As.length = n) (hst0 : st0 = As.reverse ++ .ref b :: rest) (hcat : (rest.map fun v => v.category).sum ≤ 8) (d : decode cc pc = .ok (.invokespecial index, 3)) (k : ∀ wo, post wo → zG l g nL (P, S, M, (kk + mc, nn + ms)) (wr ++ wo) L (pc + 3) rest) : zG l g nL (P, S, M, (kk, nn)) ws L pc st0 := by
  refine z_runN (av := (Value.ref b :: As).toArray) X isC isR hC hR hn hdis (fun H locs ls hP hD hS hl => ?_) k
  obtain ⟨hx, hb, hml, hown, hts, hK, hA, hlocks, hRm, hr⟩ := X
  obtain ⟨hPc, hDc⟩ := z_sub isC hnC hC hP hD
  exact va_runI (nL := nL) (As := As) (rest := rest) ⟨hx, hb, hml, hown, hts⟩ (hM H.size) (cwI n hts hG hw' hrm.1 hrm.2 (hts _ hini) (hts _ hlk) (hts _ hinst) hy1 hd (by rw [hRm]; exact hRr)) ⟨zPn.blind, fun U hU hW => ⟨rfl, by rw [hU], by rw [hU]; exact hPc, ⟨hK.warm hW, hN.warm hW⟩, hDc.weaken (fun _ _ _ _ => trivial)⟩⟩ rfl hnl hl.1 (g := F0 (zm (P, S, M, (kk, nn))) pc ls st0) hst0 (lv_room hcat) d (by rw [hRm]; exact hroom)
theorem z_callIN {wi wr : va_W} {post : va_W → Prop} {mc ms maxL index n b : Nat} {host : String} {As rest st0 : List Value} {y : MethodName} {bytes : ByteArray} {wd' wd'' : List Cond} {rm' : Room} (X : zX g nL (P, S, M, (kk, nn)) cc own wd rm ret) (hM : zMn l g y wd' rm' (.ref b :: As) wi mc ms post) (hG : GoodIn wd wd') (hini : Cond.initialized y.cls ∈ wd) (hj : (own, index, y, host) ∈ zNl3) (hinst : Cond.instanceMethod y ∈ wd) (hy1 : y.name = "<init>") (hw' : wd' = Cond.code y bytes maxL none :: wd'') (hrm : rm'.cells = mc ∧ rm'.slots = ms)
    (hd : y.cls ≠ "java/lang/invoke/MethodHandle" ∧ y.cls ≠ "java/lang/invoke/VarHandle" ∧ (parseMethodDescriptor y.desc).map (fun d => d.parameters.length) = some n) (hRr : rm'.frames + 1 ≤ rm.frames ∧ 8 + (maxL + 11) + rm'.locals ≤ rm.locals) (hroom : kk + mc ≤ rm.cells ∧ nn + ms ≤ rm.slots) (hN : zN3 S.1) (isC isR : List Nat) (hnC : va_nd isC = true) (hC : isC.map (fun i => ws[i]?) = wi.map some) (hR : isR.map (fun i => ws[i]?) = wr.map some) (hn : va_nd isR = true) (hdis : ∀ i ∈ isR, i ∉ isC)
    (hnl : As.length = n) (hst0 : st0 = As.reverse ++ .ref b :: rest) (hcat : (rest.map fun v => v.category).sum ≤ 8) (d : decode cc pc = .ok (.invokespecial index, 3)) (k : ∀ wo, post wo → zG l g nL (P, S, M, (kk + mc, nn + ms)) (wr ++ wo) L (pc + 3) rest) : zG l g nL (P, S, M, (kk, nn)) ws L pc st0 := by
  refine z_runN (av := (Value.ref b :: As).toArray) X isC isR hC hR hn hdis (fun H locs ls hP hD hS hl => ?_) k
  obtain ⟨hx, hb, hml, hown, hts, hK, hA, hlocks, hRm, hr⟩ := X
  obtain ⟨hPc, hDc⟩ := z_sub isC hnC hC hP hD
  exact va_runIN (nL := nL) (As := As) (rest := rest) ⟨hx, hb, hml, hown, hts⟩ (hM H.size) ⟨va_cnB n hts hG hw' hrm.1 hrm.2 (hN.1 (own, index, y, host) hj) (hts _ hini) hd (by rw [hRm]; exact hRr), hy1, hts _ hinst⟩ ⟨zPn.blind, fun U hU hW => ⟨rfl, by rw [hU], by rw [hU]; exact hPc, ⟨hK.warm hW, hN.warm hW⟩, hDc.weaken (fun _ _ _ _ => trivial)⟩⟩ rfl hnl hl.1 (g := F0 (zm (P, S, M, (kk, nn))) pc ls st0) hst0 (lv_room hcat) d (by rw [hRm]; exact hroom)
/-- the law's script -/
theorem z_sld {E : zE} {b Ln : Nat} {xs : Nat → Int32} (X : zX g nL E cc own wd rm ret) (hX : va_X b Ln xs (zs E) (zs E).heap) (hbl : b < (zs E).heap.size) (hbA : ¬ zA E b) {i : Nat} (hin : i < Ln) (hL : Ln < 2 ^ 31) (d : decode cc pc = .ok (.iaload, 1)) (k : zG l g nL E ws L (pc + 1) (.int (xs i) :: st)) : zG l g nL E ws L pc (.int (nI i) :: .ref b :: st) := fun H locs ls hP hD hS hl => va_sld X.1 X.2.1 hX hbl hbA hS (vp_in_nI hin hL) d (by rw [nI_clamp (Nat.lt_trans hin hL)]; exact k H locs ls hP hD hS hl)
theorem z_slen {E : zE} {b Ln : Nat} {xs : Nat → Int32} (X : zX g nL E cc own wd rm ret) (hX : va_X b Ln xs (zs E) (zs E).heap) (hbl : b < (zs E).heap.size) (hbA : ¬ zA E b) (d : decode cc pc = .ok (.arraylength, 1)) (k : zG l g nL E ws L (pc + 1) (.int (nI Ln) :: st)) : zG l g nL E ws L pc (.ref b :: st) := fun H locs ls hP hD hS hl => va_slen X.1 X.2.1 hX hbl hbA hS d (k H locs ls hP hD hS hl)
/-- a call over some of the cells: behind it the rest, then the callee's -/
theorem z_runJ {E : zE} {wi wo wr : va_W} {v : Option Value} {av : Array Value} {st0 st1 rest : List Value} (X : zX g nL E cc own wd rm ret) (isC isR : List Nat) (hC : isC.map (fun i => ws[i]?) = wi.map some) (hR : isR.map (fun i => ws[i]?) = wr.map some) (hn : va_nd isR = true) (hdis : ∀ i ∈ isR, i ∉ isC) (hO : wo.map (fun q => q.1) = wi.map (fun q => q.1)) (hnC : va_nd isC = true) (hst : v.toList ++ rest = st1)
    (hr : ∀ (H : Heap) (locs : List Loc) (ls : Array Slot), va_P g.1 vwCl ws H → va_D (zA E) ws → va_S (zA E) (zs E).heap H locs → lv_has ls nL L → va_Run (zp E) l (ze E) (zR E) (zs E) (zm E) (za E) (zb E) (zh E) (zc E) H locs (zk E) (zn E) 0 0 (F0 (zm E) pc ls st0) rest (zQc g wi wo v H.size av) (va_A wi H.size))
    (k : zG l g nL E (wr ++ wo) L (pc + 3) st1) : zG l g nL E ws L pc st0 := by
  intro H locs ls hP hD hS hl T hT Sd
  obtain ⟨v', s0, t, T', L', h0, S', hL, e1, e2, ⟨hv, hPo, hF⟩, stp⟩ := hr H locs ls hP hD hS hl T hT Sd
  cases hv
  have fre := va_free hD hS X.2.2.2.2.2.2.1 isC hC
  have hz1 := hF.1
  have hz2 := hF.2
  rw [h0, ← e1] at hz1 hz2
  have hDi := (hD.sub isC hnC hC).self (sz := H.size)
  have key : ∀ (k : Nat) (q : Nat × va_E), wo[k]? = some q → ∃ q0, wi[k]? = some q0 ∧ q0.1 = q.1 := by
    intro k q hq
    have e : (wi.map (fun q => q.1))[k]? = some q.1 := by rw [← hO, List.getElem?_map, hq]; rfl
    rw [List.getElem?_map] at e
    cases hw : wi[k]? with
    | none => rw [hw] at e; cases e
    | some q0 => rw [hw] at e; exact ⟨q0, rfl, Option.some.inj e⟩
  have hDo : va_D (va_A wi H.size) wo := ⟨fun i j x y hi hj hxy => by
    obtain ⟨x0, b1, b2⟩ := key i x hi
    obtain ⟨y0, c1, c2⟩ := key j y hj
    exact hDi.1 i j x0 y0 b1 c1 (b2.trans (hxy.trans c2.symm)), fun i x hi => by
    obtain ⟨x0, b1, b2⟩ := key i x hi
    rw [← b2]
    exact hDi.2 i x0 b1⟩
  obtain ⟨hP2, hD2⟩ := va_join hP hD isC isR hC hR hn hdis (fun q h1 h2 => hz2 q h1 h2) fre (by rw [e1]; exact hPo) hDo
  subst hst
  obtain ⟨t2, a1, a2⟩ := k T'.heap (locs ++ L') ls hP2 hD2 ⟨Nat.le_trans hS.1 hz1, fun q hq hnA => (hz2 q (Nat.lt_of_lt_of_le hq hS.1) (fun z => hnA (fre q z))).trans (hS.2.1 q hq hnA), fun q hq => by
      rcases List.mem_append.mp hq with h | h
      · exact hS.2.2 q h
      · exact fre _ (hL q h)⟩ hl T' rfl S'
  exact ⟨t2, stp t2 a1, a2⟩
theorem z_callJ {E : zE} {wi wo wr : va_W} {v : Option Value} {b ci N maxL index n : Nat} {C : String} {T : u_T} {fs : List Value} {As rest st0 st1 : List Value} {y : MethodName} {bytes : ByteArray} {ret' : Option FieldType} {wd' wd'' : List Cond} {rm' : Room}
    (X : zX g nL E cc own wd rm ret) (hM : zM l g y wd' rm' (.ref b :: As) wi v wo) (hG : GoodIn wd (wsV own index C y wd')) (hw' : wd' = Cond.code y bytes maxL ret' :: wd'') (hrm : rm'.cells = 0 ∧ rm'.slots = 0) (hd : y.cls = C ∧ y.cls ≠ "java/lang/invoke/MethodHandle" ∧ y.cls ≠ "java/lang/invoke/VarHandle" ∧ (parseMethodDescriptor y.desc).map (fun d => d.parameters.length) = some n) (hRr : rm'.frames + 1 ≤ rm.frames ∧ 8 + (maxL + 11) + rm'.locals ≤ rm.locals) (hroom : zk E ≤ rm.cells ∧ zn E ≤ rm.slots)
    (hc : vwCl[ci]? = some (C, T, N)) (q0 : Nat) (he : ws[q0]? = some (b, .inr (ci, fs))) (isC isR : List Nat) (hnC : va_nd isC = true) (hC : isC.map (fun i => ws[i]?) = wi.map some) (hR : isR.map (fun i => ws[i]?) = wr.map some) (hnR : va_nd isR = true) (hdis : ∀ i ∈ isR, i ∉ isC) (hO : wo.map (fun q => q.1) = wi.map (fun q => q.1))
    (hn : As.length = n) (hst0 : st0 = As.reverse ++ .ref b :: rest) (hst : v.toList ++ rest = st1) (hcat : (rest.map fun v => v.category).sum ≤ 8) (d : decode cc pc = .ok (.invokevirtual index, 3)) (k : zG l g nL E (wr ++ wo) L (pc + 3) st1) : zG l g nL E ws L pc st0 := by
  refine z_runJ (av := (Value.ref b :: As).toArray) (rest := rest) X isC isR hC hR hnR hdis hO hnC hst (fun H locs ls hP hD hS hl => ?_) k
  obtain ⟨hx, hb, hml, hown, hts, hK, hA, hlocks, hRm, hr⟩ := X
  obtain ⟨hPc, hDc⟩ := z_sub isC hnC hC hP hD
  exact va_runV (C := C) (nL := nL) (As := As) (rest := rest) ⟨hx, hb, hml, hown, hts⟩ (hM H.size) (cwV n hts hG hw' hrm.1 hrm.2 hd (by rw [hRm]; exact hRr)) ⟨zPc.blind, va_recv hK.1 hP hc he, fun U hU hW => ⟨rfl, by rw [hU], by rw [hU]; exact hPc, hK.warm hW, hDc.weaken (fun _ _ _ _ => trivial)⟩⟩ rfl hn hl.1 (g := F0 (zm E) pc ls st0) hst0 (lv_room hcat) d (by rw [hRm]; exact hroom)
end ZN
/-- a row of objects may be told by another function that agrees on it -/
theorem z_setq {l : Launch} {g : zg} {nL : Nat} {E : zE} {ws ws' : va_W} {L : List (Nat × Value)} {pc : Nat} {st : List Value} {a n : Nat} {f f' : Nat → Option Nat} (q0 : Nat) (ha : ws[q0]? = some (a, .inl (g.2.2.2, n, .inr (.inr (.inr (.inr f)))))) (hf : ∀ j, j < n → f j = f' j) (hw : ws.set q0 (a, .inl (g.2.2.2, n, .inr (.inr (.inr (.inr f'))))) = ws') (k : zG l g nL E ws' L pc st) : zG l g nL E ws L pc st := fun H locs ls hP hD hS hl => by
  subst hw
  have e : vp_cell g.2.2.2 (n, .inr (.inr (.inr (.inr f)))) = vp_cell g.2.2.2 (n, .inr (.inr (.inr (.inr f')))) := by
    rw [vp_cell_q, vp_cell_q]
    unfold arrV
    have e2 : (fun j : Fin n => va_rf (f j.val)) = fun j : Fin n => va_rf (f' j.val) := by funext j; rw [hf j.val j.isLt]
    rw [e2]
  refine k H locs ls (fun j q hq => ?_) (hD.set ha) hS hl
  by_cases hj : q0 = j
  · subst hj
    have hlt := (List.getElem?_eq_some_iff.mp ha).1
    rw [List.getElem?_set_self hlt] at hq
    cases hq
    show H[a]? = some _
    rw [← e]
    exact hP q0 _ ha
  · rw [List.getElem?_set_ne hj] at hq
    exact hP j q hq

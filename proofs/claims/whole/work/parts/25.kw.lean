/-! CONSTRUCTORS: the same, over a list of cells that grows (each cell at an address of its own) -/
abbrev PX : Type := Program → Env → State → MethodId → Array Value → List Frame → Method → Code → (Nat → Prop) → (State → Prop) → Prop
def PT_ : PX := fun _ _ _ _ _ _ _ _ _ _ => True
abbrev KE : Type := Launch × va_G × (Nat → ClassId)
def tk_ (cA : Nat → ClassId) : List (ClassId × FieldType) := [(cA 0, .int), (cA 1, .byte), (cA 2, .boolean)]
def NL_ (U : State) : Prop := ∀ a i x h, Cond.methodLinkNest a i x h ∈ tables_1 → va_Nw (.methodLinkNest a i x h) U
theorem NL_.moved {s U : State} (h : NL_ s) (hW : s.WarmedH U.vm) : NL_ U := fun a i x hh hm => va_Nw.warmM hW (h a i x hh hm)
def Ck_ (K : KE) (M : MI) (p : Program) (s : State) (m : MethodId) (args : Array Value) (meth : Method) (c : Code) (A : Nat → Prop) : Prop :=
  p.tables.exec = Jvm.exec ∧ c.code = M.2.1 ∧ c.maxLocals = M.2.2.1 ∧ s.vm.findClass M.1.cls = some m.cls ∧ (∀ w ∈ TB, w.before args s = true) ∧ va_K K.2.1 vwCl (tk_ K.2.2) s ∧ (∀ q, s.heap.size ≤ q → A q) ∧ NL_ s ∧ (M.1.name = "<init>" → meth.name = "<init>")
def KW_ (K : KE) (P : PX) (M : MI) (R : Room) (mc ms cells slots pc : Nat) (lv : List (Nat × Value)) (st : List Value) (ws : va_W) (Q : va_W → Prop) : Prop :=
  ∀ (p : Program) (e : Env) (s : State) (m : MethodId) (args : Array Value) (below : List Frame) (meth : Method) (c : Code) (A : Nat → Prop) (Qz : State → Prop), Ck_ K M p s m args meth c A → P p e s m args below meth c A Qz →
    (∀ (ws' : va_W) (H : Heap) (locs : List Loc) (pc' : Nat) (ls : Array Slot), Q ws' → decode M.2.1 pc' = .ok (.return_, 1) → va_P K.2.1 vwCl ws' H → va_D A ws' → va_S A s.heap H locs → W p K.1 e R s m args below meth c H locs mc ms Qz (F0 m pc' ls [])) →
    ∀ (H : Heap) (locs : List Loc) (ls : Array Slot), va_P K.2.1 vwCl ws H → va_D A ws → va_S A s.heap H locs → lv_has ls M.2.2.1 lv → W p K.1 e R s m args below meth c H locs cells slots Qz (F0 m pc ls st)
def rk_ (d mc ms : Nat) : Room := { frames := d, cells := mc, slots := ms, locals := 40 * d }
def kp_ (K : KE) (args : List Value) (ws : va_W) (sz : Nat) : Array Value → State → Prop := va_Pc args (fun U => U.heap.size = sz ∧ va_P K.2.1 vwCl ws U.heap ∧ va_K K.2.1 vwCl (tk_ K.2.2) U ∧ va_D (fun _ => True) ws ∧ NL_ U)
def kq_ (K : KE) (ws : va_W) (sz : Nat) (Q : va_W → Prop) : Array Value → State → Outcome → State → Prop := va_Qv Q (fun ws' t => va_P K.2.1 vwCl ws' t.heap ∧ va_D (va_A ws sz) ws') (va_A ws sz)
def KMet (K : KE) (M : MI) (d mc ms : Nat) (args : List Value) (ws : va_W) (Q : va_W → Prop) : Prop := ∀ sz : Nat, Met K.1 M.1 (mw_ M) (rk_ d mc ms) (kp_ K args ws sz) (kq_ K ws sz Q) mc ms (va_A ws sz)
theorem km_of {K : KE} {M : MI} {d mc ms : Nat} {args : List Value} {ws : va_W} {Q : va_W → Prop} (hy : plainName M.1.cls = true) (hr : M.2.2.2 = none) (hn : (lg_sl args).length ≤ M.2.2.1) (h : KW_ K PT_ M (rk_ d mc ms) mc ms 0 0 0 (lv_args 0 args) [] ws Q) : KMet K M d mc ms args ws Q := by
  intro sz
  refine Met.ofW (cc := M.2.1) (maxL := M.2.2.1) (ret := M.2.2.2) hy rfl ?_
  intro p e s m args' below meth c s₁ B hml hv
  obtain ⟨rfl, hsz, hP, hK, hD0, hN⟩ := hv
  subst hsz
  have hlocks := B.notSynchronized
  have hD := hD0.self (sz := s.heap.size)
  have C : Ck_ K M p s m args.toArray meth c (va_A ws s.heap.size) := ⟨B.exec, B.bytes, hml, findClass_of_methodNamed B.named, fun w h => atoms_spec (ws := mw_ M) B.pre w (List.mem_cons_of_mem _ h), hK, fun q h => Or.inr h, hN, fun hi => (name_of_methodNamed B.named B.method).1.trans hi⟩
  rw [lg_entry_eq]
  refine h p e s m args.toArray below meth c (va_A ws s.heap.size) _ C trivial ?_ s.heap [] _ hP hD va_S.rf (lv_entry args hn)
  intro ws' H locs pc' ls hq hd hP' hD' hS
  exact W.vret B.exec B.bytes (B.returns.trans hr) (fun t ht hW => ⟨⟨ws', rfl, hq, by rw [ht]; exact hP', hD'⟩, hS.F ht⟩) hS.2.2 hd
section KWROWS
variable {K : KE} {P : PX} {M : MI} {R : Room} {mc ms cells slots pc : Nat} {lv : List (Nat × Value)} {rest : List Value} {ws : va_W} {Q : va_W → Prop}
theorem kw_loc {lv' : List (Nat × Value)} {st : List Value} (ks : List Nat) (h : lv_pick lv ks = lv') (kk : KW_ K P M R mc ms cells slots pc lv' st ws Q) : KW_ K P M R mc ms cells slots pc lv st ws Q := fun p e s m args below meth c A Qz C hp hr H locs ls hP hD hS hl => kk p e s m args below meth c A Qz C hp hr H locs ls hP hD hS (lv_sub hl ks h)
theorem kw_ws {ws2 : va_W} {st : List Value} (h : ws = ws2) (kk : KW_ K P M R mc ms cells slots pc lv st ws2 Q) : KW_ K P M R mc ms cells slots pc lv st ws Q := by subst h; exact kk
theorem kw_pm {ws2 : va_W} {st : List Value} (is : List Nat) (hn : va_nd is = true) (h1 : is.filterMap (fun i => ws[i]?) = ws2) (h2 : is.map (fun i => ws[i]?) = ws2.map some) (kk : KW_ K P M R mc ms cells slots pc lv st ws2 Q) : KW_ K P M R mc ms cells slots pc lv st ws Q := fun p e s m args below meth c A Qz C hp hr H locs ls hP hD hS hl => kk p e s m args below meth c A Qz C hp hr H locs ls (hP.sub is h1) (hD.sub is hn h2) hS hl
theorem kw_iconst {n : Int} {v : Int32} (dg : decode M.2.1 pc = .ok (.iconst n, 1)) (hv : Int32.ofInt n = v) (kk : KW_ K P M R mc ms cells slots (pc + 1) lv (.int v :: rest) ws Q) : KW_ K P M R mc ms cells slots pc lv rest ws Q := fun p e s m args below meth c A Qz C hp hr H locs ls hP hD hS hl => lv_iconst C.1 C.2.1 dg hv (kk p e s m args below meth c A Qz C hp hr H locs ls hP hD hS hl)
theorem kw_bipush {n : Int} {v : Int32} (dg : decode M.2.1 pc = .ok (.bipush n, 2)) (hv : (Int8.ofInt n).toInt32 = v) (kk : KW_ K P M R mc ms cells slots (pc + 2) lv (.int v :: rest) ws Q) : KW_ K P M R mc ms cells slots pc lv rest ws Q := fun p e s m args below meth c A Qz C hp hr H locs ls hP hD hS hl => lv_bipush C.1 C.2.1 dg hv (kk p e s m args below meth c A Qz C hp hr H locs ls hP hD hS hl)
theorem kw_sipush {n : Int} {v : Int32} (dg : decode M.2.1 pc = .ok (.sipush n, 3)) (hv : (Int16.ofInt n).toInt32 = v) (kk : KW_ K P M R mc ms cells slots (pc + 3) lv (.int v :: rest) ws Q) : KW_ K P M R mc ms cells slots pc lv rest ws Q := fun p e s m args below meth c A Qz C hp hr H locs ls hP hD hS hl => lv_sipush C.1 C.2.1 dg hv (kk p e s m args below meth c A Qz C hp hr H locs ls hP hD hS hl)
theorem kw_aload_n {k : Fin 4} {i x : Nat} (dg : decode M.2.1 pc = .ok (.aload_n k, 1)) (hi : (k : Nat) = i) (q : Nat) (hq : lv[q]? = some (i, .ref x)) (kk : KW_ K P M R mc ms cells slots (pc + 1) lv (.ref x :: rest) ws Q) : KW_ K P M R mc ms cells slots pc lv rest ws Q := fun p e s m args below meth c A Qz C hp hr H locs ls hP hD hS hl => lv_aload_n C.1 C.2.1 dg hi (lv_at hl q hq) (kk p e s m args below meth c A Qz C hp hr H locs ls hP hD hS hl)
theorem kw_dup {va : Value} (dg : decode M.2.1 pc = .ok (.dup, 1)) (h1 : va.category = 1) (kk : KW_ K P M R mc ms cells slots (pc + 1) lv (va :: va :: rest) ws Q) : KW_ K P M R mc ms cells slots pc lv (va :: rest) ws Q := fun p e s m args below meth c A Qz C hp hr H locs ls hP hD hS hl => lv_dup C.1 C.2.1 dg h1 (kk p e s m args below meth c A Qz C hp hr H locs ls hP hD hS hl)
theorem kw_return (dg : decode M.2.1 pc = .ok (.return_, 1)) (hc : cells = mc) (hs : slots = ms) (hq : Q ws) : KW_ K P M R mc ms cells slots pc lv [] ws Q := by
  subst hc; subst hs
  exact fun p e s m args below meth c A Qz C hp hr H locs ls hP hD hS hl => hr ws H locs pc ls hq dg hP hD hS
theorem kw_obj {idx a : Nat} (dg : decode M.2.1 pc = .ok (.invokespecial idx, 3)) (hlk : Cond.methodLink M.1.cls idx Lib.objectInit ∈ TB) (hin : Cond.instanceMethod Lib.objectInit ∈ TB ∧ Cond.code Lib.objectInit ⟨#[0xb1]⟩ 1 none ∈ TB) (hd : 1 ≤ R.frames ∧ 40 ≤ R.locals) (hrest : rest = []) (kk : KW_ K P M R mc ms cells slots (pc + 3) lv rest ws Q) : KW_ K P M R mc ms cells slots pc lv (.ref a :: rest) ws Q := by
  subst hrest
  intro p e s m args below meth c A Qz C hp hr H locs ls hP hD hS hl
  exact W.objInit C.1 C.2.1 C.2.2.2.1 (C.2.2.2.2.1 _ hlk) (C.2.2.2.2.1 _ hin.1) (C.2.2.2.2.1 _ hin.2) rfl (by rw [C.2.2.1]; exact hl.1) rfl dg hd.1 (Nat.le_trans (Nat.le_of_ble_eq_true rfl) hd.2) (kk p e s m args below meth c A Qz C hp hr H locs ls hP hD hS hl)
theorem kw_new {idx ci N : Nat} {C0 : String} {T : u_T} {ty : Nat → FieldType} {fs : List Value} (dg : decode M.2.1 pc = .ok (.new idx, 3)) (hc : vwCl[ci]? = some (C0, T, N)) (hin : ∀ w ∈ u_ws C0 T N, w ∈ TB) (hty : ∀ k, k < N → parseFieldDescriptor (T k).2.2.1 = some (ty k)) (hcl : Cond.classLink M.1.cls idx C0 ∈ TB) (hinst : Cond.instantiable C0 N ∈ TB) (hini : Cond.initialized C0 ∈ TB) (hfs : ∀ j, j < N → defaultValue (ty j) = vp_V fs j) (hcs : cells + 1 ≤ R.cells ∧ slots + N ≤ R.slots) {c1 s1 : Nat} (hc1 : cells + 1 = c1) (hs1 : slots + N = s1)
    (kk : ∀ q : Nat, KW_ K P M R mc ms c1 s1 (pc + 3) lv (.ref q :: rest) (ws ++ [(q, .inr (ci, fs))]) Q) : KW_ K P M R mc ms cells slots pc lv rest ws Q := by
  subst hc1; subst hs1
  intro p e s m args below meth c A Qz C hp hr H locs ls hP hD hS hl
  exact va_new C.1 C.2.1 C.2.2.2.2.1 hin ty hty C.2.2.2.1 (C.2.2.2.2.1 _ hcl) (C.2.2.2.2.1 _ hinst) (C.2.2.2.2.1 _ hini) C.2.2.2.2.2.1 hP hD hS C.2.2.2.2.2.2.1 hc hfs hcs.1 hcs.2 dg (fun q H1 hP1 hD1 hS1 => kk q p e s m args below meth c A Qz C hp hr H1 locs ls hP1 hD1 hS1 hl)
theorem kw_newa {atype : ArrayType} {ty : FieldType} {t N : Nat} {n : Int32} (dg : decode M.2.1 pc = .ok (.newarray atype, 2)) (hty : newarray.typeOf atype = ty) (ht : (tk_ K.2.2)[t]? = some (K.2.2 t, ty)) (hprim : va_RA = va_RA → ∀ (U : State) (c : ClassId), va_RA U c ty = (U.vm.findClass ("[" ++ ty.toString) = some c)) (hdef : defaultValue ty = .int 0) (harr : Cond.arrayClass ty ∈ TB) (hn : ¬ n < 0) (hN : n.toNatClampNeg = N) (hbytes : N * componentBytes ty ≤ 536870912) (hcs : cells + 1 ≤ R.cells ∧ slots + N ≤ R.slots) {c1 s1 : Nat} (hc1 : cells + 1 = c1) (hs1 : slots + N = s1)
    (kk : ∀ q : Nat, KW_ K P M R mc ms c1 s1 (pc + 2) lv (.ref q :: rest) (ws ++ [(q, .inl (K.2.2 t, (N, .inl (fun _ => 0))))]) Q) : KW_ K P M R mc ms cells slots pc lv (.int n :: rest) ws Q := by
  subst hc1; subst hs1
  subst hty
  intro p e s m args below meth c A Qz C hp hr H locs ls hP hD hS hl
  refine va_newa (atype := atype) (ty := newarray.typeOf atype) (a0 := (N, .inl (fun _ => 0))) C.1 C.2.1 (C.2.2.2.2.1 _ harr) rfl C.2.2.2.2.2.1 hP hD hS C.2.2.2.2.2.2.1 (fun cA => by rw [vp_cell_i, hdef]) hn hN hbytes hcs.1 hcs.2 dg (fun q cA H1 hK1 hP1 hD1 hS1 => ?_)
  have h1 := (hK1.2 3 (cA, newarray.typeOf atype) rfl).2
  have h2 := (C.2.2.2.2.2.1.2 t _ ht).2
  rw [hprim rfl] at h1 h2
  have e1 : cA = K.2.2 t := Option.some.inj (h1.symm.trans h2)
  subst e1
  exact kk q p e s m args below meth c A Qz C hp hr H1 locs ls hP1 hD1 hS1 hl
theorem kw_getr {k ci j idx a q : Nat} {fs : List Value} (dg : decode M.2.1 pc = .ok (.getfield idx, 3)) (hF : FA_ M.1.cls idx ci j) (hk : ws[k]? = some (a, .inr (ci, fs))) (hf : fs[j]? = some (.ref q)) (hown : ∀ (C : String) (T : u_T) (N : Nat), vwCl[ci]? = some (C, T, N) → Cond.fieldLink M.1.cls idx (T j).1 (T j).2.1 (T j).2.2.1 ∈ TB) (kk : KW_ K P M R mc ms cells slots (pc + 3) lv (.ref q :: rest) ws Q) : KW_ K P M R mc ms cells slots pc lv (.ref a :: rest) ws Q := by
  intro p e s m args below meth c A Qz C hp hr H locs ls hP hD hS hl
  obtain ⟨Cn, T, N, hc, hin, hj, -⟩ := hF
  exact va_get C.1 C.2.1 C.2.2.2.2.1 hin C.2.2.2.1 C.2.2.2.2.2.1 hP k hk hc j hj (C.2.2.2.2.1 _ (hown Cn T N hc)) (fun _ h => h) hf dg (kk p e s m args below meth c A Qz C hp hr H locs ls hP hD hS hl)
/-- a field of an object under construction: final or not -/
def FK_ (own : String) (idx ci j : Nat) (ty : FieldType) : Prop := ∃ (C : String) (T : u_T) (N : Nat) (ty0 : Nat → FieldType), vwCl[ci]? = some (C, T, N) ∧ (∀ w ∈ u_ws C T N, w ∈ TB) ∧ j < N ∧ Cond.fieldLink own idx (T j).1 (T j).2.1 (T j).2.2.1 ∈ TB ∧ (∀ k, k < N → parseFieldDescriptor (T k).2.2.1 = some (ty0 k)) ∧ (∀ a, a < N → ∀ b, b < N → a ≠ b → (T a).2.1 ≠ (T b).2.1) ∧ (T j).1 = own ∧ parseFieldDescriptor (T j).2.2.1 = some ty
theorem kw_put {k ci j idx a : Nat} {fs : List Value} {ty : FieldType} {v : Value} (dg : decode M.2.1 pc = .ok (.putfield idx, 3)) (hF : FK_ M.1.cls idx ci j ty) (hname : M.1.name = "<init>") (hk : ws[k]? = some (a, .inr (ci, fs))) (hn : narrow ty v = v) (hft : fits ty v = true) (hlen : j < fs.length) {ws' : va_W} (hw : ws.set k (a, .inr (ci, fs.set j v)) = ws') (kk : KW_ K P M R mc ms cells slots (pc + 3) lv rest ws' Q) : KW_ K P M R mc ms cells slots pc lv (v :: .ref a :: rest) ws Q := by
  subst hw
  intro p e s m args below meth c A Qz C hp hr H locs ls hP hD hS hl
  obtain ⟨Cn, T, N, ty0, hc, hin, hj, hlk, hty, hnm, hdecl, hd⟩ := hF
  cases hfin : (T j).2.2.2 with
  | true => exact va_putF C.1 C.2.1 C.2.2.2.2.1 hin ty0 hty hnm C.2.2.2.1 C.2.2.2.2.2.1 hP hD hS k hk hc j hj (C.2.2.2.2.1 _ hlk) (fun _ h => h) hfin (C.2.2.2.2.2.2.2.2 hname) hdecl hd hn hft hlen dg (fun H1 locs1 hP1 hD1 hS1 => kk p e s m args below meth c A Qz C hp hr H1 locs1 ls hP1 hD1 hS1 hl)
  | false => exact va_put C.1 C.2.1 C.2.2.2.2.1 hin ty0 hty hnm C.2.2.2.1 C.2.2.2.2.2.1 hP hD hS k hk hc j hj (C.2.2.2.2.1 _ hlk) (fun _ h => h) hfin hd hn hft hlen dg (fun H1 locs1 hP1 hD1 hS1 => kk p e s m args below meth c A Qz C hp hr H1 locs1 ls hP1 hD1 hS1 hl)
theorem kw_iast {k n a : Nat} {f : Nat → Int32} {i x : Int32} (dg : decode M.2.1 pc = .ok (.iastore, 1)) (hk : ws[k]? = some (a, .inl (K.2.2 0, (n, .inl f)))) (hin : vp_in i n) {ws' : va_W} (hw : ws.set k (a, .inl (K.2.2 0, (n, .inl (upd f i.toNatClampNeg x)))) = ws') (kk : KW_ K P M R mc ms cells slots (pc + 1) lv rest ws' Q) : KW_ K P M R mc ms cells slots pc lv (.int x :: .int i :: .ref a :: rest) ws Q := by
  subst hw
  intro p e s m args below meth c A Qz C hp hr H locs ls hP hD hS hl
  exact va_iast (q0 := k) (t0 := 0) (cA := K.2.2 0) (n := n) (f := f) C.1 C.2.1 C.2.2.2.2.2.1 hP hD hS (ha := hk) (ht := rfl) hin dg (fun H1 locs1 hP1 hD1 hS1 => kk p e s m args below meth c A Qz C hp hr H1 locs1 ls hP1 hD1 hS1 hl)
theorem kw_iload_n {k : Fin 4} {i : Nat} {x : Int32} (dg : decode M.2.1 pc = .ok (.iload_n k, 1)) (hi : (k : Nat) = i) (q : Nat) (hq : lv[q]? = some (i, .int x)) (kk : KW_ K P M R mc ms cells slots (pc + 1) lv (.int x :: rest) ws Q) : KW_ K P M R mc ms cells slots pc lv rest ws Q := fun p e s m args below meth c A Qz C hp hr H locs ls hP hD hS hl => lv_iload_n C.1 C.2.1 dg hi (lv_at hl q hq) (kk p e s m args below meth c A Qz C hp hr H locs ls hP hD hS hl)
theorem kw_istore_n {k : Fin 4} {i : Nat} {x : Int32} {lv' : List (Nat × Value)} (dg : decode M.2.1 pc = .ok (.istore_n k, 1)) (hi : (k : Nat) = i) (hn : i < M.2.2.1) (hl' : (i, Value.int x) :: lv.filter (fun q => !(q.1 == i) && !(q.1 + 1 == i && q.2.category == 2)) = lv') (kk : KW_ K P M R mc ms cells slots (pc + 1) lv' rest ws Q) : KW_ K P M R mc ms cells slots pc lv (.int x :: rest) ws Q := fun p e s m args below meth c A Qz C hp hr H locs ls hP hD hS hl => lv_istore_n C.1 C.2.1 dg hi hl hn hl' (fun ls hl => kk p e s m args below meth c A Qz C hp hr H locs ls hP hD hS hl)
theorem kw_astore_n {k : Fin 4} {i x : Nat} {lv' : List (Nat × Value)} (dg : decode M.2.1 pc = .ok (.astore_n k, 1)) (hi : (k : Nat) = i) (hn : i < M.2.2.1) (hl' : (i, Value.ref x) :: lv.filter (fun q => !(q.1 == i) && !(q.1 + 1 == i && q.2.category == 2)) = lv') (kk : KW_ K P M R mc ms cells slots (pc + 1) lv' rest ws Q) : KW_ K P M R mc ms cells slots pc lv (.ref x :: rest) ws Q := fun p e s m args below meth c A Qz C hp hr H locs ls hP hD hS hl => lv_astore_n C.1 C.2.1 dg hi hl hn hl' (fun ls hl => kk p e s m args below meth c A Qz C hp hr H locs ls hP hD hS hl)
theorem kw_iinc {i k : Nat} {n : Int} {x v : Int32} {lv' : List (Nat × Value)} (dg : decode M.2.1 pc = .ok (.iinc i n, 3)) (hk : lv[k]? = some (i, .int x)) (hv : x + Int32.ofInt n = v) (hn : i < M.2.2.1) (hl' : (i, Value.int v) :: lv.filter (fun q => !(q.1 == i) && !(q.1 + 1 == i && q.2.category == 2)) = lv') (kk : KW_ K P M R mc ms cells slots (pc + 3) lv' rest ws Q) : KW_ K P M R mc ms cells slots pc lv rest ws Q := fun p e s m args below meth c A Qz C hp hr H locs ls hP hD hS hl => lv_iinc C.1 C.2.1 dg hl hk hv hn hl' (fun ls hl => kk p e s m args below meth c A Qz C hp hr H locs ls hP hD hS hl)
theorem kw_goto {off : Int} {tgt : Nat} (dg : decode M.2.1 pc = .ok (.goto off, 3)) (ht : (pc : Int) + off = (tgt : Int)) (kk : KW_ K P M R mc ms cells slots tgt lv rest ws Q) : KW_ K P M R mc ms cells slots pc lv rest ws Q := fun p e s m args below meth c A Qz C hp hr H locs ls hP hD hS hl => lv_goto C.1 C.2.1 dg ht (kk p e s m args below meth c A Qz C hp hr H locs ls hP hD hS hl)
theorem kw_icmp_ge {x y : Int32} {off : Int} {tgt : Nat} (dg : decode M.2.1 pc = .ok (.if_icmp .ge off, 3)) (ht : (pc : Int) + off = (tgt : Int)) (kt : y ≤ x → KW_ K P M R mc ms cells slots tgt lv rest ws Q) (kf : ¬ y ≤ x → KW_ K P M R mc ms cells slots (pc + 3) lv rest ws Q) : KW_ K P M R mc ms cells slots pc lv (.int y :: .int x :: rest) ws Q := fun p e s m args below meth c A Qz C hp hr H locs ls hP hD hS hl => lv_icmp_ge C.1 C.2.1 dg ht (fun h => kt h p e s m args below meth c A Qz C hp hr H locs ls hP hD hS hl) (fun h => kf h p e s m args below meth c A Qz C hp hr H locs ls hP hD hS hl)
theorem kw_alen {k n a : Nat} {f : Nat → Int32} (dg : decode M.2.1 pc = .ok (.arraylength, 1)) (hk : ws[k]? = some (a, .inl (K.2.2 0, (n, .inl f)))) (kk : KW_ K P M R mc ms cells slots (pc + 1) lv (.int (nI n) :: rest) ws Q) : KW_ K P M R mc ms cells slots pc lv (.ref a :: rest) ws Q := fun p e s m args below meth c A Qz C hp hr H locs ls hP hD hS hl => va_alen (q0 := k) (t0 := 0) (cA := K.2.2 0) (x := (n, .inl f)) (ty := .int) C.1 C.2.1 C.2.2.2.2.2.1 hP (ha := hk) (ht := rfl) rfl dg (kk p e s m args below meth c A Qz C hp hr H locs ls hP hD hS hl)
theorem kp_blind {av : List Value} {sz : Nat} : FrameBlind (kp_ K av ws sz) := by
  intro a U g mk ⟨h1, h2, h3, h4, h5, h6⟩
  exact ⟨h1, h2, h3, va_K.moved (u := U) (U := U.calling g mk a) (Vm.Alike.refl U.vm) h4, h5, h6.moved (U := U.calling g mk a) (State.WarmedH.refl U)⟩
def CI_ (M : MI) (n : Nat) : Prop := Cond.code M.1 M.2.1 M.2.2.1 M.2.2.2 ∈ TB ∧ Cond.initialized M.1.cls ∈ TB ∧ Cond.instanceMethod M.1 ∈ TB ∧ M.1.name = "<init>" ∧ M.1.cls ≠ "java/lang/invoke/MethodHandle" ∧ M.1.cls ≠ "java/lang/invoke/VarHandle" ∧ (parseMethodDescriptor M.1.desc).map (fun d => d.parameters.length) = some n ∧ M.2.2.1 ≤ 21 ∧ M.2.2.2 = none
theorem fm_of {is : List Nat} {wc : va_W} (h : is.map (fun i => ws[i]?) = wc.map some) : is.filterMap (fun i => ws[i]?) = wc := by
  have e : is.filterMap (fun i => ws[i]?) = (is.map (fun i => ws[i]?)).filterMap id := by rw [List.filterMap_map]; rfl
  rw [e, h, List.filterMap_map]
  show wc.filterMap (fun x => some x) = wc
  exact List.filterMap_some
theorem kw_callI {M2 : MI} {d n idx mc2 ms2 b : Nat} {Q2 : va_W → Prop} {As : List Value} {wc wr : va_W} (hM : KMet K M2 d mc2 ms2 (.ref b :: As) wc Q2) (dg : decode M.2.1 pc = .ok (.invokespecial idx, 3)) (hlk : Cond.methodLink M.1.cls idx M2.1 ∈ TB ∨ ∃ host, Cond.methodLinkNest M.1.cls idx M2.1 host ∈ tables_1) (hst : CI_ M2 n) (hn : As.length = n)
    (isC isR : List Nat) (hC : isC.map (fun i => ws[i]?) = wc.map some) (hR : isR.map (fun i => ws[i]?) = wr.map some) (hn1 : va_nd isC = true) (hn2 : va_nd isR = true) (hdis : ∀ i ∈ isR, i ∉ isC) (hd : d + 1 ≤ R.frames ∧ 40 * (d + 1) ≤ R.locals) (hcs : cells + mc2 ≤ R.cells ∧ slots + ms2 ≤ R.slots) (hrest : (rest.map fun v => v.category).sum ≤ 8) {c1 s1 : Nat} (hc1 : cells + mc2 = c1) (hs1 : slots + ms2 = s1)
    (kk : ∀ ws' : va_W, Q2 ws' → KW_ K P M R mc ms c1 s1 (pc + 3) lv rest (wr ++ ws') Q) : KW_ K P M R mc ms cells slots pc lv (As.reverse ++ .ref b :: rest) ws Q := by
  subst hc1; subst hs1
  obtain ⟨hcode, hini, hins, hnm, hy1, hy2, hpar, hmax, hret⟩ := hst
  rw [hret] at hcode
  intro p e s m args below meth c A Qz C hp hr H locs ls hP hD hS hl
  have hPc := hP.sub isC (fm_of hC)
  have hDc := hD.sub isC hn1 hC
  have hFc := va_free hD hS C.2.2.2.2.2.2.1 isC hC
  have hRm : (rk_ d mc2 ms2).frames + 1 ≤ R.frames ∧ 8 + (M2.2.2.1 + 11) + (rk_ d mc2 ms2).locals ≤ R.locals := ⟨hd.1, by show 8 + (M2.2.2.1 + 11) + 40 * d ≤ R.locals; omega⟩
  have hpre : PreS s H (kp_ K (.ref b :: As) wc H.size) (.ref b :: As) := ⟨kp_blind, fun U hU hW => ⟨rfl, by rw [hU], by rw [hU]; exact hPc, va_K.moved hW.alike C.2.2.2.2.2.1, hDc.weaken (fun _ _ _ _ => trivial), C.2.2.2.2.2.2.2.1.moved hW⟩⟩
  have hws : mw_ M2 = Cond.code M2.1 M2.2.1 M2.2.2.1 none :: TB := by unfold mw_; rw [hret]
  have hgood : GoodIn TB (mw_ M2) := tb_good (by rw [hret]; exact hcode)
  have hrun : va_Run p K.1 e R s m args below meth c H locs cells slots mc2 ms2 (F0 m pc ls (As.reverse ++ .ref b :: rest)) rest (kq_ K wc H.size Q2 (Value.ref b :: As).toArray) (va_A wc H.size) := by
    rcases hlk with hlk | ⟨host, hlk⟩
    · exact va_runI (Ts := TB) (own := M.1.cls) ⟨C.1, C.2.1, C.2.2.1, C.2.2.2.1, C.2.2.2.2.1⟩ (hM H.size) ⟨callB_of n C.2.2.2.2.1 hgood hws rfl rfl (C.2.2.2.2.1 _ hini) (C.2.2.2.2.1 _ hlk) ⟨hy1, hy2, hpar⟩ hRm, hnm, C.2.2.2.2.1 _ hins⟩ hpre rfl hn hl.1 rfl (lv_room hrest) dg hcs
    · exact va_runIN (Ts := TB) (own := M.1.cls) (host := host) ⟨C.1, C.2.1, C.2.2.1, C.2.2.2.1, C.2.2.2.2.1⟩ (hM H.size) ⟨va_cnB n C.2.2.2.2.1 hgood hws rfl rfl (C.2.2.2.2.2.2.2.1 _ _ _ _ hlk) (C.2.2.2.2.1 _ hini) ⟨hy1, hy2, hpar⟩ hRm, hnm, C.2.2.2.2.1 _ hins⟩ hpre rfl hn hl.1 rfl (lv_room hrest) dg hcs
  refine va_callv hrun hS (fun q _ h => hFc q h) hFc (fun ws' t H1 locs1 ht hvm hq hB hsz hk hS1 => ?_)
  obtain ⟨hP1, hD1⟩ := hB
  rw [ht] at hP1
  obtain ⟨hPj, hDj⟩ := va_join hP hD isC isR hC hR hn2 hdis hk hFc hP1 hD1
  exact kk ws' hq p e s m args below meth c A Qz C hp hr H1 locs1 ls hPj hDj hS1 hl
/-- a static call that changes one cell's contents -/
theorem kw_call1 {M2 : MI} {d n idx k a : Nat} {As : List Value} {e0 e1 : va_E} (hM : KMet K M2 d 0 0 As [(a, e0)] (fun ws' => ws' = [(a, e1)])) (dg : decode M.2.1 pc = .ok (.invokestatic idx, 3)) (hlk : Cond.methodLink M.1.cls idx M2.1 ∈ TB) (hst : CS_ M2 n) (hret : M2.2.2.2 = none) (hn : As.length = n) (hk : ws[k]? = some (a, e0)) (hd : d + 1 ≤ R.frames ∧ 40 * (d + 1) ≤ R.locals) (hcs : cells ≤ R.cells ∧ slots ≤ R.slots) (hrest : (rest.map fun v => v.category).sum ≤ 8)
    {ws' : va_W} (hw : ws.set k (a, e1) = ws') (kk : KW_ K P M R mc ms cells slots (pc + 3) lv rest ws' Q) : KW_ K P M R mc ms cells slots pc lv (As.reverse ++ rest) ws Q := by
  subst hw
  obtain ⟨hcode, hini, hsta, hy1, hy2, hpar, hmax⟩ := hst
  intro p e s m args below meth c A Qz C hp hr H locs ls hP hD hS hl
  have hPc : va_P K.2.1 vwCl [(a, e0)] H := fun i q hi => by
    have hz : i < 1 := (List.getElem?_eq_some_iff.mp hi).1
    rw [show i = 0 by omega] at hi
    cases hi
    exact hP k _ hk
  have hDc : va_D A [(a, e0)] := by
    refine ⟨fun i j x y hi hj _ => ?_, fun i q hi => ?_⟩
    · have h1 : i < 1 := (List.getElem?_eq_some_iff.mp hi).1
      have h2 : j < 1 := (List.getElem?_eq_some_iff.mp hj).1
      omega
    · have hz : i < 1 := (List.getElem?_eq_some_iff.mp hi).1
      rw [show i = 0 by omega] at hi
      cases hi
      exact hD.2 k _ hk
  have hFc : ∀ q, va_A [(a, e0)] H.size q → A q := va_free hD hS C.2.2.2.2.2.2.1 [k] (by simp [hk])
  have hRm : (rk_ d 0 0).frames + 1 ≤ R.frames ∧ 8 + (M2.2.2.1 + 11) + (rk_ d 0 0).locals ≤ R.locals := ⟨hd.1, by show 8 + (M2.2.2.1 + 11) + 40 * d ≤ R.locals; omega⟩
  have hpre : PreS s H (kp_ K As [(a, e0)] H.size) As := ⟨kp_blind, fun U hU hW => ⟨rfl, by rw [hU], by rw [hU]; exact hPc, va_K.moved hW.alike C.2.2.2.2.2.1, hDc.weaken (fun _ _ _ _ => trivial), C.2.2.2.2.2.2.2.1.moved hW⟩⟩
  have hrun : va_Run p K.1 e R s m args below meth c H locs cells slots 0 0 (F0 m pc ls (As.reverse ++ rest)) rest (kq_ K [(a, e0)] H.size (fun ws' => ws' = [(a, e1)]) As.toArray) (va_A [(a, e0)] H.size) :=
    va_runS (Ts := TB) (own := M.1.cls) ⟨C.1, C.2.1, C.2.2.1, C.2.2.2.1, C.2.2.2.2.1⟩ (hM H.size) ⟨callB_of n C.2.2.2.2.1 (tb_good hcode) rfl rfl rfl (C.2.2.2.2.1 _ hini) (C.2.2.2.2.1 _ hlk) ⟨hy1, hy2, hpar⟩ hRm, C.2.2.2.2.1 _ hsta⟩ hpre rfl hn hl.1 rfl (lv_room hrest) dg ⟨by simpa using hcs.1, by simpa using hcs.2⟩
  refine va_callv hrun hS (fun q _ h => hFc q h) hFc (fun w1 t H1 locs1 ht hvm hq hB hsz hkk hS1 => ?_)
  subst hq
  obtain ⟨hP1, -⟩ := hB
  rw [ht] at hP1
  have hlk2 := (List.getElem?_eq_some_iff.mp hk).1
  refine kk p e s m args below meth c A Qz C hp hr H1 locs1 ls ?_ (hD.set hk) hS1 hl
  intro i q hi
  by_cases hik : i = k
  · subst hik
    rw [List.getElem?_set_self hlk2] at hi
    cases hi
    exact hP1 0 _ rfl
  · rw [List.getElem?_set_ne (Ne.symm hik)] at hi
    have hat := hP i q hi
    refine hat.kept (hkk q.1 hat.lt ?_)
    rintro (⟨j, e2, hj⟩ | hj)
    · have hz : j < 1 := (List.getElem?_eq_some_iff.mp hj).1
      rw [show j = 0 by omega] at hj
      have e3 : (a, e0) = (q.1, e2) := Option.some.inj hj
      exact hik (hD.1 i k q (a, e0) hi hk (by rw [(Prod.mk.inj e3).1]))
    · exact absurd hat.lt (by omega)
end KWROWS
theorem rk_ok {d d' mc ms : Nat} (h : d' + 1 ≤ d) : d' + 1 ≤ (rk_ d mc ms).frames ∧ 40 * (d' + 1) ≤ (rk_ d mc ms).locals := ⟨h, by show 40 * (d' + 1) ≤ 40 * d; omega⟩
theorem rk_ok1 {d mc ms : Nat} (h : 1 ≤ d) : 1 ≤ (rk_ d mc ms).frames ∧ 40 ≤ (rk_ d mc ms).locals := ⟨h, by show 40 ≤ 40 * d; omega⟩
/-- Arrays.fill(int[], int) -/
def fl_ (n : Nat) (v : Int32) (f : Nat → Int32) : Nat → Int32 := fun j => if j < n then v else f j
theorem fl_up (n : Nat) (v : Int32) (f : Nat → Int32) : upd (fl_ n v f) n v = fl_ (n + 1) v f := by
  funext j
  unfold upd fl_
  by_cases h : j = n
  · rw [if_pos h, if_pos (by omega)]
  · rw [if_neg h]
    by_cases h2 : j < n
    · rw [if_pos h2, if_pos (by omega)]
    · rw [if_neg h2, if_neg (by omega)]
theorem k_fill_loop (K : KE) (a n : Nat) (v : Int32) (f : Nat → Int32) (hn : n < 2 ^ 31) : ∀ (k i : Nat), i + k = n → KW_ K PT_ mi_J7_fill_53178 (rk_ 1 0 0) 0 0 0 0 5 [(0, .ref a), (1, .int v), (2, .int (nI i)), (3, .int (nI n))] [] [(a, .inl (K.2.2 0, (n, .inl (fl_ i v f))))] (fun ws' => ws' = [(a, .inl (K.2.2 0, (n, .inl (fl_ n v f))))]) := by
  intro k
  induction k with
  | zero =>
    intro i hi
    have e : i = n := by omega
    subst e
    refine kw_iload_n dJ7_fill_53178_5 rfl 2 rfl ?_
    refine kw_iload_n dJ7_fill_53178_6 rfl 3 rfl ?_
    refine kw_icmp_ge (tgt := 20) dJ7_fill_53178_7 (by decide) (fun _ => ?_) (fun hc => absurd (Int32.le_refl _) hc)
    exact kw_return dJ7_fill_53178_20 rfl rfl rfl
  | succ k ih =>
    intro i hi
    refine kw_iload_n dJ7_fill_53178_5 rfl 2 rfl ?_
    refine kw_iload_n dJ7_fill_53178_6 rfl 3 rfl ?_
    refine kw_icmp_ge (tgt := 20) dJ7_fill_53178_7 (by decide) (fun hc => absurd hc (nI_ge (by omega) hn)) (fun _ => ?_)
    refine kw_aload_n dJ7_fill_53178_10 rfl 0 rfl ?_
    refine kw_iload_n dJ7_fill_53178_11 rfl 2 rfl ?_
    refine kw_iload_n dJ7_fill_53178_12 rfl 1 rfl ?_
    refine kw_iast (k := 0) (ws' := [(a, .inl (K.2.2 0, (n, .inl (fl_ (i + 1) v f))))]) dJ7_fill_53178_13 rfl (vp_in_nI (by omega) hn) (by rw [nI_clamp (by omega), fl_up]; rfl) ?_
    refine kw_iinc (k := 2) (v := nI (i + 1)) (lv' := [(2, .int (nI (i + 1))), (0, .ref a), (1, .int v), (3, .int (nI n))]) dJ7_fill_53178_14 rfl (nI_succ i).symm (by decide) rfl ?_
    refine kw_goto (tgt := 5) dJ7_fill_53178_17 (by decide) ?_
    exact kw_loc [1, 2, 0, 3] rfl (ih (i + 1) (by omega))
theorem k_fill (K : KE) (a n : Nat) (v : Int32) (f : Nat → Int32) (hn : n < 2 ^ 31) : KMet K mi_J7_fill_53178 1 0 0 [.ref a, .int v] [(a, .inl (K.2.2 0, (n, .inl f)))] (fun ws' => ws' = [(a, .inl (K.2.2 0, (n, .inl (fl_ n v f))))]) := by
  refine km_of (by decide) rfl (Nat.le_of_ble_eq_true rfl) ?_
  refine kw_loc (lv' := [(0, .ref a), (1, .int v)]) [0, 1] rfl ?_
  refine kw_iconst (v := (0 : Int32)) dJ7_fill_53178_0 (by decide) ?_
  refine kw_istore_n (lv' := [(2, .int 0), (0, .ref a), (1, .int v)]) dJ7_fill_53178_1 rfl (by decide) rfl ?_
  refine kw_aload_n dJ7_fill_53178_2 rfl 1 rfl ?_
  refine kw_alen (k := 0) dJ7_fill_53178_3 rfl ?_
  refine kw_istore_n (lv' := [(3, .int (nI n)), (2, .int 0), (0, .ref a), (1, .int v)]) dJ7_fill_53178_4 rfl (by decide) rfl ?_
  have h := k_fill_loop K a n v f hn n 0 (by omega)
  rw [nI_0] at h
  exact kw_loc [2, 3, 1, 0] rfl h

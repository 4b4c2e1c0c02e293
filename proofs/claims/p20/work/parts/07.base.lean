/-! ===== the base: what every contract of this claim says, its start, its ends, its calls ===== -/
abbrev AI : Type := Nat → Int32
abbrev AL : Type := Nat → Int64
def xIS : String := "java/lang/IllegalStateException"
def xIA : String := "java/lang/IllegalArgumentException"
def xIO : String := "java/lang/IndexOutOfBoundsException"
/-- what a method may change: the cells of L, and those that are made -/
def fr (L : Nat → Prop) (sz : Nat) : Nat → Prop := fun q => L q ∨ sz ≤ q
/-- the array classes -/
abbrev tysL (K : Nat → ClassId) : List (ClassId × FieldType) := [(K 0, .int), (K 1, .long), (K 2, .boolean), (K 3, .array .int)]
/-- the texts of the exceptions, by their places in the constant pool -/
def strL : List (Nat × String) := [(51, "there were 60 transactions"), (60, "the oldest age is 28 or more"), (235, "there never was such a transaction"), (241, "the transaction is not active"), (85, "stamps is not 1 to 20"), (88, "the oldest age would be 32 or more"), (250, "a stamp is not 0 to 63"), (252, "key is not 0 to 5"), (254, "value is not 0 to 9999"), (248, "writing is refused"), (145, "no slot is free"), (256, "page is not 0 to 3"), (191, "age is not 1 to 27"), (258, "slot is not 0 to 7")]
def dcL : List String := ["java/lang/RuntimeException", "java/lang/Exception", "java/lang/Throwable"]
/-- what of the tables and of the JDK's statics every method is handed on -/
def ev (D : va_G) (K : Nat → ClassId) (A : Nat → Prop) (U : State) : Prop :=
  va_K D vwCl (tysL K) U ∧ va_Nw (.methodLinkNest RX3 53 yX4_distance RX4) U ∧ vx_Zq Bundle.tN "UNASSIGNED_STACK" Bundle.steD A U U.heap ∧ vx_Zq Bundle.tN "SUPPRESSED_SENTINEL" Bundle.listD A U U.heap ∧ (∀ q ∈ strL, ∃ sa, vk_R RX4 q.1 q.2 sa U) ∧ (∀ X ∈ [xIS, xIA, xIO], va_Nw (.castable X X) U) ∧ (∀ Y ∈ dcL, va_Nw (.declares (Bundle.initS Y)) U)
theorem ev.same {D : va_G} {K : Nat → ClassId} {A : Nat → Prop} {u U : State} (hv : u.vm = U.vm) (hh : u.heap = U.heap) (h : ev D K A u) : ev D K A U := by
  obtain ⟨h1, h2, h3, h4, h5, h6, h7⟩ := h
  have ha : u.vm.Alike U.vm := hv ▸ Vm.Alike.refl u.vm
  exact ⟨va_K.moved ha h1, va_Nw.same rfl hv h2, hh ▸ vx_Zq.moved ha h3, hh ▸ vx_Zq.moved ha h4, fun q hq => by obtain ⟨sa, h⟩ := h5 q hq; exact ⟨sa, vk_R.same hv.symm h⟩, fun X hX => va_Nw.same rfl hv (h6 X hX), fun Y hY => va_Nw.same rfl hv (h7 Y hY)⟩
theorem ev.call {D : va_G} {K : Nat → ClassId} {A A' : Nat → Prop} {s U : State} {H : Heap} {locs : List Loc} (h : ev D K A s) (hS : va_S A s.heap H locs) (hU : U.heap = H) (hW : s.WarmedH U.vm) (hA : ∀ q, A' q → A q) : ev D K A' U := by
  obtain ⟨h1, h2, h3, h4, h5, h6, h7⟩ := h
  subst hU
  exact ⟨va_K.moved hW.alike h1, va_Nw.warmM hW h2, ((vx_Zq.moved hW.alike h3).kept (fun a ha hn => hS.2.1 a ha hn)).narrow hA, ((vx_Zq.moved hW.alike h4).kept (fun a ha hn => hS.2.1 a ha hn)).narrow hA, fun q hq => by obtain ⟨sa, h⟩ := h5 q hq; exact ⟨sa, vk_R.warm hW h⟩, fun X hX => va_Nw.warmC hW (h6 X hX), fun Y hY => va_Nw.warmD hW (h7 Y hY)⟩
/-- a contract's start -/
def pre (D : va_G) (K : Nat → ClassId) (L : Nat → Prop) (w : va_W) (sz : Nat) (U : State) : Prop := U.heap.size = sz ∧ ev D K (fr L sz) U ∧ va_P D vwCl w U.heap
theorem pre_blind {D : va_G} {K : Nat → ClassId} {L : Nat → Prop} {w : va_W} {sz : Nat} {av : List Value} : FrameBlind (va_Pc av (pre D K L w sz)) := by
  intro a U g mk q
  obtain ⟨q0, q1, q2, q3⟩ := q
  exact ⟨q0, q1, ev.same (u := U) (U := U.calling g mk a) rfl rfl q2, q3⟩
/-- contracts: on the world w the method returns r (or nothing) and leaves the world w' -/
def CI (l : Launch) (y : MethodName) (ws : List Cond) (rm : Room) (D : va_G) (K : Nat → ClassId) (L : Nat → Prop) (args : List Value) (w w' : va_W) (r : Int32) : Prop :=
  ∀ sz, Met l y ws rm (va_Pc args (pre D K L w sz)) (va_Qi (fun x (_ : Unit) => x = r) (fun _ t => va_P D vwCl w' t.heap) (fr L sz)) rm.cells rm.slots (fr L sz)
def CL (l : Launch) (y : MethodName) (ws : List Cond) (rm : Room) (D : va_G) (K : Nat → ClassId) (L : Nat → Prop) (args : List Value) (w w' : va_W) (r : Int64) : Prop :=
  ∀ sz, Met l y ws rm (va_Pc args (pre D K L w sz)) (va_Ql (fun x (_ : Unit) => x = r) (fun _ t => va_P D vwCl w' t.heap) (fr L sz)) rm.cells rm.slots (fr L sz)
def CF (l : Launch) (y : MethodName) (ws : List Cond) (rm : Room) (D : va_G) (K : Nat → ClassId) (L : Nat → Prop) (args : List Value) (w w' : va_W) (r : UInt32) : Prop :=
  ∀ sz, Met l y ws rm (va_Pc args (pre D K L w sz)) (va_Qf (fun x (_ : Unit) => x = r) (fun _ t => va_P D vwCl w' t.heap) (fr L sz)) rm.cells rm.slots (fr L sz)
def CV (l : Launch) (y : MethodName) (ws : List Cond) (rm : Room) (D : va_G) (K : Nat → ClassId) (L : Nat → Prop) (args : List Value) (w w' : va_W) : Prop :=
  ∀ sz, Met l y ws rm (va_Pc args (pre D K L w sz)) (va_Qv (fun (_ : Unit) => True) (fun _ t => va_P D vwCl w' t.heap) (fr L sz)) rm.cells rm.slots (fr L sz)
/-- what a method that may throw leaves behind a throw: E says which exception, the world is as it was -/
def xc (D : va_G) (w : va_W) (A : Nat → Prop) (E : Option String) : String → State → State → Prop := vx_X (fun (_ : Unit) => True) (fun X _ t => E = some X ∧ va_P D vwCl w t.heap) A
def XI (l : Launch) (y : MethodName) (ws : List Cond) (rm : Room) (D : va_G) (K : Nat → ClassId) (L : Nat → Prop) (args : List Value) (w w' : va_W) (E : Option String) (r : Int32) : Prop :=
  ∀ sz, vx_Met l y ws rm (va_Pc args (pre D K L w sz)) (va_Qi (fun x (_ : Unit) => E = none ∧ x = r) (fun _ t => va_P D vwCl w' t.heap) (fr L sz)) (xc D w (fr L sz) E) rm.cells rm.slots (fr L sz)
def XF (l : Launch) (y : MethodName) (ws : List Cond) (rm : Room) (D : va_G) (K : Nat → ClassId) (L : Nat → Prop) (args : List Value) (w w' : va_W) (E : Option String) (r : UInt32) : Prop :=
  ∀ sz, vx_Met l y ws rm (va_Pc args (pre D K L w sz)) (va_Qf (fun x (_ : Unit) => E = none ∧ x = r) (fun _ t => va_P D vwCl w' t.heap) (fr L sz)) (xc D w (fr L sz) E) rm.cells rm.slots (fr L sz)
def XV (l : Launch) (y : MethodName) (ws : List Cond) (rm : Room) (D : va_G) (K : Nat → ClassId) (L : Nat → Prop) (args : List Value) (w w' : va_W) (E : Option String) : Prop :=
  ∀ sz, vx_Met l y ws rm (va_Pc args (pre D K L w sz)) (va_Qv (fun (_ : Unit) => E = none) (fun _ t => va_P D vwCl w' t.heap) (fr L sz)) (xc D w (fr L sz) E) rm.cells rm.slots (fr L sz)
/-- what a body has at its entry -/
def en (l : Launch) (p : Program) (s : State) (m : MethodId) (meth : Method) (c : Code) (y : MethodName) (ws : List Cond) (cc : ByteArray) (maxL : Nat) (ret : Option FieldType) (args : List Value) (D : va_G) (K : Nat → ClassId) (A : Nat → Prop) (ls : Array Slot) : Prop :=
  p.tables.exec = Jvm.exec ∧ c.code = cc ∧ meth.sig.returnType = ret ∧ (∀ w ∈ ws, w.before args.toArray s = true) ∧ s.vm.findClass y.cls = some m.cls ∧ meth.locks = false ∧ c.maxLocals = maxL ∧ meth.name = y.name ∧ ev D K A s ∧ lv_has ls maxL (lv_args 0 args)
theorem met_of {l : Launch} {y : MethodName} {ws ws' : List Cond} {rm : Room} {D : va_G} {K : Nat → ClassId} {L : Nat → Prop} {args : List Value} {w : va_W} {sz : Nat} {Qc : Array Value → State → Outcome → State → Prop} {cc : ByteArray} {maxL : Nat} {ret : Option FieldType} (hy : plainName y.cls = true) (hw : ws = .code y cc maxL ret :: ws') (hn : (lg_sl args).length ≤ maxL)
    (body : ∀ p e s m below meth c ls, s.heap.size = sz → en l p s m meth c y ws cc maxL ret args D K (fr L s.heap.size) ls → va_P D vwCl w s.heap → W p l e rm s m args.toArray below meth c s.heap [] 0 0 (MQ below Qc args.toArray s rm.cells rm.slots (fr L s.heap.size)) (F0 m 0 ls [])) : Met l y ws rm (va_Pc args (pre D K L w sz)) Qc rm.cells rm.slots (fr L sz) := by
  refine Met.ofW (cc := cc) (maxL := maxL) (ret := ret) hy hw ?_
  intro p e s m a below meth c s₁ B hml hv
  obtain ⟨rfl, hsz, hE, hP⟩ := hv
  subst hsz
  have hl := lv_entry args (n := maxL) hn
  rw [lg_entry_eq]
  exact body p e s m below meth c _ rfl ⟨B.exec, B.bytes, B.returns, atoms_spec (ws := ws) B.pre, findClass_of_methodNamed B.named, B.notSynchronized, hml, (name_of_methodNamed B.named B.method).1, hE, hl⟩ hP
theorem CI.of {l : Launch} {y : MethodName} {ws ws' : List Cond} {rm : Room} {D : va_G} {K : Nat → ClassId} {L : Nat → Prop} {args : List Value} {w w' : va_W} {r : Int32} {cc : ByteArray} {maxL : Nat} {ret : Option FieldType} (hy : plainName y.cls = true) (hw : ws = .code y cc maxL ret :: ws') (hn : (lg_sl args).length ≤ maxL)
    (body : ∀ p e s m below meth c ls, en l p s m meth c y ws cc maxL ret args D K (fr L s.heap.size) ls → va_P D vwCl w s.heap → W p l e rm s m args.toArray below meth c s.heap [] 0 0 (MQ below (va_Qi (fun x (_ : Unit) => x = r) (fun _ t => va_P D vwCl w' t.heap) (fr L s.heap.size)) args.toArray s rm.cells rm.slots (fr L s.heap.size)) (F0 m 0 ls [])) : CI l y ws rm D K L args w w' r := by
  intro sz
  refine met_of hy hw hn ?_
  intro p e s m below meth c ls hsz hen hP
  subst hsz
  exact body p e s m below meth c ls hen hP
theorem CL.of {l : Launch} {y : MethodName} {ws ws' : List Cond} {rm : Room} {D : va_G} {K : Nat → ClassId} {L : Nat → Prop} {args : List Value} {w w' : va_W} {r : Int64} {cc : ByteArray} {maxL : Nat} {ret : Option FieldType} (hy : plainName y.cls = true) (hw : ws = .code y cc maxL ret :: ws') (hn : (lg_sl args).length ≤ maxL)
    (body : ∀ p e s m below meth c ls, en l p s m meth c y ws cc maxL ret args D K (fr L s.heap.size) ls → va_P D vwCl w s.heap → W p l e rm s m args.toArray below meth c s.heap [] 0 0 (MQ below (va_Ql (fun x (_ : Unit) => x = r) (fun _ t => va_P D vwCl w' t.heap) (fr L s.heap.size)) args.toArray s rm.cells rm.slots (fr L s.heap.size)) (F0 m 0 ls [])) : CL l y ws rm D K L args w w' r := by
  intro sz
  refine met_of hy hw hn ?_
  intro p e s m below meth c ls hsz hen hP
  subst hsz
  exact body p e s m below meth c ls hen hP
theorem CF.of {l : Launch} {y : MethodName} {ws ws' : List Cond} {rm : Room} {D : va_G} {K : Nat → ClassId} {L : Nat → Prop} {args : List Value} {w w' : va_W} {r : UInt32} {cc : ByteArray} {maxL : Nat} {ret : Option FieldType} (hy : plainName y.cls = true) (hw : ws = .code y cc maxL ret :: ws') (hn : (lg_sl args).length ≤ maxL)
    (body : ∀ p e s m below meth c ls, en l p s m meth c y ws cc maxL ret args D K (fr L s.heap.size) ls → va_P D vwCl w s.heap → W p l e rm s m args.toArray below meth c s.heap [] 0 0 (MQ below (va_Qf (fun x (_ : Unit) => x = r) (fun _ t => va_P D vwCl w' t.heap) (fr L s.heap.size)) args.toArray s rm.cells rm.slots (fr L s.heap.size)) (F0 m 0 ls [])) : CF l y ws rm D K L args w w' r := by
  intro sz
  refine met_of hy hw hn ?_
  intro p e s m below meth c ls hsz hen hP
  subst hsz
  exact body p e s m below meth c ls hen hP
theorem CV.of {l : Launch} {y : MethodName} {ws ws' : List Cond} {rm : Room} {D : va_G} {K : Nat → ClassId} {L : Nat → Prop} {args : List Value} {w w' : va_W} {cc : ByteArray} {maxL : Nat} {ret : Option FieldType} (hy : plainName y.cls = true) (hw : ws = .code y cc maxL ret :: ws') (hn : (lg_sl args).length ≤ maxL)
    (body : ∀ p e s m below meth c ls, en l p s m meth c y ws cc maxL ret args D K (fr L s.heap.size) ls → va_P D vwCl w s.heap → W p l e rm s m args.toArray below meth c s.heap [] 0 0 (MQ below (va_Qv (fun (_ : Unit) => True) (fun _ t => va_P D vwCl w' t.heap) (fr L s.heap.size)) args.toArray s rm.cells rm.slots (fr L s.heap.size)) (F0 m 0 ls [])) : CV l y ws rm D K L args w w' := by
  intro sz
  refine met_of hy hw hn ?_
  intro p e s m below meth c ls hsz hen hP
  subst hsz
  exact body p e s m below meth c ls hen hP
theorem vmet_of {l : Launch} {y : MethodName} {ws ws' : List Cond} {rm : Room} {D : va_G} {K : Nat → ClassId} {L : Nat → Prop} {args : List Value} {w : va_W} {sz : Nat} {Qc : Array Value → State → Outcome → State → Prop} {XC : String → State → State → Prop} {cc : ByteArray} {maxL : Nat} {ret : Option FieldType} (hy : plainName y.cls = true) (hw : ws = .code y cc maxL ret :: ws') (hn : (lg_sl args).length ≤ maxL)
    (body : ∀ p e s m below meth c ls, s.heap.size = sz → en l p s m meth c y ws cc maxL ret args D K (fr L s.heap.size) ls → (∀ x ∈ c.exceptionTable.toList, False) → va_P D vwCl w s.heap → W p l e rm s m args.toArray below meth c s.heap [] 0 0 (vx_MQ below Qc XC args.toArray s rm.cells rm.slots (fr L s.heap.size)) (F0 m 0 ls [])) : vx_Met l y ws rm (va_Pc args (pre D K L w sz)) Qc XC rm.cells rm.slots (fr L sz) := by
  refine vx_ofW (cc := cc) (maxL := maxL) (ret := ret) hy hw ?_
  intro p e s m a below meth c s₁ B hml hxt hv
  obtain ⟨rfl, hsz, hE, hP⟩ := hv
  subst hsz
  have hl := lv_entry args (n := maxL) hn
  rw [lg_entry_eq]
  exact body p e s m below meth c _ rfl ⟨B.exec, B.bytes, B.returns, atoms_spec (ws := ws) B.pre, findClass_of_methodNamed B.named, B.notSynchronized, hml, (name_of_methodNamed B.named B.method).1, hE, hl⟩ hxt hP
theorem XI.of {l : Launch} {y : MethodName} {ws ws' : List Cond} {rm : Room} {D : va_G} {K : Nat → ClassId} {L : Nat → Prop} {args : List Value} {w w' : va_W} {E : Option String} {r : Int32} {cc : ByteArray} {maxL : Nat} {ret : Option FieldType} (hy : plainName y.cls = true) (hw : ws = .code y cc maxL ret :: ws') (hn : (lg_sl args).length ≤ maxL)
    (body : ∀ p e s m below meth c ls, en l p s m meth c y ws cc maxL ret args D K (fr L s.heap.size) ls → (∀ x ∈ c.exceptionTable.toList, False) → va_P D vwCl w s.heap → W p l e rm s m args.toArray below meth c s.heap [] 0 0 (vx_MQ below (va_Qi (fun x (_ : Unit) => E = none ∧ x = r) (fun _ t => va_P D vwCl w' t.heap) (fr L s.heap.size)) (xc D w (fr L s.heap.size) E) args.toArray s rm.cells rm.slots (fr L s.heap.size)) (F0 m 0 ls [])) : XI l y ws rm D K L args w w' E r := by
  intro sz
  refine vmet_of hy hw hn ?_
  intro p e s m below meth c ls hsz hen hxt hP
  subst hsz
  exact body p e s m below meth c ls hen hxt hP
theorem XF.of {l : Launch} {y : MethodName} {ws ws' : List Cond} {rm : Room} {D : va_G} {K : Nat → ClassId} {L : Nat → Prop} {args : List Value} {w w' : va_W} {E : Option String} {r : UInt32} {cc : ByteArray} {maxL : Nat} {ret : Option FieldType} (hy : plainName y.cls = true) (hw : ws = .code y cc maxL ret :: ws') (hn : (lg_sl args).length ≤ maxL)
    (body : ∀ p e s m below meth c ls, en l p s m meth c y ws cc maxL ret args D K (fr L s.heap.size) ls → (∀ x ∈ c.exceptionTable.toList, False) → va_P D vwCl w s.heap → W p l e rm s m args.toArray below meth c s.heap [] 0 0 (vx_MQ below (va_Qf (fun x (_ : Unit) => E = none ∧ x = r) (fun _ t => va_P D vwCl w' t.heap) (fr L s.heap.size)) (xc D w (fr L s.heap.size) E) args.toArray s rm.cells rm.slots (fr L s.heap.size)) (F0 m 0 ls [])) : XF l y ws rm D K L args w w' E r := by
  intro sz
  refine vmet_of hy hw hn ?_
  intro p e s m below meth c ls hsz hen hxt hP
  subst hsz
  exact body p e s m below meth c ls hen hxt hP
theorem XV.of {l : Launch} {y : MethodName} {ws ws' : List Cond} {rm : Room} {D : va_G} {K : Nat → ClassId} {L : Nat → Prop} {args : List Value} {w w' : va_W} {E : Option String} {cc : ByteArray} {maxL : Nat} {ret : Option FieldType} (hy : plainName y.cls = true) (hw : ws = .code y cc maxL ret :: ws') (hn : (lg_sl args).length ≤ maxL)
    (body : ∀ p e s m below meth c ls, en l p s m meth c y ws cc maxL ret args D K (fr L s.heap.size) ls → (∀ x ∈ c.exceptionTable.toList, False) → va_P D vwCl w s.heap → W p l e rm s m args.toArray below meth c s.heap [] 0 0 (vx_MQ below (va_Qv (fun (_ : Unit) => E = none) (fun _ t => va_P D vwCl w' t.heap) (fr L s.heap.size)) (xc D w (fr L s.heap.size) E) args.toArray s rm.cells rm.slots (fr L s.heap.size)) (F0 m 0 ls [])) : XV l y ws rm D K L args w w' E := by
  intro sz
  refine vmet_of hy hw hn ?_
  intro p e s m below meth c ls hsz hen hxt hP
  subst hsz
  exact body p e s m below meth c ls hen hxt hP
theorem pw {D : va_G} {w : va_W} {t : State} {H : Heap} (h : t.heap = H) (hP : va_P D vwCl w H) : va_P D vwCl w t.heap := by rw [h]; exact hP
section ENDS
variable {p : Program} {l : Launch} {e : Env} {R : Room} {s : State} {m : MethodId} {args : Array Value} {below : List Frame} {meth : Method} {c : Code} {H : Heap} {locs : List Loc} {cells slots : Nat}
variable {cc : ByteArray} {pc : Nat} {ls : Array Slot} {D : va_G} {w w' : va_W} {A : Nat → Prop} {mc ms : Nat} {E : Option String}
/-! the ends -/
theorem ei {v r : Int32} (hx : p.tables.exec = Jvm.exec) (hb : c.code = cc) (hr : meth.sig.returnType = some .int) (hlk : meth.locks = false) (hS : va_S A s.heap H locs) (hP : va_P D vwCl w H) (hw : w = w') (hv : v = r) (hc : cells ≤ mc) (hs : slots ≤ ms) (hd : decode cc pc = .ok (.ireturn, 1)) :
    W p l e R s m args below meth c H locs cells slots (MQ below (va_Qi (fun x (_ : Unit) => x = r) (fun _ t => va_P D vwCl w' t.heap) A) args s mc ms A) (F0 m pc ls [.int v]) := by
  subst hw
  refine W.widen hc hs ?_
  exact W.iret (v := v) hx hb hr (fun t ht hW => ⟨⟨v, (), rfl, hv, pw ht hP⟩, hS.F ht⟩) hS.2.2 hd hlk
theorem ez {v r : Int32} (hx : p.tables.exec = Jvm.exec) (hb : c.code = cc) (hr : meth.sig.returnType = some .boolean) (hlk : meth.locks = false) (hS : va_S A s.heap H locs) (hP : va_P D vwCl w H) (hw : w = w') (hv : v = r) (hn : narrow .boolean (.int v) = .int v) (hc : cells ≤ mc) (hs : slots ≤ ms) (hd : decode cc pc = .ok (.ireturn, 1)) :
    W p l e R s m args below meth c H locs cells slots (MQ below (va_Qi (fun x (_ : Unit) => x = r) (fun _ t => va_P D vwCl w' t.heap) A) args s mc ms A) (F0 m pc ls [.int v]) := by
  subst hw
  refine W.widen hc hs ?_
  exact W.zret (v := v) (ty := .boolean) hx hb hr hn (fun t ht hW => ⟨⟨v, (), rfl, hv, pw ht hP⟩, hS.F ht⟩) hS.2.2 hd hlk
theorem el {v r : Int64} (hx : p.tables.exec = Jvm.exec) (hb : c.code = cc) (hr : meth.sig.returnType = some .long) (hlk : meth.locks = false) (hS : va_S A s.heap H locs) (hP : va_P D vwCl w H) (hw : w = w') (hv : v = r) (hc : cells ≤ mc) (hs : slots ≤ ms) (hd : decode cc pc = .ok (.lreturn, 1)) :
    W p l e R s m args below meth c H locs cells slots (MQ below (va_Ql (fun x (_ : Unit) => x = r) (fun _ t => va_P D vwCl w' t.heap) A) args s mc ms A) (F0 m pc ls [.long v]) := by
  subst hw
  refine W.widen hc hs ?_
  exact W.lret (v := v) hx hb hr (fun t ht hW => ⟨⟨v, (), rfl, hv, pw ht hP⟩, hS.F ht⟩) hS.2.2 hd hlk
theorem ef {v r : UInt32} (hx : p.tables.exec = Jvm.exec) (hb : c.code = cc) (hr : meth.sig.returnType = some .float) (hlk : meth.locks = false) (hS : va_S A s.heap H locs) (hP : va_P D vwCl w H) (hw : w = w') (hv : v = r) (hc : cells ≤ mc) (hs : slots ≤ ms) (hd : decode cc pc = .ok (.freturn, 1)) :
    W p l e R s m args below meth c H locs cells slots (MQ below (va_Qf (fun x (_ : Unit) => x = r) (fun _ t => va_P D vwCl w' t.heap) A) args s mc ms A) (F0 m pc ls [.float v]) := by
  subst hw
  refine W.widen hc hs ?_
  exact W.fret (v := v) hx hb hr (fun t ht hW => ⟨⟨v, (), rfl, hv, pw ht hP⟩, hS.F ht⟩) hS.2.2 hd hlk
theorem e0 (hx : p.tables.exec = Jvm.exec) (hb : c.code = cc) (hr : meth.sig.returnType = none) (hlk : meth.locks = false) (hS : va_S A s.heap H locs) (hP : va_P D vwCl w H) (hw : w = w') (hc : cells ≤ mc) (hs : slots ≤ ms) (hd : decode cc pc = .ok (.return_, 1)) :
    W p l e R s m args below meth c H locs cells slots (MQ below (va_Qv (fun (_ : Unit) => True) (fun _ t => va_P D vwCl w' t.heap) A) args s mc ms A) (F0 m pc ls []) := by
  subst hw
  refine W.widen hc hs ?_
  exact W.vret hx hb hr (fun t ht hW => ⟨⟨(), rfl, trivial, pw ht hP⟩, hS.F ht⟩) hS.2.2 hd hlk
theorem xei {XC : String → State → State → Prop} {v r : Int32} (hx : p.tables.exec = Jvm.exec) (hb : c.code = cc) (hr : meth.sig.returnType = some .int) (hlk : meth.locks = false) (hS : va_S A s.heap H locs) (hP : va_P D vwCl w H) (hw : w = w') (hE : E = none) (hv : v = r) (hc : cells ≤ mc) (hs : slots ≤ ms) (hd : decode cc pc = .ok (.ireturn, 1)) :
    W p l e R s m args below meth c H locs cells slots (vx_MQ below (va_Qi (fun x (_ : Unit) => E = none ∧ x = r) (fun _ t => va_P D vwCl w' t.heap) A) XC args s mc ms A) (F0 m pc ls [.int v]) := by
  subst hw
  refine vx_ret ?_
  refine W.widen hc hs ?_
  exact W.iret (v := v) hx hb hr (fun t ht hW => ⟨⟨v, (), rfl, ⟨hE, hv⟩, pw ht hP⟩, hS.F ht⟩) hS.2.2 hd hlk
theorem xez {XC : String → State → State → Prop} {v r : Int32} (hx : p.tables.exec = Jvm.exec) (hb : c.code = cc) (hr : meth.sig.returnType = some .boolean) (hlk : meth.locks = false) (hS : va_S A s.heap H locs) (hP : va_P D vwCl w H) (hw : w = w') (hE : E = none) (hv : v = r) (hn : narrow .boolean (.int v) = .int v) (hc : cells ≤ mc) (hs : slots ≤ ms) (hd : decode cc pc = .ok (.ireturn, 1)) :
    W p l e R s m args below meth c H locs cells slots (vx_MQ below (va_Qi (fun x (_ : Unit) => E = none ∧ x = r) (fun _ t => va_P D vwCl w' t.heap) A) XC args s mc ms A) (F0 m pc ls [.int v]) := by
  subst hw
  refine vx_ret ?_
  refine W.widen hc hs ?_
  exact W.zret (v := v) (ty := .boolean) hx hb hr hn (fun t ht hW => ⟨⟨v, (), rfl, ⟨hE, hv⟩, pw ht hP⟩, hS.F ht⟩) hS.2.2 hd hlk
theorem xef {XC : String → State → State → Prop} {v r : UInt32} (hx : p.tables.exec = Jvm.exec) (hb : c.code = cc) (hr : meth.sig.returnType = some .float) (hlk : meth.locks = false) (hS : va_S A s.heap H locs) (hP : va_P D vwCl w H) (hw : w = w') (hE : E = none) (hv : v = r) (hc : cells ≤ mc) (hs : slots ≤ ms) (hd : decode cc pc = .ok (.freturn, 1)) :
    W p l e R s m args below meth c H locs cells slots (vx_MQ below (va_Qf (fun x (_ : Unit) => E = none ∧ x = r) (fun _ t => va_P D vwCl w' t.heap) A) XC args s mc ms A) (F0 m pc ls [.float v]) := by
  subst hw
  refine vx_ret ?_
  refine W.widen hc hs ?_
  exact W.fret (v := v) hx hb hr (fun t ht hW => ⟨⟨v, (), rfl, ⟨hE, hv⟩, pw ht hP⟩, hS.F ht⟩) hS.2.2 hd hlk
theorem xe0 {XC : String → State → State → Prop} (hx : p.tables.exec = Jvm.exec) (hb : c.code = cc) (hr : meth.sig.returnType = none) (hlk : meth.locks = false) (hS : va_S A s.heap H locs) (hP : va_P D vwCl w H) (hw : w = w') (hE : E = none) (hc : cells ≤ mc) (hs : slots ≤ ms) (hd : decode cc pc = .ok (.return_, 1)) :
    W p l e R s m args below meth c H locs cells slots (vx_MQ below (va_Qv (fun (_ : Unit) => E = none) (fun _ t => va_P D vwCl w' t.heap) A) XC args s mc ms A) (F0 m pc ls []) := by
  subst hw
  refine vx_ret ?_
  refine W.widen hc hs ?_
  exact W.vret hx hb hr (fun t ht hW => ⟨⟨(), rfl, hE, pw ht hP⟩, hS.F ht⟩) hS.2.2 hd hlk
/-- the kit's own throw of a class X with a text, at ldc or ldc_w -/
theorem xth {K : Nat → ClassId} {Qc : Array Value → State → Outcome → State → Prop} {Ts : List Cond} {X text : String} {ik is ic : Nat} {rest : List Value} (hx : p.tables.exec = Jvm.exec) (hb : c.code = cc) (hl : l.stackTraces = false) (hown : s.vm.findClass RX4 = some m.cls)
    (hts : ∀ q ∈ Ts, q.before args s = true) (hX : X ∈ [xIS, xIA, xIO]) (hT : (is, text) ∈ strL)
    (hfit : Bundle.fit X = true) (hk : Cond.classLink RX4 ik X ∈ Ts) (hini : Cond.initialized X ∈ Ts) (hat : ∀ q ∈ (vx_atS RX4 ic X ["java/lang/RuntimeException", "java/lang/Exception"]).filter goodWord, q ∈ Ts)
    (hng : ∀ q ∈ (vx_atS RX4 ic X ["java/lang/RuntimeException", "java/lang/Exception"]).filter (fun q => !goodWord q), q ∈ [Cond.castable X X, Cond.declares (Bundle.initS "java/lang/RuntimeException"), Cond.declares (Bundle.initS "java/lang/Exception"), Cond.declares (Bundle.initS "java/lang/Throwable")])
    (hgood : ∀ q ∈ Cond.classLink RX4 ik X :: Cond.initialized X :: vx_atS RX4 ic X ["java/lang/RuntimeException", "java/lang/Exception"], vx_ot q = true)
    (hE : ev D K A s) (hS : va_S A s.heap H locs) (hP : va_P D vwCl w H) (hEx : E = some X) (hsize : ls.size = c.maxLocals)
    (d0 : decode cc pc = .ok (.new ik, 3)) (d3 : decode cc (pc + 3) = .ok (.dup, 1)) (d4 : (decode cc (pc + 4) = .ok (.ldc is, 2) ∧ decode cc (pc + 6) = .ok (.invokespecial ic, 3) ∧ decode cc (pc + 9) = .ok (.athrow, 1)) ∨ (decode cc (pc + 4) = .ok (.ldc_w is, 3) ∧ decode cc (pc + 7) = .ok (.invokespecial ic, 3) ∧ decode cc (pc + 10) = .ok (.athrow, 1)))
    (hout : ∀ x ∈ c.exceptionTable.toList, False) (hRf : 5 < R.frames) (hRl : (rest.map fun v => v.category).sum + 82 ≤ R.locals) (hRc : cells + 1 ≤ R.cells) (hRs : slots + 6 ≤ R.slots) (hlk : meth.locks = false) (hc : cells + 1 ≤ mc) (hs : slots + 6 ≤ ms) :
    W p l e R s m args below meth c H locs cells slots (vx_MQ below Qc (xc D w A E) args s mc ms A) (F0 m pc ls rest) := by
  obtain ⟨h1, h2, h3, h4, h5, h6, h7⟩ := hE
  obtain ⟨sa, hsa⟩ := h5 _ hT
  have hcst : (Cond.castable X X).before args s = true := va_Nw.use rfl (h6 X hX)
  have hxx : ∀ t : State, s.vm.Alike t.vm → H.size ≤ t.heap.size → (∀ q : Nat, q < H.size → t.heap[q]? = H[q]?) → xc D w A E X s t := fun t _ hz hq => ⟨(), trivial, ⟨hEx, hP.kept (fun k q hk => hq q.1 ((hP k q hk).lt))⟩, Nat.le_trans hS.1 hz, fun q h1 h2 => (hq q (Nat.lt_of_lt_of_le h1 hS.1)).trans (hS.2.1 q h1 h2)⟩
  have hat' : ∀ q ∈ vx_atS RX4 ic X ["java/lang/RuntimeException", "java/lang/Exception"], q.before args s = true := vx_hat (B := [Cond.castable X X, Cond.declares (Bundle.initS "java/lang/RuntimeException"), Cond.declares (Bundle.initS "java/lang/Exception"), Cond.declares (Bundle.initS "java/lang/Throwable")]) (fun q hq => hts q (hat q hq)) hng (vx_c hcst (vx_c (va_Nw.use rfl (h7 _ (List.mem_of_getElem? (i := 0) rfl))) (vx_c (va_Nw.use rfl (h7 _ (List.mem_of_getElem? (i := 1) rfl))) (vx_c (va_Nw.use rfl (h7 _ (List.mem_of_getElem? (i := 2) rfl))) vx_n))))
  have hnm : ∀ n ∈ ["java/lang/RuntimeException", "java/lang/Exception"], Bundle.fit n = true := by decide +kernel
  rcases d4 with ⟨d4, d6, d9⟩ | ⟨d4, d6, d9⟩
  · exact vx_throwS (names := ["java/lang/RuntimeException", "java/lang/Exception"]) hx hb hl hown hfit hnm (hts _ hk) (hts _ hini) hsa hat' hgood h3 h4 hS hsize d0 d3 d4 d6 d9 (fun x hx => absurd (hout x hx) id) hRf hRl hRc hRs hlk hxx hS.2.2 hc hs
  · exact vx_throwSW (names := ["java/lang/RuntimeException", "java/lang/Exception"]) hx hb hl hown hfit hnm (hts _ hk) (hts _ hini) hsa hat' hgood h3 h4 hS hsize d0 d3 d4 d6 d9 (fun x hx => absurd (hout x hx) id) hRf hRl hRc hRs hlk hxx hS.2.2 hc hs
end ENDS

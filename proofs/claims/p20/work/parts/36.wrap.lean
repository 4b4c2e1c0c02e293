/-! ===== the law's wrappers: -3 for an exception ===== -/
theorem metWH {l : Launch} {y : MethodName} {ws ws' : List Cond} {rm : Room} {Pc : Array Value → State → Prop} {Qc : Array Value → State → Outcome → State → Prop} {mc ms : Nat} {free : Addr → Prop} {cc : ByteArray} {maxL : Nat} {ret : Option FieldType} {hh : List (Nat × Nat × Nat × Nat)}
    (hy : plainName y.cls = true) (hw : ws = Cond.codeWith y cc maxL ret hh :: ws')
    (body : ∀ p e s m args below meth c s₁, BodyLoose p l y (headSpec ws rm) cc maxL ret e s m args below meth c s₁ → c.maxLocals = maxL → Pc args s →
      W p l e (headSpec ws rm).room s m args below meth c s.heap [] 0 0 (MQ below Qc args s mc ms free) (entryFrame m args maxL)) : Met l y ws rm Pc Qc mc ms free := by
  refine MetFree.of_bodyS (code := cc) (maxLocals := maxL) (ret := ret) hy ?_ ?_
  · intro args s m h hn
    obtain ⟨m9, meth, c, hn9, h1, h2, h3, h4, -, h5, h6, -⟩ := Cond.codeWith_spec (atoms_spec (ws := ws) h _ (by rw [hw]; exact List.mem_cons_self))
    cases hn.symm.trans hn9
    exact ⟨meth, c, h1, h2, h3, h4, h5, h6⟩
  · intro p e s m args below meth c s₁ B hml hP _
    have hh0 : s₁.heap = s.heap := by rw [B.state]; rfl
    obtain ⟨t, a1, o, b1, b2, b3⟩ := body p e s m args below meth c s₁ B hml hP s₁ hh0 (Stand.of_body B)
    exact ⟨t, o, a1, b1, b2, ⟨b3.1, b3.2⟩⟩
theorem CI.ofH {l : Launch} {y : MethodName} {ws ws' : List Cond} {rm : Room} {D : va_G} {K : Nat → ClassId} {L : Nat → Prop} {args : List Value} {w w' : va_W} {r : Int32} {cc : ByteArray} {maxL : Nat} {ret : Option FieldType} {hh : List (Nat × Nat × Nat × Nat)} (hy : plainName y.cls = true) (hw : ws = .codeWith y cc maxL ret hh :: ws') (hn : (lg_sl args).length ≤ maxL)
    (body : ∀ p e s m below meth c ls, en l p s m meth c y ws cc maxL ret args D K (fr L s.heap.size) ls → c.exceptionTable.toList = tableOf hh → va_P D vwCl w s.heap → W p l e rm s m args.toArray below meth c s.heap [] 0 0 (MQ below (va_Qi (fun x (_ : Unit) => x = r) (fun _ t => va_P D vwCl w' t.heap) (fr L s.heap.size)) args.toArray s rm.cells rm.slots (fr L s.heap.size)) (F0 m 0 ls [])) : CI l y ws rm D K L args w w' r := by
  intro sz
  refine metWH (cc := cc) (maxL := maxL) (ret := ret) hy hw ?_
  intro p e s m a below meth c s₁ B hml hv
  obtain ⟨rfl, hsz, hE, hP⟩ := hv
  subst hsz
  have hl := lv_entry args (n := maxL) hn
  have hts := atoms_spec (ws := ws) B.pre
  have htb := vx_table (x := y) B (hts _ (by rw [hw]; exact List.mem_cons_self))
  rw [lg_entry_eq]
  exact body p e s m below meth c _ ⟨B.exec, B.bytes, B.returns, hts, findClass_of_methodNamed B.named, B.notSynchronized, hml, (name_of_methodNamed B.named B.method).1, hE, hl⟩ htb hP
/-- a, or b behind a throw -/
def eu {α : Type} (E : Option String) (a b : α) : α := match E with
  | none => a
  | some _ => b
def Lg (g : Nat → Nat) : Nat → Prop := fun q => ∃ i, i < 29 ∧ q = g i
theorem gd_Lg {L : Nat → Prop} {g : Nat → Nat} (h : gd L g 29) : gd (Lg g) g 29 := ⟨h.1, fun i hi => ⟨i, hi, rfl⟩⟩
section WRAP
variable {p : Program} {l : Launch} {e : Env} {R : Room} {s : State} {m : MethodId} {args : Array Value} {below : List Frame} {meth : Method} {c : Code} {H : Heap} {locs : List Loc} {cells slots : Nat} {Q : State → Prop}
variable {cc : ByteArray} {pc nL n index maxL : Nat} {ls : Array Slot} {D : va_G} {K : Nat → ClassId} {L A : Nat → Prop} {w w' : va_W} {y : MethodName} {ws Ts : List Cond} {rm : Room} {b : Addr} {As rest st0 : List Value} {own C : String} {bytes : ByteArray} {ty : FieldType} {T : u_T} {N ci : Nat}
theorem wiV {r : Int32} {E' : Option String} (S : CallFix p m c cc nL s args Ts own) (hC : XI l y ws rm D K L (.ref b :: As) w w' E' r) (cw : CallW R s args own C index y bytes maxL (some ty) ws rm rm.cells rm.slots n) (q0 : Nat) {fs : List Value} (he : w[q0]? = some (b, .inr (ci, fs))) (hcl : vwCl[ci]? = some (C, T, N)) (hE : ev D K A s) (hP : va_P D vwCl w H) (hS : va_S A s.heap H locs) (hA : ∀ q, fr L H.size q → A q) (hn : As.length = n) (hsize : ls.size = nL) (hst : st0 = As.reverse ++ .ref b :: rest) (hW : (rest.map fun v => v.category).sum ≤ 8) (hdg : decode cc pc = .ok (.invokevirtual index, 3)) (hf : cells + rm.cells ≤ R.cells ∧ slots + rm.slots ≤ R.slots)
    (kx : ∀ (X : String) (ce : Cell) (q : Nat) (H1 : Heap) (locs1 : List Loc), E' = some X → va_P D vwCl w H1 → (∀ q, q < H.size → ¬ fr L H.size q → H1[q]? = H[q]?) → va_S A s.heap H1 locs1 → H1[q]? = some ce → ce.vm = .none → s.vm.findClass X = some ce.cls → vx_W p l e R s m args below meth c H1 locs1 (cells + rm.cells) (slots + rm.slots) Q (F0 m pc ls rest) q)
    (kk : ∀ (H1 : Heap) (locs1 : List Loc), E' = none → va_P D vwCl w' H1 → (∀ q, q < H.size → ¬ fr L H.size q → H1[q]? = H[q]?) → va_S A s.heap H1 locs1 → W p l e R s m args below meth c H1 locs1 (cells + rm.cells) (slots + rm.slots) Q (F0 m (pc + 3) ls (.int r :: rest))) : W p l e R s m args below meth c H locs cells slots Q (F0 m pc ls st0) := by
  refine vx_calli (vx_runV (As := As) (rest := rest) (g := F0 m pc ls st0) S (hC H.size) cw ⟨pre_blind, va_recv hE.1 hP hcl he, k_pre hE hP hS hA⟩ rfl hn hsize hst (lv_room hW) hdg hf) hS (fun q _ h => hA q h) hA (fun q _ h => hA q h) (fun X ce q9 u t H1 locs1 ht hvm hpx hB hz hk hS1 hce hcv hcl => ?_) (fun x u t H1 locs1 ht hvm hw hB hz hk hS1 => ?_)
  · obtain ⟨hX, hP1⟩ := hB
    exact kx X ce q9 H1 locs1 hX (by rw [← ht]; exact hP1) hk hS1 hce hcv hcl
  · obtain ⟨hw1, hw2⟩ := hw
    subst hw2
    exact kk H1 locs1 hw1 (by rw [← ht]; exact hB) hk hS1
end WRAP

def rmL_begins : Room := { frames := 7, cells := 1, slots := 6, locals := 130 }
theorem hdL_begins : yL_begins.cls = RL ∧ yL_begins.cls ≠ "java/lang/invoke/MethodHandle" ∧ yL_begins.cls ≠ "java/lang/invoke/VarHandle" ∧ (parseMethodDescriptor yL_begins.desc).map (fun d => d.parameters.length) = some 1 := by decide +kernel
set_option maxHeartbeats 4000000 in
set_option maxRecDepth 100000 in
theorem kL_begins {l : Launch} {D : va_G} {K : Nat → ClassId} {L : Nat → Prop} {g : Nat → Nat} (hg : gd L g 29) {u u2 : CU} {E : Option String} {r : Int32} (hC : XI l yX4_begin wsX4_begin rmX4_begin D K L [.ref (g 0)] (wC K g u) (wC K g u2) E r) (hE3 : ∀ X, E = some X → X = xIS) : CI l yL_begins wsL_begins rmL_begins D K L [.ref (g 0)] (wC K g u) (wC K g (eu E u2 u)) (eu E r (-3)) := by
  refine CI.ofH (cc := cL_begins) (maxL := 2) (ret := some .int) (by decide +kernel) rfl (Nat.le_of_ble_eq_true rfl) ?_
  intro p e s m below meth c ls hen htb hP
  obtain ⟨hx, hb, hr, hts, hown, hlk, hml, hnm, hE, hl⟩ := hen
  have S : CallFix p m c cL_begins 2 s _ wsL_begins RL := ⟨hx, hb, hml, hown, hts⟩
  have hS : va_S (fr L s.heap.size) s.heap s.heap [] := va_S.rf
  have hl : lv_has ls 2 [(0, .ref (g 0))] := hl
  refine lv_aload_n hx hb dL_begins_0 rfl (lv_at hl 0 rfl) ?_
  refine wiV (As := []) (rest := []) S hC (cwV 0 hts gL_begins_X4_begin rfl rfl rfl hdX4_begin ⟨Nat.le_of_ble_eq_true rfl, Nat.le_of_ble_eq_true rfl⟩) 0 rfl rfl hE hP hS (frs hS) rfl hl.1 rfl (Nat.le_of_ble_eq_true rfl) dL_begins_1 ⟨Nat.le_of_ble_eq_true rfl, Nat.le_of_ble_eq_true rfl⟩ (fun X ce q9 H locs hX hP hk hS hq hv hc => ?_) (fun H locs hX hP hk hS => ?_)
  · rcases hE3 X hX with rfl
    refine vx_catch (own := RL) (name := xIS) hown [] ⟨0, 4, 5, 13⟩ [] (htb.trans rfl) (fun _ h9 => absurd h9 List.not_mem_nil) rfl (by decide) (hts _ (List.mem_of_getElem? (i := 1) rfl)) (va_Nw.use rfl (hE.2.2.2.2.2.1 xIS (List.mem_of_getElem? (i := 0) rfl))) hq hv hc ?_
    refine W.eq (g2 := F0 m 5 ls [.ref q9]) rfl ?_
    refine lv_astore_n (lv' := [(1, .ref q9), (0, .ref (g 0))]) hx hb dL_begins_5 rfl hl (by decide) rfl (fun ls hl => ?_)
    refine lv_bipush (v := (-3)) hx hb dL_begins_6 (by decide) ?_
    exact ei hx hb hr hlk hS hP (by rw [hX]; rfl) (by rw [hX]; rfl) (Nat.le_of_ble_eq_true rfl) (Nat.le_of_ble_eq_true rfl) dL_begins_8
  · exact ei hx hb hr hlk hS hP (by rw [hX]; rfl) (by rw [hX]; rfl) (Nat.le_of_ble_eq_true rfl) (Nat.le_of_ble_eq_true rfl) dL_begins_4
def rmL_jumps : Room := { frames := 7, cells := 1, slots := 6, locals := 130 }
theorem hdL_jumps : yL_jumps.cls = RL ∧ yL_jumps.cls ≠ "java/lang/invoke/MethodHandle" ∧ yL_jumps.cls ≠ "java/lang/invoke/VarHandle" ∧ (parseMethodDescriptor yL_jumps.desc).map (fun d => d.parameters.length) = some 2 := by decide +kernel
set_option maxHeartbeats 4000000 in
set_option maxRecDepth 100000 in
theorem kL_jumps {l : Launch} {D : va_G} {K : Nat → ClassId} {L : Nat → Prop} {g : Nat → Nat} (hg : gd L g 29) {u u2 : CU} (x : Int32) {E : Option String} {r : Int32} (hC : XI l yX4_jump wsX4_jump rmX4_jump D K L [.ref (g 0), .int x] (wC K g u) (wC K g u2) E r) (hE3 : ∀ X, E = some X → X = xIS) : CI l yL_jumps wsL_jumps rmL_jumps D K L [.ref (g 0), .int x] (wC K g u) (wC K g (eu E u2 u)) (eu E r (-3)) := by
  refine CI.ofH (cc := cL_jumps) (maxL := 3) (ret := some .int) (by decide +kernel) rfl (Nat.le_of_ble_eq_true rfl) ?_
  intro p e s m below meth c ls hen htb hP
  obtain ⟨hx, hb, hr, hts, hown, hlk, hml, hnm, hE, hl⟩ := hen
  have S : CallFix p m c cL_jumps 3 s _ wsL_jumps RL := ⟨hx, hb, hml, hown, hts⟩
  have hS : va_S (fr L s.heap.size) s.heap s.heap [] := va_S.rf
  have hl : lv_has ls 3 [(0, .ref (g 0)), (1, .int x)] := hl
  refine lv_aload_n hx hb dL_jumps_0 rfl (lv_at hl 0 rfl) ?_
  refine lv_iload_n hx hb dL_jumps_1 rfl (lv_at hl 1 rfl) ?_
  refine wiV (As := [.int x]) (rest := []) S hC (cwV 1 hts gL_jumps_X4_jump rfl rfl rfl hdX4_jump ⟨Nat.le_of_ble_eq_true rfl, Nat.le_of_ble_eq_true rfl⟩) 0 rfl rfl hE hP hS (frs hS) rfl hl.1 rfl (Nat.le_of_ble_eq_true rfl) dL_jumps_2 ⟨Nat.le_of_ble_eq_true rfl, Nat.le_of_ble_eq_true rfl⟩ (fun X ce q9 H locs hX hP hk hS hq hv hc => ?_) (fun H locs hX hP hk hS => ?_)
  · rcases hE3 X hX with rfl
    refine vx_catch (own := RL) (name := xIS) hown [] ⟨0, 5, 6, 13⟩ [] (htb.trans rfl) (fun _ h9 => absurd h9 List.not_mem_nil) rfl (by decide) (hts _ (List.mem_of_getElem? (i := 1) rfl)) (va_Nw.use rfl (hE.2.2.2.2.2.1 xIS (List.mem_of_getElem? (i := 0) rfl))) hq hv hc ?_
    refine W.eq (g2 := F0 m 6 ls [.ref q9]) rfl ?_
    refine lv_astore_n (lv' := [(2, .ref q9), (0, .ref (g 0)), (1, .int x)]) hx hb dL_jumps_6 rfl hl (by decide) rfl (fun ls hl => ?_)
    refine lv_bipush (v := (-3)) hx hb dL_jumps_7 (by decide) ?_
    exact ei hx hb hr hlk hS hP (by rw [hX]; rfl) (by rw [hX]; rfl) (Nat.le_of_ble_eq_true rfl) (Nat.le_of_ble_eq_true rfl) dL_jumps_9
  · exact ei hx hb hr hlk hS hP (by rw [hX]; rfl) (by rw [hX]; rfl) (Nat.le_of_ble_eq_true rfl) (Nat.le_of_ble_eq_true rfl) dL_jumps_5
def rmL_writes : Room := { frames := 8, cells := 6, slots := 36, locals := 141 }
theorem hdL_writes : yL_writes.cls = RL ∧ yL_writes.cls ≠ "java/lang/invoke/MethodHandle" ∧ yL_writes.cls ≠ "java/lang/invoke/VarHandle" ∧ (parseMethodDescriptor yL_writes.desc).map (fun d => d.parameters.length) = some 4 := by decide +kernel
set_option maxHeartbeats 4000000 in
set_option maxRecDepth 100000 in
theorem kL_writes {l : Launch} {D : va_G} {K : Nat → ClassId} {L : Nat → Prop} {g : Nat → Nat} (hg : gd L g 29) {u u2 : CU} (x y z : Int32) {E : Option String} {r : Int32} (hC : XI l yX4_write wsX4_write rmX4_write D K L [.ref (g 0), .int x, .int y, .int z] (wC K g u) (wC K g u2) E r) (hE3 : ∀ X, E = some X → X = xIS) : CI l yL_writes wsL_writes rmL_writes D K L [.ref (g 0), .int x, .int y, .int z] (wC K g u) (wC K g (eu E u2 u)) (eu E r (-3)) := by
  refine CI.ofH (cc := cL_writes) (maxL := 5) (ret := some .int) (by decide +kernel) rfl (Nat.le_of_ble_eq_true rfl) ?_
  intro p e s m below meth c ls hen htb hP
  obtain ⟨hx, hb, hr, hts, hown, hlk, hml, hnm, hE, hl⟩ := hen
  have S : CallFix p m c cL_writes 5 s _ wsL_writes RL := ⟨hx, hb, hml, hown, hts⟩
  have hS : va_S (fr L s.heap.size) s.heap s.heap [] := va_S.rf
  have hl : lv_has ls 5 [(0, .ref (g 0)), (1, .int x), (2, .int y), (3, .int z)] := hl
  refine lv_aload_n hx hb dL_writes_0 rfl (lv_at hl 0 rfl) ?_
  refine lv_iload_n hx hb dL_writes_1 rfl (lv_at hl 1 rfl) ?_
  refine lv_iload_n hx hb dL_writes_2 rfl (lv_at hl 2 rfl) ?_
  refine lv_iload_n hx hb dL_writes_3 rfl (lv_at hl 3 rfl) ?_
  refine wiV (As := [.int x, .int y, .int z]) (rest := []) S hC (cwV 3 hts gL_writes_X4_write rfl rfl rfl hdX4_write ⟨Nat.le_of_ble_eq_true rfl, Nat.le_of_ble_eq_true rfl⟩) 0 rfl rfl hE hP hS (frs hS) rfl hl.1 rfl (Nat.le_of_ble_eq_true rfl) dL_writes_4 ⟨Nat.le_of_ble_eq_true rfl, Nat.le_of_ble_eq_true rfl⟩ (fun X ce q9 H locs hX hP hk hS hq hv hc => ?_) (fun H locs hX hP hk hS => ?_)
  · rcases hE3 X hX with rfl
    refine vx_catch (own := RL) (name := xIS) hown [] ⟨0, 7, 8, 13⟩ [] (htb.trans rfl) (fun _ h9 => absurd h9 List.not_mem_nil) rfl (by decide) (hts _ (List.mem_of_getElem? (i := 1) rfl)) (va_Nw.use rfl (hE.2.2.2.2.2.1 xIS (List.mem_of_getElem? (i := 0) rfl))) hq hv hc ?_
    refine W.eq (g2 := F0 m 8 ls [.ref q9]) rfl ?_
    refine lv_astore (lv' := [(4, .ref q9), (0, .ref (g 0)), (1, .int x), (2, .int y), (3, .int z)]) hx hb dL_writes_8 hl (by decide) rfl (fun ls hl => ?_)
    refine lv_bipush (v := (-3)) hx hb dL_writes_10 (by decide) ?_
    exact ei hx hb hr hlk hS hP (by rw [hX]; rfl) (by rw [hX]; rfl) (Nat.le_of_ble_eq_true rfl) (Nat.le_of_ble_eq_true rfl) dL_writes_12
  · exact ei hx hb hr hlk hS hP (by rw [hX]; rfl) (by rw [hX]; rfl) (Nat.le_of_ble_eq_true rfl) (Nat.le_of_ble_eq_true rfl) dL_writes_7
def rmL_deletes : Room := { frames := 8, cells := 4, slots := 24, locals := 138 }
theorem hdL_deletes : yL_deletes.cls = RL ∧ yL_deletes.cls ≠ "java/lang/invoke/MethodHandle" ∧ yL_deletes.cls ≠ "java/lang/invoke/VarHandle" ∧ (parseMethodDescriptor yL_deletes.desc).map (fun d => d.parameters.length) = some 3 := by decide +kernel
set_option maxHeartbeats 4000000 in
set_option maxRecDepth 100000 in
theorem kL_deletes {l : Launch} {D : va_G} {K : Nat → ClassId} {L : Nat → Prop} {g : Nat → Nat} (hg : gd L g 29) {u u2 : CU} (x y : Int32) {E : Option String} {q : Prop} (hC : XI l yX4_delete wsX4_delete rmX4_delete D K L [.ref (g 0), .int x, .int y] (wC K g u) (wC K g u2) E (fb q)) (hE3 : ∀ X, E = some X → X = xIS) : CI l yL_deletes wsL_deletes rmL_deletes D K L [.ref (g 0), .int x, .int y] (wC K g u) (wC K g (eu E u2 u)) (eu E (fb q) (-3)) := by
  refine CI.ofH (cc := cL_deletes) (maxL := 4) (ret := some .int) (by decide +kernel) rfl (Nat.le_of_ble_eq_true rfl) ?_
  intro p e s m below meth c ls hen htb hP
  obtain ⟨hx, hb, hr, hts, hown, hlk, hml, hnm, hE, hl⟩ := hen
  have S : CallFix p m c cL_deletes 4 s _ wsL_deletes RL := ⟨hx, hb, hml, hown, hts⟩
  have hS : va_S (fr L s.heap.size) s.heap s.heap [] := va_S.rf
  have hl : lv_has ls 4 [(0, .ref (g 0)), (1, .int x), (2, .int y)] := hl
  refine lv_aload_n hx hb dL_deletes_0 rfl (lv_at hl 0 rfl) ?_
  refine lv_iload_n hx hb dL_deletes_1 rfl (lv_at hl 1 rfl) ?_
  refine lv_iload_n hx hb dL_deletes_2 rfl (lv_at hl 2 rfl) ?_
  refine wiV (As := [.int x, .int y]) (rest := []) S hC (cwV 2 hts gL_deletes_X4_delete rfl rfl rfl hdX4_delete ⟨Nat.le_of_ble_eq_true rfl, Nat.le_of_ble_eq_true rfl⟩) 0 rfl rfl hE hP hS (frs hS) rfl hl.1 rfl (Nat.le_of_ble_eq_true rfl) dL_deletes_3 ⟨Nat.le_of_ble_eq_true rfl, Nat.le_of_ble_eq_true rfl⟩ (fun X ce q9 H locs hX hP hk hS hq hv hc => ?_) (fun H locs hX hP hk hS => ?_)
  · rcases hE3 X hX with rfl
    refine vx_catch (own := RL) (name := xIS) hown [] ⟨0, 14, 15, 13⟩ [] (htb.trans rfl) (fun _ h9 => absurd h9 List.not_mem_nil) rfl (by decide) (hts _ (List.mem_of_getElem? (i := 1) rfl)) (va_Nw.use rfl (hE.2.2.2.2.2.1 xIS (List.mem_of_getElem? (i := 0) rfl))) hq hv hc ?_
    refine W.eq (g2 := F0 m 15 ls [.ref q9]) rfl ?_
    refine lv_astore_n (lv' := [(3, .ref q9), (0, .ref (g 0)), (1, .int x), (2, .int y)]) hx hb dL_deletes_15 rfl hl (by decide) rfl (fun ls hl => ?_)
    refine lv_bipush (v := (-3)) hx hb dL_deletes_16 (by decide) ?_
    exact ei hx hb hr hlk hS hP (by rw [hX]; rfl) (by rw [hX]; rfl) (Nat.le_of_ble_eq_true rfl) (Nat.le_of_ble_eq_true rfl) dL_deletes_18
  · refine bzeq (tgt := 13) hx hb dL_deletes_6 (by decide) (fun c1 => ?_) (fun c1 => ?_)
    · skip
      refine lv_iconst (v := 0) hx hb dL_deletes_13 (by decide) ?_
      exact ei hx hb hr hlk hS hP (by rw [hX]; rfl) (by rw [hX]; exact f_fb c1) (Nat.le_of_ble_eq_true rfl) (Nat.le_of_ble_eq_true rfl) dL_deletes_14
    · skip
      refine lv_iconst (v := 1) hx hb dL_deletes_9 (by decide) ?_
      refine lv_goto (tgt := 14) hx hb dL_deletes_10 (by decide) ?_
      exact ei hx hb hr hlk hS hP (by rw [hX]; rfl) (by rw [hX]; exact t_fb c1) (Nat.le_of_ble_eq_true rfl) (Nat.le_of_ble_eq_true rfl) dL_deletes_14

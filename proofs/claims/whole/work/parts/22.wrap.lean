/-! ===== the law's wrappers: one call each, and which exception it threw ===== -/
def ZC (U : State) : Prop := ∀ X ∈ [xIS, xIA, xIO], ∀ Y ∈ [xIS, xIA, xIO], X ≠ Y → va_Nc X Y U
theorem ZC.moved {u U : State} (hvm : u.vm.Alike U.vm) (h : ZC u) : ZC U := fun X hX Y hY hn => (h X hX Y hY hn).moved hvm
def CW (l : Launch) (y : MethodName) (ws : List Cond) (rm : Room) (D : va_G) (K : Nat → ClassId) (L : Nat → Prop) (args : List Value) (w w' : va_W) (r : Int32) : Prop :=
  ∀ sz, Met l y ws rm (va_Pc args (fun U => ZC U ∧ pre D K L w sz U)) (va_Qi (fun x (_ : Unit) => x = r) (fun _ t => va_P D vwCl w' t.heap) (fr L sz)) rm.cells rm.slots (fr L sz)
theorem metWH {l : Launch} {y : MethodName} {ws ws' : List Cond} {rm : Room} {Pc : Array Value → State → Prop} {Qc : Array Value → State → Outcome → State → Prop} {mc ms : Nat} {free : Addr → Prop} {cc : ByteArray} {maxL : Nat} {ret : Option FieldType} {hh : List (Nat × Nat × Nat × Nat)}
    (hy : plainName y.cls = true) (hw : ws = Cond.codeWith y cc maxL ret hh :: ws')
    (body : ∀ p e s m args below meth c s₁, BodyLoose p l y (headSpec ws rm) cc maxL ret e s m args below meth c s₁ → c.maxLocals = maxL → Pc args s →
      W p l e (headSpec ws rm).room s m args below meth c s.heap [] 0 0 (MQ below Qc args s mc ms free) (entryFrame m args maxL)) : Met l y ws rm Pc Qc mc ms free := by
  refine MetFree.of_bodyS (code := cc) (maxLocals := maxL) (ret := ret) hy ?_ ?_
  · intro args s m h hn
    obtain ⟨m9, meth, c, hn9, h1, h2, h3, h4, -, h5, h6, -⟩ := Cond.codeWith_spec (atoms_spec (ws := ws) h _ (by rw [hw]; exact List.mem_cons_self))
    cases hn.symm.trans hn9
    exact ⟨meth, c, h1, h2, h3, h4, h5, h6⟩
  · intro p e s m args below meth c s₁ B hml hP _
    have hh0 : s₁.heap = s.heap := by rw [B.state]; rfl
    obtain ⟨t, a1, o, b1, b2, b3⟩ := body p e s m args below meth c s₁ B hml hP s₁ hh0 (Stand.of_body B)
    exact ⟨t, o, a1, b1, b2, ⟨b3.1, b3.2⟩⟩
theorem CW.of {l : Launch} {y : MethodName} {ws ws' : List Cond} {rm : Room} {D : va_G} {K : Nat → ClassId} {L : Nat → Prop} {args : List Value} {w w' : va_W} {r : Int32} {cc : ByteArray} {maxL : Nat} {ret : Option FieldType} {hh : List (Nat × Nat × Nat × Nat)} (hy : plainName y.cls = true) (hw : ws = .codeWith y cc maxL ret hh :: ws') (hn : (lg_sl args).length ≤ maxL)
    (body : ∀ p e s m below meth c ls, en l p s m meth c y ws cc maxL ret args D K (fr L s.heap.size) ls → ZC s → c.exceptionTable.toList = tableOf hh → va_P D vwCl w s.heap → W p l e rm s m args.toArray below meth c s.heap [] 0 0 (MQ below (va_Qi (fun x (_ : Unit) => x = r) (fun _ t => va_P D vwCl w' t.heap) (fr L s.heap.size)) args.toArray s rm.cells rm.slots (fr L s.heap.size)) (F0 m 0 ls [])) : CW l y ws rm D K L args w w' r := by
  intro sz
  refine metWH (cc := cc) (maxL := maxL) (ret := ret) hy hw ?_
  intro p e s m a below meth c s₁ B hml hv
  obtain ⟨rfl, hZ, hsz, hE, hP⟩ := hv
  subst hsz
  have hl := lv_entry args (n := maxL) hn
  have hts := atoms_spec (ws := ws) B.pre
  have htb := vx_table (x := y) B (hts _ (by rw [hw]; exact List.mem_cons_self))
  rw [lg_entry_eq]
  exact body p e s m below meth c _ ⟨B.exec, B.bytes, B.returns, hts, findClass_of_methodNamed B.named, B.notSynchronized, hml, (name_of_methodNamed B.named B.method).1, hE, hl⟩ hZ htb hP
/-- a, or b behind a throw -/
def eu {α : Type} (E : Option String) (a b : α) : α := match E with
  | none => a
  | some _ => b
/-- a wrapper's answer: 0, or the place of the exception in its list -/
def cE (l : List String) (E : Option String) : Int32 := match E with
  | none => 0
  | some X => nI (l.idxOf X + 1)
def Lg (g : Nat → Nat) : Nat → Prop := fun q => ∃ i, i < 29 ∧ q = g i
theorem gd_Lg {L : Nat → Prop} {g : Nat → Nat} (h : gd L g 29) : gd (Lg g) g 29 := ⟨h.1, fun i hi => ⟨i, hi, rfl⟩⟩
abbrev oL (K : Nat → ClassId) (o : Nat) (f : AL) : va_W := [(o, .inl (K 1, 1, .inr (.inl f)))]
abbrev oD (K : Nat → ClassId) (o : Nat) (f : Nat → UInt64) : va_W := [(o, .inl (K 4, 1, .inr (.inr (.inr (.inl f)))))]
theorem wCO_D {L : Nat → Prop} {K : Nat → ClassId} {g : Nat → Nat} {o sz : Nat} {e : va_E} {u : CU} (hg : gd L g 29) (ho : L o) (hod : ∀ i, i < 29 → g i ≠ o) : va_D (fr L sz) (wC K g u ++ [(o, e)]) := by
  refine (wC_D hg).app ⟨fun i j x y hi hj _ => ?_, fun k x hk => ?_⟩ (fun i j x y hi hj => ?_)
  · cases i with
    | zero => cases j with
      | zero => rfl
      | succ j => cases hj
    | succ i => cases hi
  · cases k with
    | zero => cases hk; exact Or.inl ho
    | succ k => cases hk
  · have h1 : (List.map (·.1) (wC K g u))[i]? = some x.1 := by rw [List.getElem?_map, hi]; rfl
    have h2 : List.map (·.1) (wC K g u) = (List.range 29).map g := rfl
    rw [h2, List.getElem?_map] at h1
    cases j with
    | zero =>
      cases hj
      by_cases hk : i < 29
      · rw [List.getElem?_range hk] at h1
        rw [← Option.some.inj h1]; exact hod i hk
      · rw [List.getElem?_eq_none (by rw [List.length_range]; omega)] at h1
        cases h1
    | succ j => cases hj
theorem wCO_j {D : va_G} {K : Nat → ClassId} {g : Nat → Nat} {o : Nat} {e : va_E} {u u2 : CU} {H H1 : Heap} (hP : va_P D vwCl (wC K g u ++ [(o, e)]) H) (hod : ∀ i, i < 29 → g i ≠ o) (hk : ∀ q, q < H.size → ¬ fr (Lg g) H.size q → H1[q]? = H[q]?) (hP1 : va_P D vwCl (wC K g u2) H1) : va_P D vwCl (wC K g u2 ++ [(o, e)]) H1 := by
  have h1 : va_P D vwCl [(o, e)] H := hP.sub [29] rfl
  have hlt : o < H.size := (h1 0 _ rfl).lt
  refine hP1.app (h1.kept (fun k x hx => ?_))
  cases k with
  | zero =>
    cases hx
    exact hk o hlt (fun h => h.elim (fun ⟨i, hi, e9⟩ => hod i hi e9.symm) (fun h => absurd h (Nat.not_le.mpr hlt)))
  | succ k => cases hx
theorem wCO_c {D : va_G} {K : Nat → ClassId} {g : Nat → Nat} {o : Nat} {e : va_E} {u : CU} {H : Heap} (hP : va_P D vwCl (wC K g u ++ [(o, e)]) H) : va_P D vwCl (wC K g u) H := hP.sub (List.range 29) rfl
section WRAP
variable {p : Program} {l : Launch} {e : Env} {R : Room} {s : State} {m : MethodId} {args : Array Value} {below : List Frame} {meth : Method} {c : Code} {H : Heap} {locs : List Loc} {cells slots : Nat} {Q : State → Prop}
variable {cc : ByteArray} {pc nL n index maxL : Nat} {ls : Array Slot} {D : va_G} {K : Nat → ClassId} {L A : Nat → Prop} {w w' : va_W} {y : MethodName} {ws Ts : List Cond} {rm : Room} {b : Addr} {As rest st0 : List Value} {own C : String} {bytes : ByteArray} {ty : FieldType} {T : u_T} {N ci : Nat}
theorem wiV {r : Int32} {E' : Option String} (S : CallFix p m c cc nL s args Ts own) (hC : XI l y ws rm D K L (.ref b :: As) w w' E' r) (cw : CallW R s args own C index y bytes maxL (some ty) ws rm rm.cells rm.slots n) (q0 : Nat) {fs : List Value} (he : w[q0]? = some (b, .inr (ci, fs))) (hcl : vwCl[ci]? = some (C, T, N)) (hE : ev D K A s) (hP : va_P D vwCl w H) (hS : va_S A s.heap H locs) (hA : ∀ q, fr L H.size q → A q) (hn : As.length = n) (hsize : ls.size = nL) (hst : st0 = As.reverse ++ .ref b :: rest) (hW : (rest.map fun v => v.category).sum ≤ 8) (hdg : decode cc pc = .ok (.invokevirtual index, 3)) (hf : cells + rm.cells ≤ R.cells ∧ slots + rm.slots ≤ R.slots)
    (kx : ∀ (X : String) (ce : Cell) (q : Nat) (H1 : Heap) (locs1 : List Loc), E' = some X → va_P D vwCl w H1 → (∀ q, q < H.size → ¬ fr L H.size q → H1[q]? = H[q]?) → va_S A s.heap H1 locs1 → H1[q]? = some ce → ce.vm = .none → s.vm.findClass X = some ce.cls → vx_W p l e R s m args below meth c H1 locs1 (cells + rm.cells) (slots + rm.slots) Q (F0 m pc ls rest) q)
    (kk : ∀ (H1 : Heap) (locs1 : List Loc), E' = none → va_P D vwCl w' H1 → (∀ q, q < H.size → ¬ fr L H.size q → H1[q]? = H[q]?) → va_S A s.heap H1 locs1 → W p l e R s m args below meth c H1 locs1 (cells + rm.cells) (slots + rm.slots) Q (F0 m (pc + 3) ls (.int r :: rest))) : W p l e R s m args below meth c H locs cells slots Q (F0 m pc ls st0) := by
  refine vx_calli (vx_runV (As := As) (rest := rest) (g := F0 m pc ls st0) S (hC H.size) cw ⟨pre_blind, va_recv hE.1 hP hcl he, k_pre hE hP hS hA⟩ rfl hn hsize hst (lv_room hW) hdg hf) hS (fun q _ h => hA q h) hA (fun q _ h => hA q h) (fun X ce q9 u t H1 locs1 ht hvm hpx hB hz hk hS1 hce hcv hcl => ?_) (fun x u t H1 locs1 ht hvm hw hB hz hk hS1 => ?_)
  · obtain ⟨hX, hP1⟩ := hB
    exact kx X ce q9 H1 locs1 hX (by rw [← ht]; exact hP1) hk hS1 hce hcv hcl
  · obtain ⟨hw1, hw2⟩ := hw
    subst hw2
    exact kk H1 locs1 hw1 (by rw [← ht]; exact hB) hk hS1
theorem wfV {r : UInt32} {E' : Option String} (S : CallFix p m c cc nL s args Ts own) (hC : XF l y ws rm D K L (.ref b :: As) w w' E' r) (cw : CallW R s args own C index y bytes maxL (some ty) ws rm rm.cells rm.slots n) (q0 : Nat) {fs : List Value} (he : w[q0]? = some (b, .inr (ci, fs))) (hcl : vwCl[ci]? = some (C, T, N)) (hE : ev D K A s) (hP : va_P D vwCl w H) (hS : va_S A s.heap H locs) (hA : ∀ q, fr L H.size q → A q) (hn : As.length = n) (hsize : ls.size = nL) (hst : st0 = As.reverse ++ .ref b :: rest) (hW : (rest.map fun v => v.category).sum ≤ 8) (hdg : decode cc pc = .ok (.invokevirtual index, 3)) (hf : cells + rm.cells ≤ R.cells ∧ slots + rm.slots ≤ R.slots)
    (kx : ∀ (X : String) (ce : Cell) (q : Nat) (H1 : Heap) (locs1 : List Loc), E' = some X → va_P D vwCl w H1 → (∀ q, q < H.size → ¬ fr L H.size q → H1[q]? = H[q]?) → va_S A s.heap H1 locs1 → H1[q]? = some ce → ce.vm = .none → s.vm.findClass X = some ce.cls → vx_W p l e R s m args below meth c H1 locs1 (cells + rm.cells) (slots + rm.slots) Q (F0 m pc ls rest) q)
    (kk : ∀ (H1 : Heap) (locs1 : List Loc), E' = none → va_P D vwCl w' H1 → (∀ q, q < H.size → ¬ fr L H.size q → H1[q]? = H[q]?) → va_S A s.heap H1 locs1 → W p l e R s m args below meth c H1 locs1 (cells + rm.cells) (slots + rm.slots) Q (F0 m (pc + 3) ls (.float r :: rest))) : W p l e R s m args below meth c H locs cells slots Q (F0 m pc ls st0) := by
  refine vx_callf (vx_runV (As := As) (rest := rest) (g := F0 m pc ls st0) S (hC H.size) cw ⟨pre_blind, va_recv hE.1 hP hcl he, k_pre hE hP hS hA⟩ rfl hn hsize hst (lv_room hW) hdg hf) hS (fun q _ h => hA q h) hA (fun q _ h => hA q h) (fun X ce q9 u t H1 locs1 ht hvm hpx hB hz hk hS1 hce hcv hcl => ?_) (fun x u t H1 locs1 ht hvm hw hB hz hk hS1 => ?_)
  · obtain ⟨hX, hP1⟩ := hB
    exact kx X ce q9 H1 locs1 hX (by rw [← ht]; exact hP1) hk hS1 hce hcv hcl
  · obtain ⟨hw1, hw2⟩ := hw
    subst hw2
    exact kk H1 locs1 hw1 (by rw [← ht]; exact hB) hk hS1
end WRAP

def rmL_begin : Room := { frames := 7, cells := 1, slots := 6, locals := 128 }
theorem hdL_begin : yL_begin.cls = RL ∧ yL_begin.cls ≠ "java/lang/invoke/MethodHandle" ∧ yL_begin.cls ≠ "java/lang/invoke/VarHandle" ∧ (parseMethodDescriptor yL_begin.desc).map (fun d => d.parameters.length) = some 2 := by decide +kernel
set_option maxHeartbeats 4000000 in
set_option maxRecDepth 100000 in
theorem kL_begin {l : Launch} {D : va_G} {K : Nat → ClassId} {L : Nat → Prop} {g : Nat → Nat} (hg : gd L g 29) {o : Nat} (ho : L o) (hod : ∀ i, i < 29 → g i ≠ o) {u u2 : CU} {E : Option String} {r : Int32} (hC : XI l yX4_begin wsX4_begin rmX4_begin D K (Lg g) [.ref (g 0)] (wC K g u) (wC K g u2) E r) (hE3 : ∀ X, E = some X → X = xIS) (f : AL) : CW l yL_begin wsL_begin rmL_begin D K L [.ref (g 0), .ref o] (wC K g u ++ oL K o f) (wC K g (eu E u2 u) ++ oL K o (eu E (vp_updL f 0 (r.toInt64)) f)) (cE [xIS] E) := by
  refine CW.of (cc := cL_begin) (maxL := 3) (ret := some .int) (by decide +kernel) rfl (Nat.le_of_ble_eq_true rfl) ?_
  intro p e s m below meth c ls hen hZ htb hP
  obtain ⟨hx, hb, hr, hts, hown, hlk, hml, hnm, hE, hl⟩ := hen
  have S : CallFix p m c cL_begin 3 s _ wsL_begin RL := ⟨hx, hb, hml, hown, hts⟩
  have hS : va_S (fr L s.heap.size) s.heap s.heap [] := va_S.rf
  have hl : lv_has ls 3 [(0, .ref (g 0)), (1, .ref o)] := hl
  have hPC : va_P D vwCl (wC K g u) s.heap := wCO_c hP
  have hP0 := hP
  have hLA : ∀ q, fr (Lg g) s.heap.size q → fr L s.heap.size q := fun q h9 => h9.elim (fun ⟨i, hi, e9⟩ => by rw [e9]; exact Or.inl (hg.2 i hi)) Or.inr
  refine lv_aload_n hx hb dL_begin_0 rfl (lv_at hl 1 rfl) ?_
  refine lv_iconst (v := 0) hx hb dL_begin_1 (by decide) ?_
  refine lv_aload_n hx hb dL_begin_2 rfl (lv_at hl 0 rfl) ?_
  refine wiV (As := []) (rest := [.int 0, .ref o]) S hC (cwV 0 hts gL_begin_X4_begin rfl rfl rfl hdX4_begin ⟨Nat.le_of_ble_eq_true rfl, Nat.le_of_ble_eq_true rfl⟩) 0 rfl rfl hE hPC hS hLA rfl hl.1 rfl (Nat.le_of_ble_eq_true rfl) dL_begin_3 ⟨Nat.le_of_ble_eq_true rfl, Nat.le_of_ble_eq_true rfl⟩ (fun X ce q H locs hX hP hk hS hq hv hc => ?_) (fun H locs hX hP hk hS => ?_)
  · have hPo := wCO_j hP0 hod hk hP
    rcases hE3 X hX with rfl
    · skip
      refine vx_catch (own := RL) (name := xIS) hown [] ⟨0, 8, 11, 13⟩ [] (htb.trans rfl) (fun _ h9 => absurd h9 List.not_mem_nil) rfl (by decide) (hts _ (List.mem_of_getElem? (i := 1) rfl)) (va_Nw.use rfl (hE.2.2.2.2.2.1 xIS (List.mem_of_getElem? (i := 0) rfl))) hq hv hc ?_
      refine W.eq (g2 := F0 m 11 ls [.ref q]) rfl ?_
      refine lv_astore_n (lv' := [(2, .ref q), (0, .ref (g 0)), (1, .ref o)]) hx hb dL_begin_11 rfl hl (by decide) rfl (fun ls hl => ?_)
      refine lv_iconst (v := 1) hx hb dL_begin_12 (by decide) ?_
      exact ei hx hb hr hlk hS hPo (by rw [hX]; rfl) (by rw [hX]; decide +kernel) (Nat.le_of_ble_eq_true rfl) (Nat.le_of_ble_eq_true rfl) dL_begin_13
  · have hP := wCO_j hP0 hod hk hP
    refine lv_i2l hx hb dL_begin_6 rfl ?_
    refine va_last hx hb hE.1 hP (wCO_D hg ho hod) hS 29 1 rfl rfl (vin (by decide) (by decide) (show (0 : Int32) = nI 0 from rfl)) dL_begin_7 (fun H locs hP hD hS => ?_)
    rw [vcl (n := 1) (by decide) (by decide) (show (0 : Int32) = nI 0 from rfl)] at hP
    have hP : va_P D vwCl (wC K g u2 ++ oL K o (vp_updL f 0 (r.toInt64))) H := hP
    refine lv_goto (tgt := 14) hx hb dL_begin_8 (by decide) ?_
    refine lv_iconst (v := 0) hx hb dL_begin_14 (by decide) ?_
    exact ei hx hb hr hlk hS hP (by rw [hX]; rfl) (by rw [hX]; rfl) (Nat.le_of_ble_eq_true rfl) (Nat.le_of_ble_eq_true rfl) dL_begin_15

def rmL_end : Room := { frames := 8, cells := 2, slots := 12, locals := 133 }
theorem hdL_end : yL_end.cls = RL ∧ yL_end.cls ≠ "java/lang/invoke/MethodHandle" ∧ yL_end.cls ≠ "java/lang/invoke/VarHandle" ∧ (parseMethodDescriptor yL_end.desc).map (fun d => d.parameters.length) = some 4 := by decide +kernel
set_option maxHeartbeats 4000000 in
set_option maxRecDepth 100000 in
theorem kL_end {l : Launch} {D : va_G} {K : Nat → ClassId} {L : Nat → Prop} {g : Nat → Nat} (hg : gd L g 29) {o : Nat} (ho : L o) (hod : ∀ i, i < 29 → g i ≠ o) {u u2 : CU} (x v : Int32) {E : Option String} {r : Int32} (hC : XI l yX4_end wsX4_end rmX4_end D K (Lg g) [.ref (g 0), .int x, .int v] (wC K g u) (wC K g u2) E r) (hE3 : ∀ X, E = some X → X = xIO ∨ X = xIS) (f : AL) : CW l yL_end wsL_end rmL_end D K L [.ref (g 0), .int x, .int v, .ref o] (wC K g u ++ oL K o f) (wC K g (eu E u2 u) ++ oL K o (eu E (vp_updL f 0 (r.toInt64)) f)) (cE [xIO, xIS] E) := by
  refine CW.of (cc := cL_end) (maxL := 5) (ret := some .int) (by decide +kernel) rfl (Nat.le_of_ble_eq_true rfl) ?_
  intro p e s m below meth c ls hen hZ htb hP
  obtain ⟨hx, hb, hr, hts, hown, hlk, hml, hnm, hE, hl⟩ := hen
  have S : CallFix p m c cL_end 5 s _ wsL_end RL := ⟨hx, hb, hml, hown, hts⟩
  have hS : va_S (fr L s.heap.size) s.heap s.heap [] := va_S.rf
  have hl : lv_has ls 5 [(0, .ref (g 0)), (1, .int x), (2, .int v), (3, .ref o)] := hl
  have hPC : va_P D vwCl (wC K g u) s.heap := wCO_c hP
  have hP0 := hP
  have hLA : ∀ q, fr (Lg g) s.heap.size q → fr L s.heap.size q := fun q h9 => h9.elim (fun ⟨i, hi, e9⟩ => by rw [e9]; exact Or.inl (hg.2 i hi)) Or.inr
  refine lv_aload_n hx hb dL_end_0 rfl (lv_at hl 3 rfl) ?_
  refine lv_iconst (v := 0) hx hb dL_end_1 (by decide) ?_
  refine lv_aload_n hx hb dL_end_2 rfl (lv_at hl 0 rfl) ?_
  refine lv_iload_n hx hb dL_end_3 rfl (lv_at hl 1 rfl) ?_
  refine lv_iload_n hx hb dL_end_4 rfl (lv_at hl 2 rfl) ?_
  refine wiV (As := [.int x, .int v]) (rest := [.int 0, .ref o]) S hC (cwV 2 hts gL_end_X4_end rfl rfl rfl hdX4_end ⟨Nat.le_of_ble_eq_true rfl, Nat.le_of_ble_eq_true rfl⟩) 0 rfl rfl hE hPC hS hLA rfl hl.1 rfl (Nat.le_of_ble_eq_true rfl) dL_end_5 ⟨Nat.le_of_ble_eq_true rfl, Nat.le_of_ble_eq_true rfl⟩ (fun X ce q H locs hX hP hk hS hq hv hc => ?_) (fun H locs hX hP hk hS => ?_)
  · have hPo := wCO_j hP0 hod hk hP
    rcases hE3 X hX with rfl | rfl
    · skip
      refine vx_catch (own := RL) (name := xIO) hown [] ⟨0, 10, 13, 19⟩ [⟨0, 10, 17, 13⟩] (htb.trans rfl) (fun _ h9 => absurd h9 List.not_mem_nil) rfl (by decide) (hts _ (List.mem_of_getElem? (i := 1) rfl)) (va_Nw.use rfl (hE.2.2.2.2.2.1 xIO (List.mem_of_getElem? (i := 2) rfl))) hq hv hc ?_
      refine W.eq (g2 := F0 m 13 ls [.ref q]) rfl ?_
      refine lv_astore (lv' := [(4, .ref q), (0, .ref (g 0)), (1, .int x), (2, .int v), (3, .ref o)]) hx hb dL_end_13 hl (by decide) rfl (fun ls hl => ?_)
      refine lv_iconst (v := 1) hx hb dL_end_15 (by decide) ?_
      exact ei hx hb hr hlk hS hPo (by rw [hX]; rfl) (by rw [hX]; decide +kernel) (Nat.le_of_ble_eq_true rfl) (Nat.le_of_ble_eq_true rfl) dL_end_16
    · skip
      refine vx_catch (own := RL) (name := xIS) hown [⟨0, 10, 13, 19⟩] ⟨0, 10, 17, 13⟩ [] (htb.trans rfl) (List.forall_mem_cons.mpr ⟨Or.inr ⟨by decide, xIO, (hts _ (List.mem_of_getElem? (i := 1) rfl)), hZ _ (List.mem_of_getElem? (i := 0) rfl) _ (List.mem_of_getElem? (i := 2) rfl) (by decide +kernel)⟩, (fun _ h9 => absurd h9 List.not_mem_nil)⟩) rfl (by decide) (hts _ (List.mem_of_getElem? (i := 2) rfl)) (va_Nw.use rfl (hE.2.2.2.2.2.1 xIS (List.mem_of_getElem? (i := 0) rfl))) hq hv hc ?_
      refine W.eq (g2 := F0 m 17 ls [.ref q]) rfl ?_
      refine lv_astore (lv' := [(4, .ref q), (0, .ref (g 0)), (1, .int x), (2, .int v), (3, .ref o)]) hx hb dL_end_17 hl (by decide) rfl (fun ls hl => ?_)
      refine lv_iconst (v := 2) hx hb dL_end_19 (by decide) ?_
      exact ei hx hb hr hlk hS hPo (by rw [hX]; rfl) (by rw [hX]; decide +kernel) (Nat.le_of_ble_eq_true rfl) (Nat.le_of_ble_eq_true rfl) dL_end_20
  · have hP := wCO_j hP0 hod hk hP
    refine lv_i2l hx hb dL_end_8 rfl ?_
    refine va_last hx hb hE.1 hP (wCO_D hg ho hod) hS 29 1 rfl rfl (vin (by decide) (by decide) (show (0 : Int32) = nI 0 from rfl)) dL_end_9 (fun H locs hP hD hS => ?_)
    rw [vcl (n := 1) (by decide) (by decide) (show (0 : Int32) = nI 0 from rfl)] at hP
    have hP : va_P D vwCl (wC K g u2 ++ oL K o (vp_updL f 0 (r.toInt64))) H := hP
    refine lv_goto (tgt := 21) hx hb dL_end_10 (by decide) ?_
    refine lv_iconst (v := 0) hx hb dL_end_21 (by decide) ?_
    exact ei hx hb hr hlk hS hP (by rw [hX]; rfl) (by rw [hX]; rfl) (Nat.le_of_ble_eq_true rfl) (Nat.le_of_ble_eq_true rfl) dL_end_22

def rmL_jump : Room := { frames := 7, cells := 1, slots := 6, locals := 130 }
theorem hdL_jump : yL_jump.cls = RL ∧ yL_jump.cls ≠ "java/lang/invoke/MethodHandle" ∧ yL_jump.cls ≠ "java/lang/invoke/VarHandle" ∧ (parseMethodDescriptor yL_jump.desc).map (fun d => d.parameters.length) = some 3 := by decide +kernel
set_option maxHeartbeats 4000000 in
set_option maxRecDepth 100000 in
theorem kL_jump {l : Launch} {D : va_G} {K : Nat → ClassId} {L : Nat → Prop} {g : Nat → Nat} (hg : gd L g 29) {o : Nat} (ho : L o) (hod : ∀ i, i < 29 → g i ≠ o) {u u2 : CU} (x : Int32) {E : Option String} {r : Int32} (hC : XI l yX4_jump wsX4_jump rmX4_jump D K (Lg g) [.ref (g 0), .int x] (wC K g u) (wC K g u2) E r) (hE3 : ∀ X, E = some X → X = xIA ∨ X = xIS) (f : AL) : CW l yL_jump wsL_jump rmL_jump D K L [.ref (g 0), .int x, .ref o] (wC K g u ++ oL K o f) (wC K g (eu E u2 u) ++ oL K o (eu E (vp_updL f 0 (r.toInt64)) f)) (cE [xIA, xIS] E) := by
  refine CW.of (cc := cL_jump) (maxL := 4) (ret := some .int) (by decide +kernel) rfl (Nat.le_of_ble_eq_true rfl) ?_
  intro p e s m below meth c ls hen hZ htb hP
  obtain ⟨hx, hb, hr, hts, hown, hlk, hml, hnm, hE, hl⟩ := hen
  have S : CallFix p m c cL_jump 4 s _ wsL_jump RL := ⟨hx, hb, hml, hown, hts⟩
  have hS : va_S (fr L s.heap.size) s.heap s.heap [] := va_S.rf
  have hl : lv_has ls 4 [(0, .ref (g 0)), (1, .int x), (2, .ref o)] := hl
  have hPC : va_P D vwCl (wC K g u) s.heap := wCO_c hP
  have hP0 := hP
  have hLA : ∀ q, fr (Lg g) s.heap.size q → fr L s.heap.size q := fun q h9 => h9.elim (fun ⟨i, hi, e9⟩ => by rw [e9]; exact Or.inl (hg.2 i hi)) Or.inr
  refine lv_aload_n hx hb dL_jump_0 rfl (lv_at hl 2 rfl) ?_
  refine lv_iconst (v := 0) hx hb dL_jump_1 (by decide) ?_
  refine lv_aload_n hx hb dL_jump_2 rfl (lv_at hl 0 rfl) ?_
  refine lv_iload_n hx hb dL_jump_3 rfl (lv_at hl 1 rfl) ?_
  refine wiV (As := [.int x]) (rest := [.int 0, .ref o]) S hC (cwV 1 hts gL_jump_X4_jump rfl rfl rfl hdX4_jump ⟨Nat.le_of_ble_eq_true rfl, Nat.le_of_ble_eq_true rfl⟩) 0 rfl rfl hE hPC hS hLA rfl hl.1 rfl (Nat.le_of_ble_eq_true rfl) dL_jump_4 ⟨Nat.le_of_ble_eq_true rfl, Nat.le_of_ble_eq_true rfl⟩ (fun X ce q H locs hX hP hk hS hq hv hc => ?_) (fun H locs hX hP hk hS => ?_)
  · have hPo := wCO_j hP0 hod hk hP
    rcases hE3 X hX with rfl | rfl
    · skip
      refine vx_catch (own := RL) (name := xIA) hown [] ⟨0, 9, 12, 25⟩ [⟨0, 9, 15, 13⟩] (htb.trans rfl) (fun _ h9 => absurd h9 List.not_mem_nil) rfl (by decide) (hts _ (List.mem_of_getElem? (i := 1) rfl)) (va_Nw.use rfl (hE.2.2.2.2.2.1 xIA (List.mem_of_getElem? (i := 1) rfl))) hq hv hc ?_
      refine W.eq (g2 := F0 m 12 ls [.ref q]) rfl ?_
      refine lv_astore_n (lv' := [(3, .ref q), (0, .ref (g 0)), (1, .int x), (2, .ref o)]) hx hb dL_jump_12 rfl hl (by decide) rfl (fun ls hl => ?_)
      refine lv_iconst (v := 1) hx hb dL_jump_13 (by decide) ?_
      exact ei hx hb hr hlk hS hPo (by rw [hX]; rfl) (by rw [hX]; decide +kernel) (Nat.le_of_ble_eq_true rfl) (Nat.le_of_ble_eq_true rfl) dL_jump_14
    · skip
      refine vx_catch (own := RL) (name := xIS) hown [⟨0, 9, 12, 25⟩] ⟨0, 9, 15, 13⟩ [] (htb.trans rfl) (List.forall_mem_cons.mpr ⟨Or.inr ⟨by decide, xIA, (hts _ (List.mem_of_getElem? (i := 1) rfl)), hZ _ (List.mem_of_getElem? (i := 0) rfl) _ (List.mem_of_getElem? (i := 1) rfl) (by decide +kernel)⟩, (fun _ h9 => absurd h9 List.not_mem_nil)⟩) rfl (by decide) (hts _ (List.mem_of_getElem? (i := 2) rfl)) (va_Nw.use rfl (hE.2.2.2.2.2.1 xIS (List.mem_of_getElem? (i := 0) rfl))) hq hv hc ?_
      refine W.eq (g2 := F0 m 15 ls [.ref q]) rfl ?_
      refine lv_astore_n (lv' := [(3, .ref q), (0, .ref (g 0)), (1, .int x), (2, .ref o)]) hx hb dL_jump_15 rfl hl (by decide) rfl (fun ls hl => ?_)
      refine lv_iconst (v := 2) hx hb dL_jump_16 (by decide) ?_
      exact ei hx hb hr hlk hS hPo (by rw [hX]; rfl) (by rw [hX]; decide +kernel) (Nat.le_of_ble_eq_true rfl) (Nat.le_of_ble_eq_true rfl) dL_jump_17
  · have hP := wCO_j hP0 hod hk hP
    refine lv_i2l hx hb dL_jump_7 rfl ?_
    refine va_last hx hb hE.1 hP (wCO_D hg ho hod) hS 29 1 rfl rfl (vin (by decide) (by decide) (show (0 : Int32) = nI 0 from rfl)) dL_jump_8 (fun H locs hP hD hS => ?_)
    rw [vcl (n := 1) (by decide) (by decide) (show (0 : Int32) = nI 0 from rfl)] at hP
    have hP : va_P D vwCl (wC K g u2 ++ oL K o (vp_updL f 0 (r.toInt64))) H := hP
    refine lv_goto (tgt := 18) hx hb dL_jump_9 (by decide) ?_
    refine lv_iconst (v := 0) hx hb dL_jump_18 (by decide) ?_
    exact ei hx hb hr hlk hS hP (by rw [hX]; rfl) (by rw [hX]; rfl) (Nat.le_of_ble_eq_true rfl) (Nat.le_of_ble_eq_true rfl) dL_jump_19

def rmL_stamp : Room := { frames := 8, cells := 1, slots := 6, locals := 132 }
theorem hdL_stamp : yL_stamp.cls = RL ∧ yL_stamp.cls ≠ "java/lang/invoke/MethodHandle" ∧ yL_stamp.cls ≠ "java/lang/invoke/VarHandle" ∧ (parseMethodDescriptor yL_stamp.desc).map (fun d => d.parameters.length) = some 3 := by decide +kernel
set_option maxHeartbeats 4000000 in
set_option maxRecDepth 100000 in
theorem kL_stamp {l : Launch} {D : va_G} {K : Nat → ClassId} {L : Nat → Prop} {g : Nat → Nat} (hg : gd L g 29) {o : Nat} (ho : L o) (hod : ∀ i, i < 29 → g i ≠ o) {u u2 : CU} (x : Int32) {E : Option String} {r : Int32} (hC : XI l yX4_stamp wsX4_stamp rmX4_stamp D K (Lg g) [.ref (g 0), .int x] (wC K g u) (wC K g u2) E r) (hE3 : ∀ X, E = some X → X = xIO) (f : AL) : CW l yL_stamp wsL_stamp rmL_stamp D K L [.ref (g 0), .int x, .ref o] (wC K g u ++ oL K o f) (wC K g (eu E u2 u) ++ oL K o (eu E (vp_updL f 0 (r.toInt64)) f)) (cE [xIO] E) := by
  refine CW.of (cc := cL_stamp) (maxL := 4) (ret := some .int) (by decide +kernel) rfl (Nat.le_of_ble_eq_true rfl) ?_
  intro p e s m below meth c ls hen hZ htb hP
  obtain ⟨hx, hb, hr, hts, hown, hlk, hml, hnm, hE, hl⟩ := hen
  have S : CallFix p m c cL_stamp 4 s _ wsL_stamp RL := ⟨hx, hb, hml, hown, hts⟩
  have hS : va_S (fr L s.heap.size) s.heap s.heap [] := va_S.rf
  have hl : lv_has ls 4 [(0, .ref (g 0)), (1, .int x), (2, .ref o)] := hl
  have hPC : va_P D vwCl (wC K g u) s.heap := wCO_c hP
  have hP0 := hP
  have hLA : ∀ q, fr (Lg g) s.heap.size q → fr L s.heap.size q := fun q h9 => h9.elim (fun ⟨i, hi, e9⟩ => by rw [e9]; exact Or.inl (hg.2 i hi)) Or.inr
  refine lv_aload_n hx hb dL_stamp_0 rfl (lv_at hl 2 rfl) ?_
  refine lv_iconst (v := 0) hx hb dL_stamp_1 (by decide) ?_
  refine lv_aload_n hx hb dL_stamp_2 rfl (lv_at hl 0 rfl) ?_
  refine lv_iload_n hx hb dL_stamp_3 rfl (lv_at hl 1 rfl) ?_
  refine wiV (As := [.int x]) (rest := [.int 0, .ref o]) S hC (cwV 1 hts gL_stamp_X4_stamp rfl rfl rfl hdX4_stamp ⟨Nat.le_of_ble_eq_true rfl, Nat.le_of_ble_eq_true rfl⟩) 0 rfl rfl hE hPC hS hLA rfl hl.1 rfl (Nat.le_of_ble_eq_true rfl) dL_stamp_4 ⟨Nat.le_of_ble_eq_true rfl, Nat.le_of_ble_eq_true rfl⟩ (fun X ce q H locs hX hP hk hS hq hv hc => ?_) (fun H locs hX hP hk hS => ?_)
  · have hPo := wCO_j hP0 hod hk hP
    rcases hE3 X hX with rfl
    · skip
      refine vx_catch (own := RL) (name := xIO) hown [] ⟨0, 9, 12, 19⟩ [] (htb.trans rfl) (fun _ h9 => absurd h9 List.not_mem_nil) rfl (by decide) (hts _ (List.mem_of_getElem? (i := 1) rfl)) (va_Nw.use rfl (hE.2.2.2.2.2.1 xIO (List.mem_of_getElem? (i := 2) rfl))) hq hv hc ?_
      refine W.eq (g2 := F0 m 12 ls [.ref q]) rfl ?_
      refine lv_astore_n (lv' := [(3, .ref q), (0, .ref (g 0)), (1, .int x), (2, .ref o)]) hx hb dL_stamp_12 rfl hl (by decide) rfl (fun ls hl => ?_)
      refine lv_iconst (v := 1) hx hb dL_stamp_13 (by decide) ?_
      exact ei hx hb hr hlk hS hPo (by rw [hX]; rfl) (by rw [hX]; decide +kernel) (Nat.le_of_ble_eq_true rfl) (Nat.le_of_ble_eq_true rfl) dL_stamp_14
  · have hP := wCO_j hP0 hod hk hP
    refine lv_i2l hx hb dL_stamp_7 rfl ?_
    refine va_last hx hb hE.1 hP (wCO_D hg ho hod) hS 29 1 rfl rfl (vin (by decide) (by decide) (show (0 : Int32) = nI 0 from rfl)) dL_stamp_8 (fun H locs hP hD hS => ?_)
    rw [vcl (n := 1) (by decide) (by decide) (show (0 : Int32) = nI 0 from rfl)] at hP
    have hP : va_P D vwCl (wC K g u2 ++ oL K o (vp_updL f 0 (r.toInt64))) H := hP
    refine lv_goto (tgt := 15) hx hb dL_stamp_9 (by decide) ?_
    refine lv_iconst (v := 0) hx hb dL_stamp_15 (by decide) ?_
    exact ei hx hb hr hlk hS hP (by rw [hX]; rfl) (by rw [hX]; rfl) (Nat.le_of_ble_eq_true rfl) (Nat.le_of_ble_eq_true rfl) dL_stamp_16

def rmL_isBefore : Room := { frames := 8, cells := 2, slots := 12, locals := 132 }
theorem hdL_isBefore : yL_isBefore.cls = RL ∧ yL_isBefore.cls ≠ "java/lang/invoke/MethodHandle" ∧ yL_isBefore.cls ≠ "java/lang/invoke/VarHandle" ∧ (parseMethodDescriptor yL_isBefore.desc).map (fun d => d.parameters.length) = some 4 := by decide +kernel
set_option maxHeartbeats 4000000 in
set_option maxRecDepth 100000 in
theorem kL_isBefore {l : Launch} {D : va_G} {K : Nat → ClassId} {L : Nat → Prop} {g : Nat → Nat} (hg : gd L g 29) {o : Nat} (ho : L o) (hod : ∀ i, i < 29 → g i ≠ o) {u u2 : CU} (x y : Int32) {E : Option String} {r : Int32} (hC : XI l yX4_isBefore wsX4_isBefore rmX4_isBefore D K (Lg g) [.ref (g 0), .int x, .int y] (wC K g u) (wC K g u2) E r) (hE3 : ∀ X, E = some X → X = xIA) (f : AL) : CW l yL_isBefore wsL_isBefore rmL_isBefore D K L [.ref (g 0), .int x, .int y, .ref o] (wC K g u ++ oL K o f) (wC K g (eu E u2 u) ++ oL K o (eu E (vp_updL f 0 (if r = 0 then 0 else 1)) f)) (cE [xIA] E) := by
  refine CW.of (cc := cL_isBefore) (maxL := 5) (ret := some .int) (by decide +kernel) rfl (Nat.le_of_ble_eq_true rfl) ?_
  intro p e s m below meth c ls hen hZ htb hP
  obtain ⟨hx, hb, hr, hts, hown, hlk, hml, hnm, hE, hl⟩ := hen
  have S : CallFix p m c cL_isBefore 5 s _ wsL_isBefore RL := ⟨hx, hb, hml, hown, hts⟩
  have hS : va_S (fr L s.heap.size) s.heap s.heap [] := va_S.rf
  have hl : lv_has ls 5 [(0, .ref (g 0)), (1, .int x), (2, .int y), (3, .ref o)] := hl
  have hPC : va_P D vwCl (wC K g u) s.heap := wCO_c hP
  have hP0 := hP
  have hLA : ∀ q, fr (Lg g) s.heap.size q → fr L s.heap.size q := fun q h9 => h9.elim (fun ⟨i, hi, e9⟩ => by rw [e9]; exact Or.inl (hg.2 i hi)) Or.inr
  refine lv_aload_n hx hb dL_isBefore_0 rfl (lv_at hl 3 rfl) ?_
  refine lv_iconst (v := 0) hx hb dL_isBefore_1 (by decide) ?_
  refine lv_aload_n hx hb dL_isBefore_2 rfl (lv_at hl 0 rfl) ?_
  refine lv_iload_n hx hb dL_isBefore_3 rfl (lv_at hl 1 rfl) ?_
  refine lv_iload_n hx hb dL_isBefore_4 rfl (lv_at hl 2 rfl) ?_
  refine wiV (As := [.int x, .int y]) (rest := [.int 0, .ref o]) S hC (cwV 2 hts gL_isBefore_X4_isBefore rfl rfl rfl hdX4_isBefore ⟨Nat.le_of_ble_eq_true rfl, Nat.le_of_ble_eq_true rfl⟩) 0 rfl rfl hE hPC hS hLA rfl hl.1 rfl (Nat.le_of_ble_eq_true rfl) dL_isBefore_5 ⟨Nat.le_of_ble_eq_true rfl, Nat.le_of_ble_eq_true rfl⟩ (fun X ce q H locs hX hP hk hS hq hv hc => ?_) (fun H locs hX hP hk hS => ?_)
  · have hPo := wCO_j hP0 hod hk hP
    rcases hE3 X hX with rfl
    · skip
      refine vx_catch (own := RL) (name := xIA) hown [] ⟨0, 17, 20, 25⟩ [] (htb.trans rfl) (fun _ h9 => absurd h9 List.not_mem_nil) rfl (by decide) (hts _ (List.mem_of_getElem? (i := 1) rfl)) (va_Nw.use rfl (hE.2.2.2.2.2.1 xIA (List.mem_of_getElem? (i := 1) rfl))) hq hv hc ?_
      refine W.eq (g2 := F0 m 20 ls [.ref q]) rfl ?_
      refine lv_astore (lv' := [(4, .ref q), (0, .ref (g 0)), (1, .int x), (2, .int y), (3, .ref o)]) hx hb dL_isBefore_20 hl (by decide) rfl (fun ls hl => ?_)
      refine lv_iconst (v := 1) hx hb dL_isBefore_22 (by decide) ?_
      exact ei hx hb hr hlk hS hPo (by rw [hX]; rfl) (by rw [hX]; decide +kernel) (Nat.le_of_ble_eq_true rfl) (Nat.le_of_ble_eq_true rfl) dL_isBefore_23
  · have hP := wCO_j hP0 hod hk hP
    refine lv_if_eq (tgt := 15) hx hb dL_isBefore_8 (by decide) (fun c1 => ?_) (fun c1 => ?_)
    · skip
      refine lv_lconst (v := 0) hx hb dL_isBefore_15 (by decide) ?_
      refine va_last hx hb hE.1 hP (wCO_D hg ho hod) hS 29 1 rfl rfl (vin (by decide) (by decide) (show (0 : Int32) = nI 0 from rfl)) dL_isBefore_16 (fun H locs hP hD hS => ?_)
      rw [vcl (n := 1) (by decide) (by decide) (show (0 : Int32) = nI 0 from rfl)] at hP
      have hP : va_P D vwCl (wC K g u2 ++ oL K o (vp_updL f 0 0)) H := hP
      refine lv_goto (tgt := 24) hx hb dL_isBefore_17 (by decide) ?_
      refine lv_iconst (v := 0) hx hb dL_isBefore_24 (by decide) ?_
      exact ei hx hb hr hlk hS hP (by rw [hX, if_pos c1]; rfl) (by rw [hX]; rfl) (Nat.le_of_ble_eq_true rfl) (Nat.le_of_ble_eq_true rfl) dL_isBefore_25
    · skip
      refine lv_lconst (v := 1) hx hb dL_isBefore_11 (by decide) ?_
      refine lv_goto (tgt := 16) hx hb dL_isBefore_12 (by decide) ?_
      refine va_last hx hb hE.1 hP (wCO_D hg ho hod) hS 29 1 rfl rfl (vin (by decide) (by decide) (show (0 : Int32) = nI 0 from rfl)) dL_isBefore_16 (fun H locs hP hD hS => ?_)
      rw [vcl (n := 1) (by decide) (by decide) (show (0 : Int32) = nI 0 from rfl)] at hP
      have hP : va_P D vwCl (wC K g u2 ++ oL K o (vp_updL f 0 1)) H := hP
      refine lv_goto (tgt := 24) hx hb dL_isBefore_17 (by decide) ?_
      refine lv_iconst (v := 0) hx hb dL_isBefore_24 (by decide) ?_
      exact ei hx hb hr hlk hS hP (by rw [hX, if_neg c1]; rfl) (by rw [hX]; rfl) (Nat.le_of_ble_eq_true rfl) (Nat.le_of_ble_eq_true rfl) dL_isBefore_25

def rmL_read : Room := { frames := 8, cells := 3, slots := 18, locals := 138 }
theorem hdL_read : yL_read.cls = RL ∧ yL_read.cls ≠ "java/lang/invoke/MethodHandle" ∧ yL_read.cls ≠ "java/lang/invoke/VarHandle" ∧ (parseMethodDescriptor yL_read.desc).map (fun d => d.parameters.length) = some 4 := by decide +kernel
set_option maxHeartbeats 4000000 in
set_option maxRecDepth 100000 in
theorem kL_read {l : Launch} {D : va_G} {K : Nat → ClassId} {L : Nat → Prop} {g : Nat → Nat} (hg : gd L g 29) {o : Nat} (ho : L o) (hod : ∀ i, i < 29 → g i ≠ o) {u u2 : CU} (x y : Int32) {E : Option String} {r : Int32} (hC : XI l yX4_read wsX4_read rmX4_read D K (Lg g) [.ref (g 0), .int x, .int y] (wC K g u) (wC K g u2) E r) (hE3 : ∀ X, E = some X → X = xIO ∨ X = xIA ∨ X = xIS) (f : AL) : CW l yL_read wsL_read rmL_read D K L [.ref (g 0), .int x, .int y, .ref o] (wC K g u ++ oL K o f) (wC K g (eu E u2 u) ++ oL K o (eu E (vp_updL f 0 (r.toInt64)) f)) (cE [xIO, xIA, xIS] E) := by
  refine CW.of (cc := cL_read) (maxL := 5) (ret := some .int) (by decide +kernel) rfl (Nat.le_of_ble_eq_true rfl) ?_
  intro p e s m below meth c ls hen hZ htb hP
  obtain ⟨hx, hb, hr, hts, hown, hlk, hml, hnm, hE, hl⟩ := hen
  have S : CallFix p m c cL_read 5 s _ wsL_read RL := ⟨hx, hb, hml, hown, hts⟩
  have hS : va_S (fr L s.heap.size) s.heap s.heap [] := va_S.rf
  have hl : lv_has ls 5 [(0, .ref (g 0)), (1, .int x), (2, .int y), (3, .ref o)] := hl
  have hPC : va_P D vwCl (wC K g u) s.heap := wCO_c hP
  have hP0 := hP
  have hLA : ∀ q, fr (Lg g) s.heap.size q → fr L s.heap.size q := fun q h9 => h9.elim (fun ⟨i, hi, e9⟩ => by rw [e9]; exact Or.inl (hg.2 i hi)) Or.inr
  refine lv_aload_n hx hb dL_read_0 rfl (lv_at hl 3 rfl) ?_
  refine lv_iconst (v := 0) hx hb dL_read_1 (by decide) ?_
  refine lv_aload_n hx hb dL_read_2 rfl (lv_at hl 0 rfl) ?_
  refine lv_iload_n hx hb dL_read_3 rfl (lv_at hl 1 rfl) ?_
  refine lv_iload_n hx hb dL_read_4 rfl (lv_at hl 2 rfl) ?_
  refine wiV (As := [.int x, .int y]) (rest := [.int 0, .ref o]) S hC (cwV 2 hts gL_read_X4_read rfl rfl rfl hdX4_read ⟨Nat.le_of_ble_eq_true rfl, Nat.le_of_ble_eq_true rfl⟩) 0 rfl rfl hE hPC hS hLA rfl hl.1 rfl (Nat.le_of_ble_eq_true rfl) dL_read_5 ⟨Nat.le_of_ble_eq_true rfl, Nat.le_of_ble_eq_true rfl⟩ (fun X ce q H locs hX hP hk hS hq hv hc => ?_) (fun H locs hX hP hk hS => ?_)
  · have hPo := wCO_j hP0 hod hk hP
    rcases hE3 X hX with rfl | rfl | rfl
    · skip
      refine vx_catch (own := RL) (name := xIO) hown [] ⟨0, 10, 13, 19⟩ [⟨0, 10, 17, 25⟩, ⟨0, 10, 21, 13⟩] (htb.trans rfl) (fun _ h9 => absurd h9 List.not_mem_nil) rfl (by decide) (hts _ (List.mem_of_getElem? (i := 1) rfl)) (va_Nw.use rfl (hE.2.2.2.2.2.1 xIO (List.mem_of_getElem? (i := 2) rfl))) hq hv hc ?_
      refine W.eq (g2 := F0 m 13 ls [.ref q]) rfl ?_
      refine lv_astore (lv' := [(4, .ref q), (0, .ref (g 0)), (1, .int x), (2, .int y), (3, .ref o)]) hx hb dL_read_13 hl (by decide) rfl (fun ls hl => ?_)
      refine lv_iconst (v := 1) hx hb dL_read_15 (by decide) ?_
      exact ei hx hb hr hlk hS hPo (by rw [hX]; rfl) (by rw [hX]; decide +kernel) (Nat.le_of_ble_eq_true rfl) (Nat.le_of_ble_eq_true rfl) dL_read_16
    · skip
      refine vx_catch (own := RL) (name := xIA) hown [⟨0, 10, 13, 19⟩] ⟨0, 10, 17, 25⟩ [⟨0, 10, 21, 13⟩] (htb.trans rfl) (List.forall_mem_cons.mpr ⟨Or.inr ⟨by decide, xIO, (hts _ (List.mem_of_getElem? (i := 1) rfl)), hZ _ (List.mem_of_getElem? (i := 1) rfl) _ (List.mem_of_getElem? (i := 2) rfl) (by decide +kernel)⟩, (fun _ h9 => absurd h9 List.not_mem_nil)⟩) rfl (by decide) (hts _ (List.mem_of_getElem? (i := 2) rfl)) (va_Nw.use rfl (hE.2.2.2.2.2.1 xIA (List.mem_of_getElem? (i := 1) rfl))) hq hv hc ?_
      refine W.eq (g2 := F0 m 17 ls [.ref q]) rfl ?_
      refine lv_astore (lv' := [(4, .ref q), (0, .ref (g 0)), (1, .int x), (2, .int y), (3, .ref o)]) hx hb dL_read_17 hl (by decide) rfl (fun ls hl => ?_)
      refine lv_iconst (v := 2) hx hb dL_read_19 (by decide) ?_
      exact ei hx hb hr hlk hS hPo (by rw [hX]; rfl) (by rw [hX]; decide +kernel) (Nat.le_of_ble_eq_true rfl) (Nat.le_of_ble_eq_true rfl) dL_read_20
    · skip
      refine vx_catch (own := RL) (name := xIS) hown [⟨0, 10, 13, 19⟩, ⟨0, 10, 17, 25⟩] ⟨0, 10, 21, 13⟩ [] (htb.trans rfl) (List.forall_mem_cons.mpr ⟨Or.inr ⟨by decide, xIO, (hts _ (List.mem_of_getElem? (i := 1) rfl)), hZ _ (List.mem_of_getElem? (i := 0) rfl) _ (List.mem_of_getElem? (i := 2) rfl) (by decide +kernel)⟩, (List.forall_mem_cons.mpr ⟨Or.inr ⟨by decide, xIA, (hts _ (List.mem_of_getElem? (i := 2) rfl)), hZ _ (List.mem_of_getElem? (i := 0) rfl) _ (List.mem_of_getElem? (i := 1) rfl) (by decide +kernel)⟩, (fun _ h9 => absurd h9 List.not_mem_nil)⟩)⟩) rfl (by decide) (hts _ (List.mem_of_getElem? (i := 3) rfl)) (va_Nw.use rfl (hE.2.2.2.2.2.1 xIS (List.mem_of_getElem? (i := 0) rfl))) hq hv hc ?_
      refine W.eq (g2 := F0 m 21 ls [.ref q]) rfl ?_
      refine lv_astore (lv' := [(4, .ref q), (0, .ref (g 0)), (1, .int x), (2, .int y), (3, .ref o)]) hx hb dL_read_21 hl (by decide) rfl (fun ls hl => ?_)
      refine lv_iconst (v := 3) hx hb dL_read_23 (by decide) ?_
      exact ei hx hb hr hlk hS hPo (by rw [hX]; rfl) (by rw [hX]; decide +kernel) (Nat.le_of_ble_eq_true rfl) (Nat.le_of_ble_eq_true rfl) dL_read_24
  · have hP := wCO_j hP0 hod hk hP
    refine lv_i2l hx hb dL_read_8 rfl ?_
    refine va_last hx hb hE.1 hP (wCO_D hg ho hod) hS 29 1 rfl rfl (vin (by decide) (by decide) (show (0 : Int32) = nI 0 from rfl)) dL_read_9 (fun H locs hP hD hS => ?_)
    rw [vcl (n := 1) (by decide) (by decide) (show (0 : Int32) = nI 0 from rfl)] at hP
    have hP : va_P D vwCl (wC K g u2 ++ oL K o (vp_updL f 0 (r.toInt64))) H := hP
    refine lv_goto (tgt := 25) hx hb dL_read_10 (by decide) ?_
    refine lv_iconst (v := 0) hx hb dL_read_25 (by decide) ?_
    exact ei hx hb hr hlk hS hP (by rw [hX]; rfl) (by rw [hX]; rfl) (Nat.le_of_ble_eq_true rfl) (Nat.le_of_ble_eq_true rfl) dL_read_26

def rmL_readPlain : Room := { frames := 8, cells := 3, slots := 18, locals := 134 }
theorem hdL_readPlain : yL_readPlain.cls = RL ∧ yL_readPlain.cls ≠ "java/lang/invoke/MethodHandle" ∧ yL_readPlain.cls ≠ "java/lang/invoke/VarHandle" ∧ (parseMethodDescriptor yL_readPlain.desc).map (fun d => d.parameters.length) = some 4 := by decide +kernel
set_option maxHeartbeats 4000000 in
set_option maxRecDepth 100000 in
theorem kL_readPlain {l : Launch} {D : va_G} {K : Nat → ClassId} {L : Nat → Prop} {g : Nat → Nat} (hg : gd L g 29) {o : Nat} (ho : L o) (hod : ∀ i, i < 29 → g i ≠ o) {u u2 : CU} (x y : Int32) {E : Option String} {r : Int32} (hC : XI l yX4_readPlain wsX4_readPlain rmX4_readPlain D K (Lg g) [.ref (g 0), .int x, .int y] (wC K g u) (wC K g u2) E r) (hE3 : ∀ X, E = some X → X = xIO ∨ X = xIA ∨ X = xIS) (f : AL) : CW l yL_readPlain wsL_readPlain rmL_readPlain D K L [.ref (g 0), .int x, .int y, .ref o] (wC K g u ++ oL K o f) (wC K g (eu E u2 u) ++ oL K o (eu E (vp_updL f 0 (r.toInt64)) f)) (cE [xIO, xIA, xIS] E) := by
  refine CW.of (cc := cL_readPlain) (maxL := 5) (ret := some .int) (by decide +kernel) rfl (Nat.le_of_ble_eq_true rfl) ?_
  intro p e s m below meth c ls hen hZ htb hP
  obtain ⟨hx, hb, hr, hts, hown, hlk, hml, hnm, hE, hl⟩ := hen
  have S : CallFix p m c cL_readPlain 5 s _ wsL_readPlain RL := ⟨hx, hb, hml, hown, hts⟩
  have hS : va_S (fr L s.heap.size) s.heap s.heap [] := va_S.rf
  have hl : lv_has ls 5 [(0, .ref (g 0)), (1, .int x), (2, .int y), (3, .ref o)] := hl
  have hPC : va_P D vwCl (wC K g u) s.heap := wCO_c hP
  have hP0 := hP
  have hLA : ∀ q, fr (Lg g) s.heap.size q → fr L s.heap.size q := fun q h9 => h9.elim (fun ⟨i, hi, e9⟩ => by rw [e9]; exact Or.inl (hg.2 i hi)) Or.inr
  refine lv_aload_n hx hb dL_readPlain_0 rfl (lv_at hl 3 rfl) ?_
  refine lv_iconst (v := 0) hx hb dL_readPlain_1 (by decide) ?_
  refine lv_aload_n hx hb dL_readPlain_2 rfl (lv_at hl 0 rfl) ?_
  refine lv_iload_n hx hb dL_readPlain_3 rfl (lv_at hl 1 rfl) ?_
  refine lv_iload_n hx hb dL_readPlain_4 rfl (lv_at hl 2 rfl) ?_
  refine wiV (As := [.int x, .int y]) (rest := [.int 0, .ref o]) S hC (cwV 2 hts gL_readPlain_X4_readPlain rfl rfl rfl hdX4_readPlain ⟨Nat.le_of_ble_eq_true rfl, Nat.le_of_ble_eq_true rfl⟩) 0 rfl rfl hE hPC hS hLA rfl hl.1 rfl (Nat.le_of_ble_eq_true rfl) dL_readPlain_5 ⟨Nat.le_of_ble_eq_true rfl, Nat.le_of_ble_eq_true rfl⟩ (fun X ce q H locs hX hP hk hS hq hv hc => ?_) (fun H locs hX hP hk hS => ?_)
  · have hPo := wCO_j hP0 hod hk hP
    rcases hE3 X hX with rfl | rfl | rfl
    · skip
      refine vx_catch (own := RL) (name := xIO) hown [] ⟨0, 10, 13, 19⟩ [⟨0, 10, 17, 25⟩, ⟨0, 10, 21, 13⟩] (htb.trans rfl) (fun _ h9 => absurd h9 List.not_mem_nil) rfl (by decide) (hts _ (List.mem_of_getElem? (i := 1) rfl)) (va_Nw.use rfl (hE.2.2.2.2.2.1 xIO (List.mem_of_getElem? (i := 2) rfl))) hq hv hc ?_
      refine W.eq (g2 := F0 m 13 ls [.ref q]) rfl ?_
      refine lv_astore (lv' := [(4, .ref q), (0, .ref (g 0)), (1, .int x), (2, .int y), (3, .ref o)]) hx hb dL_readPlain_13 hl (by decide) rfl (fun ls hl => ?_)
      refine lv_iconst (v := 1) hx hb dL_readPlain_15 (by decide) ?_
      exact ei hx hb hr hlk hS hPo (by rw [hX]; rfl) (by rw [hX]; decide +kernel) (Nat.le_of_ble_eq_true rfl) (Nat.le_of_ble_eq_true rfl) dL_readPlain_16
    · skip
      refine vx_catch (own := RL) (name := xIA) hown [⟨0, 10, 13, 19⟩] ⟨0, 10, 17, 25⟩ [⟨0, 10, 21, 13⟩] (htb.trans rfl) (List.forall_mem_cons.mpr ⟨Or.inr ⟨by decide, xIO, (hts _ (List.mem_of_getElem? (i := 1) rfl)), hZ _ (List.mem_of_getElem? (i := 1) rfl) _ (List.mem_of_getElem? (i := 2) rfl) (by decide +kernel)⟩, (fun _ h9 => absurd h9 List.not_mem_nil)⟩) rfl (by decide) (hts _ (List.mem_of_getElem? (i := 2) rfl)) (va_Nw.use rfl (hE.2.2.2.2.2.1 xIA (List.mem_of_getElem? (i := 1) rfl))) hq hv hc ?_
      refine W.eq (g2 := F0 m 17 ls [.ref q]) rfl ?_
      refine lv_astore (lv' := [(4, .ref q), (0, .ref (g 0)), (1, .int x), (2, .int y), (3, .ref o)]) hx hb dL_readPlain_17 hl (by decide) rfl (fun ls hl => ?_)
      refine lv_iconst (v := 2) hx hb dL_readPlain_19 (by decide) ?_
      exact ei hx hb hr hlk hS hPo (by rw [hX]; rfl) (by rw [hX]; decide +kernel) (Nat.le_of_ble_eq_true rfl) (Nat.le_of_ble_eq_true rfl) dL_readPlain_20
    · skip
      refine vx_catch (own := RL) (name := xIS) hown [⟨0, 10, 13, 19⟩, ⟨0, 10, 17, 25⟩] ⟨0, 10, 21, 13⟩ [] (htb.trans rfl) (List.forall_mem_cons.mpr ⟨Or.inr ⟨by decide, xIO, (hts _ (List.mem_of_getElem? (i := 1) rfl)), hZ _ (List.mem_of_getElem? (i := 0) rfl) _ (List.mem_of_getElem? (i := 2) rfl) (by decide +kernel)⟩, (List.forall_mem_cons.mpr ⟨Or.inr ⟨by decide, xIA, (hts _ (List.mem_of_getElem? (i := 2) rfl)), hZ _ (List.mem_of_getElem? (i := 0) rfl) _ (List.mem_of_getElem? (i := 1) rfl) (by decide +kernel)⟩, (fun _ h9 => absurd h9 List.not_mem_nil)⟩)⟩) rfl (by decide) (hts _ (List.mem_of_getElem? (i := 3) rfl)) (va_Nw.use rfl (hE.2.2.2.2.2.1 xIS (List.mem_of_getElem? (i := 0) rfl))) hq hv hc ?_
      refine W.eq (g2 := F0 m 21 ls [.ref q]) rfl ?_
      refine lv_astore (lv' := [(4, .ref q), (0, .ref (g 0)), (1, .int x), (2, .int y), (3, .ref o)]) hx hb dL_readPlain_21 hl (by decide) rfl (fun ls hl => ?_)
      refine lv_iconst (v := 3) hx hb dL_readPlain_23 (by decide) ?_
      exact ei hx hb hr hlk hS hPo (by rw [hX]; rfl) (by rw [hX]; decide +kernel) (Nat.le_of_ble_eq_true rfl) (Nat.le_of_ble_eq_true rfl) dL_readPlain_24
  · have hP := wCO_j hP0 hod hk hP
    refine lv_i2l hx hb dL_readPlain_8 rfl ?_
    refine va_last hx hb hE.1 hP (wCO_D hg ho hod) hS 29 1 rfl rfl (vin (by decide) (by decide) (show (0 : Int32) = nI 0 from rfl)) dL_readPlain_9 (fun H locs hP hD hS => ?_)
    rw [vcl (n := 1) (by decide) (by decide) (show (0 : Int32) = nI 0 from rfl)] at hP
    have hP : va_P D vwCl (wC K g u2 ++ oL K o (vp_updL f 0 (r.toInt64))) H := hP
    refine lv_goto (tgt := 25) hx hb dL_readPlain_10 (by decide) ?_
    refine lv_iconst (v := 0) hx hb dL_readPlain_25 (by decide) ?_
    exact ei hx hb hr hlk hS hP (by rw [hX]; rfl) (by rw [hX]; rfl) (Nat.le_of_ble_eq_true rfl) (Nat.le_of_ble_eq_true rfl) dL_readPlain_26

def rmL_write : Room := { frames := 8, cells := 6, slots := 36, locals := 141 }
theorem hdL_write : yL_write.cls = RL ∧ yL_write.cls ≠ "java/lang/invoke/MethodHandle" ∧ yL_write.cls ≠ "java/lang/invoke/VarHandle" ∧ (parseMethodDescriptor yL_write.desc).map (fun d => d.parameters.length) = some 5 := by decide +kernel
set_option maxHeartbeats 4000000 in
set_option maxRecDepth 100000 in
theorem kL_write {l : Launch} {D : va_G} {K : Nat → ClassId} {L : Nat → Prop} {g : Nat → Nat} (hg : gd L g 29) {o : Nat} (ho : L o) (hod : ∀ i, i < 29 → g i ≠ o) {u u2 : CU} (x y z : Int32) {E : Option String} {r : Int32} (hC : XI l yX4_write wsX4_write rmX4_write D K (Lg g) [.ref (g 0), .int x, .int y, .int z] (wC K g u) (wC K g u2) E r) (hE3 : ∀ X, E = some X → X = xIO ∨ X = xIA ∨ X = xIS) (f : AL) : CW l yL_write wsL_write rmL_write D K L [.ref (g 0), .int x, .int y, .int z, .ref o] (wC K g u ++ oL K o f) (wC K g (eu E u2 u) ++ oL K o (eu E (vp_updL f 0 (r.toInt64)) f)) (cE [xIO, xIA, xIS] E) := by
  refine CW.of (cc := cL_write) (maxL := 6) (ret := some .int) (by decide +kernel) rfl (Nat.le_of_ble_eq_true rfl) ?_
  intro p e s m below meth c ls hen hZ htb hP
  obtain ⟨hx, hb, hr, hts, hown, hlk, hml, hnm, hE, hl⟩ := hen
  have S : CallFix p m c cL_write 6 s _ wsL_write RL := ⟨hx, hb, hml, hown, hts⟩
  have hS : va_S (fr L s.heap.size) s.heap s.heap [] := va_S.rf
  have hl : lv_has ls 6 [(0, .ref (g 0)), (1, .int x), (2, .int y), (3, .int z), (4, .ref o)] := hl
  have hPC : va_P D vwCl (wC K g u) s.heap := wCO_c hP
  have hP0 := hP
  have hLA : ∀ q, fr (Lg g) s.heap.size q → fr L s.heap.size q := fun q h9 => h9.elim (fun ⟨i, hi, e9⟩ => by rw [e9]; exact Or.inl (hg.2 i hi)) Or.inr
  refine lv_aload hx hb dL_write_0 (lv_at hl 4 rfl) ?_
  refine lv_iconst (v := 0) hx hb dL_write_2 (by decide) ?_
  refine lv_aload_n hx hb dL_write_3 rfl (lv_at hl 0 rfl) ?_
  refine lv_iload_n hx hb dL_write_4 rfl (lv_at hl 1 rfl) ?_
  refine lv_iload_n hx hb dL_write_5 rfl (lv_at hl 2 rfl) ?_
  refine lv_iload_n hx hb dL_write_6 rfl (lv_at hl 3 rfl) ?_
  refine wiV (As := [.int x, .int y, .int z]) (rest := [.int 0, .ref o]) S hC (cwV 3 hts gL_write_X4_write rfl rfl rfl hdX4_write ⟨Nat.le_of_ble_eq_true rfl, Nat.le_of_ble_eq_true rfl⟩) 0 rfl rfl hE hPC hS hLA rfl hl.1 rfl (Nat.le_of_ble_eq_true rfl) dL_write_7 ⟨Nat.le_of_ble_eq_true rfl, Nat.le_of_ble_eq_true rfl⟩ (fun X ce q H locs hX hP hk hS hq hv hc => ?_) (fun H locs hX hP hk hS => ?_)
  · have hPo := wCO_j hP0 hod hk hP
    rcases hE3 X hX with rfl | rfl | rfl
    · skip
      refine vx_catch (own := RL) (name := xIO) hown [] ⟨0, 12, 15, 19⟩ [⟨0, 12, 19, 25⟩, ⟨0, 12, 23, 13⟩] (htb.trans rfl) (fun _ h9 => absurd h9 List.not_mem_nil) rfl (by decide) (hts _ (List.mem_of_getElem? (i := 1) rfl)) (va_Nw.use rfl (hE.2.2.2.2.2.1 xIO (List.mem_of_getElem? (i := 2) rfl))) hq hv hc ?_
      refine W.eq (g2 := F0 m 15 ls [.ref q]) rfl ?_
      refine lv_astore (lv' := [(5, .ref q), (0, .ref (g 0)), (1, .int x), (2, .int y), (3, .int z), (4, .ref o)]) hx hb dL_write_15 hl (by decide) rfl (fun ls hl => ?_)
      refine lv_iconst (v := 1) hx hb dL_write_17 (by decide) ?_
      exact ei hx hb hr hlk hS hPo (by rw [hX]; rfl) (by rw [hX]; decide +kernel) (Nat.le_of_ble_eq_true rfl) (Nat.le_of_ble_eq_true rfl) dL_write_18
    · skip
      refine vx_catch (own := RL) (name := xIA) hown [⟨0, 12, 15, 19⟩] ⟨0, 12, 19, 25⟩ [⟨0, 12, 23, 13⟩] (htb.trans rfl) (List.forall_mem_cons.mpr ⟨Or.inr ⟨by decide, xIO, (hts _ (List.mem_of_getElem? (i := 1) rfl)), hZ _ (List.mem_of_getElem? (i := 1) rfl) _ (List.mem_of_getElem? (i := 2) rfl) (by decide +kernel)⟩, (fun _ h9 => absurd h9 List.not_mem_nil)⟩) rfl (by decide) (hts _ (List.mem_of_getElem? (i := 2) rfl)) (va_Nw.use rfl (hE.2.2.2.2.2.1 xIA (List.mem_of_getElem? (i := 1) rfl))) hq hv hc ?_
      refine W.eq (g2 := F0 m 19 ls [.ref q]) rfl ?_
      refine lv_astore (lv' := [(5, .ref q), (0, .ref (g 0)), (1, .int x), (2, .int y), (3, .int z), (4, .ref o)]) hx hb dL_write_19 hl (by decide) rfl (fun ls hl => ?_)
      refine lv_iconst (v := 2) hx hb dL_write_21 (by decide) ?_
      exact ei hx hb hr hlk hS hPo (by rw [hX]; rfl) (by rw [hX]; decide +kernel) (Nat.le_of_ble_eq_true rfl) (Nat.le_of_ble_eq_true rfl) dL_write_22
    · skip
      refine vx_catch (own := RL) (name := xIS) hown [⟨0, 12, 15, 19⟩, ⟨0, 12, 19, 25⟩] ⟨0, 12, 23, 13⟩ [] (htb.trans rfl) (List.forall_mem_cons.mpr ⟨Or.inr ⟨by decide, xIO, (hts _ (List.mem_of_getElem? (i := 1) rfl)), hZ _ (List.mem_of_getElem? (i := 0) rfl) _ (List.mem_of_getElem? (i := 2) rfl) (by decide +kernel)⟩, (List.forall_mem_cons.mpr ⟨Or.inr ⟨by decide, xIA, (hts _ (List.mem_of_getElem? (i := 2) rfl)), hZ _ (List.mem_of_getElem? (i := 0) rfl) _ (List.mem_of_getElem? (i := 1) rfl) (by decide +kernel)⟩, (fun _ h9 => absurd h9 List.not_mem_nil)⟩)⟩) rfl (by decide) (hts _ (List.mem_of_getElem? (i := 3) rfl)) (va_Nw.use rfl (hE.2.2.2.2.2.1 xIS (List.mem_of_getElem? (i := 0) rfl))) hq hv hc ?_
      refine W.eq (g2 := F0 m 23 ls [.ref q]) rfl ?_
      refine lv_astore (lv' := [(5, .ref q), (0, .ref (g 0)), (1, .int x), (2, .int y), (3, .int z), (4, .ref o)]) hx hb dL_write_23 hl (by decide) rfl (fun ls hl => ?_)
      refine lv_iconst (v := 3) hx hb dL_write_25 (by decide) ?_
      exact ei hx hb hr hlk hS hPo (by rw [hX]; rfl) (by rw [hX]; decide +kernel) (Nat.le_of_ble_eq_true rfl) (Nat.le_of_ble_eq_true rfl) dL_write_26
  · have hP := wCO_j hP0 hod hk hP
    refine lv_i2l hx hb dL_write_10 rfl ?_
    refine va_last hx hb hE.1 hP (wCO_D hg ho hod) hS 29 1 rfl rfl (vin (by decide) (by decide) (show (0 : Int32) = nI 0 from rfl)) dL_write_11 (fun H locs hP hD hS => ?_)
    rw [vcl (n := 1) (by decide) (by decide) (show (0 : Int32) = nI 0 from rfl)] at hP
    have hP : va_P D vwCl (wC K g u2 ++ oL K o (vp_updL f 0 (r.toInt64))) H := hP
    refine lv_goto (tgt := 27) hx hb dL_write_12 (by decide) ?_
    refine lv_iconst (v := 0) hx hb dL_write_27 (by decide) ?_
    exact ei hx hb hr hlk hS hP (by rw [hX]; rfl) (by rw [hX]; rfl) (Nat.le_of_ble_eq_true rfl) (Nat.le_of_ble_eq_true rfl) dL_write_28

def rmL_delete : Room := { frames := 8, cells := 4, slots := 24, locals := 138 }
theorem hdL_delete : yL_delete.cls = RL ∧ yL_delete.cls ≠ "java/lang/invoke/MethodHandle" ∧ yL_delete.cls ≠ "java/lang/invoke/VarHandle" ∧ (parseMethodDescriptor yL_delete.desc).map (fun d => d.parameters.length) = some 4 := by decide +kernel
set_option maxHeartbeats 4000000 in
set_option maxRecDepth 100000 in
theorem kL_delete {l : Launch} {D : va_G} {K : Nat → ClassId} {L : Nat → Prop} {g : Nat → Nat} (hg : gd L g 29) {o : Nat} (ho : L o) (hod : ∀ i, i < 29 → g i ≠ o) {u u2 : CU} (x y : Int32) {E : Option String} {r : Int32} (hC : XI l yX4_delete wsX4_delete rmX4_delete D K (Lg g) [.ref (g 0), .int x, .int y] (wC K g u) (wC K g u2) E r) (hE3 : ∀ X, E = some X → X = xIO ∨ X = xIA ∨ X = xIS) (f : AL) : CW l yL_delete wsL_delete rmL_delete D K L [.ref (g 0), .int x, .int y, .ref o] (wC K g u ++ oL K o f) (wC K g (eu E u2 u) ++ oL K o (eu E (vp_updL f 0 (if r = 0 then 0 else 1)) f)) (cE [xIO, xIA, xIS] E) := by
  refine CW.of (cc := cL_delete) (maxL := 5) (ret := some .int) (by decide +kernel) rfl (Nat.le_of_ble_eq_true rfl) ?_
  intro p e s m below meth c ls hen hZ htb hP
  obtain ⟨hx, hb, hr, hts, hown, hlk, hml, hnm, hE, hl⟩ := hen
  have S : CallFix p m c cL_delete 5 s _ wsL_delete RL := ⟨hx, hb, hml, hown, hts⟩
  have hS : va_S (fr L s.heap.size) s.heap s.heap [] := va_S.rf
  have hl : lv_has ls 5 [(0, .ref (g 0)), (1, .int x), (2, .int y), (3, .ref o)] := hl
  have hPC : va_P D vwCl (wC K g u) s.heap := wCO_c hP
  have hP0 := hP
  have hLA : ∀ q, fr (Lg g) s.heap.size q → fr L s.heap.size q := fun q h9 => h9.elim (fun ⟨i, hi, e9⟩ => by rw [e9]; exact Or.inl (hg.2 i hi)) Or.inr
  refine lv_aload_n hx hb dL_delete_0 rfl (lv_at hl 3 rfl) ?_
  refine lv_iconst (v := 0) hx hb dL_delete_1 (by decide) ?_
  refine lv_aload_n hx hb dL_delete_2 rfl (lv_at hl 0 rfl) ?_
  refine lv_iload_n hx hb dL_delete_3 rfl (lv_at hl 1 rfl) ?_
  refine lv_iload_n hx hb dL_delete_4 rfl (lv_at hl 2 rfl) ?_
  refine wiV (As := [.int x, .int y]) (rest := [.int 0, .ref o]) S hC (cwV 2 hts gL_delete_X4_delete rfl rfl rfl hdX4_delete ⟨Nat.le_of_ble_eq_true rfl, Nat.le_of_ble_eq_true rfl⟩) 0 rfl rfl hE hPC hS hLA rfl hl.1 rfl (Nat.le_of_ble_eq_true rfl) dL_delete_5 ⟨Nat.le_of_ble_eq_true rfl, Nat.le_of_ble_eq_true rfl⟩ (fun X ce q H locs hX hP hk hS hq hv hc => ?_) (fun H locs hX hP hk hS => ?_)
  · have hPo := wCO_j hP0 hod hk hP
    rcases hE3 X hX with rfl | rfl | rfl
    · skip
      refine vx_catch (own := RL) (name := xIO) hown [] ⟨0, 17, 20, 19⟩ [⟨0, 17, 24, 25⟩, ⟨0, 17, 28, 13⟩] (htb.trans rfl) (fun _ h9 => absurd h9 List.not_mem_nil) rfl (by decide) (hts _ (List.mem_of_getElem? (i := 1) rfl)) (va_Nw.use rfl (hE.2.2.2.2.2.1 xIO (List.mem_of_getElem? (i := 2) rfl))) hq hv hc ?_
      refine W.eq (g2 := F0 m 20 ls [.ref q]) rfl ?_
      refine lv_astore (lv' := [(4, .ref q), (0, .ref (g 0)), (1, .int x), (2, .int y), (3, .ref o)]) hx hb dL_delete_20 hl (by decide) rfl (fun ls hl => ?_)
      refine lv_iconst (v := 1) hx hb dL_delete_22 (by decide) ?_
      exact ei hx hb hr hlk hS hPo (by rw [hX]; rfl) (by rw [hX]; decide +kernel) (Nat.le_of_ble_eq_true rfl) (Nat.le_of_ble_eq_true rfl) dL_delete_23
    · skip
      refine vx_catch (own := RL) (name := xIA) hown [⟨0, 17, 20, 19⟩] ⟨0, 17, 24, 25⟩ [⟨0, 17, 28, 13⟩] (htb.trans rfl) (List.forall_mem_cons.mpr ⟨Or.inr ⟨by decide, xIO, (hts _ (List.mem_of_getElem? (i := 1) rfl)), hZ _ (List.mem_of_getElem? (i := 1) rfl) _ (List.mem_of_getElem? (i := 2) rfl) (by decide +kernel)⟩, (fun _ h9 => absurd h9 List.not_mem_nil)⟩) rfl (by decide) (hts _ (List.mem_of_getElem? (i := 2) rfl)) (va_Nw.use rfl (hE.2.2.2.2.2.1 xIA (List.mem_of_getElem? (i := 1) rfl))) hq hv hc ?_
      refine W.eq (g2 := F0 m 24 ls [.ref q]) rfl ?_
      refine lv_astore (lv' := [(4, .ref q), (0, .ref (g 0)), (1, .int x), (2, .int y), (3, .ref o)]) hx hb dL_delete_24 hl (by decide) rfl (fun ls hl => ?_)
      refine lv_iconst (v := 2) hx hb dL_delete_26 (by decide) ?_
      exact ei hx hb hr hlk hS hPo (by rw [hX]; rfl) (by rw [hX]; decide +kernel) (Nat.le_of_ble_eq_true rfl) (Nat.le_of_ble_eq_true rfl) dL_delete_27
    · skip
      refine vx_catch (own := RL) (name := xIS) hown [⟨0, 17, 20, 19⟩, ⟨0, 17, 24, 25⟩] ⟨0, 17, 28, 13⟩ [] (htb.trans rfl) (List.forall_mem_cons.mpr ⟨Or.inr ⟨by decide, xIO, (hts _ (List.mem_of_getElem? (i := 1) rfl)), hZ _ (List.mem_of_getElem? (i := 0) rfl) _ (List.mem_of_getElem? (i := 2) rfl) (by decide +kernel)⟩, (List.forall_mem_cons.mpr ⟨Or.inr ⟨by decide, xIA, (hts _ (List.mem_of_getElem? (i := 2) rfl)), hZ _ (List.mem_of_getElem? (i := 0) rfl) _ (List.mem_of_getElem? (i := 1) rfl) (by decide +kernel)⟩, (fun _ h9 => absurd h9 List.not_mem_nil)⟩)⟩) rfl (by decide) (hts _ (List.mem_of_getElem? (i := 3) rfl)) (va_Nw.use rfl (hE.2.2.2.2.2.1 xIS (List.mem_of_getElem? (i := 0) rfl))) hq hv hc ?_
      refine W.eq (g2 := F0 m 28 ls [.ref q]) rfl ?_
      refine lv_astore (lv' := [(4, .ref q), (0, .ref (g 0)), (1, .int x), (2, .int y), (3, .ref o)]) hx hb dL_delete_28 hl (by decide) rfl (fun ls hl => ?_)
      refine lv_iconst (v := 3) hx hb dL_delete_30 (by decide) ?_
      exact ei hx hb hr hlk hS hPo (by rw [hX]; rfl) (by rw [hX]; decide +kernel) (Nat.le_of_ble_eq_true rfl) (Nat.le_of_ble_eq_true rfl) dL_delete_31
  · have hP := wCO_j hP0 hod hk hP
    refine lv_if_eq (tgt := 15) hx hb dL_delete_8 (by decide) (fun c1 => ?_) (fun c1 => ?_)
    · skip
      refine lv_lconst (v := 0) hx hb dL_delete_15 (by decide) ?_
      refine va_last hx hb hE.1 hP (wCO_D hg ho hod) hS 29 1 rfl rfl (vin (by decide) (by decide) (show (0 : Int32) = nI 0 from rfl)) dL_delete_16 (fun H locs hP hD hS => ?_)
      rw [vcl (n := 1) (by decide) (by decide) (show (0 : Int32) = nI 0 from rfl)] at hP
      have hP : va_P D vwCl (wC K g u2 ++ oL K o (vp_updL f 0 0)) H := hP
      refine lv_goto (tgt := 32) hx hb dL_delete_17 (by decide) ?_
      refine lv_iconst (v := 0) hx hb dL_delete_32 (by decide) ?_
      exact ei hx hb hr hlk hS hP (by rw [hX, if_pos c1]; rfl) (by rw [hX]; rfl) (Nat.le_of_ble_eq_true rfl) (Nat.le_of_ble_eq_true rfl) dL_delete_33
    · skip
      refine lv_lconst (v := 1) hx hb dL_delete_11 (by decide) ?_
      refine lv_goto (tgt := 16) hx hb dL_delete_12 (by decide) ?_
      refine va_last hx hb hE.1 hP (wCO_D hg ho hod) hS 29 1 rfl rfl (vin (by decide) (by decide) (show (0 : Int32) = nI 0 from rfl)) dL_delete_16 (fun H locs hP hD hS => ?_)
      rw [vcl (n := 1) (by decide) (by decide) (show (0 : Int32) = nI 0 from rfl)] at hP
      have hP : va_P D vwCl (wC K g u2 ++ oL K o (vp_updL f 0 1)) H := hP
      refine lv_goto (tgt := 32) hx hb dL_delete_17 (by decide) ?_
      refine lv_iconst (v := 0) hx hb dL_delete_32 (by decide) ?_
      exact ei hx hb hr hlk hS hP (by rw [hX, if_neg c1]; rfl) (by rw [hX]; rfl) (Nat.le_of_ble_eq_true rfl) (Nat.le_of_ble_eq_true rfl) dL_delete_33

def rmL_clean : Room := { frames := 9, cells := 2, slots := 12, locals := 159 }
theorem hdL_clean : yL_clean.cls = RL ∧ yL_clean.cls ≠ "java/lang/invoke/MethodHandle" ∧ yL_clean.cls ≠ "java/lang/invoke/VarHandle" ∧ (parseMethodDescriptor yL_clean.desc).map (fun d => d.parameters.length) = some 3 := by decide +kernel
set_option maxHeartbeats 4000000 in
set_option maxRecDepth 100000 in
theorem kL_clean {l : Launch} {D : va_G} {K : Nat → ClassId} {L : Nat → Prop} {g : Nat → Nat} (hg : gd L g 29) {o : Nat} (ho : L o) (hod : ∀ i, i < 29 → g i ≠ o) {u u2 : CU} (x : Int32) {E : Option String} {r : Int32} (hC : XI l yX4_clean wsX4_clean rmX4_clean D K (Lg g) [.ref (g 0), .int x] (wC K g u) (wC K g u2) E r) (hE3 : ∀ X, E = some X → X = xIA) (f : AL) : CW l yL_clean wsL_clean rmL_clean D K L [.ref (g 0), .int x, .ref o] (wC K g u ++ oL K o f) (wC K g (eu E u2 u) ++ oL K o (eu E (vp_updL f 0 (r.toInt64)) f)) (cE [xIA] E) := by
  refine CW.of (cc := cL_clean) (maxL := 4) (ret := some .int) (by decide +kernel) rfl (Nat.le_of_ble_eq_true rfl) ?_
  intro p e s m below meth c ls hen hZ htb hP
  obtain ⟨hx, hb, hr, hts, hown, hlk, hml, hnm, hE, hl⟩ := hen
  have S : CallFix p m c cL_clean 4 s _ wsL_clean RL := ⟨hx, hb, hml, hown, hts⟩
  have hS : va_S (fr L s.heap.size) s.heap s.heap [] := va_S.rf
  have hl : lv_has ls 4 [(0, .ref (g 0)), (1, .int x), (2, .ref o)] := hl
  have hPC : va_P D vwCl (wC K g u) s.heap := wCO_c hP
  have hP0 := hP
  have hLA : ∀ q, fr (Lg g) s.heap.size q → fr L s.heap.size q := fun q h9 => h9.elim (fun ⟨i, hi, e9⟩ => by rw [e9]; exact Or.inl (hg.2 i hi)) Or.inr
  refine lv_aload_n hx hb dL_clean_0 rfl (lv_at hl 2 rfl) ?_
  refine lv_iconst (v := 0) hx hb dL_clean_1 (by decide) ?_
  refine lv_aload_n hx hb dL_clean_2 rfl (lv_at hl 0 rfl) ?_
  refine lv_iload_n hx hb dL_clean_3 rfl (lv_at hl 1 rfl) ?_
  refine wiV (As := [.int x]) (rest := [.int 0, .ref o]) S hC (cwV 1 hts gL_clean_X4_clean rfl rfl rfl hdX4_clean ⟨Nat.le_of_ble_eq_true rfl, Nat.le_of_ble_eq_true rfl⟩) 0 rfl rfl hE hPC hS hLA rfl hl.1 rfl (Nat.le_of_ble_eq_true rfl) dL_clean_4 ⟨Nat.le_of_ble_eq_true rfl, Nat.le_of_ble_eq_true rfl⟩ (fun X ce q H locs hX hP hk hS hq hv hc => ?_) (fun H locs hX hP hk hS => ?_)
  · have hPo := wCO_j hP0 hod hk hP
    rcases hE3 X hX with rfl
    · skip
      refine vx_catch (own := RL) (name := xIA) hown [] ⟨0, 9, 12, 25⟩ [] (htb.trans rfl) (fun _ h9 => absurd h9 List.not_mem_nil) rfl (by decide) (hts _ (List.mem_of_getElem? (i := 1) rfl)) (va_Nw.use rfl (hE.2.2.2.2.2.1 xIA (List.mem_of_getElem? (i := 1) rfl))) hq hv hc ?_
      refine W.eq (g2 := F0 m 12 ls [.ref q]) rfl ?_
      refine lv_astore_n (lv' := [(3, .ref q), (0, .ref (g 0)), (1, .int x), (2, .ref o)]) hx hb dL_clean_12 rfl hl (by decide) rfl (fun ls hl => ?_)
      refine lv_iconst (v := 1) hx hb dL_clean_13 (by decide) ?_
      exact ei hx hb hr hlk hS hPo (by rw [hX]; rfl) (by rw [hX]; decide +kernel) (Nat.le_of_ble_eq_true rfl) (Nat.le_of_ble_eq_true rfl) dL_clean_14
  · have hP := wCO_j hP0 hod hk hP
    refine lv_i2l hx hb dL_clean_7 rfl ?_
    refine va_last hx hb hE.1 hP (wCO_D hg ho hod) hS 29 1 rfl rfl (vin (by decide) (by decide) (show (0 : Int32) = nI 0 from rfl)) dL_clean_8 (fun H locs hP hD hS => ?_)
    rw [vcl (n := 1) (by decide) (by decide) (show (0 : Int32) = nI 0 from rfl)] at hP
    have hP : va_P D vwCl (wC K g u2 ++ oL K o (vp_updL f 0 (r.toInt64))) H := hP
    refine lv_goto (tgt := 15) hx hb dL_clean_9 (by decide) ?_
    refine lv_iconst (v := 0) hx hb dL_clean_15 (by decide) ?_
    exact ei hx hb hr hlk hS hP (by rw [hX]; rfl) (by rw [hX]; rfl) (Nat.le_of_ble_eq_true rfl) (Nat.le_of_ble_eq_true rfl) dL_clean_16

def rmL_setFreezing : Room := { frames := 7, cells := 1, slots := 6, locals := 112 }
theorem hdL_setFreezing : yL_setFreezing.cls = RL ∧ yL_setFreezing.cls ≠ "java/lang/invoke/MethodHandle" ∧ yL_setFreezing.cls ≠ "java/lang/invoke/VarHandle" ∧ (parseMethodDescriptor yL_setFreezing.desc).map (fun d => d.parameters.length) = some 3 := by decide +kernel
set_option maxHeartbeats 4000000 in
set_option maxRecDepth 100000 in
theorem kL_setFreezing {l : Launch} {D : va_G} {K : Nat → ClassId} {L : Nat → Prop} {g : Nat → Nat} (hg : gd L g 29) {o : Nat} (ho : L o) (hod : ∀ i, i < 29 → g i ≠ o) {u u2 : CU} (x : Int32) {E : Option String} {r : Int32} (hC : XI l yX4_setFreezing wsX4_setFreezing rmX4_setFreezing D K (Lg g) [.ref (g 0), .int x] (wC K g u) (wC K g u2) E r) (hE3 : ∀ X, E = some X → X = xIA) (f : AL) : CW l yL_setFreezing wsL_setFreezing rmL_setFreezing D K L [.ref (g 0), .int x, .ref o] (wC K g u ++ oL K o f) (wC K g (eu E u2 u) ++ oL K o (eu E (vp_updL f 0 (r.toInt64)) f)) (cE [xIA] E) := by
  refine CW.of (cc := cL_setFreezing) (maxL := 4) (ret := some .int) (by decide +kernel) rfl (Nat.le_of_ble_eq_true rfl) ?_
  intro p e s m below meth c ls hen hZ htb hP
  obtain ⟨hx, hb, hr, hts, hown, hlk, hml, hnm, hE, hl⟩ := hen
  have S : CallFix p m c cL_setFreezing 4 s _ wsL_setFreezing RL := ⟨hx, hb, hml, hown, hts⟩
  have hS : va_S (fr L s.heap.size) s.heap s.heap [] := va_S.rf
  have hl : lv_has ls 4 [(0, .ref (g 0)), (1, .int x), (2, .ref o)] := hl
  have hPC : va_P D vwCl (wC K g u) s.heap := wCO_c hP
  have hP0 := hP
  have hLA : ∀ q, fr (Lg g) s.heap.size q → fr L s.heap.size q := fun q h9 => h9.elim (fun ⟨i, hi, e9⟩ => by rw [e9]; exact Or.inl (hg.2 i hi)) Or.inr
  refine lv_aload_n hx hb dL_setFreezing_0 rfl (lv_at hl 2 rfl) ?_
  refine lv_iconst (v := 0) hx hb dL_setFreezing_1 (by decide) ?_
  refine lv_aload_n hx hb dL_setFreezing_2 rfl (lv_at hl 0 rfl) ?_
  refine lv_iload_n hx hb dL_setFreezing_3 rfl (lv_at hl 1 rfl) ?_
  refine wiV (As := [.int x]) (rest := [.int 0, .ref o]) S hC (cwV 1 hts gL_setFreezing_X4_setFreezing rfl rfl rfl hdX4_setFreezing ⟨Nat.le_of_ble_eq_true rfl, Nat.le_of_ble_eq_true rfl⟩) 0 rfl rfl hE hPC hS hLA rfl hl.1 rfl (Nat.le_of_ble_eq_true rfl) dL_setFreezing_4 ⟨Nat.le_of_ble_eq_true rfl, Nat.le_of_ble_eq_true rfl⟩ (fun X ce q H locs hX hP hk hS hq hv hc => ?_) (fun H locs hX hP hk hS => ?_)
  · have hPo := wCO_j hP0 hod hk hP
    rcases hE3 X hX with rfl
    · skip
      refine vx_catch (own := RL) (name := xIA) hown [] ⟨0, 9, 12, 25⟩ [] (htb.trans rfl) (fun _ h9 => absurd h9 List.not_mem_nil) rfl (by decide) (hts _ (List.mem_of_getElem? (i := 1) rfl)) (va_Nw.use rfl (hE.2.2.2.2.2.1 xIA (List.mem_of_getElem? (i := 1) rfl))) hq hv hc ?_
      refine W.eq (g2 := F0 m 12 ls [.ref q]) rfl ?_
      refine lv_astore_n (lv' := [(3, .ref q), (0, .ref (g 0)), (1, .int x), (2, .ref o)]) hx hb dL_setFreezing_12 rfl hl (by decide) rfl (fun ls hl => ?_)
      refine lv_iconst (v := 1) hx hb dL_setFreezing_13 (by decide) ?_
      exact ei hx hb hr hlk hS hPo (by rw [hX]; rfl) (by rw [hX]; decide +kernel) (Nat.le_of_ble_eq_true rfl) (Nat.le_of_ble_eq_true rfl) dL_setFreezing_14
  · have hP := wCO_j hP0 hod hk hP
    refine lv_i2l hx hb dL_setFreezing_7 rfl ?_
    refine va_last hx hb hE.1 hP (wCO_D hg ho hod) hS 29 1 rfl rfl (vin (by decide) (by decide) (show (0 : Int32) = nI 0 from rfl)) dL_setFreezing_8 (fun H locs hP hD hS => ?_)
    rw [vcl (n := 1) (by decide) (by decide) (show (0 : Int32) = nI 0 from rfl)] at hP
    have hP : va_P D vwCl (wC K g u2 ++ oL K o (vp_updL f 0 (r.toInt64))) H := hP
    refine lv_goto (tgt := 15) hx hb dL_setFreezing_9 (by decide) ?_
    refine lv_iconst (v := 0) hx hb dL_setFreezing_15 (by decide) ?_
    exact ei hx hb hr hlk hS hP (by rw [hX]; rfl) (by rw [hX]; rfl) (Nat.le_of_ble_eq_true rfl) (Nat.le_of_ble_eq_true rfl) dL_setFreezing_16

def rmL_isMapped : Room := { frames := 8, cells := 1, slots := 6, locals := 131 }
theorem hdL_isMapped : yL_isMapped.cls = RL ∧ yL_isMapped.cls ≠ "java/lang/invoke/MethodHandle" ∧ yL_isMapped.cls ≠ "java/lang/invoke/VarHandle" ∧ (parseMethodDescriptor yL_isMapped.desc).map (fun d => d.parameters.length) = some 3 := by decide +kernel
set_option maxHeartbeats 4000000 in
set_option maxRecDepth 100000 in
theorem kL_isMapped {l : Launch} {D : va_G} {K : Nat → ClassId} {L : Nat → Prop} {g : Nat → Nat} (hg : gd L g 29) {o : Nat} (ho : L o) (hod : ∀ i, i < 29 → g i ≠ o) {u u2 : CU} (x : Int32) {E : Option String} {r : Int32} (hC : XI l yX4_isMapped wsX4_isMapped rmX4_isMapped D K (Lg g) [.ref (g 0), .int x] (wC K g u) (wC K g u2) E r) (hE3 : ∀ X, E = some X → X = xIA) (f : AL) : CW l yL_isMapped wsL_isMapped rmL_isMapped D K L [.ref (g 0), .int x, .ref o] (wC K g u ++ oL K o f) (wC K g (eu E u2 u) ++ oL K o (eu E (vp_updL f 0 (if r = 0 then 0 else 1)) f)) (cE [xIA] E) := by
  refine CW.of (cc := cL_isMapped) (maxL := 4) (ret := some .int) (by decide +kernel) rfl (Nat.le_of_ble_eq_true rfl) ?_
  intro p e s m below meth c ls hen hZ htb hP
  obtain ⟨hx, hb, hr, hts, hown, hlk, hml, hnm, hE, hl⟩ := hen
  have S : CallFix p m c cL_isMapped 4 s _ wsL_isMapped RL := ⟨hx, hb, hml, hown, hts⟩
  have hS : va_S (fr L s.heap.size) s.heap s.heap [] := va_S.rf
  have hl : lv_has ls 4 [(0, .ref (g 0)), (1, .int x), (2, .ref o)] := hl
  have hPC : va_P D vwCl (wC K g u) s.heap := wCO_c hP
  have hP0 := hP
  have hLA : ∀ q, fr (Lg g) s.heap.size q → fr L s.heap.size q := fun q h9 => h9.elim (fun ⟨i, hi, e9⟩ => by rw [e9]; exact Or.inl (hg.2 i hi)) Or.inr
  refine lv_aload_n hx hb dL_isMapped_0 rfl (lv_at hl 2 rfl) ?_
  refine lv_iconst (v := 0) hx hb dL_isMapped_1 (by decide) ?_
  refine lv_aload_n hx hb dL_isMapped_2 rfl (lv_at hl 0 rfl) ?_
  refine lv_iload_n hx hb dL_isMapped_3 rfl (lv_at hl 1 rfl) ?_
  refine wiV (As := [.int x]) (rest := [.int 0, .ref o]) S hC (cwV 1 hts gL_isMapped_X4_isMapped rfl rfl rfl hdX4_isMapped ⟨Nat.le_of_ble_eq_true rfl, Nat.le_of_ble_eq_true rfl⟩) 0 rfl rfl hE hPC hS hLA rfl hl.1 rfl (Nat.le_of_ble_eq_true rfl) dL_isMapped_4 ⟨Nat.le_of_ble_eq_true rfl, Nat.le_of_ble_eq_true rfl⟩ (fun X ce q H locs hX hP hk hS hq hv hc => ?_) (fun H locs hX hP hk hS => ?_)
  · have hPo := wCO_j hP0 hod hk hP
    rcases hE3 X hX with rfl
    · skip
      refine vx_catch (own := RL) (name := xIA) hown [] ⟨0, 16, 19, 25⟩ [] (htb.trans rfl) (fun _ h9 => absurd h9 List.not_mem_nil) rfl (by decide) (hts _ (List.mem_of_getElem? (i := 1) rfl)) (va_Nw.use rfl (hE.2.2.2.2.2.1 xIA (List.mem_of_getElem? (i := 1) rfl))) hq hv hc ?_
      refine W.eq (g2 := F0 m 19 ls [.ref q]) rfl ?_
      refine lv_astore_n (lv' := [(3, .ref q), (0, .ref (g 0)), (1, .int x), (2, .ref o)]) hx hb dL_isMapped_19 rfl hl (by decide) rfl (fun ls hl => ?_)
      refine lv_iconst (v := 1) hx hb dL_isMapped_20 (by decide) ?_
      exact ei hx hb hr hlk hS hPo (by rw [hX]; rfl) (by rw [hX]; decide +kernel) (Nat.le_of_ble_eq_true rfl) (Nat.le_of_ble_eq_true rfl) dL_isMapped_21
  · have hP := wCO_j hP0 hod hk hP
    refine lv_if_eq (tgt := 14) hx hb dL_isMapped_7 (by decide) (fun c1 => ?_) (fun c1 => ?_)
    · skip
      refine lv_lconst (v := 0) hx hb dL_isMapped_14 (by decide) ?_
      refine va_last hx hb hE.1 hP (wCO_D hg ho hod) hS 29 1 rfl rfl (vin (by decide) (by decide) (show (0 : Int32) = nI 0 from rfl)) dL_isMapped_15 (fun H locs hP hD hS => ?_)
      rw [vcl (n := 1) (by decide) (by decide) (show (0 : Int32) = nI 0 from rfl)] at hP
      have hP : va_P D vwCl (wC K g u2 ++ oL K o (vp_updL f 0 0)) H := hP
      refine lv_goto (tgt := 22) hx hb dL_isMapped_16 (by decide) ?_
      refine lv_iconst (v := 0) hx hb dL_isMapped_22 (by decide) ?_
      exact ei hx hb hr hlk hS hP (by rw [hX, if_pos c1]; rfl) (by rw [hX]; rfl) (Nat.le_of_ble_eq_true rfl) (Nat.le_of_ble_eq_true rfl) dL_isMapped_23
    · skip
      refine lv_lconst (v := 1) hx hb dL_isMapped_10 (by decide) ?_
      refine lv_goto (tgt := 15) hx hb dL_isMapped_11 (by decide) ?_
      refine va_last hx hb hE.1 hP (wCO_D hg ho hod) hS 29 1 rfl rfl (vin (by decide) (by decide) (show (0 : Int32) = nI 0 from rfl)) dL_isMapped_15 (fun H locs hP hD hS => ?_)
      rw [vcl (n := 1) (by decide) (by decide) (show (0 : Int32) = nI 0 from rfl)] at hP
      have hP : va_P D vwCl (wC K g u2 ++ oL K o (vp_updL f 0 1)) H := hP
      refine lv_goto (tgt := 22) hx hb dL_isMapped_16 (by decide) ?_
      refine lv_iconst (v := 0) hx hb dL_isMapped_22 (by decide) ?_
      exact ei hx hb hr hlk hS hP (by rw [hX, if_neg c1]; rfl) (by rw [hX]; rfl) (Nat.le_of_ble_eq_true rfl) (Nat.le_of_ble_eq_true rfl) dL_isMapped_23

def rmL_isWhole : Room := { frames := 8, cells := 1, slots := 6, locals := 134 }
theorem hdL_isWhole : yL_isWhole.cls = RL ∧ yL_isWhole.cls ≠ "java/lang/invoke/MethodHandle" ∧ yL_isWhole.cls ≠ "java/lang/invoke/VarHandle" ∧ (parseMethodDescriptor yL_isWhole.desc).map (fun d => d.parameters.length) = some 3 := by decide +kernel
set_option maxHeartbeats 4000000 in
set_option maxRecDepth 100000 in
theorem kL_isWhole {l : Launch} {D : va_G} {K : Nat → ClassId} {L : Nat → Prop} {g : Nat → Nat} (hg : gd L g 29) {o : Nat} (ho : L o) (hod : ∀ i, i < 29 → g i ≠ o) {u u2 : CU} (x : Int32) {E : Option String} {r : Int32} (hC : XI l yX4_isWhole wsX4_isWhole rmX4_isWhole D K (Lg g) [.ref (g 0), .int x] (wC K g u) (wC K g u2) E r) (hE3 : ∀ X, E = some X → X = xIA) (f : AL) : CW l yL_isWhole wsL_isWhole rmL_isWhole D K L [.ref (g 0), .int x, .ref o] (wC K g u ++ oL K o f) (wC K g (eu E u2 u) ++ oL K o (eu E (vp_updL f 0 (if r = 0 then 0 else 1)) f)) (cE [xIA] E) := by
  refine CW.of (cc := cL_isWhole) (maxL := 4) (ret := some .int) (by decide +kernel) rfl (Nat.le_of_ble_eq_true rfl) ?_
  intro p e s m below meth c ls hen hZ htb hP
  obtain ⟨hx, hb, hr, hts, hown, hlk, hml, hnm, hE, hl⟩ := hen
  have S : CallFix p m c cL_isWhole 4 s _ wsL_isWhole RL := ⟨hx, hb, hml, hown, hts⟩
  have hS : va_S (fr L s.heap.size) s.heap s.heap [] := va_S.rf
  have hl : lv_has ls 4 [(0, .ref (g 0)), (1, .int x), (2, .ref o)] := hl
  have hPC : va_P D vwCl (wC K g u) s.heap := wCO_c hP
  have hP0 := hP
  have hLA : ∀ q, fr (Lg g) s.heap.size q → fr L s.heap.size q := fun q h9 => h9.elim (fun ⟨i, hi, e9⟩ => by rw [e9]; exact Or.inl (hg.2 i hi)) Or.inr
  refine lv_aload_n hx hb dL_isWhole_0 rfl (lv_at hl 2 rfl) ?_
  refine lv_iconst (v := 0) hx hb dL_isWhole_1 (by decide) ?_
  refine lv_aload_n hx hb dL_isWhole_2 rfl (lv_at hl 0 rfl) ?_
  refine lv_iload_n hx hb dL_isWhole_3 rfl (lv_at hl 1 rfl) ?_
  refine wiV (As := [.int x]) (rest := [.int 0, .ref o]) S hC (cwV 1 hts gL_isWhole_X4_isWhole rfl rfl rfl hdX4_isWhole ⟨Nat.le_of_ble_eq_true rfl, Nat.le_of_ble_eq_true rfl⟩) 0 rfl rfl hE hPC hS hLA rfl hl.1 rfl (Nat.le_of_ble_eq_true rfl) dL_isWhole_4 ⟨Nat.le_of_ble_eq_true rfl, Nat.le_of_ble_eq_true rfl⟩ (fun X ce q H locs hX hP hk hS hq hv hc => ?_) (fun H locs hX hP hk hS => ?_)
  · have hPo := wCO_j hP0 hod hk hP
    rcases hE3 X hX with rfl
    · skip
      refine vx_catch (own := RL) (name := xIA) hown [] ⟨0, 16, 19, 25⟩ [] (htb.trans rfl) (fun _ h9 => absurd h9 List.not_mem_nil) rfl (by decide) (hts _ (List.mem_of_getElem? (i := 1) rfl)) (va_Nw.use rfl (hE.2.2.2.2.2.1 xIA (List.mem_of_getElem? (i := 1) rfl))) hq hv hc ?_
      refine W.eq (g2 := F0 m 19 ls [.ref q]) rfl ?_
      refine lv_astore_n (lv' := [(3, .ref q), (0, .ref (g 0)), (1, .int x), (2, .ref o)]) hx hb dL_isWhole_19 rfl hl (by decide) rfl (fun ls hl => ?_)
      refine lv_iconst (v := 1) hx hb dL_isWhole_20 (by decide) ?_
      exact ei hx hb hr hlk hS hPo (by rw [hX]; rfl) (by rw [hX]; decide +kernel) (Nat.le_of_ble_eq_true rfl) (Nat.le_of_ble_eq_true rfl) dL_isWhole_21
  · have hP := wCO_j hP0 hod hk hP
    refine lv_if_eq (tgt := 14) hx hb dL_isWhole_7 (by decide) (fun c1 => ?_) (fun c1 => ?_)
    · skip
      refine lv_lconst (v := 0) hx hb dL_isWhole_14 (by decide) ?_
      refine va_last hx hb hE.1 hP (wCO_D hg ho hod) hS 29 1 rfl rfl (vin (by decide) (by decide) (show (0 : Int32) = nI 0 from rfl)) dL_isWhole_15 (fun H locs hP hD hS => ?_)
      rw [vcl (n := 1) (by decide) (by decide) (show (0 : Int32) = nI 0 from rfl)] at hP
      have hP : va_P D vwCl (wC K g u2 ++ oL K o (vp_updL f 0 0)) H := hP
      refine lv_goto (tgt := 22) hx hb dL_isWhole_16 (by decide) ?_
      refine lv_iconst (v := 0) hx hb dL_isWhole_22 (by decide) ?_
      exact ei hx hb hr hlk hS hP (by rw [hX, if_pos c1]; rfl) (by rw [hX]; rfl) (Nat.le_of_ble_eq_true rfl) (Nat.le_of_ble_eq_true rfl) dL_isWhole_23
    · skip
      refine lv_lconst (v := 1) hx hb dL_isWhole_10 (by decide) ?_
      refine lv_goto (tgt := 15) hx hb dL_isWhole_11 (by decide) ?_
      refine va_last hx hb hE.1 hP (wCO_D hg ho hod) hS 29 1 rfl rfl (vin (by decide) (by decide) (show (0 : Int32) = nI 0 from rfl)) dL_isWhole_15 (fun H locs hP hD hS => ?_)
      rw [vcl (n := 1) (by decide) (by decide) (show (0 : Int32) = nI 0 from rfl)] at hP
      have hP : va_P D vwCl (wC K g u2 ++ oL K o (vp_updL f 0 1)) H := hP
      refine lv_goto (tgt := 22) hx hb dL_isWhole_16 (by decide) ?_
      refine lv_iconst (v := 0) hx hb dL_isWhole_22 (by decide) ?_
      exact ei hx hb hr hlk hS hP (by rw [hX, if_neg c1]; rfl) (by rw [hX]; rfl) (Nat.le_of_ble_eq_true rfl) (Nat.le_of_ble_eq_true rfl) dL_isWhole_23

def rmL_slot : Room := { frames := 8, cells := 2, slots := 12, locals := 134 }
theorem hdL_slot : yL_slot.cls = RL ∧ yL_slot.cls ≠ "java/lang/invoke/MethodHandle" ∧ yL_slot.cls ≠ "java/lang/invoke/VarHandle" ∧ (parseMethodDescriptor yL_slot.desc).map (fun d => d.parameters.length) = some 4 := by decide +kernel
set_option maxHeartbeats 4000000 in
set_option maxRecDepth 100000 in
theorem kL_slot {l : Launch} {D : va_G} {K : Nat → ClassId} {L : Nat → Prop} {g : Nat → Nat} (hg : gd L g 29) {o : Nat} (ho : L o) (hod : ∀ i, i < 29 → g i ≠ o) {u u2 : CU} (x y : Int32) {E : Option String} {r : Int32} (hC : XI l yX4_slot wsX4_slot rmX4_slot D K (Lg g) [.ref (g 0), .int x, .int y] (wC K g u) (wC K g u2) E r) (hE3 : ∀ X, E = some X → X = xIA) (f : AL) : CW l yL_slot wsL_slot rmL_slot D K L [.ref (g 0), .int x, .int y, .ref o] (wC K g u ++ oL K o f) (wC K g (eu E u2 u) ++ oL K o (eu E (vp_updL f 0 (r.toInt64)) f)) (cE [xIA] E) := by
  refine CW.of (cc := cL_slot) (maxL := 5) (ret := some .int) (by decide +kernel) rfl (Nat.le_of_ble_eq_true rfl) ?_
  intro p e s m below meth c ls hen hZ htb hP
  obtain ⟨hx, hb, hr, hts, hown, hlk, hml, hnm, hE, hl⟩ := hen
  have S : CallFix p m c cL_slot 5 s _ wsL_slot RL := ⟨hx, hb, hml, hown, hts⟩
  have hS : va_S (fr L s.heap.size) s.heap s.heap [] := va_S.rf
  have hl : lv_has ls 5 [(0, .ref (g 0)), (1, .int x), (2, .int y), (3, .ref o)] := hl
  have hPC : va_P D vwCl (wC K g u) s.heap := wCO_c hP
  have hP0 := hP
  have hLA : ∀ q, fr (Lg g) s.heap.size q → fr L s.heap.size q := fun q h9 => h9.elim (fun ⟨i, hi, e9⟩ => by rw [e9]; exact Or.inl (hg.2 i hi)) Or.inr
  refine lv_aload_n hx hb dL_slot_0 rfl (lv_at hl 3 rfl) ?_
  refine lv_iconst (v := 0) hx hb dL_slot_1 (by decide) ?_
  refine lv_aload_n hx hb dL_slot_2 rfl (lv_at hl 0 rfl) ?_
  refine lv_iload_n hx hb dL_slot_3 rfl (lv_at hl 1 rfl) ?_
  refine lv_iload_n hx hb dL_slot_4 rfl (lv_at hl 2 rfl) ?_
  refine wiV (As := [.int x, .int y]) (rest := [.int 0, .ref o]) S hC (cwV 2 hts gL_slot_X4_slot rfl rfl rfl hdX4_slot ⟨Nat.le_of_ble_eq_true rfl, Nat.le_of_ble_eq_true rfl⟩) 0 rfl rfl hE hPC hS hLA rfl hl.1 rfl (Nat.le_of_ble_eq_true rfl) dL_slot_5 ⟨Nat.le_of_ble_eq_true rfl, Nat.le_of_ble_eq_true rfl⟩ (fun X ce q H locs hX hP hk hS hq hv hc => ?_) (fun H locs hX hP hk hS => ?_)
  · have hPo := wCO_j hP0 hod hk hP
    rcases hE3 X hX with rfl
    · skip
      refine vx_catch (own := RL) (name := xIA) hown [] ⟨0, 10, 13, 25⟩ [] (htb.trans rfl) (fun _ h9 => absurd h9 List.not_mem_nil) rfl (by decide) (hts _ (List.mem_of_getElem? (i := 1) rfl)) (va_Nw.use rfl (hE.2.2.2.2.2.1 xIA (List.mem_of_getElem? (i := 1) rfl))) hq hv hc ?_
      refine W.eq (g2 := F0 m 13 ls [.ref q]) rfl ?_
      refine lv_astore (lv' := [(4, .ref q), (0, .ref (g 0)), (1, .int x), (2, .int y), (3, .ref o)]) hx hb dL_slot_13 hl (by decide) rfl (fun ls hl => ?_)
      refine lv_iconst (v := 1) hx hb dL_slot_15 (by decide) ?_
      exact ei hx hb hr hlk hS hPo (by rw [hX]; rfl) (by rw [hX]; decide +kernel) (Nat.le_of_ble_eq_true rfl) (Nat.le_of_ble_eq_true rfl) dL_slot_16
  · have hP := wCO_j hP0 hod hk hP
    refine lv_i2l hx hb dL_slot_8 rfl ?_
    refine va_last hx hb hE.1 hP (wCO_D hg ho hod) hS 29 1 rfl rfl (vin (by decide) (by decide) (show (0 : Int32) = nI 0 from rfl)) dL_slot_9 (fun H locs hP hD hS => ?_)
    rw [vcl (n := 1) (by decide) (by decide) (show (0 : Int32) = nI 0 from rfl)] at hP
    have hP : va_P D vwCl (wC K g u2 ++ oL K o (vp_updL f 0 (r.toInt64))) H := hP
    refine lv_goto (tgt := 17) hx hb dL_slot_10 (by decide) ?_
    refine lv_iconst (v := 0) hx hb dL_slot_17 (by decide) ?_
    exact ei hx hb hr hlk hS hP (by rw [hX]; rfl) (by rw [hX]; rfl) (Nat.le_of_ble_eq_true rfl) (Nat.le_of_ble_eq_true rfl) dL_slot_18

def rmL_entries : Room := { frames := 8, cells := 1, slots := 6, locals := 131 }
theorem hdL_entries : yL_entries.cls = RL ∧ yL_entries.cls ≠ "java/lang/invoke/MethodHandle" ∧ yL_entries.cls ≠ "java/lang/invoke/VarHandle" ∧ (parseMethodDescriptor yL_entries.desc).map (fun d => d.parameters.length) = some 3 := by decide +kernel
set_option maxHeartbeats 4000000 in
set_option maxRecDepth 100000 in
theorem kL_entries {l : Launch} {D : va_G} {K : Nat → ClassId} {L : Nat → Prop} {g : Nat → Nat} (hg : gd L g 29) {o : Nat} (ho : L o) (hod : ∀ i, i < 29 → g i ≠ o) {u u2 : CU} (x : Int32) {E : Option String} {r : Int32} (hC : XI l yX4_entries wsX4_entries rmX4_entries D K (Lg g) [.ref (g 0), .int x] (wC K g u) (wC K g u2) E r) (hE3 : ∀ X, E = some X → X = xIA) (f : AL) : CW l yL_entries wsL_entries rmL_entries D K L [.ref (g 0), .int x, .ref o] (wC K g u ++ oL K o f) (wC K g (eu E u2 u) ++ oL K o (eu E (vp_updL f 0 (r.toInt64)) f)) (cE [xIA] E) := by
  refine CW.of (cc := cL_entries) (maxL := 4) (ret := some .int) (by decide +kernel) rfl (Nat.le_of_ble_eq_true rfl) ?_
  intro p e s m below meth c ls hen hZ htb hP
  obtain ⟨hx, hb, hr, hts, hown, hlk, hml, hnm, hE, hl⟩ := hen
  have S : CallFix p m c cL_entries 4 s _ wsL_entries RL := ⟨hx, hb, hml, hown, hts⟩
  have hS : va_S (fr L s.heap.size) s.heap s.heap [] := va_S.rf
  have hl : lv_has ls 4 [(0, .ref (g 0)), (1, .int x), (2, .ref o)] := hl
  have hPC : va_P D vwCl (wC K g u) s.heap := wCO_c hP
  have hP0 := hP
  have hLA : ∀ q, fr (Lg g) s.heap.size q → fr L s.heap.size q := fun q h9 => h9.elim (fun ⟨i, hi, e9⟩ => by rw [e9]; exact Or.inl (hg.2 i hi)) Or.inr
  refine lv_aload_n hx hb dL_entries_0 rfl (lv_at hl 2 rfl) ?_
  refine lv_iconst (v := 0) hx hb dL_entries_1 (by decide) ?_
  refine lv_aload_n hx hb dL_entries_2 rfl (lv_at hl 0 rfl) ?_
  refine lv_iload_n hx hb dL_entries_3 rfl (lv_at hl 1 rfl) ?_
  refine wiV (As := [.int x]) (rest := [.int 0, .ref o]) S hC (cwV 1 hts gL_entries_X4_entries rfl rfl rfl hdX4_entries ⟨Nat.le_of_ble_eq_true rfl, Nat.le_of_ble_eq_true rfl⟩) 0 rfl rfl hE hPC hS hLA rfl hl.1 rfl (Nat.le_of_ble_eq_true rfl) dL_entries_4 ⟨Nat.le_of_ble_eq_true rfl, Nat.le_of_ble_eq_true rfl⟩ (fun X ce q H locs hX hP hk hS hq hv hc => ?_) (fun H locs hX hP hk hS => ?_)
  · have hPo := wCO_j hP0 hod hk hP
    rcases hE3 X hX with rfl
    · skip
      refine vx_catch (own := RL) (name := xIA) hown [] ⟨0, 9, 12, 25⟩ [] (htb.trans rfl) (fun _ h9 => absurd h9 List.not_mem_nil) rfl (by decide) (hts _ (List.mem_of_getElem? (i := 1) rfl)) (va_Nw.use rfl (hE.2.2.2.2.2.1 xIA (List.mem_of_getElem? (i := 1) rfl))) hq hv hc ?_
      refine W.eq (g2 := F0 m 12 ls [.ref q]) rfl ?_
      refine lv_astore_n (lv' := [(3, .ref q), (0, .ref (g 0)), (1, .int x), (2, .ref o)]) hx hb dL_entries_12 rfl hl (by decide) rfl (fun ls hl => ?_)
      refine lv_iconst (v := 1) hx hb dL_entries_13 (by decide) ?_
      exact ei hx hb hr hlk hS hPo (by rw [hX]; rfl) (by rw [hX]; decide +kernel) (Nat.le_of_ble_eq_true rfl) (Nat.le_of_ble_eq_true rfl) dL_entries_14
  · have hP := wCO_j hP0 hod hk hP
    refine lv_i2l hx hb dL_entries_7 rfl ?_
    refine va_last hx hb hE.1 hP (wCO_D hg ho hod) hS 29 1 rfl rfl (vin (by decide) (by decide) (show (0 : Int32) = nI 0 from rfl)) dL_entries_8 (fun H locs hP hD hS => ?_)
    rw [vcl (n := 1) (by decide) (by decide) (show (0 : Int32) = nI 0 from rfl)] at hP
    have hP : va_P D vwCl (wC K g u2 ++ oL K o (vp_updL f 0 (r.toInt64))) H := hP
    refine lv_goto (tgt := 15) hx hb dL_entries_9 (by decide) ?_
    refine lv_iconst (v := 0) hx hb dL_entries_15 (by decide) ?_
    exact ei hx hb hr hlk hS hP (by rw [hX]; rfl) (by rw [hX]; rfl) (Nat.le_of_ble_eq_true rfl) (Nat.le_of_ble_eq_true rfl) dL_entries_16

def rmL_fullness : Room := { frames := 8, cells := 1, slots := 6, locals := 133 }
theorem hdL_fullness : yL_fullness.cls = RL ∧ yL_fullness.cls ≠ "java/lang/invoke/MethodHandle" ∧ yL_fullness.cls ≠ "java/lang/invoke/VarHandle" ∧ (parseMethodDescriptor yL_fullness.desc).map (fun d => d.parameters.length) = some 3 := by decide +kernel
set_option maxHeartbeats 4000000 in
set_option maxRecDepth 100000 in
theorem kL_fullness {l : Launch} {D : va_G} {K : Nat → ClassId} {L : Nat → Prop} {g : Nat → Nat} (hg : gd L g 29) {o : Nat} (ho : L o) (hod : ∀ i, i < 29 → g i ≠ o) {u u2 : CU} (x : Int32) {E : Option String} {r : UInt32} (hC : XF l yX4_fullness wsX4_fullness rmX4_fullness D K (Lg g) [.ref (g 0), .int x] (wC K g u) (wC K g u2) E r) (hE3 : ∀ X, E = some X → X = xIA) (hr9 : vf_n64 (FP.f2d r)) (f : Nat → UInt64) : CW l yL_fullness wsL_fullness rmL_fullness D K L [.ref (g 0), .int x, .ref o] (wC K g u ++ oD K o f) (wC K g (eu E u2 u) ++ oD K o (eu E (vf_upd f 0 (FP.f2d r)) f)) (cE [xIA] E) := by
  refine CW.of (cc := cL_fullness) (maxL := 4) (ret := some .int) (by decide +kernel) rfl (Nat.le_of_ble_eq_true rfl) ?_
  intro p e s m below meth c ls hen hZ htb hP
  obtain ⟨hx, hb, hr, hts, hown, hlk, hml, hnm, hE, hl⟩ := hen
  have S : CallFix p m c cL_fullness 4 s _ wsL_fullness RL := ⟨hx, hb, hml, hown, hts⟩
  have hS : va_S (fr L s.heap.size) s.heap s.heap [] := va_S.rf
  have hl : lv_has ls 4 [(0, .ref (g 0)), (1, .int x), (2, .ref o)] := hl
  have hPC : va_P D vwCl (wC K g u) s.heap := wCO_c hP
  have hP0 := hP
  have hLA : ∀ q, fr (Lg g) s.heap.size q → fr L s.heap.size q := fun q h9 => h9.elim (fun ⟨i, hi, e9⟩ => by rw [e9]; exact Or.inl (hg.2 i hi)) Or.inr
  refine lv_aload_n hx hb dL_fullness_0 rfl (lv_at hl 2 rfl) ?_
  refine lv_iconst (v := 0) hx hb dL_fullness_1 (by decide) ?_
  refine lv_aload_n hx hb dL_fullness_2 rfl (lv_at hl 0 rfl) ?_
  refine lv_iload_n hx hb dL_fullness_3 rfl (lv_at hl 1 rfl) ?_
  refine wfV (As := [.int x]) (rest := [.int 0, .ref o]) S hC (cwV 1 hts gL_fullness_X4_fullness rfl rfl rfl hdX4_fullness ⟨Nat.le_of_ble_eq_true rfl, Nat.le_of_ble_eq_true rfl⟩) 0 rfl rfl hE hPC hS hLA rfl hl.1 rfl (Nat.le_of_ble_eq_true rfl) dL_fullness_4 ⟨Nat.le_of_ble_eq_true rfl, Nat.le_of_ble_eq_true rfl⟩ (fun X ce q H locs hX hP hk hS hq hv hc => ?_) (fun H locs hX hP hk hS => ?_)
  · have hPo := wCO_j hP0 hod hk hP
    rcases hE3 X hX with rfl
    · skip
      refine vx_catch (own := RL) (name := xIA) hown [] ⟨0, 9, 12, 25⟩ [] (htb.trans rfl) (fun _ h9 => absurd h9 List.not_mem_nil) rfl (by decide) (hts _ (List.mem_of_getElem? (i := 1) rfl)) (va_Nw.use rfl (hE.2.2.2.2.2.1 xIA (List.mem_of_getElem? (i := 1) rfl))) hq hv hc ?_
      refine W.eq (g2 := F0 m 12 ls [.ref q]) rfl ?_
      refine lv_astore_n (lv' := [(3, .ref q), (0, .ref (g 0)), (1, .int x), (2, .ref o)]) hx hb dL_fullness_12 rfl hl (by decide) rfl (fun ls hl => ?_)
      refine lv_iconst (v := 1) hx hb dL_fullness_13 (by decide) ?_
      exact ei hx hb hr hlk hS hPo (by rw [hX]; rfl) (by rw [hX]; decide +kernel) (Nat.le_of_ble_eq_true rfl) (Nat.le_of_ble_eq_true rfl) dL_fullness_14
  · have hP := wCO_j hP0 hod hk hP
    refine lv_f2d hx hb dL_fullness_7 hr9 ?_
    refine va_dast hx hb hE.1 hP (wCO_D hg ho hod) hS 29 4 rfl rfl (vin (by decide) (by decide) (show (0 : Int32) = nI 0 from rfl)) dL_fullness_8 (fun H locs hP hD hS => ?_)
    rw [vcl (n := 1) (by decide) (by decide) (show (0 : Int32) = nI 0 from rfl)] at hP
    have hP : va_P D vwCl (wC K g u2 ++ oD K o (vf_upd f 0 (FP.f2d r))) H := hP
    refine lv_goto (tgt := 15) hx hb dL_fullness_9 (by decide) ?_
    refine lv_iconst (v := 0) hx hb dL_fullness_15 (by decide) ?_
    exact ei hx hb hr hlk hS hP (by rw [hX]; rfl) (by rw [hX]; rfl) (Nat.le_of_ble_eq_true rfl) (Nat.le_of_ble_eq_true rfl) dL_fullness_16

/-! ===== Transactions, and helpers without a world ===== -/
/-- the JDK's own methods: by their names -/
theorem CI.ofF {l : Launch} {y : MethodName} {ws ws' : List Cond} {rm : Room} {D : va_G} {K : Nat → ClassId} {L : Nat → Prop} {args : List Value} {w w' : va_W} {r : Int32} {cc : ByteArray} {maxL : Nat} {ret : Option FieldType} (hy : plainFor y = true) (hw : ws = .code y cc maxL ret :: ws') (hn : (lg_sl args).length ≤ maxL)
    (body : ∀ p e s m below meth c ls, en l p s m meth c y ws cc maxL ret args D K (fr L s.heap.size) ls → va_P D vwCl w s.heap → W p l e rm s m args.toArray below meth c s.heap [] 0 0 (MQ below (va_Qi (fun x (_ : Unit) => x = r) (fun _ t => va_P D vwCl w' t.heap) (fr L s.heap.size)) args.toArray s rm.cells rm.slots (fr L s.heap.size)) (F0 m 0 ls [])) : CI l y ws rm D K L args w w' r := by
  intro sz
  refine MetFree.of_bodySF (code := cc) (maxLocals := maxL) (ret := ret) hy ?_ ?_
  · intro args s m h hn
    obtain ⟨meth, c, h1, h2, h3, h4, h5, h6, -, -⟩ := Cond.code_spec hn (atoms_spec (ws := ws) h _ (by rw [hw]; exact List.mem_cons_self))
    exact ⟨meth, c, h1, h2, h3, h4, h5, h6⟩
  · intro p e s m a below meth c s₁ B hml hv _
    have hh0 : s₁.heap = s.heap := by rw [B.state]; rfl
    obtain ⟨rfl, hsz, hE, hP⟩ := hv
    subst hsz
    have hl := lv_entry args (n := maxL) hn
    have q := body p e s m below meth c _ ⟨B.exec, B.bytes, B.returns, atoms_spec (ws := ws) B.pre, findClass_of_methodNamed B.named, B.notSynchronized, hml, (name_of_methodNamed B.named B.method).1, hE, hl⟩ hP
    rw [← lg_entry_eq] at q
    obtain ⟨t, a1, o, b1, b2, b3⟩ := q s₁ hh0 (Stand.of_body B)
    exact ⟨t, o, a1, b1, b2, ⟨b3.1, b3.2⟩⟩
def bitL (S : Int64) (j : Nat) : Prop := S.toBitVec.getLsbD j = true
def hasP (S : Int64) (x : Int32) : Prop := ∃ j : Nat, j < 60 ∧ x = nI j ∧ bitL S j
theorem has_bit {S : Int64} {j : Nat} (hj : j < 60) : ((S.toUInt64 >>> ((nI j).toInt64.toUInt64 &&& Int64.toUInt64 63)).toInt64 &&& 1) = 0 ↔ ¬ bitL S j := by
  rw [wb_cu j (by omega), ts_bit (w := S) (s := UInt64.ofNat j) (j := j) (by omega) (u_tn (by omega))]
  unfold bitL
  cases S.toBitVec.getLsbD j <;> simp
theorem has_neg {S : Int64} {x : Int32} (h : x < 0) : ¬ hasP S x := by
  rintro ⟨j, hj, rfl, -⟩
  exact nI_pos (by omega) h
theorem has_big {S : Int64} {x : Int32} (h : 60 ≤ x) : ¬ hasP S x := by
  rintro ⟨j, hj, rfl, -⟩
  exact nI_ge hj (by omega) h
theorem has_at {S : Int64} {j : Nat} (hj : j < 60) : hasP S (nI j) ↔ bitL S j := by
  constructor
  · rintro ⟨k, hk, e, hb⟩
    rw [nI_eq (by omega) (by omega)] at e
    subst e; exact hb
  · exact fun h => ⟨j, hj, rfl, h⟩
/-- floorMod by 64 -/
noncomputable def fm (x : Int32) : Int32 := if (x ^^^ 64) < 0 ∧ ¬ (x - x / 64 * 64 = 0) then (x - x / 64 * 64) + 64 else x - x / 64 * 64
def mx (x y : Int32) : Int32 := if x < y then y else x
def knP (u : CU) (t : Nat) (x : Int32) : Prop := x = nI t ∨ hasP (c_sn u t) x
def wbP (u : CU) (x : Int32) : Prop := ¬ x < 0 ∧ ¬ c_cn u ≤ x
def tbP (u : CU) (x : Int32) : Prop := wbP u x ∧ ¬ hasP (c_ac u ||| c_cm u) x
def rvP (u : CU) (t : Nat) (x : Int32) : Prop := hasP (c_ac u ||| c_cm u) x ∧ ¬ knP u t x
def skn (u : CU) (x : Int32) : Int32 := (c_ns u + x) - (c_ns u + x) / 64 * 64
def cst (u : CU) (N : Nat) : CU :=
  let u1 := s_cn (s_ac (s_sn (s_sp u (upd (c_sp u) N (c_ns u))) (vp_updL (c_sn u) N (c_cm u))) (c_ac u ||| (1 <<< ((nI N).toInt64 &&& 63)))) (nI (N + 1))
  s_ns u1 (skn u1 1)
noncomputable def cfi (u : CU) (t : Nat) (q : Prop) : CU :=
  let u1 := s_ac u (c_ac u &&& ((1 <<< ((nI t).toInt64 &&& 63)) ^^^ (-1)))
  @ite _ q (Classical.propDecidable q) (s_cm u1 (c_cm u ||| (1 <<< ((nI t).toInt64 &&& 63)))) u1
theorem cfi_t {u : CU} {t : Nat} {q : Prop} (h : q) : cfi u t q = s_cm (s_ac u (c_ac u &&& ((1 <<< ((nI t).toInt64 &&& 63)) ^^^ (-1)))) (c_cm u ||| (1 <<< ((nI t).toInt64 &&& 63))) := by unfold cfi; exact if_pos h
theorem cfi_f {u : CU} {t : Nat} {q : Prop} (h : ¬ q) : cfi u t q = s_ac u (c_ac u &&& ((1 <<< ((nI t).toInt64 &&& 63)) ^^^ (-1))) := by unfold cfi; exact if_neg h
/-- the settled ones, out of the first n -/
noncomputable def stl (u : CU) : Nat → Int64
  | 0 => c_cm u
  | n + 1 => @ite _ (hasP (c_ac u) (nI n)) (Classical.propDecidable _) (stl u n &&& c_sn u n) (stl u n)
theorem stl_t {u : CU} {n : Nat} (h : hasP (c_ac u) (nI n)) : stl u (n + 1) = stl u n &&& c_sn u n := by rw [stl]; exact if_pos h
theorem stl_f {u : CU} {n : Nat} (h : ¬ hasP (c_ac u) (nI n)) : stl u (n + 1) = stl u n := by rw [stl]; exact if_neg h
/-- the oldest age of the active ones, out of the first n -/
noncomputable def oaa (u : CU) : Nat → Int32
  | 0 => 0
  | n + 1 => @ite _ (hasP (c_ac u) (nI n)) (Classical.propDecidable _) (mx (oaa u n) (fm (c_ns u - c_sp u n))) (oaa u n)
theorem oaa_t {u : CU} {n : Nat} (h : hasP (c_ac u) (nI n)) : oaa u (n + 1) = mx (oaa u n) (fm (c_ns u - c_sp u n)) := by rw [oaa]; exact if_pos h
theorem oaa_f {u : CU} {n : Nat} (h : ¬ hasP (c_ac u) (nI n)) : oaa u (n + 1) = oaa u n := by rw [oaa]; exact if_neg h
def rmX3_has : Room := { frames := 0, cells := 0, slots := 0, locals := 0 }
theorem hdX3_has : yX3_has.cls = RX3 ∧ yX3_has.cls ≠ "java/lang/invoke/MethodHandle" ∧ yX3_has.cls ≠ "java/lang/invoke/VarHandle" ∧ (parseMethodDescriptor yX3_has.desc).map (fun d => d.parameters.length) = some 2 := by decide +kernel
set_option maxHeartbeats 4000000 in
set_option maxRecDepth 100000 in
theorem kX3_has {l : Launch} {D : va_G} {K : Nat → ClassId} {L : Nat → Prop} {w : va_W} (S9 : Int64) (x : Int32) : CI l yX3_has wsX3_has rmX3_has D K L [.long S9, .int x] w w (fb (hasP S9 x)) := by
  refine CI.of (cc := cX3_has) (maxL := 3) (ret := (some .boolean)) (by decide +kernel) rfl (Nat.le_of_ble_eq_true rfl) ?_
  intro p e s m below meth c ls hen hP
  obtain ⟨hx, hb, hr, hts, hown, hlk, hml, hnm, hE, hl⟩ := hen
  have S : CallFix p m c cX3_has 3 s _ wsX3_has RX3 := ⟨hx, hb, hml, hown, hts⟩
  have hS : va_S (fr L s.heap.size) s.heap s.heap [] := va_S.rf
  have hl : lv_has ls 3 [(0, .long S9), (2, .int x)] := hl
  refine lv_iload_n hx hb dX3_has_0 rfl (lv_at hl 1 rfl) ?_
  refine lv_if_lt (tgt := 24) hx hb dX3_has_1 (by decide) (fun c1 => ?_) (fun c1 => ?_)
  · skip
    have no : ¬ hasP S9 x := has_neg c1
    refine lv_iconst (v := 0) hx hb dX3_has_24 (by decide) ?_
    exact ez hx hb hr hlk hS hP rfl (by first | exact f_fb no | exact t_fb yes) rfl (Nat.le_of_ble_eq_true rfl) (Nat.le_of_ble_eq_true rfl) dX3_has_25
  · skip
    refine lv_iload_n hx hb dX3_has_4 rfl (lv_at hl 1 rfl) ?_
    refine lv_bipush (v := 60) hx hb dX3_has_5 (by decide) ?_
    refine lv_icmp_ge (tgt := 24) hx hb dX3_has_7 (by decide) (fun c2 => ?_) (fun c2 => ?_)
    · skip
      have no : ¬ hasP S9 x := has_big c2
      refine lv_iconst (v := 0) hx hb dX3_has_24 (by decide) ?_
      exact ez hx hb hr hlk hS hP rfl (by first | exact f_fb no | exact t_fb yes) rfl (Nat.le_of_ble_eq_true rfl) (Nat.le_of_ble_eq_true rfl) dX3_has_25
    · skip
      obtain ⟨j, hj, hxj⟩ := nI_rng (N := 60) (by omega) c1 c2
      subst hxj
      refine lv_lload_n hx hb dX3_has_10 rfl (lv_at hl 0 rfl) ?_
      refine lv_iload_n hx hb dX3_has_11 rfl (lv_at hl 1 rfl) ?_
      refine lv_lushr hx hb dX3_has_12 rfl ?_
      refine lv_lconst (v := 1) hx hb dX3_has_13 (by decide) ?_
      refine lv_land hx hb dX3_has_14 ?_
      refine lv_lconst (v := 0) hx hb dX3_has_15 (by decide) ?_
      refine W.lcmp hx hb dX3_has_16 ?_
      refine bleq (tgt := 24) hx hb dX3_has_17 (by decide) (fun c3 => ?_) (fun c3 => ?_)
      · skip
        have no : ¬ hasP S9 (nI j) := fun k => (has_bit hj).mp c3 ((has_at hj).mp k)
        refine lv_iconst (v := 0) hx hb dX3_has_24 (by decide) ?_
        exact ez hx hb hr hlk hS hP rfl (by first | exact f_fb no | exact t_fb yes) rfl (Nat.le_of_ble_eq_true rfl) (Nat.le_of_ble_eq_true rfl) dX3_has_25
      · skip
        have yes : hasP S9 (nI j) := (has_at hj).mpr (Classical.byContradiction fun k => c3 ((has_bit hj).mpr k))
        refine lv_iconst (v := 1) hx hb dX3_has_20 (by decide) ?_
        refine lv_goto (tgt := 25) hx hb dX3_has_21 (by decide) ?_
        exact ez hx hb hr hlk hS hP rfl (by first | exact f_fb no | exact t_fb yes) rfl (Nat.le_of_ble_eq_true rfl) (Nat.le_of_ble_eq_true rfl) dX3_has_25
def rmX3_areAllUsed : Room := { frames := 0, cells := 0, slots := 0, locals := 0 }
theorem hdX3_areAllUsed : yX3_areAllUsed.cls = RX3 ∧ yX3_areAllUsed.cls ≠ "java/lang/invoke/MethodHandle" ∧ yX3_areAllUsed.cls ≠ "java/lang/invoke/VarHandle" ∧ (parseMethodDescriptor yX3_areAllUsed.desc).map (fun d => d.parameters.length) = some 0 := by decide +kernel
set_option maxHeartbeats 4000000 in
set_option maxRecDepth 100000 in
theorem kX3_areAllUsed {l : Launch} {D : va_G} {K : Nat → ClassId} {L : Nat → Prop} {g : Nat → Nat} (hg : gd L g 29) (u : CU) : CI l yX3_areAllUsed wsX3_areAllUsed rmX3_areAllUsed D K L [.ref (g 1)] (wC K g u) (wC K g u) (fb (¬ c_cn u < 60)) := by
  refine CI.of (cc := cX3_areAllUsed) (maxL := 1) (ret := (some .boolean)) (by decide +kernel) rfl (Nat.le_of_ble_eq_true rfl) ?_
  intro p e s m below meth c ls hen hP
  obtain ⟨hx, hb, hr, hts, hown, hlk, hml, hnm, hE, hl⟩ := hen
  have S : CallFix p m c cX3_areAllUsed 1 s _ wsX3_areAllUsed RX3 := ⟨hx, hb, hml, hown, hts⟩
  have hS : va_S (fr L s.heap.size) s.heap s.heap [] := va_S.rf
  have hl : lv_has ls 1 [(0, .ref (g 1))] := hl
  have i3 : ∀ w ∈ wsX30, w ∈ wsX3_areAllUsed := fun _ h => List.mem_cons_of_mem _ (List.mem_append_right _ h)
  refine lv_aload_n hx hb dX3_areAllUsed_0 rfl (lv_at hl 0 rfl) ?_
  refine gw3_count S i3 hE hP (f := c_cn u) rfl (hts _ (List.mem_of_getElem? (i := 1) rfl)) dX3_areAllUsed_1 ?_
  refine lv_bipush (v := 60) hx hb dX3_areAllUsed_4 (by decide) ?_
  refine lv_icmp_lt (tgt := 13) hx hb dX3_areAllUsed_6 (by decide) (fun c1 => ?_) (fun c1 => ?_)
  · skip
    refine lv_iconst (v := 0) hx hb dX3_areAllUsed_13 (by decide) ?_
    exact ez hx hb hr hlk hS hP rfl (by first | exact f_fb (fun k => k c1) | exact t_fb c1) rfl (Nat.le_of_ble_eq_true rfl) (Nat.le_of_ble_eq_true rfl) dX3_areAllUsed_14
  · skip
    refine lv_iconst (v := 1) hx hb dX3_areAllUsed_9 (by decide) ?_
    refine lv_goto (tgt := 14) hx hb dX3_areAllUsed_10 (by decide) ?_
    exact ez hx hb hr hlk hS hP rfl (by first | exact f_fb (fun k => k c1) | exact t_fb c1) rfl (Nat.le_of_ble_eq_true rfl) (Nat.le_of_ble_eq_true rfl) dX3_areAllUsed_14
def rmX3_wasBegun : Room := { frames := 0, cells := 0, slots := 0, locals := 0 }
theorem hdX3_wasBegun : yX3_wasBegun.cls = RX3 ∧ yX3_wasBegun.cls ≠ "java/lang/invoke/MethodHandle" ∧ yX3_wasBegun.cls ≠ "java/lang/invoke/VarHandle" ∧ (parseMethodDescriptor yX3_wasBegun.desc).map (fun d => d.parameters.length) = some 1 := by decide +kernel
set_option maxHeartbeats 4000000 in
set_option maxRecDepth 100000 in
theorem kX3_wasBegun {l : Launch} {D : va_G} {K : Nat → ClassId} {L : Nat → Prop} {g : Nat → Nat} (hg : gd L g 29) (u : CU) (x : Int32) : CI l yX3_wasBegun wsX3_wasBegun rmX3_wasBegun D K L [.ref (g 1), .int x] (wC K g u) (wC K g u) (fb (wbP u x)) := by
  refine CI.of (cc := cX3_wasBegun) (maxL := 2) (ret := (some .boolean)) (by decide +kernel) rfl (Nat.le_of_ble_eq_true rfl) ?_
  intro p e s m below meth c ls hen hP
  obtain ⟨hx, hb, hr, hts, hown, hlk, hml, hnm, hE, hl⟩ := hen
  have S : CallFix p m c cX3_wasBegun 2 s _ wsX3_wasBegun RX3 := ⟨hx, hb, hml, hown, hts⟩
  have hS : va_S (fr L s.heap.size) s.heap s.heap [] := va_S.rf
  have hl : lv_has ls 2 [(0, .ref (g 1)), (1, .int x)] := hl
  have i3 : ∀ w ∈ wsX30, w ∈ wsX3_wasBegun := fun _ h => List.mem_cons_of_mem _ (List.mem_append_right _ h)
  refine lv_iload_n hx hb dX3_wasBegun_0 rfl (lv_at hl 1 rfl) ?_
  refine lv_if_lt (tgt := 16) hx hb dX3_wasBegun_1 (by decide) (fun c1 => ?_) (fun c1 => ?_)
  · skip
    have no : ¬ wbP u x := fun k => k.1 c1
    refine lv_iconst (v := 0) hx hb dX3_wasBegun_16 (by decide) ?_
    exact ez hx hb hr hlk hS hP rfl (by first | exact f_fb no | exact t_fb yes) rfl (Nat.le_of_ble_eq_true rfl) (Nat.le_of_ble_eq_true rfl) dX3_wasBegun_17
  · skip
    refine lv_iload_n hx hb dX3_wasBegun_4 rfl (lv_at hl 1 rfl) ?_
    refine lv_aload_n hx hb dX3_wasBegun_5 rfl (lv_at hl 0 rfl) ?_
    refine gw3_count S i3 hE hP (f := c_cn u) rfl (hts _ (List.mem_of_getElem? (i := 1) rfl)) dX3_wasBegun_6 ?_
    refine lv_icmp_ge (tgt := 16) hx hb dX3_wasBegun_9 (by decide) (fun c2 => ?_) (fun c2 => ?_)
    · skip
      have no : ¬ wbP u x := fun k => k.2 c2
      refine lv_iconst (v := 0) hx hb dX3_wasBegun_16 (by decide) ?_
      exact ez hx hb hr hlk hS hP rfl (by first | exact f_fb no | exact t_fb yes) rfl (Nat.le_of_ble_eq_true rfl) (Nat.le_of_ble_eq_true rfl) dX3_wasBegun_17
    · skip
      have yes : wbP u x := ⟨c1, c2⟩
      refine lv_iconst (v := 1) hx hb dX3_wasBegun_12 (by decide) ?_
      refine lv_goto (tgt := 17) hx hb dX3_wasBegun_13 (by decide) ?_
      exact ez hx hb hr hlk hS hP rfl (by first | exact f_fb no | exact t_fb yes) rfl (Nat.le_of_ble_eq_true rfl) (Nat.le_of_ble_eq_true rfl) dX3_wasBegun_17
def rmX3_isActive : Room := { frames := 1, cells := 0, slots := 0, locals := 22 }
theorem hdX3_isActive : yX3_isActive.cls = RX3 ∧ yX3_isActive.cls ≠ "java/lang/invoke/MethodHandle" ∧ yX3_isActive.cls ≠ "java/lang/invoke/VarHandle" ∧ (parseMethodDescriptor yX3_isActive.desc).map (fun d => d.parameters.length) = some 1 := by decide +kernel
set_option maxHeartbeats 4000000 in
set_option maxRecDepth 100000 in
theorem kX3_isActive {l : Launch} {D : va_G} {K : Nat → ClassId} {L : Nat → Prop} {g : Nat → Nat} (hg : gd L g 29) (u : CU) (x : Int32) : CI l yX3_isActive wsX3_isActive rmX3_isActive D K L [.ref (g 1), .int x] (wC K g u) (wC K g u) (fb (hasP (c_ac u) x)) := by
  refine CI.of (cc := cX3_isActive) (maxL := 2) (ret := (some .boolean)) (by decide +kernel) rfl (Nat.le_of_ble_eq_true rfl) ?_
  intro p e s m below meth c ls hen hP
  obtain ⟨hx, hb, hr, hts, hown, hlk, hml, hnm, hE, hl⟩ := hen
  have S : CallFix p m c cX3_isActive 2 s _ wsX3_isActive RX3 := ⟨hx, hb, hml, hown, hts⟩
  have hS : va_S (fr L s.heap.size) s.heap s.heap [] := va_S.rf
  have hl : lv_has ls 2 [(0, .ref (g 1)), (1, .int x)] := hl
  have i3 : ∀ w ∈ wsX30, w ∈ wsX3_isActive := fun _ h => List.mem_cons_of_mem _ (List.mem_append_right _ h)
  refine lv_aload_n hx hb dX3_isActive_0 rfl (lv_at hl 0 rfl) ?_
  refine gw3_active S i3 hE hP (f := c_ac u) rfl (hts _ (List.mem_of_getElem? (i := 1) rfl)) dX3_isActive_1 ?_
  refine lv_iload_n hx hb dX3_isActive_4 rfl (lv_at hl 1 rfl) ?_
  refine kiS (As := [.long (c_ac u), .int x]) (rest := []) S (kX3_has (c_ac u) x) (va_cwS 2 hts gX3_isActive_X3_has rfl rfl rfl hdX3_has.2 ⟨Nat.le_of_ble_eq_true rfl, Nat.le_of_ble_eq_true rfl⟩) rfl rfl hE hP hS (frs hS) rfl hl.1 rfl (Nat.le_of_ble_eq_true rfl) dX3_isActive_5 ⟨Nat.le_of_ble_eq_true rfl, Nat.le_of_ble_eq_true rfl⟩ (fun H locs hP _ _ hS => ?_)
  exact ez hx hb hr hlk hS hP rfl (by rfl) fb_nar (Nat.le_of_ble_eq_true rfl) (Nat.le_of_ble_eq_true rfl) dX3_isActive_8
def rmX3_isTakenBack : Room := { frames := 1, cells := 0, slots := 0, locals := 22 }
theorem hdX3_isTakenBack : yX3_isTakenBack.cls = RX3 ∧ yX3_isTakenBack.cls ≠ "java/lang/invoke/MethodHandle" ∧ yX3_isTakenBack.cls ≠ "java/lang/invoke/VarHandle" ∧ (parseMethodDescriptor yX3_isTakenBack.desc).map (fun d => d.parameters.length) = some 1 := by decide +kernel
set_option maxHeartbeats 4000000 in
set_option maxRecDepth 100000 in
theorem kX3_isTakenBack {l : Launch} {D : va_G} {K : Nat → ClassId} {L : Nat → Prop} {g : Nat → Nat} (hg : gd L g 29) (u : CU) (x : Int32) : CI l yX3_isTakenBack wsX3_isTakenBack rmX3_isTakenBack D K L [.ref (g 1), .int x] (wC K g u) (wC K g u) (fb (tbP u x)) := by
  refine CI.of (cc := cX3_isTakenBack) (maxL := 2) (ret := (some .boolean)) (by decide +kernel) rfl (Nat.le_of_ble_eq_true rfl) ?_
  intro p e s m below meth c ls hen hP
  obtain ⟨hx, hb, hr, hts, hown, hlk, hml, hnm, hE, hl⟩ := hen
  have S : CallFix p m c cX3_isTakenBack 2 s _ wsX3_isTakenBack RX3 := ⟨hx, hb, hml, hown, hts⟩
  have hS : va_S (fr L s.heap.size) s.heap s.heap [] := va_S.rf
  have hl : lv_has ls 2 [(0, .ref (g 1)), (1, .int x)] := hl
  have i3 : ∀ w ∈ wsX30, w ∈ wsX3_isTakenBack := fun _ h => List.mem_cons_of_mem _ (List.mem_append_right _ h)
  refine lv_aload_n hx hb dX3_isTakenBack_0 rfl (lv_at hl 0 rfl) ?_
  refine lv_iload_n hx hb dX3_isTakenBack_1 rfl (lv_at hl 1 rfl) ?_
  refine kiV (As := [.int x]) (rest := []) S (kX3_wasBegun hg u x) (cwV 1 hts gX3_isTakenBack_X3_wasBegun rfl rfl rfl hdX3_wasBegun ⟨Nat.le_of_ble_eq_true rfl, Nat.le_of_ble_eq_true rfl⟩) rfl rfl 1 rfl rfl hE hP hS (frs hS) rfl hl.1 rfl (Nat.le_of_ble_eq_true rfl) dX3_isTakenBack_2 ⟨Nat.le_of_ble_eq_true rfl, Nat.le_of_ble_eq_true rfl⟩ (fun H locs hP _ _ hS => ?_)
  refine bzeq (tgt := 28) hx hb dX3_isTakenBack_5 (by decide) (fun c1 => ?_) (fun c1 => ?_)
  · skip
    have no : ¬ tbP u x := fun k => c1 k.1
    refine lv_iconst (v := 0) hx hb dX3_isTakenBack_28 (by decide) ?_
    exact ez hx hb hr hlk hS hP rfl (by first | exact f_fb no | exact t_fb yes) rfl (Nat.le_of_ble_eq_true rfl) (Nat.le_of_ble_eq_true rfl) dX3_isTakenBack_29
  · skip
    refine lv_aload_n hx hb dX3_isTakenBack_8 rfl (lv_at hl 0 rfl) ?_
    refine gw3_active S i3 hE hP (f := c_ac u) rfl (hts _ (List.mem_of_getElem? (i := 1) rfl)) dX3_isTakenBack_9 ?_
    refine lv_aload_n hx hb dX3_isTakenBack_12 rfl (lv_at hl 0 rfl) ?_
    refine gw3_committed S i3 hE hP (f := c_cm u) rfl (hts _ (List.mem_of_getElem? (i := 2) rfl)) dX3_isTakenBack_13 ?_
    refine lv_lor hx hb dX3_isTakenBack_16 ?_
    refine lv_iload_n hx hb dX3_isTakenBack_17 rfl (lv_at hl 1 rfl) ?_
    refine kiS (As := [.long ((c_ac u) ||| (c_cm u)), .int x]) (rest := []) S (kX3_has ((c_ac u) ||| (c_cm u)) x) (va_cwS 2 hts gX3_isTakenBack_X3_has rfl rfl rfl hdX3_has.2 ⟨Nat.le_of_ble_eq_true rfl, Nat.le_of_ble_eq_true rfl⟩) rfl rfl hE hP hS (frs hS) rfl hl.1 rfl (Nat.le_of_ble_eq_true rfl) dX3_isTakenBack_18 ⟨Nat.le_of_ble_eq_true rfl, Nat.le_of_ble_eq_true rfl⟩ (fun H locs hP _ _ hS => ?_)
    refine bzne (tgt := 28) hx hb dX3_isTakenBack_21 (by decide) (fun c2 => ?_) (fun c2 => ?_)
    · skip
      have no : ¬ tbP u x := fun k => k.2 c2
      refine lv_iconst (v := 0) hx hb dX3_isTakenBack_28 (by decide) ?_
      exact ez hx hb hr hlk hS hP rfl (by first | exact f_fb no | exact t_fb yes) rfl (Nat.le_of_ble_eq_true rfl) (Nat.le_of_ble_eq_true rfl) dX3_isTakenBack_29
    · skip
      have yes : tbP u x := ⟨c1, c2⟩
      refine lv_iconst (v := 1) hx hb dX3_isTakenBack_24 (by decide) ?_
      refine lv_goto (tgt := 29) hx hb dX3_isTakenBack_25 (by decide) ?_
      exact ez hx hb hr hlk hS hP rfl (by first | exact f_fb no | exact t_fb yes) rfl (Nat.le_of_ble_eq_true rfl) (Nat.le_of_ble_eq_true rfl) dX3_isTakenBack_29
def rmX3_skip : Room := { frames := 0, cells := 0, slots := 0, locals := 0 }
theorem hdX3_skip : yX3_skip.cls = RX3 ∧ yX3_skip.cls ≠ "java/lang/invoke/MethodHandle" ∧ yX3_skip.cls ≠ "java/lang/invoke/VarHandle" ∧ (parseMethodDescriptor yX3_skip.desc).map (fun d => d.parameters.length) = some 1 := by decide +kernel
set_option maxHeartbeats 4000000 in
set_option maxRecDepth 100000 in
theorem kX3_skip {l : Launch} {D : va_G} {K : Nat → ClassId} {L : Nat → Prop} {g : Nat → Nat} (hg : gd L g 29) (u : CU) (x : Int32) : CI l yX3_skip wsX3_skip rmX3_skip D K L [.ref (g 1), .int x] (wC K g u) (wC K g (s_ns u (skn u x))) (skn u x) := by
  refine CI.of (cc := cX3_skip) (maxL := 2) (ret := (some .int)) (by decide +kernel) rfl (Nat.le_of_ble_eq_true rfl) ?_
  intro p e s m below meth c ls hen hP
  obtain ⟨hx, hb, hr, hts, hown, hlk, hml, hnm, hE, hl⟩ := hen
  have S : CallFix p m c cX3_skip 2 s _ wsX3_skip RX3 := ⟨hx, hb, hml, hown, hts⟩
  have hS : va_S (fr L s.heap.size) s.heap s.heap [] := va_S.rf
  have hl : lv_has ls 2 [(0, .ref (g 1)), (1, .int x)] := hl
  have i3 : ∀ w ∈ wsX30, w ∈ wsX3_skip := fun _ h => List.mem_cons_of_mem _ (List.mem_append_right _ h)
  refine lv_aload_n hx hb dX3_skip_0 rfl (lv_at hl 0 rfl) ?_
  refine lv_aload_n hx hb dX3_skip_1 rfl (lv_at hl 0 rfl) ?_
  refine gw3_nextStamp S i3 hE hP (f := c_ns u) rfl (hts _ (List.mem_of_getElem? (i := 1) rfl)) dX3_skip_2 ?_
  refine lv_iload_n hx hb dX3_skip_5 rfl (lv_at hl 1 rfl) ?_
  refine lv_iadd hx hb dX3_skip_6 ?_
  refine lv_bipush (v := 64) hx hb dX3_skip_7 (by decide) ?_
  refine lv_irem hx hb dX3_skip_9 (by decide) ?_
  refine pw3_nextStamp S i3 hE hP hg hS (hts _ (List.mem_of_getElem? (i := 1) rfl)) dX3_skip_10 (fun H locs hP hS => ?_)
  refine lv_aload_n hx hb dX3_skip_13 rfl (lv_at hl 0 rfl) ?_
  refine gw3_nextStamp S i3 hE hP (f := ((c_ns u) + x) - ((c_ns u) + x) / 64 * 64) rfl (hts _ (List.mem_of_getElem? (i := 1) rfl)) dX3_skip_14 ?_
  exact ei hx hb hr hlk hS hP rfl (by rfl) (Nat.le_of_ble_eq_true rfl) (Nat.le_of_ble_eq_true rfl) dX3_skip_17
def rmX3_knows : Room := { frames := 1, cells := 0, slots := 0, locals := 22 }
theorem hdX3_knows : yX3_knows.cls = RX3 ∧ yX3_knows.cls ≠ "java/lang/invoke/MethodHandle" ∧ yX3_knows.cls ≠ "java/lang/invoke/VarHandle" ∧ (parseMethodDescriptor yX3_knows.desc).map (fun d => d.parameters.length) = some 2 := by decide +kernel
set_option maxHeartbeats 4000000 in
set_option maxRecDepth 100000 in
theorem kX3_knows {l : Launch} {D : va_G} {K : Nat → ClassId} {L : Nat → Prop} {g : Nat → Nat} (hg : gd L g 29) (u : CU) (t : Nat) (x : Int32) (ht : t < 60) : CI l yX3_knows wsX3_knows rmX3_knows D K L [.ref (g 1), .int (nI t), .int x] (wC K g u) (wC K g u) (fb (knP u t x)) := by
  refine CI.of (cc := cX3_knows) (maxL := 3) (ret := (some .boolean)) (by decide +kernel) rfl (Nat.le_of_ble_eq_true rfl) ?_
  intro p e s m below meth c ls hen hP
  obtain ⟨hx, hb, hr, hts, hown, hlk, hml, hnm, hE, hl⟩ := hen
  have S : CallFix p m c cX3_knows 3 s _ wsX3_knows RX3 := ⟨hx, hb, hml, hown, hts⟩
  have hS : va_S (fr L s.heap.size) s.heap s.heap [] := va_S.rf
  have hl : lv_has ls 3 [(0, .ref (g 1)), (1, .int (nI t)), (2, .int x)] := hl
  have i3 : ∀ w ∈ wsX30, w ∈ wsX3_knows := fun _ h => List.mem_cons_of_mem _ (List.mem_append_right _ h)
  refine lv_iload_n hx hb dX3_knows_0 rfl (lv_at hl 2 rfl) ?_
  refine lv_iload_n hx hb dX3_knows_1 rfl (lv_at hl 1 rfl) ?_
  refine lv_icmp_eq (tgt := 18) hx hb dX3_knows_2 (by decide) (fun c1 => ?_) (fun c1 => ?_)
  · skip
    have yes : knP u t x := Or.inl c1
    refine lv_iconst (v := 1) hx hb dX3_knows_18 (by decide) ?_
    refine lv_goto (tgt := 23) hx hb dX3_knows_19 (by decide) ?_
    exact ez hx hb hr hlk hS hP rfl (by first | exact f_fb no | exact t_fb yes) rfl (Nat.le_of_ble_eq_true rfl) (Nat.le_of_ble_eq_true rfl) dX3_knows_23
  · skip
    refine lv_aload_n hx hb dX3_knows_5 rfl (lv_at hl 0 rfl) ?_
    refine gw3_snapshots S i3 hE hP (hts _ (List.mem_of_getElem? (i := 1) rfl)) dX3_knows_6 ?_
    refine lv_iload_n hx hb dX3_knows_9 rfl (lv_at hl 1 rfl) ?_
    refine lC_sn S hE hP (f := c_sn u) rfl (j := t) (by omega) rfl dX3_knows_10 ?_
    refine lv_iload_n hx hb dX3_knows_11 rfl (lv_at hl 2 rfl) ?_
    refine kiS (As := [.long (c_sn u t), .int x]) (rest := []) S (kX3_has (c_sn u t) x) (va_cwS 2 hts gX3_knows_X3_has rfl rfl rfl hdX3_has.2 ⟨Nat.le_of_ble_eq_true rfl, Nat.le_of_ble_eq_true rfl⟩) rfl rfl hE hP hS (frs hS) rfl hl.1 rfl (Nat.le_of_ble_eq_true rfl) dX3_knows_12 ⟨Nat.le_of_ble_eq_true rfl, Nat.le_of_ble_eq_true rfl⟩ (fun H locs hP _ _ hS => ?_)
    refine bzeq (tgt := 22) hx hb dX3_knows_15 (by decide) (fun c2 => ?_) (fun c2 => ?_)
    · skip
      have no : ¬ knP u t x := fun k => k.elim c1 c2
      refine lv_iconst (v := 0) hx hb dX3_knows_22 (by decide) ?_
      exact ez hx hb hr hlk hS hP rfl (by first | exact f_fb no | exact t_fb yes) rfl (Nat.le_of_ble_eq_true rfl) (Nat.le_of_ble_eq_true rfl) dX3_knows_23
    · skip
      have yes : knP u t x := Or.inr c2
      refine lv_iconst (v := 1) hx hb dX3_knows_18 (by decide) ?_
      refine lv_goto (tgt := 23) hx hb dX3_knows_19 (by decide) ?_
      exact ez hx hb hr hlk hS hP rfl (by first | exact f_fb no | exact t_fb yes) rfl (Nat.le_of_ble_eq_true rfl) (Nat.le_of_ble_eq_true rfl) dX3_knows_23
def rmX3_isRival : Room := { frames := 2, cells := 0, slots := 0, locals := 44 }
theorem hdX3_isRival : yX3_isRival.cls = RX3 ∧ yX3_isRival.cls ≠ "java/lang/invoke/MethodHandle" ∧ yX3_isRival.cls ≠ "java/lang/invoke/VarHandle" ∧ (parseMethodDescriptor yX3_isRival.desc).map (fun d => d.parameters.length) = some 2 := by decide +kernel
set_option maxHeartbeats 4000000 in
set_option maxRecDepth 100000 in
theorem kX3_isRival {l : Launch} {D : va_G} {K : Nat → ClassId} {L : Nat → Prop} {g : Nat → Nat} (hg : gd L g 29) (u : CU) (t : Nat) (x : Int32) (ht : t < 60) : CI l yX3_isRival wsX3_isRival rmX3_isRival D K L [.ref (g 1), .int (nI t), .int x] (wC K g u) (wC K g u) (fb (rvP u t x)) := by
  refine CI.of (cc := cX3_isRival) (maxL := 3) (ret := (some .boolean)) (by decide +kernel) rfl (Nat.le_of_ble_eq_true rfl) ?_
  intro p e s m below meth c ls hen hP
  obtain ⟨hx, hb, hr, hts, hown, hlk, hml, hnm, hE, hl⟩ := hen
  have S : CallFix p m c cX3_isRival 3 s _ wsX3_isRival RX3 := ⟨hx, hb, hml, hown, hts⟩
  have hS : va_S (fr L s.heap.size) s.heap s.heap [] := va_S.rf
  have hl : lv_has ls 3 [(0, .ref (g 1)), (1, .int (nI t)), (2, .int x)] := hl
  have i3 : ∀ w ∈ wsX30, w ∈ wsX3_isRival := fun _ h => List.mem_cons_of_mem _ (List.mem_append_right _ h)
  refine lv_aload_n hx hb dX3_isRival_0 rfl (lv_at hl 0 rfl) ?_
  refine gw3_active S i3 hE hP (f := c_ac u) rfl (hts _ (List.mem_of_getElem? (i := 1) rfl)) dX3_isRival_1 ?_
  refine lv_aload_n hx hb dX3_isRival_4 rfl (lv_at hl 0 rfl) ?_
  refine gw3_committed S i3 hE hP (f := c_cm u) rfl (hts _ (List.mem_of_getElem? (i := 2) rfl)) dX3_isRival_5 ?_
  refine lv_lor hx hb dX3_isRival_8 ?_
  refine lv_iload_n hx hb dX3_isRival_9 rfl (lv_at hl 2 rfl) ?_
  refine kiS (As := [.long ((c_ac u) ||| (c_cm u)), .int x]) (rest := []) S (kX3_has ((c_ac u) ||| (c_cm u)) x) (va_cwS 2 hts gX3_isRival_X3_has rfl rfl rfl hdX3_has.2 ⟨Nat.le_of_ble_eq_true rfl, Nat.le_of_ble_eq_true rfl⟩) rfl rfl hE hP hS (frs hS) rfl hl.1 rfl (Nat.le_of_ble_eq_true rfl) dX3_isRival_10 ⟨Nat.le_of_ble_eq_true rfl, Nat.le_of_ble_eq_true rfl⟩ (fun H locs hP _ _ hS => ?_)
  refine bzeq (tgt := 29) hx hb dX3_isRival_13 (by decide) (fun c1 => ?_) (fun c1 => ?_)
  · skip
    have no : ¬ rvP u t x := fun k => c1 k.1
    refine lv_iconst (v := 0) hx hb dX3_isRival_29 (by decide) ?_
    exact ez hx hb hr hlk hS hP rfl (by first | exact f_fb no | exact t_fb yes) rfl (Nat.le_of_ble_eq_true rfl) (Nat.le_of_ble_eq_true rfl) dX3_isRival_30
  · skip
    refine lv_aload_n hx hb dX3_isRival_16 rfl (lv_at hl 0 rfl) ?_
    refine lv_iload_n hx hb dX3_isRival_17 rfl (lv_at hl 1 rfl) ?_
    refine lv_iload_n hx hb dX3_isRival_18 rfl (lv_at hl 2 rfl) ?_
    refine kiV (As := [.int (nI t), .int x]) (rest := []) S (kX3_knows hg u t x (by omega)) (cwV 2 hts gX3_isRival_X3_knows rfl rfl rfl hdX3_knows ⟨Nat.le_of_ble_eq_true rfl, Nat.le_of_ble_eq_true rfl⟩) rfl rfl 1 rfl rfl hE hP hS (frs hS) rfl hl.1 rfl (Nat.le_of_ble_eq_true rfl) dX3_isRival_19 ⟨Nat.le_of_ble_eq_true rfl, Nat.le_of_ble_eq_true rfl⟩ (fun H locs hP _ _ hS => ?_)
    refine bzne (tgt := 29) hx hb dX3_isRival_22 (by decide) (fun c2 => ?_) (fun c2 => ?_)
    · skip
      have no : ¬ rvP u t x := fun k => k.2 c2
      refine lv_iconst (v := 0) hx hb dX3_isRival_29 (by decide) ?_
      exact ez hx hb hr hlk hS hP rfl (by first | exact f_fb no | exact t_fb yes) rfl (Nat.le_of_ble_eq_true rfl) (Nat.le_of_ble_eq_true rfl) dX3_isRival_30
    · skip
      have yes : rvP u t x := ⟨c1, c2⟩
      refine lv_iconst (v := 1) hx hb dX3_isRival_25 (by decide) ?_
      refine lv_goto (tgt := 30) hx hb dX3_isRival_26 (by decide) ?_
      exact ez hx hb hr hlk hS hP rfl (by first | exact f_fb no | exact t_fb yes) rfl (Nat.le_of_ble_eq_true rfl) (Nat.le_of_ble_eq_true rfl) dX3_isRival_30
def rmJ9_floorMod_7cf53 : Room := { frames := 0, cells := 0, slots := 0, locals := 0 }
theorem hdJ9_floorMod_7cf53 : yJ9_floorMod_7cf53.cls = RJ9 ∧ yJ9_floorMod_7cf53.cls ≠ "java/lang/invoke/MethodHandle" ∧ yJ9_floorMod_7cf53.cls ≠ "java/lang/invoke/VarHandle" ∧ (parseMethodDescriptor yJ9_floorMod_7cf53.desc).map (fun d => d.parameters.length) = some 2 := by decide +kernel
set_option maxHeartbeats 4000000 in
set_option maxRecDepth 100000 in
theorem kJ9_floorMod_7cf53 {l : Launch} {D : va_G} {K : Nat → ClassId} {L : Nat → Prop} {w : va_W} (x : Int32) : CI l yJ9_floorMod_7cf53 wsJ9_floorMod_7cf53 rmJ9_floorMod_7cf53 D K L [.int x, .int 64] w w (fm x) := by
  refine CI.ofF (cc := cJ9_floorMod_7cf53) (maxL := 3) (ret := (some .int)) (by decide +kernel) rfl (Nat.le_of_ble_eq_true rfl) ?_
  intro p e s m below meth c ls hen hP
  obtain ⟨hx, hb, hr, hts, hown, hlk, hml, hnm, hE, hl⟩ := hen
  have S : CallFix p m c cJ9_floorMod_7cf53 3 s _ wsJ9_floorMod_7cf53 RJ9 := ⟨hx, hb, hml, hown, hts⟩
  have hS : va_S (fr L s.heap.size) s.heap s.heap [] := va_S.rf
  have hl : lv_has ls 3 [(0, .int x), (1, .int 64)] := hl
  refine lv_iload_n hx hb dJ9_floorMod_7cf53_0 rfl (lv_at hl 0 rfl) ?_
  refine lv_iload_n hx hb dJ9_floorMod_7cf53_1 rfl (lv_at hl 1 rfl) ?_
  refine lv_irem hx hb dJ9_floorMod_7cf53_2 (by decide) ?_
  refine lv_istore_n (lv' := [(2, .int (x - x / 64 * 64)), (0, .int x), (1, .int 64)]) hx hb dJ9_floorMod_7cf53_3 rfl hl (by decide) rfl (fun ls hl => ?_)
  refine lv_iload_n hx hb dJ9_floorMod_7cf53_4 rfl (lv_at hl 1 rfl) ?_
  refine lv_iload_n hx hb dJ9_floorMod_7cf53_5 rfl (lv_at hl 2 rfl) ?_
  refine lv_ixor hx hb dJ9_floorMod_7cf53_6 ?_
  refine lv_if_ge (tgt := 18) hx hb dJ9_floorMod_7cf53_7 (by decide) (fun c1 => ?_) (fun c1 => ?_)
  · skip
    have no : ¬ ((x ^^^ 64) < 0 ∧ ¬ (x - x / 64 * 64 = 0)) := fun k => absurd k.1 (i_len c1)
    refine lv_iload_n hx hb dJ9_floorMod_7cf53_18 rfl (lv_at hl 0 rfl) ?_
    exact ei hx hb hr hlk hS hP rfl (by unfold fm; first | exact (if_pos yes).symm | exact (if_neg no).symm) (Nat.le_of_ble_eq_true rfl) (Nat.le_of_ble_eq_true rfl) dJ9_floorMod_7cf53_19
  · skip
    refine lv_iload_n hx hb dJ9_floorMod_7cf53_10 rfl (lv_at hl 0 rfl) ?_
    refine lv_if_eq (tgt := 18) hx hb dJ9_floorMod_7cf53_11 (by decide) (fun c2 => ?_) (fun c2 => ?_)
    · skip
      have no : ¬ ((x ^^^ 64) < 0 ∧ ¬ (x - x / 64 * 64 = 0)) := fun k => k.2 c2
      refine lv_iload_n hx hb dJ9_floorMod_7cf53_18 rfl (lv_at hl 0 rfl) ?_
      exact ei hx hb hr hlk hS hP rfl (by unfold fm; first | exact (if_pos yes).symm | exact (if_neg no).symm) (Nat.le_of_ble_eq_true rfl) (Nat.le_of_ble_eq_true rfl) dJ9_floorMod_7cf53_19
    · skip
      have yes : (x ^^^ 64) < 0 ∧ ¬ (x - x / 64 * 64 = 0) := ⟨i_nle c1, c2⟩
      refine lv_iload_n hx hb dJ9_floorMod_7cf53_14 rfl (lv_at hl 0 rfl) ?_
      refine lv_iload_n hx hb dJ9_floorMod_7cf53_15 rfl (lv_at hl 2 rfl) ?_
      refine lv_iadd hx hb dJ9_floorMod_7cf53_16 ?_
      exact ei hx hb hr hlk hS hP rfl (by unfold fm; first | exact (if_pos yes).symm | exact (if_neg no).symm) (Nat.le_of_ble_eq_true rfl) (Nat.le_of_ble_eq_true rfl) dJ9_floorMod_7cf53_17
def rmX4_distance : Room := { frames := 1, cells := 0, slots := 0, locals := 22 }
theorem hdX4_distance : yX4_distance.cls = RX4 ∧ yX4_distance.cls ≠ "java/lang/invoke/MethodHandle" ∧ yX4_distance.cls ≠ "java/lang/invoke/VarHandle" ∧ (parseMethodDescriptor yX4_distance.desc).map (fun d => d.parameters.length) = some 2 := by decide +kernel
set_option maxHeartbeats 4000000 in
set_option maxRecDepth 100000 in
theorem kX4_distance {l : Launch} {D : va_G} {K : Nat → ClassId} {L : Nat → Prop} {w : va_W} (x y : Int32) : CI l yX4_distance wsX4_distance rmX4_distance D K L [.int x, .int y] w w (fm (y - x)) := by
  refine CI.of (cc := cX4_distance) (maxL := 2) (ret := (some .int)) (by decide +kernel) rfl (Nat.le_of_ble_eq_true rfl) ?_
  intro p e s m below meth c ls hen hP
  obtain ⟨hx, hb, hr, hts, hown, hlk, hml, hnm, hE, hl⟩ := hen
  have S : CallFix p m c cX4_distance 2 s _ wsX4_distance RX4 := ⟨hx, hb, hml, hown, hts⟩
  have hS : va_S (fr L s.heap.size) s.heap s.heap [] := va_S.rf
  have hl : lv_has ls 2 [(0, .int x), (1, .int y)] := hl
  refine lv_iload_n hx hb dX4_distance_0 rfl (lv_at hl 1 rfl) ?_
  refine lv_iload_n hx hb dX4_distance_1 rfl (lv_at hl 0 rfl) ?_
  refine lv_isub hx hb dX4_distance_2 ?_
  refine lv_bipush (v := 64) hx hb dX4_distance_3 (by decide) ?_
  refine kiS (As := [.int (y - x), .int 64]) (rest := []) S (kJ9_floorMod_7cf53 (y - x)) (va_cwS 2 hts gX4_distance_J9_floorMod_7cf53 rfl rfl rfl hdJ9_floorMod_7cf53.2 ⟨Nat.le_of_ble_eq_true rfl, Nat.le_of_ble_eq_true rfl⟩) rfl rfl hE hP hS (frs hS) rfl hl.1 rfl (Nat.le_of_ble_eq_true rfl) dX4_distance_5 ⟨Nat.le_of_ble_eq_true rfl, Nat.le_of_ble_eq_true rfl⟩ (fun H locs hP _ _ hS => ?_)
  exact ei hx hb hr hlk hS hP rfl (by rfl) (Nat.le_of_ble_eq_true rfl) (Nat.le_of_ble_eq_true rfl) dX4_distance_8
def rmX3_ageOf : Room := { frames := 2, cells := 0, slots := 0, locals := 43 }
theorem hdX3_ageOf : yX3_ageOf.cls = RX3 ∧ yX3_ageOf.cls ≠ "java/lang/invoke/MethodHandle" ∧ yX3_ageOf.cls ≠ "java/lang/invoke/VarHandle" ∧ (parseMethodDescriptor yX3_ageOf.desc).map (fun d => d.parameters.length) = some 1 := by decide +kernel
set_option maxHeartbeats 4000000 in
set_option maxRecDepth 100000 in
theorem kX3_ageOf {l : Launch} {D : va_G} {K : Nat → ClassId} {L : Nat → Prop} {g : Nat → Nat} (hg : gd L g 29) (u : CU) (x : Int32) : CI l yX3_ageOf wsX3_ageOf rmX3_ageOf D K L [.ref (g 1), .int x] (wC K g u) (wC K g u) (fm (c_ns u - x)) := by
  refine CI.of (cc := cX3_ageOf) (maxL := 2) (ret := (some .int)) (by decide +kernel) rfl (Nat.le_of_ble_eq_true rfl) ?_
  intro p e s m below meth c ls hen hP
  obtain ⟨hx, hb, hr, hts, hown, hlk, hml, hnm, hE, hl⟩ := hen
  have S : CallFix p m c cX3_ageOf 2 s _ wsX3_ageOf RX3 := ⟨hx, hb, hml, hown, hts⟩
  have hS : va_S (fr L s.heap.size) s.heap s.heap [] := va_S.rf
  have hl : lv_has ls 2 [(0, .ref (g 1)), (1, .int x)] := hl
  have i3 : ∀ w ∈ wsX30, w ∈ wsX3_ageOf := fun _ h => List.mem_cons_of_mem _ (List.mem_append_right _ h)
  refine lv_iload_n hx hb dX3_ageOf_0 rfl (lv_at hl 1 rfl) ?_
  refine lv_aload_n hx hb dX3_ageOf_1 rfl (lv_at hl 0 rfl) ?_
  refine gw3_nextStamp S i3 hE hP (f := c_ns u) rfl (hts _ (List.mem_of_getElem? (i := 1) rfl)) dX3_ageOf_2 ?_
  refine kiSN (As := [.int x, .int (c_ns u)]) (rest := []) S (kX4_distance x (c_ns u)) ⟨va_cnB 2 hts gX3_ageOf_X4_distance_n53 rfl rfl rfl hE.2.1 (hts _ (List.mem_of_getElem? (i := 3) rfl)) hdX4_distance.2 ⟨Nat.le_of_ble_eq_true rfl, Nat.le_of_ble_eq_true rfl⟩, hts _ (List.mem_of_getElem? (i := 2) rfl), trivial⟩ rfl rfl hE hP hS (frs hS) rfl hl.1 rfl (Nat.le_of_ble_eq_true rfl) dX3_ageOf_5 ⟨Nat.le_of_ble_eq_true rfl, Nat.le_of_ble_eq_true rfl⟩ (fun H locs hP _ _ hS => ?_)
  exact ei hx hb hr hlk hS hP rfl (by rfl) (Nat.le_of_ble_eq_true rfl) (Nat.le_of_ble_eq_true rfl) dX3_ageOf_8

/-! ===== Transactions with loops, Slots, Index, Table ===== -/
def usP (u : CU) (q : Nat) : Prop := ¬ c_k u q = -1
def hdP (u : CU) (q : Nat) : Prop := ¬ c_d u q = -1
/-- a slot emptied -/
def cem (u : CU) (q : Nat) : CU := s_r (s_n (s_d (s_f (s_b (s_k u (upd (c_k u) q (-1))) (upd (c_b u) q (-1))) (upd (c_f u) q 0)) (upd (c_d u) q (-1))) (upd (c_n u) q (-1))) (upd (c_r u) q (-1))
/-- the lowest free of n places from a on, -1 without one -/
def lf (k : AI) : Nat → Nat → Int32
  | _, 0 => -1
  | a, n + 1 => if k a = -1 then nI a else lf k (a + 1) n
/-- y in x's place, among the first n -/
def rpl (f : AI) (x y : Int32) (n : Nat) : AI := fun j => if j < n ∧ f j = x then y else f j
theorem rpl_y {f : AI} {x y : Int32} {i : Nat} (h : rpl f x y i i = x) : upd (rpl f x y i) i y = rpl f x y (i + 1) := by
  have h0 : f i = x := by
    unfold rpl at h; rw [if_neg (fun k => absurd k.1 (Nat.lt_irrefl _))] at h; exact h
  funext j
  unfold upd rpl
  by_cases hj : j = i
  · rw [if_pos hj, hj, if_pos ⟨by omega, h0⟩]
  · rw [if_neg hj]
    by_cases h2 : j < i ∧ f j = x
    · rw [if_pos h2, if_pos ⟨by omega, h2.2⟩]
    · rw [if_neg h2, if_neg (fun k => h2 ⟨by omega, k.2⟩)]
theorem rpl_n {f : AI} {x y : Int32} {i : Nat} (h : ¬ rpl f x y i i = x) : rpl f x y i = rpl f x y (i + 1) := by
  have h0 : ¬ f i = x := by
    unfold rpl at h; rw [if_neg (fun k => absurd k.1 (Nat.lt_irrefl _))] at h; exact h
  funext j
  unfold rpl
  by_cases h2 : j < i ∧ f j = x
  · rw [if_pos h2, if_pos ⟨by omega, h2.2⟩]
  · rw [if_neg h2, if_neg (fun k => by
      by_cases hj : j = i
      · rw [hj] at k; exact h0 k.2
      · exact h2 ⟨by omega, k.2⟩)]
theorem rpl_0 {f : AI} {x y : Int32} : rpl f x y 0 = f := by
  funext j; unfold rpl; rw [if_neg (fun k => absurd k.1 (Nat.not_lt_zero _))]
/-- an entry added -/
def cia (u : CU) (q n : Nat) (x : Int32) : CU := s_ct (s_pl u (va_up (c_pl u) q (upd (c_pl u q) n x))) (upd (c_ct u) q (nI (n + 1)))
def mvv (x y v : Int32) : Int32 := if v = x then y else v
/-- the first n entries, those that point to x turned to y, those that point nowhere left out -/
def mv (f : AI) (x y : Int32) : Nat → AI × Nat
  | 0 => (f, 0)
  | n + 1 => if mvv x y ((mv f x y n).1 n) = -1 then mv f x y n else (upd (mv f x y n).1 (mv f x y n).2 (mvv x y ((mv f x y n).1 n)), (mv f x y n).2 + 1)
theorem mv_y {f h : AI} {x y : Int32} {n k : Nat} (e : mv f x y n = (h, k)) {v : Int32} (hv : v = mvv x y (h n)) (hn : v = -1) : mv f x y (n + 1) = (h, k) := by
  rw [mv, e]; dsimp only; rw [← hv, if_pos hn]
theorem mv_n {f h : AI} {x y : Int32} {n k : Nat} (e : mv f x y n = (h, k)) {v : Int32} (hv : v = mvv x y (h n)) (hn : ¬ v = -1) : mv f x y (n + 1) = (upd h k v, k + 1) := by
  rw [mv, e]; dsimp only; rw [← hv, if_neg hn]
theorem plself {u : CU} {q : Nat} : s_pl u (va_up (c_pl u) q (c_pl u q)) = u := by
  have h : va_up (c_pl u) q (c_pl u q) = c_pl u := by funext j; unfold va_up; by_cases e : j = q
                                                      · rw [if_pos e, e]
                                                      · rw [if_neg e]
  rw [h]; rfl
def cim (u : CU) (q n : Nat) (x y : Int32) : CU := s_ct (s_pl u (va_up (c_pl u) q (mv (c_pl u q) x y n).1)) (upd (c_ct u) q (nI (mv (c_pl u q) x y n).2))
/-- a version added to the table -/
def cta (u : CU) (n : Nat) (k v b : Int32) : CU := s_tc (s_td (s_tb (s_tv (s_tk u (upd (c_tk u) n k)) (upd (c_tv u) n v)) (upd (c_tb u) n b)) (upd (c_td u) n (-1))) (nI (n + 1))
/-- Long.bitCount, as it is written -/
def bc1 (x : Int64) : Int64 := x - ((x.toUInt64 >>> ((1 : Int32).toInt64.toUInt64 &&& Int64.toUInt64 63)).toInt64 &&& 6148914691236517205)
def bc2 (x : Int64) : Int64 := (x &&& 3689348814741910323) + ((x.toUInt64 >>> ((2 : Int32).toInt64.toUInt64 &&& Int64.toUInt64 63)).toInt64 &&& 3689348814741910323)
def bc3 (x : Int64) : Int64 := (x + (x.toUInt64 >>> ((4 : Int32).toInt64.toUInt64 &&& Int64.toUInt64 63)).toInt64) &&& 1085102592571150095
def bc4 (x : Int64) : Int64 := x + (x.toUInt64 >>> ((8 : Int32).toInt64.toUInt64 &&& Int64.toUInt64 63)).toInt64
def bc5 (x : Int64) : Int64 := x + (x.toUInt64 >>> ((16 : Int32).toInt64.toUInt64 &&& Int64.toUInt64 63)).toInt64
def bc6 (x : Int64) : Int64 := x + (x.toUInt64 >>> ((32 : Int32).toInt64.toUInt64 &&& Int64.toUInt64 63)).toInt64
def bcn (x : Int64) : Int32 := (bc6 (bc5 (bc4 (bc3 (bc2 (bc1 x)))))).toInt32 &&& 127
def rmX3_start : Room := { frames := 1, cells := 0, slots := 0, locals := 21 }
theorem hdX3_start : yX3_start.cls = RX3 ∧ yX3_start.cls ≠ "java/lang/invoke/MethodHandle" ∧ yX3_start.cls ≠ "java/lang/invoke/VarHandle" ∧ (parseMethodDescriptor yX3_start.desc).map (fun d => d.parameters.length) = some 0 := by decide +kernel
set_option maxHeartbeats 4000000 in
set_option maxRecDepth 100000 in
theorem kX3_start {l : Launch} {D : va_G} {K : Nat → ClassId} {L : Nat → Prop} {g : Nat → Nat} (hg : gd L g 29) (u : CU) (N : Nat) (hN : N < 60) (hcn : c_cn u = nI N) : CI l yX3_start wsX3_start rmX3_start D K L [.ref (g 1)] (wC K g u) (wC K g (cst u N)) (nI N) := by
  refine CI.of (cc := cX3_start) (maxL := 2) (ret := (some .int)) (by decide +kernel) rfl (Nat.le_of_ble_eq_true rfl) ?_
  intro p e s m below meth c ls hen hP
  obtain ⟨hx, hb, hr, hts, hown, hlk, hml, hnm, hE, hl⟩ := hen
  have S : CallFix p m c cX3_start 2 s _ wsX3_start RX3 := ⟨hx, hb, hml, hown, hts⟩
  have hS : va_S (fr L s.heap.size) s.heap s.heap [] := va_S.rf
  have hl : lv_has ls 2 [(0, .ref (g 1))] := hl
  have i3 : ∀ w ∈ wsX30, w ∈ wsX3_start := fun _ h => List.mem_cons_of_mem _ (List.mem_append_right _ h)
  refine lv_aload_n hx hb dX3_start_0 rfl (lv_at hl 0 rfl) ?_
  refine gw3_count S i3 hE hP (f := c_cn u) rfl (hts _ (List.mem_of_getElem? (i := 1) rfl)) dX3_start_1 ?_
  refine tpi (y := nI N) hcn ?_
  refine lv_istore_n (lv' := [(1, .int (nI N)), (0, .ref (g 1))]) hx hb dX3_start_4 rfl hl (by decide) rfl (fun ls hl => ?_)
  refine lv_aload_n hx hb dX3_start_5 rfl (lv_at hl 1 rfl) ?_
  refine gw3_stamps S i3 hE hP (hts _ (List.mem_of_getElem? (i := 2) rfl)) dX3_start_6 ?_
  refine lv_iload_n hx hb dX3_start_9 rfl (lv_at hl 0 rfl) ?_
  refine lv_aload_n hx hb dX3_start_10 rfl (lv_at hl 1 rfl) ?_
  refine gw3_nextStamp S i3 hE hP (f := c_ns u) rfl (hts _ (List.mem_of_getElem? (i := 3) rfl)) dX3_start_11 ?_
  refine sC_sp S hE hP hg hS (j := N) (by omega) rfl dX3_start_14 (fun H locs hP hS => ?_)
  have hP : va_P D vwCl (wC K g (s_sp u (upd (c_sp u) N (c_ns u)))) H := hP
  refine lv_aload_n hx hb dX3_start_15 rfl (lv_at hl 1 rfl) ?_
  refine gw3_snapshots S i3 hE hP (hts _ (List.mem_of_getElem? (i := 4) rfl)) dX3_start_16 ?_
  refine lv_iload_n hx hb dX3_start_19 rfl (lv_at hl 0 rfl) ?_
  refine lv_aload_n hx hb dX3_start_20 rfl (lv_at hl 1 rfl) ?_
  refine gw3_committed S i3 hE hP (f := c_cm u) rfl (hts _ (List.mem_of_getElem? (i := 5) rfl)) dX3_start_21 ?_
  refine sC_sn S hE hP hg hS (j := N) (by omega) rfl dX3_start_24 (fun H locs hP hS => ?_)
  have hP : va_P D vwCl (wC K g (s_sn (s_sp u (upd (c_sp u) N (c_ns u))) (vp_updL (c_sn u) N (c_cm u)))) H := hP
  refine lv_aload_n hx hb dX3_start_25 rfl (lv_at hl 1 rfl) ?_
  refine lv_dup hx hb dX3_start_26 rfl ?_
  refine gw3_active S i3 hE hP (f := c_ac u) rfl (hts _ (List.mem_of_getElem? (i := 6) rfl)) dX3_start_27 ?_
  refine lv_lconst (v := 1) hx hb dX3_start_30 (by decide) ?_
  refine lv_iload_n hx hb dX3_start_31 rfl (lv_at hl 0 rfl) ?_
  refine lv_lshl hx hb dX3_start_32 rfl ?_
  refine lv_lor hx hb dX3_start_33 ?_
  refine pw3_active S i3 hE hP hg hS (hts _ (List.mem_of_getElem? (i := 6) rfl)) dX3_start_34 (fun H locs hP hS => ?_)
  refine lv_aload_n hx hb dX3_start_37 rfl (lv_at hl 1 rfl) ?_
  refine lv_dup hx hb dX3_start_38 rfl ?_
  refine gw3_count S i3 hE hP (f := c_cn u) rfl (hts _ (List.mem_of_getElem? (i := 1) rfl)) dX3_start_39 ?_
  refine tpi (y := nI N) hcn ?_
  refine lv_iconst (v := 1) hx hb dX3_start_42 (by decide) ?_
  refine lv_iadd hx hb dX3_start_43 ?_
  refine tpi (y := nI (N + 1)) (nI_1 N) ?_
  refine pw3_count S i3 hE hP hg hS (hts _ (List.mem_of_getElem? (i := 1) rfl)) dX3_start_44 (fun H locs hP hS => ?_)
  refine lv_aload_n hx hb dX3_start_47 rfl (lv_at hl 1 rfl) ?_
  refine lv_iconst (v := 1) hx hb dX3_start_48 (by decide) ?_
  refine kiV (As := [.int 1]) (rest := []) S (kX3_skip hg (s_cn (s_ac (s_sn (s_sp u (upd (c_sp u) N (c_ns u))) (vp_updL (c_sn u) N (c_cm u))) ((c_ac u) ||| (1 <<< ((nI N).toInt64 &&& 63)))) (nI (N + 1))) 1) (cwV 1 hts gX3_start_X3_skip rfl rfl rfl hdX3_skip ⟨Nat.le_of_ble_eq_true rfl, Nat.le_of_ble_eq_true rfl⟩) rfl rfl 1 rfl rfl hE hP hS (frs hS) rfl hl.1 rfl (Nat.le_of_ble_eq_true rfl) dX3_start_49 ⟨Nat.le_of_ble_eq_true rfl, Nat.le_of_ble_eq_true rfl⟩ (fun H locs hP _ _ hS => ?_)
  refine lv_pop hx hb dX3_start_52 rfl ?_
  refine lv_iload_n hx hb dX3_start_53 rfl (lv_at hl 0 rfl) ?_
  exact ei hx hb hr hlk hS hP (by rfl) (by rfl) (Nat.le_of_ble_eq_true rfl) (Nat.le_of_ble_eq_true rfl) dX3_start_54
def rmX3_finish : Room := { frames := 0, cells := 0, slots := 0, locals := 0 }
theorem hdX3_finish : yX3_finish.cls = RX3 ∧ yX3_finish.cls ≠ "java/lang/invoke/MethodHandle" ∧ yX3_finish.cls ≠ "java/lang/invoke/VarHandle" ∧ (parseMethodDescriptor yX3_finish.desc).map (fun d => d.parameters.length) = some 2 := by decide +kernel
set_option maxHeartbeats 4000000 in
set_option maxRecDepth 100000 in
theorem kX3_finish {l : Launch} {D : va_G} {K : Nat → ClassId} {L : Nat → Prop} {g : Nat → Nat} (hg : gd L g 29) (u : CU) (t : Nat) (q : Prop) (ht : t < 60) : CV l yX3_finish wsX3_finish rmX3_finish D K L [.ref (g 1), .int (nI t), .int (fb q)] (wC K g u) (wC K g (cfi u t q)) := by
  refine CV.of (cc := cX3_finish) (maxL := 3) (ret := none) (by decide +kernel) rfl (Nat.le_of_ble_eq_true rfl) ?_
  intro p e s m below meth c ls hen hP
  obtain ⟨hx, hb, hr, hts, hown, hlk, hml, hnm, hE, hl⟩ := hen
  have S : CallFix p m c cX3_finish 3 s _ wsX3_finish RX3 := ⟨hx, hb, hml, hown, hts⟩
  have hS : va_S (fr L s.heap.size) s.heap s.heap [] := va_S.rf
  have hl : lv_has ls 3 [(0, .ref (g 1)), (1, .int (nI t)), (2, .int (fb q))] := hl
  have i3 : ∀ w ∈ wsX30, w ∈ wsX3_finish := fun _ h => List.mem_cons_of_mem _ (List.mem_append_right _ h)
  refine lv_aload_n hx hb dX3_finish_0 rfl (lv_at hl 0 rfl) ?_
  refine lv_dup hx hb dX3_finish_1 rfl ?_
  refine gw3_active S i3 hE hP (f := c_ac u) rfl (hts _ (List.mem_of_getElem? (i := 1) rfl)) dX3_finish_2 ?_
  refine lv_lconst (v := 1) hx hb dX3_finish_5 (by decide) ?_
  refine lv_iload_n hx hb dX3_finish_6 rfl (lv_at hl 1 rfl) ?_
  refine lv_lshl hx hb dX3_finish_7 rfl ?_
  refine lv_ldc2 (v := (-1)) hx hb hown (hts _ (List.mem_of_getElem? (i := 2) rfl)) dX3_finish_8 ?_
  refine lv_lxor hx hb dX3_finish_11 ?_
  refine lv_land hx hb dX3_finish_12 ?_
  refine pw3_active S i3 hE hP hg hS (hts _ (List.mem_of_getElem? (i := 1) rfl)) dX3_finish_13 (fun H locs hP hS => ?_)
  refine lv_iload_n hx hb dX3_finish_16 rfl (lv_at hl 2 rfl) ?_
  refine bzeq (tgt := 32) hx hb dX3_finish_17 (by decide) (fun c1 => ?_) (fun c1 => ?_)
  · skip
    exact e0 hx hb hr hlk hS hP (by first | exact congrArg (wC K g) (cfi_t c1).symm | exact congrArg (wC K g) (cfi_f c1).symm) (Nat.le_of_ble_eq_true rfl) (Nat.le_of_ble_eq_true rfl) dX3_finish_32
  · skip
    refine lv_aload_n hx hb dX3_finish_20 rfl (lv_at hl 0 rfl) ?_
    refine lv_dup hx hb dX3_finish_21 rfl ?_
    refine gw3_committed S i3 hE hP (f := c_cm u) rfl (hts _ (List.mem_of_getElem? (i := 3) rfl)) dX3_finish_22 ?_
    refine lv_lconst (v := 1) hx hb dX3_finish_25 (by decide) ?_
    refine lv_iload_n hx hb dX3_finish_26 rfl (lv_at hl 1 rfl) ?_
    refine lv_lshl hx hb dX3_finish_27 rfl ?_
    refine lv_lor hx hb dX3_finish_28 ?_
    refine pw3_committed S i3 hE hP hg hS (hts _ (List.mem_of_getElem? (i := 3) rfl)) dX3_finish_29 (fun H locs hP hS => ?_)
    exact e0 hx hb hr hlk hS hP (by first | exact congrArg (wC K g) (cfi_t c1).symm | exact congrArg (wC K g) (cfi_f c1).symm) (Nat.le_of_ble_eq_true rfl) (Nat.le_of_ble_eq_true rfl) dX3_finish_32
def rmX3_settled : Room := { frames := 2, cells := 0, slots := 0, locals := 43 }
theorem hdX3_settled : yX3_settled.cls = RX3 ∧ yX3_settled.cls ≠ "java/lang/invoke/MethodHandle" ∧ yX3_settled.cls ≠ "java/lang/invoke/VarHandle" ∧ (parseMethodDescriptor yX3_settled.desc).map (fun d => d.parameters.length) = some 0 := by decide +kernel
set_option maxHeartbeats 4000000 in
set_option maxRecDepth 100000 in
theorem kX3_settled {l : Launch} {D : va_G} {K : Nat → ClassId} {L : Nat → Prop} {g : Nat → Nat} (hg : gd L g 29) (u : CU) (N : Nat) (hN : N ≤ 60) (hcn : c_cn u = nI N) : CL l yX3_settled wsX3_settled rmX3_settled D K L [.ref (g 1)] (wC K g u) (wC K g u) (stl u N) := by
  refine CL.of (cc := cX3_settled) (maxL := 4) (ret := (some .long)) (by decide +kernel) rfl (Nat.le_of_ble_eq_true rfl) ?_
  intro p e s m below meth c ls hen hP
  obtain ⟨hx, hb, hr, hts, hown, hlk, hml, hnm, hE, hl⟩ := hen
  have S : CallFix p m c cX3_settled 4 s _ wsX3_settled RX3 := ⟨hx, hb, hml, hown, hts⟩
  have hS : va_S (fr L s.heap.size) s.heap s.heap [] := va_S.rf
  have hl : lv_has ls 4 [(0, .ref (g 1))] := hl
  have i3 : ∀ w ∈ wsX30, w ∈ wsX3_settled := fun _ h => List.mem_cons_of_mem _ (List.mem_append_right _ h)
  refine lv_aload_n hx hb dX3_settled_0 rfl (lv_at hl 0 rfl) ?_
  refine gw3_committed S i3 hE hP (f := c_cm u) rfl (hts _ (List.mem_of_getElem? (i := 1) rfl)) dX3_settled_1 ?_
  refine lv_lstore_n (lv' := [(1, .long (c_cm u)), (0, .ref (g 1))]) hx hb dX3_settled_4 rfl hl (by decide) rfl (fun ls hl => ?_)
  refine lv_iconst (v := 0) hx hb dX3_settled_5 (by decide) ?_
  refine lv_istore_n (lv' := [(3, .int 0), (1, .long (c_cm u)), (0, .ref (g 1))]) hx hb dX3_settled_6 rfl hl (by decide) rfl (fun ls hl => ?_)
  have loop7 : ∀ (n7 : Nat) (i : Nat) (a : Int64), (hi : i ≤ N) → (ha : a = stl u i) → N - i < n7 → ∀ (H : Heap) (locs : List Loc), va_P D vwCl (wC K g u) H → va_S (fr L s.heap.size) s.heap H locs → ∀ (ls : Array Slot), lv_has ls 4 [(3, .int (nI i)), (1, .long a), (0, .ref (g 1))] → W p l e rmX3_settled s m ([.ref (g 1)] : List Value).toArray below meth c H locs 0 0 (MQ below (va_Ql (fun (r9 : Int64) (_ : Unit) => r9 = stl u N) (fun _ t => va_P D vwCl (wC K g u) t.heap) (fr L s.heap.size)) ([.ref (g 1)] : List Value).toArray s rmX3_settled.cells rmX3_settled.slots (fr L s.heap.size)) (F0 m 7 ls []) := by
    intro n7
    induction n7 with
    | zero =>
      intro i a hi ha hn7
      exact absurd hn7 (Nat.not_lt_zero _)
    | succ n7 ih7 =>
      intro i a hi ha hn7 H locs hP hS ls hl
      refine lv_iload_n hx hb dX3_settled_7 rfl (lv_at hl 0 rfl) ?_
      refine lv_aload_n hx hb dX3_settled_8 rfl (lv_at hl 2 rfl) ?_
      refine gw3_count S i3 hE hP (f := c_cn u) rfl (hts _ (List.mem_of_getElem? (i := 2) rfl)) dX3_settled_9 ?_
      refine tpi (y := nI N) hcn ?_
      refine lv_icmp_ge (tgt := 38) hx hb dX3_settled_12 (by decide) (fun c1 => ?_) (fun c1 => ?_)
      · skip
        have e : i = N := by have := nge_i (by omega) (by omega) c1; omega
        refine lv_lload_n hx hb dX3_settled_38 rfl (lv_at hl 1 rfl) ?_
        exact el hx hb hr hlk hS hP rfl (by rw [ha, e]) (Nat.le_of_ble_eq_true rfl) (Nat.le_of_ble_eq_true rfl) dX3_settled_39
      · skip
        have hlt : i < N := nlt_i (by omega) (by omega) c1
        refine lv_aload_n hx hb dX3_settled_15 rfl (lv_at hl 2 rfl) ?_
        refine lv_iload_n hx hb dX3_settled_16 rfl (lv_at hl 0 rfl) ?_
        refine kiV (As := [.int (nI i)]) (rest := []) S (kX3_isActive hg u (nI i)) (cwV 1 hts gX3_settled_X3_isActive rfl rfl rfl hdX3_isActive ⟨Nat.le_of_ble_eq_true rfl, Nat.le_of_ble_eq_true rfl⟩) rfl rfl 1 rfl rfl hE hP hS (frs hS) rfl hl.1 rfl (Nat.le_of_ble_eq_true rfl) dX3_settled_17 ⟨Nat.le_of_ble_eq_true rfl, Nat.le_of_ble_eq_true rfl⟩ (fun H locs hP _ _ hS => ?_)
        refine bzeq (tgt := 32) hx hb dX3_settled_20 (by decide) (fun c2 => ?_) (fun c2 => ?_)
        · skip
          refine lv_iinc (v := nI (i + 1)) (lv' := [(3, .int (nI (i + 1))), (1, .long a), (0, .ref (g 1))]) hx hb dX3_settled_32 hl (k := 0) rfl (nI_1 i) (by decide) rfl (fun ls hl => ?_)
          refine lv_goto (tgt := 7) hx hb dX3_settled_35 (by decide) ?_
          exact ih7 (i + 1) a (by omega) (by first | rw [stl_t c2, ha] | rw [stl_f c2, ha]) (by omega) _ _ hP hS ls (lv_sub hl [0, 1, 2] rfl)
        · skip
          refine lv_lload_n hx hb dX3_settled_23 rfl (lv_at hl 1 rfl) ?_
          refine lv_aload_n hx hb dX3_settled_24 rfl (lv_at hl 2 rfl) ?_
          refine gw3_snapshots S i3 hE hP (hts _ (List.mem_of_getElem? (i := 3) rfl)) dX3_settled_25 ?_
          refine lv_iload_n hx hb dX3_settled_28 rfl (lv_at hl 0 rfl) ?_
          refine lC_sn S hE hP (f := c_sn u) rfl (j := i) (by omega) rfl dX3_settled_29 ?_
          refine lv_land hx hb dX3_settled_30 ?_
          refine lv_lstore_n (lv' := [(1, .long (a &&& (c_sn u i))), (3, .int (nI i)), (0, .ref (g 1))]) hx hb dX3_settled_31 rfl hl (by decide) rfl (fun ls hl => ?_)
          refine lv_iinc (v := nI (i + 1)) (lv' := [(3, .int (nI (i + 1))), (1, .long (a &&& (c_sn u i))), (0, .ref (g 1))]) hx hb dX3_settled_32 hl (k := 1) rfl (nI_1 i) (by decide) rfl (fun ls hl => ?_)
          refine lv_goto (tgt := 7) hx hb dX3_settled_35 (by decide) ?_
          exact ih7 (i + 1) (a &&& (c_sn u i)) (by omega) (by first | rw [stl_t c2, ha] | rw [stl_f c2, ha]) (by omega) _ _ hP hS ls (lv_sub hl [0, 1, 2] rfl)
  exact loop7 _ 0 (c_cm u) (by omega) rfl (Nat.lt_succ_self _) _ _ hP hS ls (lv_sub hl [0, 1, 2] rfl)
def rmX3_oldestActiveAge : Room := { frames := 3, cells := 0, slots := 0, locals := 64 }
theorem hdX3_oldestActiveAge : yX3_oldestActiveAge.cls = RX3 ∧ yX3_oldestActiveAge.cls ≠ "java/lang/invoke/MethodHandle" ∧ yX3_oldestActiveAge.cls ≠ "java/lang/invoke/VarHandle" ∧ (parseMethodDescriptor yX3_oldestActiveAge.desc).map (fun d => d.parameters.length) = some 0 := by decide +kernel
set_option maxHeartbeats 4000000 in
set_option maxRecDepth 100000 in
theorem kX3_oldestActiveAge {l : Launch} {D : va_G} {K : Nat → ClassId} {L : Nat → Prop} {g : Nat → Nat} (hg : gd L g 29) (u : CU) (N : Nat) (hN : N ≤ 60) (hcn : c_cn u = nI N) : CI l yX3_oldestActiveAge wsX3_oldestActiveAge rmX3_oldestActiveAge D K L [.ref (g 1)] (wC K g u) (wC K g u) (oaa u N) := by
  refine CI.of (cc := cX3_oldestActiveAge) (maxL := 3) (ret := (some .int)) (by decide +kernel) rfl (Nat.le_of_ble_eq_true rfl) ?_
  intro p e s m below meth c ls hen hP
  obtain ⟨hx, hb, hr, hts, hown, hlk, hml, hnm, hE, hl⟩ := hen
  have S : CallFix p m c cX3_oldestActiveAge 3 s _ wsX3_oldestActiveAge RX3 := ⟨hx, hb, hml, hown, hts⟩
  have hS : va_S (fr L s.heap.size) s.heap s.heap [] := va_S.rf
  have hl : lv_has ls 3 [(0, .ref (g 1))] := hl
  have i3 : ∀ w ∈ wsX30, w ∈ wsX3_oldestActiveAge := fun _ h => List.mem_cons_of_mem _ (List.mem_append_right _ h)
  refine lv_iconst (v := 0) hx hb dX3_oldestActiveAge_0 (by decide) ?_
  refine lv_istore_n (lv' := [(1, .int 0), (0, .ref (g 1))]) hx hb dX3_oldestActiveAge_1 rfl hl (by decide) rfl (fun ls hl => ?_)
  refine lv_iconst (v := 0) hx hb dX3_oldestActiveAge_2 (by decide) ?_
  refine lv_istore_n (lv' := [(2, .int 0), (1, .int 0), (0, .ref (g 1))]) hx hb dX3_oldestActiveAge_3 rfl hl (by decide) rfl (fun ls hl => ?_)
  have loop4 : ∀ (n4 : Nat) (i : Nat) (a : Int32), (hi : i ≤ N) → (ha : a = oaa u i) → N - i < n4 → ∀ (H : Heap) (locs : List Loc), va_P D vwCl (wC K g u) H → va_S (fr L s.heap.size) s.heap H locs → ∀ (ls : Array Slot), lv_has ls 3 [(2, .int (nI i)), (1, .int a), (0, .ref (g 1))] → W p l e rmX3_oldestActiveAge s m ([.ref (g 1)] : List Value).toArray below meth c H locs 0 0 (MQ below (va_Qi (fun (r9 : Int32) (_ : Unit) => r9 = oaa u N) (fun _ t => va_P D vwCl (wC K g u) t.heap) (fr L s.heap.size)) ([.ref (g 1)] : List Value).toArray s rmX3_oldestActiveAge.cells rmX3_oldestActiveAge.slots (fr L s.heap.size)) (F0 m 4 ls []) := by
    intro n4
    induction n4 with
    | zero =>
      intro i a hi ha hn4
      exact absurd hn4 (Nat.not_lt_zero _)
    | succ n4 ih4 =>
      intro i a hi ha hn4 H locs hP hS ls hl
      refine lv_iload_n hx hb dX3_oldestActiveAge_4 rfl (lv_at hl 0 rfl) ?_
      refine lv_aload_n hx hb dX3_oldestActiveAge_5 rfl (lv_at hl 2 rfl) ?_
      refine gw3_count S i3 hE hP (f := c_cn u) rfl (hts _ (List.mem_of_getElem? (i := 1) rfl)) dX3_oldestActiveAge_6 ?_
      refine tpi (y := nI N) hcn ?_
      refine lv_icmp_ge (tgt := 41) hx hb dX3_oldestActiveAge_9 (by decide) (fun c1 => ?_) (fun c1 => ?_)
      · skip
        have e : i = N := by have := nge_i (by omega) (by omega) c1; omega
        refine lv_iload_n hx hb dX3_oldestActiveAge_41 rfl (lv_at hl 1 rfl) ?_
        exact ei hx hb hr hlk hS hP rfl (by rw [ha, e]) (Nat.le_of_ble_eq_true rfl) (Nat.le_of_ble_eq_true rfl) dX3_oldestActiveAge_42
      · skip
        have hlt : i < N := nlt_i (by omega) (by omega) c1
        refine lv_aload_n hx hb dX3_oldestActiveAge_12 rfl (lv_at hl 2 rfl) ?_
        refine lv_iload_n hx hb dX3_oldestActiveAge_13 rfl (lv_at hl 0 rfl) ?_
        refine kiV (As := [.int (nI i)]) (rest := []) S (kX3_isActive hg u (nI i)) (cwV 1 hts gX3_oldestActiveAge_X3_isActive rfl rfl rfl hdX3_isActive ⟨Nat.le_of_ble_eq_true rfl, Nat.le_of_ble_eq_true rfl⟩) rfl rfl 1 rfl rfl hE hP hS (frs hS) rfl hl.1 rfl (Nat.le_of_ble_eq_true rfl) dX3_oldestActiveAge_14 ⟨Nat.le_of_ble_eq_true rfl, Nat.le_of_ble_eq_true rfl⟩ (fun H locs hP _ _ hS => ?_)
        refine bzeq (tgt := 35) hx hb dX3_oldestActiveAge_17 (by decide) (fun c2 => ?_) (fun c2 => ?_)
        · skip
          refine lv_iinc (v := nI (i + 1)) (lv' := [(2, .int (nI (i + 1))), (1, .int a), (0, .ref (g 1))]) hx hb dX3_oldestActiveAge_35 hl (k := 0) rfl (nI_1 i) (by decide) rfl (fun ls hl => ?_)
          refine lv_goto (tgt := 4) hx hb dX3_oldestActiveAge_38 (by decide) ?_
          exact ih4 (i + 1) a (by omega) (by first | rw [oaa_t c2, ha] | rw [oaa_f c2, ha]) (by omega) _ _ hP hS ls (lv_sub hl [0, 1, 2] rfl)
        · skip
          refine lv_iload_n hx hb dX3_oldestActiveAge_20 rfl (lv_at hl 1 rfl) ?_
          refine lv_aload_n hx hb dX3_oldestActiveAge_21 rfl (lv_at hl 2 rfl) ?_
          refine lv_aload_n hx hb dX3_oldestActiveAge_22 rfl (lv_at hl 2 rfl) ?_
          refine gw3_stamps S i3 hE hP (hts _ (List.mem_of_getElem? (i := 2) rfl)) dX3_oldestActiveAge_23 ?_
          refine lv_iload_n hx hb dX3_oldestActiveAge_26 rfl (lv_at hl 0 rfl) ?_
          refine lC_sp S hE hP (f := c_sp u) rfl (j := i) (by omega) rfl dX3_oldestActiveAge_27 ?_
          refine kiV (As := [.int (c_sp u i)]) (rest := [.int a]) S (kX3_ageOf hg u (c_sp u i)) (cwV 1 hts gX3_oldestActiveAge_X3_ageOf rfl rfl rfl hdX3_ageOf ⟨Nat.le_of_ble_eq_true rfl, Nat.le_of_ble_eq_true rfl⟩) rfl rfl 1 rfl rfl hE hP hS (frs hS) rfl hl.1 rfl (Nat.le_of_ble_eq_true rfl) dX3_oldestActiveAge_28 ⟨Nat.le_of_ble_eq_true rfl, Nat.le_of_ble_eq_true rfl⟩ (fun H locs hP _ _ hS => ?_)
          refine va_mmax hx hb (hml.trans hl.1.symm) hown (hts _ (List.mem_of_getElem? (i := 3) rfl)) (hts _ (List.mem_of_getElem? (i := 4) rfl)) (hts _ (List.mem_of_getElem? (i := 5) rfl)) (hts _ (List.mem_of_getElem? (i := 6) rfl)) (Nat.le_of_ble_eq_true rfl) (Nat.le_of_ble_eq_true rfl) (Nat.le_of_ble_eq_true rfl) (Nat.le_of_ble_eq_true rfl) dX3_oldestActiveAge_31 ?_
          refine tpi (y := mx a (fm (c_ns u - (c_sp u i)))) rfl ?_
          refine lv_istore_n (lv' := [(1, .int (mx a (fm (c_ns u - (c_sp u i))))), (2, .int (nI i)), (0, .ref (g 1))]) hx hb dX3_oldestActiveAge_34 rfl hl (by decide) rfl (fun ls hl => ?_)
          refine lv_iinc (v := nI (i + 1)) (lv' := [(2, .int (nI (i + 1))), (1, .int (mx a (fm (c_ns u - (c_sp u i))))), (0, .ref (g 1))]) hx hb dX3_oldestActiveAge_35 hl (k := 1) rfl (nI_1 i) (by decide) rfl (fun ls hl => ?_)
          refine lv_goto (tgt := 4) hx hb dX3_oldestActiveAge_38 (by decide) ?_
          exact ih4 (i + 1) (mx a (fm (c_ns u - (c_sp u i)))) (by omega) (by first | rw [oaa_t c2, ha] | rw [oaa_f c2, ha]) (by omega) _ _ hP hS ls (lv_sub hl [0, 1, 2] rfl)
  exact loop4 _ 0 0 (by omega) rfl (Nat.lt_succ_self _) _ _ hP hS ls (lv_sub hl [0, 1, 2] rfl)
def rmJ13_bitCount_95d88 : Room := { frames := 0, cells := 0, slots := 0, locals := 0 }
theorem hdJ13_bitCount_95d88 : yJ13_bitCount_95d88.cls = RJ13 ∧ yJ13_bitCount_95d88.cls ≠ "java/lang/invoke/MethodHandle" ∧ yJ13_bitCount_95d88.cls ≠ "java/lang/invoke/VarHandle" ∧ (parseMethodDescriptor yJ13_bitCount_95d88.desc).map (fun d => d.parameters.length) = some 1 := by decide +kernel
set_option maxHeartbeats 4000000 in
set_option maxRecDepth 100000 in
theorem kJ13_bitCount_95d88 {l : Launch} {D : va_G} {K : Nat → ClassId} {L : Nat → Prop} {w : va_W} (x : Int64) : CI l yJ13_bitCount_95d88 wsJ13_bitCount_95d88 rmJ13_bitCount_95d88 D K L [.long x] w w (bcn x) := by
  refine CI.ofF (cc := cJ13_bitCount_95d88) (maxL := 2) (ret := (some .int)) (by decide +kernel) rfl (Nat.le_of_ble_eq_true rfl) ?_
  intro p e s m below meth c ls hen hP
  obtain ⟨hx, hb, hr, hts, hown, hlk, hml, hnm, hE, hl⟩ := hen
  have S : CallFix p m c cJ13_bitCount_95d88 2 s _ wsJ13_bitCount_95d88 RJ13 := ⟨hx, hb, hml, hown, hts⟩
  have hS : va_S (fr L s.heap.size) s.heap s.heap [] := va_S.rf
  have hl : lv_has ls 2 [(0, .long x)] := hl
  refine lv_lload_n hx hb dJ13_bitCount_95d88_0 rfl (lv_at hl 0 rfl) ?_
  refine lv_lload_n hx hb dJ13_bitCount_95d88_1 rfl (lv_at hl 0 rfl) ?_
  refine lv_iconst (v := 1) hx hb dJ13_bitCount_95d88_2 (by decide) ?_
  refine lv_lushr hx hb dJ13_bitCount_95d88_3 rfl ?_
  refine lv_ldc2 (v := 6148914691236517205) hx hb hown (hts _ (List.mem_of_getElem? (i := 1) rfl)) dJ13_bitCount_95d88_4 ?_
  refine lv_land hx hb dJ13_bitCount_95d88_7 ?_
  refine lv_lsub hx hb dJ13_bitCount_95d88_8 ?_
  refine tpl (y := bc1 x) rfl ?_
  refine lv_lstore_n (lv' := [(0, .long (bc1 x))]) hx hb dJ13_bitCount_95d88_9 rfl hl (by decide) rfl (fun ls hl => ?_)
  refine lv_lload_n hx hb dJ13_bitCount_95d88_10 rfl (lv_at hl 0 rfl) ?_
  refine lv_ldc2 (v := 3689348814741910323) hx hb hown (hts _ (List.mem_of_getElem? (i := 2) rfl)) dJ13_bitCount_95d88_11 ?_
  refine lv_land hx hb dJ13_bitCount_95d88_14 ?_
  refine lv_lload_n hx hb dJ13_bitCount_95d88_15 rfl (lv_at hl 0 rfl) ?_
  refine lv_iconst (v := 2) hx hb dJ13_bitCount_95d88_16 (by decide) ?_
  refine lv_lushr hx hb dJ13_bitCount_95d88_17 rfl ?_
  refine lv_ldc2 (v := 3689348814741910323) hx hb hown (hts _ (List.mem_of_getElem? (i := 2) rfl)) dJ13_bitCount_95d88_18 ?_
  refine lv_land hx hb dJ13_bitCount_95d88_21 ?_
  refine lv_ladd hx hb dJ13_bitCount_95d88_22 ?_
  refine tpl (y := bc2 (bc1 x)) rfl ?_
  refine lv_lstore_n (lv' := [(0, .long (bc2 (bc1 x)))]) hx hb dJ13_bitCount_95d88_23 rfl hl (by decide) rfl (fun ls hl => ?_)
  refine lv_lload_n hx hb dJ13_bitCount_95d88_24 rfl (lv_at hl 0 rfl) ?_
  refine lv_lload_n hx hb dJ13_bitCount_95d88_25 rfl (lv_at hl 0 rfl) ?_
  refine lv_iconst (v := 4) hx hb dJ13_bitCount_95d88_26 (by decide) ?_
  refine lv_lushr hx hb dJ13_bitCount_95d88_27 rfl ?_
  refine lv_ladd hx hb dJ13_bitCount_95d88_28 ?_
  refine lv_ldc2 (v := 1085102592571150095) hx hb hown (hts _ (List.mem_of_getElem? (i := 3) rfl)) dJ13_bitCount_95d88_29 ?_
  refine lv_land hx hb dJ13_bitCount_95d88_32 ?_
  refine tpl (y := bc3 (bc2 (bc1 x))) rfl ?_
  refine lv_lstore_n (lv' := [(0, .long (bc3 (bc2 (bc1 x))))]) hx hb dJ13_bitCount_95d88_33 rfl hl (by decide) rfl (fun ls hl => ?_)
  refine lv_lload_n hx hb dJ13_bitCount_95d88_34 rfl (lv_at hl 0 rfl) ?_
  refine lv_lload_n hx hb dJ13_bitCount_95d88_35 rfl (lv_at hl 0 rfl) ?_
  refine lv_bipush (v := 8) hx hb dJ13_bitCount_95d88_36 (by decide) ?_
  refine lv_lushr hx hb dJ13_bitCount_95d88_38 rfl ?_
  refine lv_ladd hx hb dJ13_bitCount_95d88_39 ?_
  refine tpl (y := bc4 (bc3 (bc2 (bc1 x)))) rfl ?_
  refine lv_lstore_n (lv' := [(0, .long (bc4 (bc3 (bc2 (bc1 x)))))]) hx hb dJ13_bitCount_95d88_40 rfl hl (by decide) rfl (fun ls hl => ?_)
  refine lv_lload_n hx hb dJ13_bitCount_95d88_41 rfl (lv_at hl 0 rfl) ?_
  refine lv_lload_n hx hb dJ13_bitCount_95d88_42 rfl (lv_at hl 0 rfl) ?_
  refine lv_bipush (v := 16) hx hb dJ13_bitCount_95d88_43 (by decide) ?_
  refine lv_lushr hx hb dJ13_bitCount_95d88_45 rfl ?_
  refine lv_ladd hx hb dJ13_bitCount_95d88_46 ?_
  refine tpl (y := bc5 (bc4 (bc3 (bc2 (bc1 x))))) rfl ?_
  refine lv_lstore_n (lv' := [(0, .long (bc5 (bc4 (bc3 (bc2 (bc1 x))))))]) hx hb dJ13_bitCount_95d88_47 rfl hl (by decide) rfl (fun ls hl => ?_)
  refine lv_lload_n hx hb dJ13_bitCount_95d88_48 rfl (lv_at hl 0 rfl) ?_
  refine lv_lload_n hx hb dJ13_bitCount_95d88_49 rfl (lv_at hl 0 rfl) ?_
  refine lv_bipush (v := 32) hx hb dJ13_bitCount_95d88_50 (by decide) ?_
  refine lv_lushr hx hb dJ13_bitCount_95d88_52 rfl ?_
  refine lv_ladd hx hb dJ13_bitCount_95d88_53 ?_
  refine tpl (y := bc6 (bc5 (bc4 (bc3 (bc2 (bc1 x)))))) rfl ?_
  refine lv_lstore_n (lv' := [(0, .long (bc6 (bc5 (bc4 (bc3 (bc2 (bc1 x)))))))]) hx hb dJ13_bitCount_95d88_54 rfl hl (by decide) rfl (fun ls hl => ?_)
  refine lv_lload_n hx hb dJ13_bitCount_95d88_55 rfl (lv_at hl 0 rfl) ?_
  refine lv_l2i hx hb dJ13_bitCount_95d88_56 rfl ?_
  refine lv_bipush (v := 127) hx hb dJ13_bitCount_95d88_57 (by decide) ?_
  refine lv_iand hx hb dJ13_bitCount_95d88_59 ?_
  exact ei hx hb hr hlk hS hP rfl (by rfl) (Nat.le_of_ble_eq_true rfl) (Nat.le_of_ble_eq_true rfl) dJ13_bitCount_95d88_60
def rmX3_activeCount : Room := { frames := 1, cells := 0, slots := 0, locals := 21 }
theorem hdX3_activeCount : yX3_activeCount.cls = RX3 ∧ yX3_activeCount.cls ≠ "java/lang/invoke/MethodHandle" ∧ yX3_activeCount.cls ≠ "java/lang/invoke/VarHandle" ∧ (parseMethodDescriptor yX3_activeCount.desc).map (fun d => d.parameters.length) = some 0 := by decide +kernel
set_option maxHeartbeats 4000000 in
set_option maxRecDepth 100000 in
theorem kX3_activeCount {l : Launch} {D : va_G} {K : Nat → ClassId} {L : Nat → Prop} {g : Nat → Nat} (hg : gd L g 29) (u : CU) : CI l yX3_activeCount wsX3_activeCount rmX3_activeCount D K L [.ref (g 1)] (wC K g u) (wC K g u) (bcn (c_ac u)) := by
  refine CI.of (cc := cX3_activeCount) (maxL := 1) (ret := (some .int)) (by decide +kernel) rfl (Nat.le_of_ble_eq_true rfl) ?_
  intro p e s m below meth c ls hen hP
  obtain ⟨hx, hb, hr, hts, hown, hlk, hml, hnm, hE, hl⟩ := hen
  have S : CallFix p m c cX3_activeCount 1 s _ wsX3_activeCount RX3 := ⟨hx, hb, hml, hown, hts⟩
  have hS : va_S (fr L s.heap.size) s.heap s.heap [] := va_S.rf
  have hl : lv_has ls 1 [(0, .ref (g 1))] := hl
  have i3 : ∀ w ∈ wsX30, w ∈ wsX3_activeCount := fun _ h => List.mem_cons_of_mem _ (List.mem_append_right _ h)
  refine lv_aload_n hx hb dX3_activeCount_0 rfl (lv_at hl 0 rfl) ?_
  refine gw3_active S i3 hE hP (f := c_ac u) rfl (hts _ (List.mem_of_getElem? (i := 1) rfl)) dX3_activeCount_1 ?_
  refine kiS (As := [.long (c_ac u)]) (rest := []) S (kJ13_bitCount_95d88 (c_ac u)) (va_cwS 1 hts gX3_activeCount_J13_bitCount_95d88 rfl rfl rfl hdJ13_bitCount_95d88.2 ⟨Nat.le_of_ble_eq_true rfl, Nat.le_of_ble_eq_true rfl⟩) rfl rfl hE hP hS (frs hS) rfl hl.1 rfl (Nat.le_of_ble_eq_true rfl) dX3_activeCount_4 ⟨Nat.le_of_ble_eq_true rfl, Nat.le_of_ble_eq_true rfl⟩ (fun H locs hP _ _ hS => ?_)
  exact ei hx hb hr hlk hS hP rfl (by rfl) (Nat.le_of_ble_eq_true rfl) (Nat.le_of_ble_eq_true rfl) dX3_activeCount_7
def rmX1_isUsed : Room := { frames := 0, cells := 0, slots := 0, locals := 0 }
theorem hdX1_isUsed : yX1_isUsed.cls = RX1 ∧ yX1_isUsed.cls ≠ "java/lang/invoke/MethodHandle" ∧ yX1_isUsed.cls ≠ "java/lang/invoke/VarHandle" ∧ (parseMethodDescriptor yX1_isUsed.desc).map (fun d => d.parameters.length) = some 1 := by decide +kernel
set_option maxHeartbeats 4000000 in
set_option maxRecDepth 100000 in
theorem kX1_isUsed {l : Launch} {D : va_G} {K : Nat → ClassId} {L : Nat → Prop} {g : Nat → Nat} (hg : gd L g 29) (u : CU) (q : Nat) (hq : q < 32) : CI l yX1_isUsed wsX1_isUsed rmX1_isUsed D K L [.ref (g 2), .int (nI q)] (wC K g u) (wC K g u) (fb (usP u q)) := by
  refine CI.of (cc := cX1_isUsed) (maxL := 2) (ret := (some .boolean)) (by decide +kernel) rfl (Nat.le_of_ble_eq_true rfl) ?_
  intro p e s m below meth c ls hen hP
  obtain ⟨hx, hb, hr, hts, hown, hlk, hml, hnm, hE, hl⟩ := hen
  have S : CallFix p m c cX1_isUsed 2 s _ wsX1_isUsed RX1 := ⟨hx, hb, hml, hown, hts⟩
  have hS : va_S (fr L s.heap.size) s.heap s.heap [] := va_S.rf
  have hl : lv_has ls 2 [(0, .ref (g 2)), (1, .int (nI q))] := hl
  have i1 : ∀ w ∈ wsX10, w ∈ wsX1_isUsed := fun _ h => List.mem_cons_of_mem _ (List.mem_append_right _ h)
  refine lv_aload_n hx hb dX1_isUsed_0 rfl (lv_at hl 0 rfl) ?_
  refine gw1_keys S i1 hE hP (hts _ (List.mem_of_getElem? (i := 1) rfl)) dX1_isUsed_1 ?_
  refine lv_iload_n hx hb dX1_isUsed_4 rfl (lv_at hl 1 rfl) ?_
  refine lC_k S hE hP (f := c_k u) rfl (j := q) (by omega) rfl dX1_isUsed_5 ?_
  refine lv_iconst (v := (-1)) hx hb dX1_isUsed_6 (by decide) ?_
  refine lv_icmp_eq (tgt := 14) hx hb dX1_isUsed_7 (by decide) (fun c1 => ?_) (fun c1 => ?_)
  · skip
    have no : ¬ usP u q := fun k => k c1
    refine lv_iconst (v := 0) hx hb dX1_isUsed_14 (by decide) ?_
    exact ez hx hb hr hlk hS hP rfl (by first | exact f_fb no | exact t_fb yes) rfl (Nat.le_of_ble_eq_true rfl) (Nat.le_of_ble_eq_true rfl) dX1_isUsed_15
  · skip
    have yes : usP u q := c1
    refine lv_iconst (v := 1) hx hb dX1_isUsed_10 (by decide) ?_
    refine lv_goto (tgt := 15) hx hb dX1_isUsed_11 (by decide) ?_
    exact ez hx hb hr hlk hS hP rfl (by first | exact f_fb no | exact t_fb yes) rfl (Nat.le_of_ble_eq_true rfl) (Nat.le_of_ble_eq_true rfl) dX1_isUsed_15
def rmX1_hasDeath : Room := { frames := 0, cells := 0, slots := 0, locals := 0 }
theorem hdX1_hasDeath : yX1_hasDeath.cls = RX1 ∧ yX1_hasDeath.cls ≠ "java/lang/invoke/MethodHandle" ∧ yX1_hasDeath.cls ≠ "java/lang/invoke/VarHandle" ∧ (parseMethodDescriptor yX1_hasDeath.desc).map (fun d => d.parameters.length) = some 1 := by decide +kernel
set_option maxHeartbeats 4000000 in
set_option maxRecDepth 100000 in
theorem kX1_hasDeath {l : Launch} {D : va_G} {K : Nat → ClassId} {L : Nat → Prop} {g : Nat → Nat} (hg : gd L g 29) (u : CU) (q : Nat) (hq : q < 32) : CI l yX1_hasDeath wsX1_hasDeath rmX1_hasDeath D K L [.ref (g 2), .int (nI q)] (wC K g u) (wC K g u) (fb (hdP u q)) := by
  refine CI.of (cc := cX1_hasDeath) (maxL := 2) (ret := (some .boolean)) (by decide +kernel) rfl (Nat.le_of_ble_eq_true rfl) ?_
  intro p e s m below meth c ls hen hP
  obtain ⟨hx, hb, hr, hts, hown, hlk, hml, hnm, hE, hl⟩ := hen
  have S : CallFix p m c cX1_hasDeath 2 s _ wsX1_hasDeath RX1 := ⟨hx, hb, hml, hown, hts⟩
  have hS : va_S (fr L s.heap.size) s.heap s.heap [] := va_S.rf
  have hl : lv_has ls 2 [(0, .ref (g 2)), (1, .int (nI q))] := hl
  have i1 : ∀ w ∈ wsX10, w ∈ wsX1_hasDeath := fun _ h => List.mem_cons_of_mem _ (List.mem_append_right _ h)
  refine lv_aload_n hx hb dX1_hasDeath_0 rfl (lv_at hl 0 rfl) ?_
  refine gw1_deaths S i1 hE hP (hts _ (List.mem_of_getElem? (i := 1) rfl)) dX1_hasDeath_1 ?_
  refine lv_iload_n hx hb dX1_hasDeath_4 rfl (lv_at hl 1 rfl) ?_
  refine lC_d S hE hP (f := c_d u) rfl (j := q) (by omega) rfl dX1_hasDeath_5 ?_
  refine lv_iconst (v := (-1)) hx hb dX1_hasDeath_6 (by decide) ?_
  refine lv_icmp_eq (tgt := 14) hx hb dX1_hasDeath_7 (by decide) (fun c1 => ?_) (fun c1 => ?_)
  · skip
    have no : ¬ hdP u q := fun k => k c1
    refine lv_iconst (v := 0) hx hb dX1_hasDeath_14 (by decide) ?_
    exact ez hx hb hr hlk hS hP rfl (by first | exact f_fb no | exact t_fb yes) rfl (Nat.le_of_ble_eq_true rfl) (Nat.le_of_ble_eq_true rfl) dX1_hasDeath_15
  · skip
    have yes : hdP u q := c1
    refine lv_iconst (v := 1) hx hb dX1_hasDeath_10 (by decide) ?_
    refine lv_goto (tgt := 15) hx hb dX1_hasDeath_11 (by decide) ?_
    exact ez hx hb hr hlk hS hP rfl (by first | exact f_fb no | exact t_fb yes) rfl (Nat.le_of_ble_eq_true rfl) (Nat.le_of_ble_eq_true rfl) dX1_hasDeath_15
def rmX1_empty : Room := { frames := 0, cells := 0, slots := 0, locals := 0 }
theorem hdX1_empty : yX1_empty.cls = RX1 ∧ yX1_empty.cls ≠ "java/lang/invoke/MethodHandle" ∧ yX1_empty.cls ≠ "java/lang/invoke/VarHandle" ∧ (parseMethodDescriptor yX1_empty.desc).map (fun d => d.parameters.length) = some 1 := by decide +kernel
set_option maxHeartbeats 4000000 in
set_option maxRecDepth 100000 in
theorem kX1_empty {l : Launch} {D : va_G} {K : Nat → ClassId} {L : Nat → Prop} {g : Nat → Nat} (hg : gd L g 29) (u : CU) (q : Nat) (hq : q < 32) : CV l yX1_empty wsX1_empty rmX1_empty D K L [.ref (g 2), .int (nI q)] (wC K g u) (wC K g (cem u q)) := by
  refine CV.of (cc := cX1_empty) (maxL := 2) (ret := none) (by decide +kernel) rfl (Nat.le_of_ble_eq_true rfl) ?_
  intro p e s m below meth c ls hen hP
  obtain ⟨hx, hb, hr, hts, hown, hlk, hml, hnm, hE, hl⟩ := hen
  have S : CallFix p m c cX1_empty 2 s _ wsX1_empty RX1 := ⟨hx, hb, hml, hown, hts⟩
  have hS : va_S (fr L s.heap.size) s.heap s.heap [] := va_S.rf
  have hl : lv_has ls 2 [(0, .ref (g 2)), (1, .int (nI q))] := hl
  have i1 : ∀ w ∈ wsX10, w ∈ wsX1_empty := fun _ h => List.mem_cons_of_mem _ (List.mem_append_right _ h)
  refine lv_aload_n hx hb dX1_empty_0 rfl (lv_at hl 0 rfl) ?_
  refine gw1_keys S i1 hE hP (hts _ (List.mem_of_getElem? (i := 1) rfl)) dX1_empty_1 ?_
  refine lv_iload_n hx hb dX1_empty_4 rfl (lv_at hl 1 rfl) ?_
  refine lv_iconst (v := (-1)) hx hb dX1_empty_5 (by decide) ?_
  refine sC_k S hE hP hg hS (j := q) (by omega) rfl dX1_empty_6 (fun H locs hP hS => ?_)
  have hP : va_P D vwCl (wC K g (s_k u (upd (c_k u) q (-1)))) H := hP
  refine lv_aload_n hx hb dX1_empty_7 rfl (lv_at hl 0 rfl) ?_
  refine gw1_births S i1 hE hP (hts _ (List.mem_of_getElem? (i := 2) rfl)) dX1_empty_8 ?_
  refine lv_iload_n hx hb dX1_empty_11 rfl (lv_at hl 1 rfl) ?_
  refine lv_iconst (v := (-1)) hx hb dX1_empty_12 (by decide) ?_
  refine sC_b S hE hP hg hS (j := q) (by omega) rfl dX1_empty_13 (fun H locs hP hS => ?_)
  have hP : va_P D vwCl (wC K g (s_b (s_k u (upd (c_k u) q (-1))) (upd (c_b u) q (-1)))) H := hP
  refine lv_aload_n hx hb dX1_empty_14 rfl (lv_at hl 0 rfl) ?_
  refine gw1_frozen S i1 hE hP (hts _ (List.mem_of_getElem? (i := 3) rfl)) dX1_empty_15 ?_
  refine lv_iload_n hx hb dX1_empty_18 rfl (lv_at hl 1 rfl) ?_
  refine lv_iconst (v := 0) hx hb dX1_empty_19 (by decide) ?_
  refine sC_f S hE hP rfl hg hS (j := q) (by omega) rfl dX1_empty_20 (fun H locs hP hS => ?_)
  have hP : va_P D vwCl (wC K g (s_f (s_b (s_k u (upd (c_k u) q (-1))) (upd (c_b u) q (-1))) (upd (c_f u) q 0))) H := hP
  refine lv_aload_n hx hb dX1_empty_21 rfl (lv_at hl 0 rfl) ?_
  refine gw1_deaths S i1 hE hP (hts _ (List.mem_of_getElem? (i := 4) rfl)) dX1_empty_22 ?_
  refine lv_iload_n hx hb dX1_empty_25 rfl (lv_at hl 1 rfl) ?_
  refine lv_iconst (v := (-1)) hx hb dX1_empty_26 (by decide) ?_
  refine sC_d S hE hP hg hS (j := q) (by omega) rfl dX1_empty_27 (fun H locs hP hS => ?_)
  have hP : va_P D vwCl (wC K g (s_d (s_f (s_b (s_k u (upd (c_k u) q (-1))) (upd (c_b u) q (-1))) (upd (c_f u) q 0)) (upd (c_d u) q (-1)))) H := hP
  refine lv_aload_n hx hb dX1_empty_28 rfl (lv_at hl 0 rfl) ?_
  refine gw1_nexts S i1 hE hP (hts _ (List.mem_of_getElem? (i := 5) rfl)) dX1_empty_29 ?_
  refine lv_iload_n hx hb dX1_empty_32 rfl (lv_at hl 1 rfl) ?_
  refine lv_iconst (v := (-1)) hx hb dX1_empty_33 (by decide) ?_
  refine sC_n S hE hP hg hS (j := q) (by omega) rfl dX1_empty_34 (fun H locs hP hS => ?_)
  have hP : va_P D vwCl (wC K g (s_n (s_d (s_f (s_b (s_k u (upd (c_k u) q (-1))) (upd (c_b u) q (-1))) (upd (c_f u) q 0)) (upd (c_d u) q (-1))) (upd (c_n u) q (-1)))) H := hP
  refine lv_aload_n hx hb dX1_empty_35 rfl (lv_at hl 0 rfl) ?_
  refine gw1_rows S i1 hE hP (hts _ (List.mem_of_getElem? (i := 6) rfl)) dX1_empty_36 ?_
  refine lv_iload_n hx hb dX1_empty_39 rfl (lv_at hl 1 rfl) ?_
  refine lv_iconst (v := (-1)) hx hb dX1_empty_40 (by decide) ?_
  refine sC_r S hE hP hg hS (j := q) (by omega) rfl dX1_empty_41 (fun H locs hP hS => ?_)
  have hP : va_P D vwCl (wC K g (s_r (s_n (s_d (s_f (s_b (s_k u (upd (c_k u) q (-1))) (upd (c_b u) q (-1))) (upd (c_f u) q 0)) (upd (c_d u) q (-1))) (upd (c_n u) q (-1))) (upd (c_r u) q (-1)))) H := hP
  exact e0 hx hb hr hlk hS hP rfl (Nat.le_of_ble_eq_true rfl) (Nat.le_of_ble_eq_true rfl) dX1_empty_42
def rmX1_lowestFree : Room := { frames := 1, cells := 0, slots := 0, locals := 21 }
theorem hdX1_lowestFree : yX1_lowestFree.cls = RX1 ∧ yX1_lowestFree.cls ≠ "java/lang/invoke/MethodHandle" ∧ yX1_lowestFree.cls ≠ "java/lang/invoke/VarHandle" ∧ (parseMethodDescriptor yX1_lowestFree.desc).map (fun d => d.parameters.length) = some 2 := by decide +kernel
set_option maxHeartbeats 4000000 in
set_option maxRecDepth 100000 in
theorem kX1_lowestFree {l : Launch} {D : va_G} {K : Nat → ClassId} {L : Nat → Prop} {g : Nat → Nat} (hg : gd L g 29) (u : CU) (a n : Nat) (han : a + n ≤ 32) : CI l yX1_lowestFree wsX1_lowestFree rmX1_lowestFree D K L [.ref (g 2), .int (nI a), .int (nI n)] (wC K g u) (wC K g u) (lf (c_k u) a n) := by
  refine CI.of (cc := cX1_lowestFree) (maxL := 4) (ret := (some .int)) (by decide +kernel) rfl (Nat.le_of_ble_eq_true rfl) ?_
  intro p e s m below meth c ls hen hP
  obtain ⟨hx, hb, hr, hts, hown, hlk, hml, hnm, hE, hl⟩ := hen
  have S : CallFix p m c cX1_lowestFree 4 s _ wsX1_lowestFree RX1 := ⟨hx, hb, hml, hown, hts⟩
  have hS : va_S (fr L s.heap.size) s.heap s.heap [] := va_S.rf
  have hl : lv_has ls 4 [(0, .ref (g 2)), (1, .int (nI a)), (2, .int (nI n))] := hl
  have i1 : ∀ w ∈ wsX10, w ∈ wsX1_lowestFree := fun _ h => List.mem_cons_of_mem _ (List.mem_append_right _ h)
  refine lv_iload_n hx hb dX1_lowestFree_0 rfl (lv_at hl 1 rfl) ?_
  refine lv_istore_n (lv' := [(3, .int (nI a)), (0, .ref (g 2)), (1, .int (nI a)), (2, .int (nI n))]) hx hb dX1_lowestFree_1 rfl hl (by decide) rfl (fun ls hl => ?_)
  have loop2 : ∀ (n2 : Nat) (i : Nat), (hi1 : a ≤ i) → (hi2 : i ≤ a + n) → (hr0 : lf (c_k u) a n = lf (c_k u) i (a + n - i)) → a + n - i < n2 → ∀ (H : Heap) (locs : List Loc), va_P D vwCl (wC K g u) H → va_S (fr L s.heap.size) s.heap H locs → ∀ (ls : Array Slot), lv_has ls 4 [(3, .int (nI i)), (0, .ref (g 2)), (1, .int (nI a)), (2, .int (nI n))] → W p l e rmX1_lowestFree s m ([.ref (g 2), .int (nI a), .int (nI n)] : List Value).toArray below meth c H locs 0 0 (MQ below (va_Qi (fun (r9 : Int32) (_ : Unit) => r9 = lf (c_k u) a n) (fun _ t => va_P D vwCl (wC K g u) t.heap) (fr L s.heap.size)) ([.ref (g 2), .int (nI a), .int (nI n)] : List Value).toArray s rmX1_lowestFree.cells rmX1_lowestFree.slots (fr L s.heap.size)) (F0 m 2 ls []) := by
    intro n2
    induction n2 with
    | zero =>
      intro i hi1 hi2 hr0 hn2
      exact absurd hn2 (Nat.not_lt_zero _)
    | succ n2 ih2 =>
      intro i hi1 hi2 hr0 hn2 H locs hP hS ls hl
      refine lv_iload_n hx hb dX1_lowestFree_2 rfl (lv_at hl 0 rfl) ?_
      refine lv_iload_n hx hb dX1_lowestFree_3 rfl (lv_at hl 2 rfl) ?_
      refine lv_iload_n hx hb dX1_lowestFree_4 rfl (lv_at hl 3 rfl) ?_
      refine lv_iadd hx hb dX1_lowestFree_5 ?_
      refine tpi (y := nI (a + n)) (nI_add a n) ?_
      refine lv_icmp_ge (tgt := 25) hx hb dX1_lowestFree_6 (by decide) (fun c1 => ?_) (fun c1 => ?_)
      · skip
        have e : i = a + n := by have := nge_i (by omega) (by omega) c1; omega
        refine lv_iconst (v := (-1)) hx hb dX1_lowestFree_25 (by decide) ?_
        exact ei hx hb hr hlk hS hP rfl (by rw [hr0, show a + n - i = 0 by omega]; rfl) (Nat.le_of_ble_eq_true rfl) (Nat.le_of_ble_eq_true rfl) dX1_lowestFree_26
      · skip
        have hlt : i < a + n := nlt_i (by omega) (by omega) c1
        refine lv_aload_n hx hb dX1_lowestFree_9 rfl (lv_at hl 1 rfl) ?_
        refine lv_iload_n hx hb dX1_lowestFree_10 rfl (lv_at hl 0 rfl) ?_
        refine kiV (As := [.int (nI i)]) (rest := []) S (kX1_isUsed hg u i (by omega)) (cwV 1 hts gX1_lowestFree_X1_isUsed rfl rfl rfl hdX1_isUsed ⟨Nat.le_of_ble_eq_true rfl, Nat.le_of_ble_eq_true rfl⟩) rfl rfl 2 rfl rfl hE hP hS (frs hS) rfl hl.1 rfl (Nat.le_of_ble_eq_true rfl) dX1_lowestFree_11 ⟨Nat.le_of_ble_eq_true rfl, Nat.le_of_ble_eq_true rfl⟩ (fun H locs hP _ _ hS => ?_)
        refine bzne (tgt := 19) hx hb dX1_lowestFree_14 (by decide) (fun c2 => ?_) (fun c2 => ?_)
        · skip
          refine lv_iinc (v := nI (i + 1)) (lv' := [(3, .int (nI (i + 1))), (0, .ref (g 2)), (1, .int (nI a)), (2, .int (nI n))]) hx hb dX1_lowestFree_19 hl (k := 0) rfl (nI_1 i) (by decide) rfl (fun ls hl => ?_)
          refine lv_goto (tgt := 2) hx hb dX1_lowestFree_22 (by decide) ?_
          exact ih2 (i + 1) (by omega) (by omega) (by rw [hr0, show a + n - i = (a + n - (i + 1)) + 1 by omega, lf]; exact if_neg c2) (by omega) _ _ hP hS ls (lv_sub hl [0, 1, 2, 3] rfl)
        · skip
          refine lv_iload_n hx hb dX1_lowestFree_17 rfl (lv_at hl 0 rfl) ?_
          exact ei hx hb hr hlk hS hP rfl (by rw [hr0, show a + n - i = (a + n - (i + 1)) + 1 by omega, lf]; exact (if_pos (Classical.byContradiction c2)).symm) (Nat.le_of_ble_eq_true rfl) (Nat.le_of_ble_eq_true rfl) dX1_lowestFree_18
  exact loop2 _ a (by omega) (by omega) (by rw [show a + n - a = n by omega]) (Nat.lt_succ_self _) _ _ hP hS ls (lv_sub hl [0, 1, 2, 3] rfl)
def rmX1_takeOffDeaths : Room := { frames := 0, cells := 0, slots := 0, locals := 0 }
theorem hdX1_takeOffDeaths : yX1_takeOffDeaths.cls = RX1 ∧ yX1_takeOffDeaths.cls ≠ "java/lang/invoke/MethodHandle" ∧ yX1_takeOffDeaths.cls ≠ "java/lang/invoke/VarHandle" ∧ (parseMethodDescriptor yX1_takeOffDeaths.desc).map (fun d => d.parameters.length) = some 1 := by decide +kernel
set_option maxHeartbeats 4000000 in
set_option maxRecDepth 100000 in
theorem kX1_takeOffDeaths {l : Launch} {D : va_G} {K : Nat → ClassId} {L : Nat → Prop} {g : Nat → Nat} (hg : gd L g 29) (u : CU) (x : Int32) : CV l yX1_takeOffDeaths wsX1_takeOffDeaths rmX1_takeOffDeaths D K L [.ref (g 2), .int x] (wC K g u) (wC K g (s_d u (rpl (c_d u) x (-1) 32))) := by
  refine CV.of (cc := cX1_takeOffDeaths) (maxL := 3) (ret := none) (by decide +kernel) rfl (Nat.le_of_ble_eq_true rfl) ?_
  intro p e s m below meth c ls hen hP
  obtain ⟨hx, hb, hr, hts, hown, hlk, hml, hnm, hE, hl⟩ := hen
  have S : CallFix p m c cX1_takeOffDeaths 3 s _ wsX1_takeOffDeaths RX1 := ⟨hx, hb, hml, hown, hts⟩
  have hS : va_S (fr L s.heap.size) s.heap s.heap [] := va_S.rf
  have hl : lv_has ls 3 [(0, .ref (g 2)), (1, .int x)] := hl
  have i1 : ∀ w ∈ wsX10, w ∈ wsX1_takeOffDeaths := fun _ h => List.mem_cons_of_mem _ (List.mem_append_right _ h)
  refine lv_iconst (v := 0) hx hb dX1_takeOffDeaths_0 (by decide) ?_
  refine lv_istore_n (lv' := [(2, .int 0), (0, .ref (g 2)), (1, .int x)]) hx hb dX1_takeOffDeaths_1 rfl hl (by decide) rfl (fun ls hl => ?_)
  have loop2 : ∀ (n2 : Nat) (i : Nat) (f : AI), (hi : i ≤ 32) → (hf : f = rpl (c_d u) x (-1) i) → 32 - i < n2 → ∀ (H : Heap) (locs : List Loc), va_P D vwCl (wC K g (s_d u f)) H → va_S (fr L s.heap.size) s.heap H locs → ∀ (ls : Array Slot), lv_has ls 3 [(2, .int (nI i)), (0, .ref (g 2)), (1, .int x)] → W p l e rmX1_takeOffDeaths s m ([.ref (g 2), .int x] : List Value).toArray below meth c H locs 0 0 (MQ below (va_Qv (fun (_ : Unit) => True) (fun _ t => va_P D vwCl (wC K g (s_d u (rpl (c_d u) x (-1) 32))) t.heap) (fr L s.heap.size)) ([.ref (g 2), .int x] : List Value).toArray s rmX1_takeOffDeaths.cells rmX1_takeOffDeaths.slots (fr L s.heap.size)) (F0 m 2 ls []) := by
    intro n2
    induction n2 with
    | zero =>
      intro i f hi hf hn2
      exact absurd hn2 (Nat.not_lt_zero _)
    | succ n2 ih2 =>
      intro i f hi hf hn2 H locs hP hS ls hl
      refine lv_iload_n hx hb dX1_takeOffDeaths_2 rfl (lv_at hl 0 rfl) ?_
      refine lv_bipush (v := 32) hx hb dX1_takeOffDeaths_3 (by decide) ?_
      refine lv_icmp_ge (tgt := 31) hx hb dX1_takeOffDeaths_5 (by decide) (fun c1 => ?_) (fun c1 => ?_)
      · skip
        have e : i = 32 := by have := nge_i (a := i) (b := 32) (by omega) (by omega) c1; omega
        exact e0 hx hb hr hlk hS hP (by rw [hf, e]) (Nat.le_of_ble_eq_true rfl) (Nat.le_of_ble_eq_true rfl) dX1_takeOffDeaths_31
      · skip
        have hlt : i < 32 := nlt_i (a := i) (b := 32) (by omega) (by omega) c1
        refine lv_aload_n hx hb dX1_takeOffDeaths_8 rfl (lv_at hl 1 rfl) ?_
        refine gw1_deaths S i1 hE hP (hts _ (List.mem_of_getElem? (i := 1) rfl)) dX1_takeOffDeaths_9 ?_
        refine lv_iload_n hx hb dX1_takeOffDeaths_12 rfl (lv_at hl 0 rfl) ?_
        refine lC_d S hE hP (f := f) rfl (j := i) (by omega) rfl dX1_takeOffDeaths_13 ?_
        refine lv_iload_n hx hb dX1_takeOffDeaths_14 rfl (lv_at hl 2 rfl) ?_
        refine lv_icmp_ne (tgt := 25) hx hb dX1_takeOffDeaths_15 (by decide) (fun c2 => ?_) (fun c2 => ?_)
        · skip
          refine lv_iinc (v := nI (i + 1)) (lv' := [(2, .int (nI (i + 1))), (0, .ref (g 2)), (1, .int x)]) hx hb dX1_takeOffDeaths_25 hl (k := 0) rfl (nI_1 i) (by decide) rfl (fun ls hl => ?_)
          refine lv_goto (tgt := 2) hx hb dX1_takeOffDeaths_28 (by decide) ?_
          exact ih2 (i + 1) f (by omega) (by first | (rw [hf]; rw [hf] at c2; exact rpl_y c2) | (rw [hf]; rw [hf] at c2; exact rpl_n c2)) (by omega) _ _ hP hS ls (lv_sub hl [0, 1, 2] rfl)
        · skip
          refine lv_aload_n hx hb dX1_takeOffDeaths_18 rfl (lv_at hl 1 rfl) ?_
          refine gw1_deaths S i1 hE hP (hts _ (List.mem_of_getElem? (i := 1) rfl)) dX1_takeOffDeaths_19 ?_
          refine lv_iload_n hx hb dX1_takeOffDeaths_22 rfl (lv_at hl 0 rfl) ?_
          refine lv_iconst (v := (-1)) hx hb dX1_takeOffDeaths_23 (by decide) ?_
          refine sC_d S hE hP hg hS (j := i) (by omega) rfl dX1_takeOffDeaths_24 (fun H locs hP hS => ?_)
          have hP : va_P D vwCl (wC K g (s_d (s_d u f) (upd f i (-1)))) H := hP
          refine lv_iinc (v := nI (i + 1)) (lv' := [(2, .int (nI (i + 1))), (0, .ref (g 2)), (1, .int x)]) hx hb dX1_takeOffDeaths_25 hl (k := 0) rfl (nI_1 i) (by decide) rfl (fun ls hl => ?_)
          refine lv_goto (tgt := 2) hx hb dX1_takeOffDeaths_28 (by decide) ?_
          exact ih2 (i + 1) (upd f i (-1)) (by omega) (by first | (rw [hf]; rw [hf] at c2; exact rpl_y c2) | (rw [hf]; rw [hf] at c2; exact rpl_n c2)) (by omega) _ _ hP hS ls (lv_sub hl [0, 1, 2] rfl)
  exact loop2 _ 0 (c_d u) (by omega) rpl_0.symm (Nat.lt_succ_self _) _ _ hP hS ls (lv_sub hl [0, 1, 2] rfl)
def rmX1_bypass : Room := { frames := 0, cells := 0, slots := 0, locals := 0 }
theorem hdX1_bypass : yX1_bypass.cls = RX1 ∧ yX1_bypass.cls ≠ "java/lang/invoke/MethodHandle" ∧ yX1_bypass.cls ≠ "java/lang/invoke/VarHandle" ∧ (parseMethodDescriptor yX1_bypass.desc).map (fun d => d.parameters.length) = some 2 := by decide +kernel
set_option maxHeartbeats 4000000 in
set_option maxRecDepth 100000 in
theorem kX1_bypass {l : Launch} {D : va_G} {K : Nat → ClassId} {L : Nat → Prop} {g : Nat → Nat} (hg : gd L g 29) (u : CU) (x y : Int32) : CV l yX1_bypass wsX1_bypass rmX1_bypass D K L [.ref (g 2), .int x, .int y] (wC K g u) (wC K g (s_n u (rpl (c_n u) x y 32))) := by
  refine CV.of (cc := cX1_bypass) (maxL := 4) (ret := none) (by decide +kernel) rfl (Nat.le_of_ble_eq_true rfl) ?_
  intro p e s m below meth c ls hen hP
  obtain ⟨hx, hb, hr, hts, hown, hlk, hml, hnm, hE, hl⟩ := hen
  have S : CallFix p m c cX1_bypass 4 s _ wsX1_bypass RX1 := ⟨hx, hb, hml, hown, hts⟩
  have hS : va_S (fr L s.heap.size) s.heap s.heap [] := va_S.rf
  have hl : lv_has ls 4 [(0, .ref (g 2)), (1, .int x), (2, .int y)] := hl
  have i1 : ∀ w ∈ wsX10, w ∈ wsX1_bypass := fun _ h => List.mem_cons_of_mem _ (List.mem_append_right _ h)
  refine lv_iconst (v := 0) hx hb dX1_bypass_0 (by decide) ?_
  refine lv_istore_n (lv' := [(3, .int 0), (0, .ref (g 2)), (1, .int x), (2, .int y)]) hx hb dX1_bypass_1 rfl hl (by decide) rfl (fun ls hl => ?_)
  have loop2 : ∀ (n2 : Nat) (i : Nat) (f : AI), (hi : i ≤ 32) → (hf : f = rpl (c_n u) x y i) → 32 - i < n2 → ∀ (H : Heap) (locs : List Loc), va_P D vwCl (wC K g (s_n u f)) H → va_S (fr L s.heap.size) s.heap H locs → ∀ (ls : Array Slot), lv_has ls 4 [(3, .int (nI i)), (0, .ref (g 2)), (1, .int x), (2, .int y)] → W p l e rmX1_bypass s m ([.ref (g 2), .int x, .int y] : List Value).toArray below meth c H locs 0 0 (MQ below (va_Qv (fun (_ : Unit) => True) (fun _ t => va_P D vwCl (wC K g (s_n u (rpl (c_n u) x y 32))) t.heap) (fr L s.heap.size)) ([.ref (g 2), .int x, .int y] : List Value).toArray s rmX1_bypass.cells rmX1_bypass.slots (fr L s.heap.size)) (F0 m 2 ls []) := by
    intro n2
    induction n2 with
    | zero =>
      intro i f hi hf hn2
      exact absurd hn2 (Nat.not_lt_zero _)
    | succ n2 ih2 =>
      intro i f hi hf hn2 H locs hP hS ls hl
      refine lv_iload_n hx hb dX1_bypass_2 rfl (lv_at hl 0 rfl) ?_
      refine lv_bipush (v := 32) hx hb dX1_bypass_3 (by decide) ?_
      refine lv_icmp_ge (tgt := 31) hx hb dX1_bypass_5 (by decide) (fun c1 => ?_) (fun c1 => ?_)
      · skip
        have e : i = 32 := by have := nge_i (a := i) (b := 32) (by omega) (by omega) c1; omega
        exact e0 hx hb hr hlk hS hP (by rw [hf, e]) (Nat.le_of_ble_eq_true rfl) (Nat.le_of_ble_eq_true rfl) dX1_bypass_31
      · skip
        have hlt : i < 32 := nlt_i (a := i) (b := 32) (by omega) (by omega) c1
        refine lv_aload_n hx hb dX1_bypass_8 rfl (lv_at hl 1 rfl) ?_
        refine gw1_nexts S i1 hE hP (hts _ (List.mem_of_getElem? (i := 1) rfl)) dX1_bypass_9 ?_
        refine lv_iload_n hx hb dX1_bypass_12 rfl (lv_at hl 0 rfl) ?_
        refine lC_n S hE hP (f := f) rfl (j := i) (by omega) rfl dX1_bypass_13 ?_
        refine lv_iload_n hx hb dX1_bypass_14 rfl (lv_at hl 2 rfl) ?_
        refine lv_icmp_ne (tgt := 25) hx hb dX1_bypass_15 (by decide) (fun c2 => ?_) (fun c2 => ?_)
        · skip
          refine lv_iinc (v := nI (i + 1)) (lv' := [(3, .int (nI (i + 1))), (0, .ref (g 2)), (1, .int x), (2, .int y)]) hx hb dX1_bypass_25 hl (k := 0) rfl (nI_1 i) (by decide) rfl (fun ls hl => ?_)
          refine lv_goto (tgt := 2) hx hb dX1_bypass_28 (by decide) ?_
          exact ih2 (i + 1) f (by omega) (by first | (rw [hf]; rw [hf] at c2; exact rpl_y c2) | (rw [hf]; rw [hf] at c2; exact rpl_n c2)) (by omega) _ _ hP hS ls (lv_sub hl [0, 1, 2, 3] rfl)
        · skip
          refine lv_aload_n hx hb dX1_bypass_18 rfl (lv_at hl 1 rfl) ?_
          refine gw1_nexts S i1 hE hP (hts _ (List.mem_of_getElem? (i := 1) rfl)) dX1_bypass_19 ?_
          refine lv_iload_n hx hb dX1_bypass_22 rfl (lv_at hl 0 rfl) ?_
          refine lv_iload_n hx hb dX1_bypass_23 rfl (lv_at hl 3 rfl) ?_
          refine sC_n S hE hP hg hS (j := i) (by omega) rfl dX1_bypass_24 (fun H locs hP hS => ?_)
          have hP : va_P D vwCl (wC K g (s_n (s_n u f) (upd f i y))) H := hP
          refine lv_iinc (v := nI (i + 1)) (lv' := [(3, .int (nI (i + 1))), (0, .ref (g 2)), (1, .int x), (2, .int y)]) hx hb dX1_bypass_25 hl (k := 0) rfl (nI_1 i) (by decide) rfl (fun ls hl => ?_)
          refine lv_goto (tgt := 2) hx hb dX1_bypass_28 (by decide) ?_
          exact ih2 (i + 1) (upd f i y) (by omega) (by first | (rw [hf]; rw [hf] at c2; exact rpl_y c2) | (rw [hf]; rw [hf] at c2; exact rpl_n c2)) (by omega) _ _ hP hS ls (lv_sub hl [0, 1, 2, 3] rfl)
  exact loop2 _ 0 (c_n u) (by omega) rpl_0.symm (Nat.lt_succ_self _) _ _ hP hS ls (lv_sub hl [0, 1, 2, 3] rfl)
def rmX0_add : Room := { frames := 0, cells := 0, slots := 0, locals := 0 }
theorem hdX0_add : yX0_add.cls = RX0 ∧ yX0_add.cls ≠ "java/lang/invoke/MethodHandle" ∧ yX0_add.cls ≠ "java/lang/invoke/VarHandle" ∧ (parseMethodDescriptor yX0_add.desc).map (fun d => d.parameters.length) = some 2 := by decide +kernel
set_option maxHeartbeats 4000000 in
set_option maxRecDepth 100000 in
theorem kX0_add {l : Launch} {D : va_G} {K : Nat → ClassId} {L : Nat → Prop} {g : Nat → Nat} (hg : gd L g 29) (u : CU) (q n : Nat) (x : Int32) (hq : q < 6) (hn : n < 32) (hct : c_ct u q = nI n) : CV l yX0_add wsX0_add rmX0_add D K L [.ref (g 3), .int (nI q), .int x] (wC K g u) (wC K g (cia u q n x)) := by
  refine CV.of (cc := cX0_add) (maxL := 3) (ret := none) (by decide +kernel) rfl (Nat.le_of_ble_eq_true rfl) ?_
  intro p e s m below meth c ls hen hP
  obtain ⟨hx, hb, hr, hts, hown, hlk, hml, hnm, hE, hl⟩ := hen
  have S : CallFix p m c cX0_add 3 s _ wsX0_add RX0 := ⟨hx, hb, hml, hown, hts⟩
  have hS : va_S (fr L s.heap.size) s.heap s.heap [] := va_S.rf
  have hl : lv_has ls 3 [(0, .ref (g 3)), (1, .int (nI q)), (2, .int x)] := hl
  have i0 : ∀ w ∈ wsX00, w ∈ wsX0_add := fun _ h => List.mem_cons_of_mem _ (List.mem_append_right _ h)
  refine lv_aload_n hx hb dX0_add_0 rfl (lv_at hl 0 rfl) ?_
  refine gw0_counts S i0 hE hP (hts _ (List.mem_of_getElem? (i := 1) rfl)) dX0_add_1 ?_
  refine lv_iload_n hx hb dX0_add_4 rfl (lv_at hl 1 rfl) ?_
  refine lC_ct S hE hP (f := c_ct u) rfl (j := q) (by omega) rfl dX0_add_5 ?_
  refine tpi (y := nI n) hct ?_
  refine lv_bipush (v := 32) hx hb dX0_add_6 (by decide) ?_
  refine lv_icmp_ge (tgt := 35) hx hb dX0_add_8 (by decide) (fun c1 => ?_) (fun c1 => ?_)
  · skip
    exact absurd (nge_i (a := n) (b := 32) (by omega) (by omega) c1) (by omega)
  · skip
    refine lv_aload_n hx hb dX0_add_11 rfl (lv_at hl 0 rfl) ?_
    refine gw0_places S i0 hE hP (hts _ (List.mem_of_getElem? (i := 2) rfl)) dX0_add_12 ?_
    refine lv_iload_n hx hb dX0_add_15 rfl (lv_at hl 1 rfl) ?_
    refine lC_places S hE hP (j := q) (by omega) rfl dX0_add_16 ?_
    refine lv_aload_n hx hb dX0_add_17 rfl (lv_at hl 0 rfl) ?_
    refine gw0_counts S i0 hE hP (hts _ (List.mem_of_getElem? (i := 1) rfl)) dX0_add_18 ?_
    refine lv_iload_n hx hb dX0_add_21 rfl (lv_at hl 1 rfl) ?_
    refine lC_ct S hE hP (f := c_ct u) rfl (j := q) (by omega) rfl dX0_add_22 ?_
    refine tpi (y := nI n) hct ?_
    refine lv_iload_n hx hb dX0_add_23 rfl (lv_at hl 2 rfl) ?_
    refine sC_pl S hE hP (k := q) hg hS (by omega) (j := n) (by omega) rfl dX0_add_24 (fun H locs hP hS => ?_)
    have hP : va_P D vwCl (wC K g (s_pl u (va_up (c_pl u) q (upd (c_pl u q) n x)))) H := hP
    refine lv_aload_n hx hb dX0_add_25 rfl (lv_at hl 0 rfl) ?_
    refine gw0_counts S i0 hE hP (hts _ (List.mem_of_getElem? (i := 1) rfl)) dX0_add_26 ?_
    refine lv_iload_n hx hb dX0_add_29 rfl (lv_at hl 1 rfl) ?_
    refine lv_dup2_11 hx hb dX0_add_30 rfl rfl ?_
    refine lC_ct S hE hP (f := c_ct u) rfl (j := q) (by omega) rfl dX0_add_31 ?_
    refine tpi (y := nI n) hct ?_
    refine lv_iconst (v := 1) hx hb dX0_add_32 (by decide) ?_
    refine lv_iadd hx hb dX0_add_33 ?_
    refine tpi (y := nI (n + 1)) (nI_1 n) ?_
    refine sC_ct S hE hP hg hS (j := q) (by omega) rfl dX0_add_34 (fun H locs hP hS => ?_)
    have hP : va_P D vwCl (wC K g (s_ct (s_pl u (va_up (c_pl u) q (upd (c_pl u q) n x))) (upd (c_ct u) q (nI (n + 1))))) H := hP
    exact e0 hx hb hr hlk hS hP rfl (Nat.le_of_ble_eq_true rfl) (Nat.le_of_ble_eq_true rfl) dX0_add_35
def rmX0_move : Room := { frames := 0, cells := 0, slots := 0, locals := 0 }
theorem hdX0_move : yX0_move.cls = RX0 ∧ yX0_move.cls ≠ "java/lang/invoke/MethodHandle" ∧ yX0_move.cls ≠ "java/lang/invoke/VarHandle" ∧ (parseMethodDescriptor yX0_move.desc).map (fun d => d.parameters.length) = some 3 := by decide +kernel
set_option maxHeartbeats 4000000 in
set_option maxRecDepth 100000 in
theorem kX0_move {l : Launch} {D : va_G} {K : Nat → ClassId} {L : Nat → Prop} {g : Nat → Nat} (hg : gd L g 29) (u : CU) (q n : Nat) (x y : Int32) (hq : q < 6) (hn : n ≤ 32) (hct : c_ct u q = nI n) : CV l yX0_move wsX0_move rmX0_move D K L [.ref (g 3), .int (nI q), .int x, .int y] (wC K g u) (wC K g (cim u q n x y)) := by
  refine CV.of (cc := cX0_move) (maxL := 7) (ret := none) (by decide +kernel) rfl (Nat.le_of_ble_eq_true rfl) ?_
  intro p e s m below meth c ls hen hP
  obtain ⟨hx, hb, hr, hts, hown, hlk, hml, hnm, hE, hl⟩ := hen
  have S : CallFix p m c cX0_move 7 s _ wsX0_move RX0 := ⟨hx, hb, hml, hown, hts⟩
  have hS : va_S (fr L s.heap.size) s.heap s.heap [] := va_S.rf
  have hl : lv_has ls 7 [(0, .ref (g 3)), (1, .int (nI q)), (2, .int x), (3, .int y)] := hl
  have i0 : ∀ w ∈ wsX00, w ∈ wsX0_move := fun _ h => List.mem_cons_of_mem _ (List.mem_append_right _ h)
  refine lv_iconst (v := 0) hx hb dX0_move_0 (by decide) ?_
  refine lv_istore (lv' := [(4, .int 0), (0, .ref (g 3)), (1, .int (nI q)), (2, .int x), (3, .int y)]) hx hb dX0_move_1 hl (by decide) rfl (fun ls hl => ?_)
  refine lv_iconst (v := 0) hx hb dX0_move_3 (by decide) ?_
  refine lv_istore (lv' := [(5, .int 0), (4, .int 0), (0, .ref (g 3)), (1, .int (nI q)), (2, .int x), (3, .int y)]) hx hb dX0_move_4 hl (by decide) rfl (fun ls hl => ?_)
  have loop6 : ∀ (n6 : Nat) (i : Nat) (f : AI) (k : Nat), (hi : i ≤ n) → (hk : k ≤ i) → (hm : mv (c_pl u q) x y i = (f, k)) → n - i < n6 → ∀ (H : Heap) (locs : List Loc), va_P D vwCl (wC K g (s_pl u (va_up (c_pl u) q f))) H → va_S (fr L s.heap.size) s.heap H locs → ∀ (ls : Array Slot), lv_has ls 7 [(5, .int (nI i)), (4, .int (nI k)), (0, .ref (g 3)), (1, .int (nI q)), (2, .int x), (3, .int y)] → W p l e rmX0_move s m ([.ref (g 3), .int (nI q), .int x, .int y] : List Value).toArray below meth c H locs 0 0 (MQ below (va_Qv (fun (_ : Unit) => True) (fun _ t => va_P D vwCl (wC K g (cim u q n x y)) t.heap) (fr L s.heap.size)) ([.ref (g 3), .int (nI q), .int x, .int y] : List Value).toArray s rmX0_move.cells rmX0_move.slots (fr L s.heap.size)) (F0 m 6 ls []) := by
    intro n6
    induction n6 with
    | zero =>
      intro i f k hi hk hm hn6
      exact absurd hn6 (Nat.not_lt_zero _)
    | succ n6 ih6 =>
      intro i f k hi hk hm hn6 H locs hP hS ls hl
      refine lv_iload hx hb dX0_move_6 (lv_at hl 0 rfl) ?_
      refine lv_aload_n hx hb dX0_move_8 rfl (lv_at hl 2 rfl) ?_
      refine gw0_counts S i0 hE hP (hts _ (List.mem_of_getElem? (i := 1) rfl)) dX0_move_9 ?_
      refine lv_iload_n hx hb dX0_move_12 rfl (lv_at hl 3 rfl) ?_
      refine lC_ct S hE hP (f := c_ct u) rfl (j := q) (by omega) rfl dX0_move_13 ?_
      refine tpi (y := nI n) hct ?_
      refine lv_icmp_ge (tgt := 71) hx hb dX0_move_14 (by decide) (fun c1 => ?_) (fun c1 => ?_)
      · skip
        have e : i = n := by have := nge_i (by omega) (by omega) c1; omega
        refine lv_aload_n hx hb dX0_move_71 rfl (lv_at hl 2 rfl) ?_
        refine gw0_counts S i0 hE hP (hts _ (List.mem_of_getElem? (i := 1) rfl)) dX0_move_72 ?_
        refine lv_iload_n hx hb dX0_move_75 rfl (lv_at hl 3 rfl) ?_
        refine lv_iload hx hb dX0_move_76 (lv_at hl 1 rfl) ?_
        refine sC_ct S hE hP hg hS (j := q) (by omega) rfl dX0_move_78 (fun H locs hP hS => ?_)
        have hP : va_P D vwCl (wC K g (s_ct (s_pl u (va_up (c_pl u) q f)) (upd (c_ct u) q (nI k)))) H := hP
        exact e0 hx hb hr hlk hS hP (by subst e; unfold cim; rw [hm]) (Nat.le_of_ble_eq_true rfl) (Nat.le_of_ble_eq_true rfl) dX0_move_79
      · skip
        have hlt : i < n := nlt_i (by omega) (by omega) c1
        refine lv_aload_n hx hb dX0_move_17 rfl (lv_at hl 2 rfl) ?_
        refine gw0_places S i0 hE hP (hts _ (List.mem_of_getElem? (i := 2) rfl)) dX0_move_18 ?_
        refine lv_iload_n hx hb dX0_move_21 rfl (lv_at hl 3 rfl) ?_
        refine lC_places S hE hP (j := q) (by omega) rfl dX0_move_22 ?_
        refine lv_iload hx hb dX0_move_23 (lv_at hl 0 rfl) ?_
        refine lC_pl S hE hP (k := q) (f := f) (by omega) (va_up_self _ _ _) (j := i) (by omega) rfl dX0_move_25 ?_
        refine lv_iload_n hx hb dX0_move_26 rfl (lv_at hl 4 rfl) ?_
        refine lv_icmp_ne (tgt := 34) hx hb dX0_move_27 (by decide) (fun c2 => ?_) (fun c2 => ?_)
        · skip
          have hv : f i = mvv x y (f i) := (if_neg c2).symm
          refine lv_aload_n hx hb dX0_move_34 rfl (lv_at hl 2 rfl) ?_
          refine gw0_places S i0 hE hP (hts _ (List.mem_of_getElem? (i := 2) rfl)) dX0_move_35 ?_
          refine lv_iload_n hx hb dX0_move_38 rfl (lv_at hl 3 rfl) ?_
          refine lC_places S hE hP (j := q) (by omega) rfl dX0_move_39 ?_
          refine lv_iload hx hb dX0_move_40 (lv_at hl 0 rfl) ?_
          refine lC_pl S hE hP (k := q) (f := f) (by omega) (va_up_self _ _ _) (j := i) (by omega) rfl dX0_move_42 ?_
          refine lv_istore (lv' := [(6, .int (f i)), (5, .int (nI i)), (4, .int (nI k)), (0, .ref (g 3)), (1, .int (nI q)), (2, .int x), (3, .int y)]) hx hb dX0_move_43 hl (by decide) rfl (fun ls hl => ?_)
          refine lv_iload hx hb dX0_move_45 (lv_at hl 0 rfl) ?_
          refine lv_iconst (v := (-1)) hx hb dX0_move_47 (by decide) ?_
          refine lv_icmp_eq (tgt := 65) hx hb dX0_move_48 (by decide) (fun c3 => ?_) (fun c3 => ?_)
          · skip
            refine lv_iinc (v := nI (i + 1)) (lv' := [(5, .int (nI (i + 1))), (6, .int (f i)), (4, .int (nI k)), (0, .ref (g 3)), (1, .int (nI q)), (2, .int x), (3, .int y)]) hx hb dX0_move_65 hl (k := 1) rfl (nI_1 i) (by decide) rfl (fun ls hl => ?_)
            refine lv_goto (tgt := 6) hx hb dX0_move_68 (by decide) ?_
            exact ih6 (i + 1) f k (by omega) (by omega) (by first | exact mv_y hm hv c3 | exact mv_n hm hv c3) (by omega) _ _ hP hS ls (lv_sub hl [0, 2, 3, 4, 5, 6] rfl)
          · skip
            refine lv_aload_n hx hb dX0_move_51 rfl (lv_at hl 3 rfl) ?_
            refine gw0_places S i0 hE hP (hts _ (List.mem_of_getElem? (i := 2) rfl)) dX0_move_52 ?_
            refine lv_iload_n hx hb dX0_move_55 rfl (lv_at hl 4 rfl) ?_
            refine lC_places S hE hP (j := q) (by omega) rfl dX0_move_56 ?_
            refine lv_iload hx hb dX0_move_57 (lv_at hl 2 rfl) ?_
            refine lv_iload hx hb dX0_move_59 (lv_at hl 0 rfl) ?_
            refine sC_plU S hE (u := u) (k := q) (f := f) hP hg hS (by omega) (j := k) (by omega) rfl dX0_move_61 (fun H locs hP hS => ?_)
            have hP : va_P D vwCl (wC K g (s_pl u (va_up (c_pl u) q (upd f k (f i))))) H := hP
            refine lv_iinc (v := nI (k + 1)) (lv' := [(4, .int (nI (k + 1))), (6, .int (f i)), (5, .int (nI i)), (0, .ref (g 3)), (1, .int (nI q)), (2, .int x), (3, .int y)]) hx hb dX0_move_62 hl (k := 2) rfl (nI_1 k) (by decide) rfl (fun ls hl => ?_)
            refine lv_iinc (v := nI (i + 1)) (lv' := [(5, .int (nI (i + 1))), (4, .int (nI (k + 1))), (6, .int (f i)), (0, .ref (g 3)), (1, .int (nI q)), (2, .int x), (3, .int y)]) hx hb dX0_move_65 hl (k := 2) rfl (nI_1 i) (by decide) rfl (fun ls hl => ?_)
            refine lv_goto (tgt := 6) hx hb dX0_move_68 (by decide) ?_
            exact ih6 (i + 1) (upd f k (f i)) (k + 1) (by omega) (by omega) (by first | exact mv_y hm hv c3 | exact mv_n hm hv c3) (by omega) _ _ hP hS ls (lv_sub hl [0, 1, 3, 4, 5, 6] rfl)
        · skip
          have hv : y = mvv x y (f i) := (if_pos c2).symm
          refine lv_iload_n hx hb dX0_move_30 rfl (lv_at hl 5 rfl) ?_
          refine lv_goto (tgt := 43) hx hb dX0_move_31 (by decide) ?_
          refine lv_istore (lv' := [(6, .int y), (5, .int (nI i)), (4, .int (nI k)), (0, .ref (g 3)), (1, .int (nI q)), (2, .int x), (3, .int y)]) hx hb dX0_move_43 hl (by decide) rfl (fun ls hl => ?_)
          refine lv_iload hx hb dX0_move_45 (lv_at hl 0 rfl) ?_
          refine lv_iconst (v := (-1)) hx hb dX0_move_47 (by decide) ?_
          refine lv_icmp_eq (tgt := 65) hx hb dX0_move_48 (by decide) (fun c4 => ?_) (fun c4 => ?_)
          · skip
            refine lv_iinc (v := nI (i + 1)) (lv' := [(5, .int (nI (i + 1))), (6, .int y), (4, .int (nI k)), (0, .ref (g 3)), (1, .int (nI q)), (2, .int x), (3, .int y)]) hx hb dX0_move_65 hl (k := 1) rfl (nI_1 i) (by decide) rfl (fun ls hl => ?_)
            refine lv_goto (tgt := 6) hx hb dX0_move_68 (by decide) ?_
            exact ih6 (i + 1) f k (by omega) (by omega) (by first | exact mv_y hm hv c4 | exact mv_n hm hv c4) (by omega) _ _ hP hS ls (lv_sub hl [0, 2, 3, 4, 5, 6] rfl)
          · skip
            refine lv_aload_n hx hb dX0_move_51 rfl (lv_at hl 3 rfl) ?_
            refine gw0_places S i0 hE hP (hts _ (List.mem_of_getElem? (i := 2) rfl)) dX0_move_52 ?_
            refine lv_iload_n hx hb dX0_move_55 rfl (lv_at hl 4 rfl) ?_
            refine lC_places S hE hP (j := q) (by omega) rfl dX0_move_56 ?_
            refine lv_iload hx hb dX0_move_57 (lv_at hl 2 rfl) ?_
            refine lv_iload hx hb dX0_move_59 (lv_at hl 0 rfl) ?_
            refine sC_plU S hE (u := u) (k := q) (f := f) hP hg hS (by omega) (j := k) (by omega) rfl dX0_move_61 (fun H locs hP hS => ?_)
            have hP : va_P D vwCl (wC K g (s_pl u (va_up (c_pl u) q (upd f k y)))) H := hP
            refine lv_iinc (v := nI (k + 1)) (lv' := [(4, .int (nI (k + 1))), (6, .int y), (5, .int (nI i)), (0, .ref (g 3)), (1, .int (nI q)), (2, .int x), (3, .int y)]) hx hb dX0_move_62 hl (k := 2) rfl (nI_1 k) (by decide) rfl (fun ls hl => ?_)
            refine lv_iinc (v := nI (i + 1)) (lv' := [(5, .int (nI (i + 1))), (4, .int (nI (k + 1))), (6, .int y), (0, .ref (g 3)), (1, .int (nI q)), (2, .int x), (3, .int y)]) hx hb dX0_move_65 hl (k := 2) rfl (nI_1 i) (by decide) rfl (fun ls hl => ?_)
            refine lv_goto (tgt := 6) hx hb dX0_move_68 (by decide) ?_
            exact ih6 (i + 1) (upd f k y) (k + 1) (by omega) (by omega) (by first | exact mv_y hm hv c4 | exact mv_n hm hv c4) (by omega) _ _ hP hS ls (lv_sub hl [0, 1, 3, 4, 5, 6] rfl)
  exact loop6 _ 0 (c_pl u q) 0 (by omega) (by omega) rfl (Nat.lt_succ_self _) _ _ (by rw [plself]; exact hP) hS ls (lv_sub hl [0, 1, 2, 3, 4, 5] rfl)
def rmX2_add : Room := { frames := 0, cells := 0, slots := 0, locals := 0 }
theorem hdX2_add : yX2_add.cls = RX2 ∧ yX2_add.cls ≠ "java/lang/invoke/MethodHandle" ∧ yX2_add.cls ≠ "java/lang/invoke/VarHandle" ∧ (parseMethodDescriptor yX2_add.desc).map (fun d => d.parameters.length) = some 3 := by decide +kernel
set_option maxHeartbeats 4000000 in
set_option maxRecDepth 100000 in
theorem kX2_add {l : Launch} {D : va_G} {K : Nat → ClassId} {L : Nat → Prop} {g : Nat → Nat} (hg : gd L g 29) (u : CU) (n : Nat) (k v b : Int32) (hn : n < 512) (htc : c_tc u = nI n) : CI l yX2_add wsX2_add rmX2_add D K L [.ref (g 4), .int k, .int v, .int b] (wC K g u) (wC K g (cta u n k v b)) (nI n) := by
  refine CI.of (cc := cX2_add) (maxL := 5) (ret := (some .int)) (by decide +kernel) rfl (Nat.le_of_ble_eq_true rfl) ?_
  intro p e s m below meth c ls hen hP
  obtain ⟨hx, hb, hr, hts, hown, hlk, hml, hnm, hE, hl⟩ := hen
  have S : CallFix p m c cX2_add 5 s _ wsX2_add RX2 := ⟨hx, hb, hml, hown, hts⟩
  have hS : va_S (fr L s.heap.size) s.heap s.heap [] := va_S.rf
  have hl : lv_has ls 5 [(0, .ref (g 4)), (1, .int k), (2, .int v), (3, .int b)] := hl
  have i2 : ∀ w ∈ wsX20, w ∈ wsX2_add := fun _ h => List.mem_cons_of_mem _ (List.mem_append_right _ h)
  refine lv_aload_n hx hb dX2_add_0 rfl (lv_at hl 0 rfl) ?_
  refine gw2_count S i2 hE hP (f := c_tc u) rfl (hts _ (List.mem_of_getElem? (i := 1) rfl)) dX2_add_1 ?_
  refine tpi (y := nI n) htc ?_
  refine lv_sipush (v := 512) hx hb dX2_add_4 (by decide) ?_
  refine lv_icmp_lt (tgt := 12) hx hb dX2_add_7 (by decide) (fun c1 => ?_) (fun c1 => ?_)
  · skip
    refine lv_aload_n hx hb dX2_add_12 rfl (lv_at hl 0 rfl) ?_
    refine gw2_count S i2 hE hP (f := c_tc u) rfl (hts _ (List.mem_of_getElem? (i := 1) rfl)) dX2_add_13 ?_
    refine tpi (y := nI n) htc ?_
    refine lv_istore (lv' := [(4, .int (nI n)), (0, .ref (g 4)), (1, .int k), (2, .int v), (3, .int b)]) hx hb dX2_add_16 hl (by decide) rfl (fun ls hl => ?_)
    refine lv_aload_n hx hb dX2_add_18 rfl (lv_at hl 1 rfl) ?_
    refine gw2_keys S i2 hE hP (hts _ (List.mem_of_getElem? (i := 2) rfl)) dX2_add_19 ?_
    refine lv_iload hx hb dX2_add_22 (lv_at hl 0 rfl) ?_
    refine lv_iload_n hx hb dX2_add_24 rfl (lv_at hl 2 rfl) ?_
    refine sC_tk S hE hP hg hS (j := n) (by omega) rfl dX2_add_25 (fun H locs hP hS => ?_)
    have hP : va_P D vwCl (wC K g (s_tk u (upd (c_tk u) n k))) H := hP
    refine lv_aload_n hx hb dX2_add_26 rfl (lv_at hl 1 rfl) ?_
    refine gw2_values S i2 hE hP (hts _ (List.mem_of_getElem? (i := 3) rfl)) dX2_add_27 ?_
    refine lv_iload hx hb dX2_add_30 (lv_at hl 0 rfl) ?_
    refine lv_iload_n hx hb dX2_add_32 rfl (lv_at hl 3 rfl) ?_
    refine sC_tv S hE hP hg hS (j := n) (by omega) rfl dX2_add_33 (fun H locs hP hS => ?_)
    have hP : va_P D vwCl (wC K g (s_tv (s_tk u (upd (c_tk u) n k)) (upd (c_tv u) n v))) H := hP
    refine lv_aload_n hx hb dX2_add_34 rfl (lv_at hl 1 rfl) ?_
    refine gw2_births S i2 hE hP (hts _ (List.mem_of_getElem? (i := 4) rfl)) dX2_add_35 ?_
    refine lv_iload hx hb dX2_add_38 (lv_at hl 0 rfl) ?_
    refine lv_iload_n hx hb dX2_add_40 rfl (lv_at hl 4 rfl) ?_
    refine sC_tb S hE hP hg hS (j := n) (by omega) rfl dX2_add_41 (fun H locs hP hS => ?_)
    have hP : va_P D vwCl (wC K g (s_tb (s_tv (s_tk u (upd (c_tk u) n k)) (upd (c_tv u) n v)) (upd (c_tb u) n b))) H := hP
    refine lv_aload_n hx hb dX2_add_42 rfl (lv_at hl 1 rfl) ?_
    refine gw2_deaths S i2 hE hP (hts _ (List.mem_of_getElem? (i := 5) rfl)) dX2_add_43 ?_
    refine lv_iload hx hb dX2_add_46 (lv_at hl 0 rfl) ?_
    refine lv_iconst (v := (-1)) hx hb dX2_add_48 (by decide) ?_
    refine sC_td S hE hP hg hS (j := n) (by omega) rfl dX2_add_49 (fun H locs hP hS => ?_)
    have hP : va_P D vwCl (wC K g (s_td (s_tb (s_tv (s_tk u (upd (c_tk u) n k)) (upd (c_tv u) n v)) (upd (c_tb u) n b)) (upd (c_td u) n (-1)))) H := hP
    refine lv_aload_n hx hb dX2_add_50 rfl (lv_at hl 1 rfl) ?_
    refine lv_dup hx hb dX2_add_51 rfl ?_
    refine gw2_count S i2 hE hP (f := c_tc u) rfl (hts _ (List.mem_of_getElem? (i := 1) rfl)) dX2_add_52 ?_
    refine tpi (y := nI n) htc ?_
    refine lv_iconst (v := 1) hx hb dX2_add_55 (by decide) ?_
    refine lv_iadd hx hb dX2_add_56 ?_
    refine tpi (y := nI (n + 1)) (nI_1 n) ?_
    refine pw2_count S i2 hE hP hg hS (hts _ (List.mem_of_getElem? (i := 1) rfl)) dX2_add_57 (fun H locs hP hS => ?_)
    refine lv_iload hx hb dX2_add_60 (lv_at hl 0 rfl) ?_
    exact ei hx hb hr hlk hS hP rfl (by rfl) (Nat.le_of_ble_eq_true rfl) (Nat.le_of_ble_eq_true rfl) dX2_add_62
  · skip
    exact absurd (nI_lt (a := n) (b := 512) (by omega) (by omega)) c1
def rmX2_putDeath : Room := { frames := 0, cells := 0, slots := 0, locals := 0 }
theorem hdX2_putDeath : yX2_putDeath.cls = RX2 ∧ yX2_putDeath.cls ≠ "java/lang/invoke/MethodHandle" ∧ yX2_putDeath.cls ≠ "java/lang/invoke/VarHandle" ∧ (parseMethodDescriptor yX2_putDeath.desc).map (fun d => d.parameters.length) = some 2 := by decide +kernel
set_option maxHeartbeats 4000000 in
set_option maxRecDepth 100000 in
theorem kX2_putDeath {l : Launch} {D : va_G} {K : Nat → ClassId} {L : Nat → Prop} {g : Nat → Nat} (hg : gd L g 29) (u : CU) (r n : Nat) (y : Int32) (hr : r < n) (hn : n ≤ 512) (htc : c_tc u = nI n) : CV l yX2_putDeath wsX2_putDeath rmX2_putDeath D K L [.ref (g 4), .int (nI r), .int y] (wC K g u) (wC K g (s_td u (upd (c_td u) r y))) := by
  refine CV.of (cc := cX2_putDeath) (maxL := 3) (ret := none) (by decide +kernel) rfl (Nat.le_of_ble_eq_true rfl) ?_
  intro p e s m below meth c ls hen hP
  obtain ⟨hx, hb, hr, hts, hown, hlk, hml, hnm, hE, hl⟩ := hen
  have S : CallFix p m c cX2_putDeath 3 s _ wsX2_putDeath RX2 := ⟨hx, hb, hml, hown, hts⟩
  have hS : va_S (fr L s.heap.size) s.heap s.heap [] := va_S.rf
  have hl : lv_has ls 3 [(0, .ref (g 4)), (1, .int (nI r)), (2, .int y)] := hl
  have i2 : ∀ w ∈ wsX20, w ∈ wsX2_putDeath := fun _ h => List.mem_cons_of_mem _ (List.mem_append_right _ h)
  refine lv_iload_n hx hb dX2_putDeath_0 rfl (lv_at hl 1 rfl) ?_
  refine lv_if_lt (tgt := 19) hx hb dX2_putDeath_1 (by decide) (fun c1 => ?_) (fun c1 => ?_)
  · skip
    exact absurd c1 (nI_pos (by omega))
  · skip
    refine lv_iload_n hx hb dX2_putDeath_4 rfl (lv_at hl 1 rfl) ?_
    refine lv_aload_n hx hb dX2_putDeath_5 rfl (lv_at hl 0 rfl) ?_
    refine gw2_count S i2 hE hP (f := c_tc u) rfl (hts _ (List.mem_of_getElem? (i := 1) rfl)) dX2_putDeath_6 ?_
    refine tpi (y := nI n) htc ?_
    refine lv_icmp_ge (tgt := 19) hx hb dX2_putDeath_9 (by decide) (fun c2 => ?_) (fun c2 => ?_)
    · skip
      exact absurd (nge_i (by omega) (by omega) c2) (by omega)
    · skip
      refine lv_aload_n hx hb dX2_putDeath_12 rfl (lv_at hl 0 rfl) ?_
      refine gw2_deaths S i2 hE hP (hts _ (List.mem_of_getElem? (i := 2) rfl)) dX2_putDeath_13 ?_
      refine lv_iload_n hx hb dX2_putDeath_16 rfl (lv_at hl 1 rfl) ?_
      refine lv_iload_n hx hb dX2_putDeath_17 rfl (lv_at hl 2 rfl) ?_
      refine sC_td S hE hP hg hS (j := r) (by omega) rfl dX2_putDeath_18 (fun H locs hP hS => ?_)
      have hP : va_P D vwCl (wC K g (s_td u (upd (c_td u) r y))) H := hP
      exact e0 hx hb hr hlk hS hP rfl (Nat.le_of_ble_eq_true rfl) (Nat.le_of_ble_eq_true rfl) dX2_putDeath_19
def rmX2_takeOffDeaths : Room := { frames := 0, cells := 0, slots := 0, locals := 0 }
theorem hdX2_takeOffDeaths : yX2_takeOffDeaths.cls = RX2 ∧ yX2_takeOffDeaths.cls ≠ "java/lang/invoke/MethodHandle" ∧ yX2_takeOffDeaths.cls ≠ "java/lang/invoke/VarHandle" ∧ (parseMethodDescriptor yX2_takeOffDeaths.desc).map (fun d => d.parameters.length) = some 1 := by decide +kernel
set_option maxHeartbeats 4000000 in
set_option maxRecDepth 100000 in
theorem kX2_takeOffDeaths {l : Launch} {D : va_G} {K : Nat → ClassId} {L : Nat → Prop} {g : Nat → Nat} (hg : gd L g 29) (u : CU) (x : Int32) (n : Nat) (hn : n ≤ 512) (htc : c_tc u = nI n) : CV l yX2_takeOffDeaths wsX2_takeOffDeaths rmX2_takeOffDeaths D K L [.ref (g 4), .int x] (wC K g u) (wC K g (s_td u (rpl (c_td u) x (-1) n))) := by
  refine CV.of (cc := cX2_takeOffDeaths) (maxL := 3) (ret := none) (by decide +kernel) rfl (Nat.le_of_ble_eq_true rfl) ?_
  intro p e s m below meth c ls hen hP
  obtain ⟨hx, hb, hr, hts, hown, hlk, hml, hnm, hE, hl⟩ := hen
  have S : CallFix p m c cX2_takeOffDeaths 3 s _ wsX2_takeOffDeaths RX2 := ⟨hx, hb, hml, hown, hts⟩
  have hS : va_S (fr L s.heap.size) s.heap s.heap [] := va_S.rf
  have hl : lv_has ls 3 [(0, .ref (g 4)), (1, .int x)] := hl
  have i2 : ∀ w ∈ wsX20, w ∈ wsX2_takeOffDeaths := fun _ h => List.mem_cons_of_mem _ (List.mem_append_right _ h)
  refine lv_iconst (v := 0) hx hb dX2_takeOffDeaths_0 (by decide) ?_
  refine lv_istore_n (lv' := [(2, .int 0), (0, .ref (g 4)), (1, .int x)]) hx hb dX2_takeOffDeaths_1 rfl hl (by decide) rfl (fun ls hl => ?_)
  have loop2 : ∀ (n2 : Nat) (i : Nat) (f : AI), (hi : i ≤ n) → (hf : f = rpl (c_td u) x (-1) i) → n - i < n2 → ∀ (H : Heap) (locs : List Loc), va_P D vwCl (wC K g (s_td u f)) H → va_S (fr L s.heap.size) s.heap H locs → ∀ (ls : Array Slot), lv_has ls 3 [(2, .int (nI i)), (0, .ref (g 4)), (1, .int x)] → W p l e rmX2_takeOffDeaths s m ([.ref (g 4), .int x] : List Value).toArray below meth c H locs 0 0 (MQ below (va_Qv (fun (_ : Unit) => True) (fun _ t => va_P D vwCl (wC K g (s_td u (rpl (c_td u) x (-1) n))) t.heap) (fr L s.heap.size)) ([.ref (g 4), .int x] : List Value).toArray s rmX2_takeOffDeaths.cells rmX2_takeOffDeaths.slots (fr L s.heap.size)) (F0 m 2 ls []) := by
    intro n2
    induction n2 with
    | zero =>
      intro i f hi hf hn2
      exact absurd hn2 (Nat.not_lt_zero _)
    | succ n2 ih2 =>
      intro i f hi hf hn2 H locs hP hS ls hl
      refine lv_iload_n hx hb dX2_takeOffDeaths_2 rfl (lv_at hl 0 rfl) ?_
      refine lv_aload_n hx hb dX2_takeOffDeaths_3 rfl (lv_at hl 1 rfl) ?_
      refine gw2_count S i2 hE hP (f := c_tc u) rfl (hts _ (List.mem_of_getElem? (i := 1) rfl)) dX2_takeOffDeaths_4 ?_
      refine tpi (y := nI n) htc ?_
      refine lv_icmp_ge (tgt := 33) hx hb dX2_takeOffDeaths_7 (by decide) (fun c1 => ?_) (fun c1 => ?_)
      · skip
        have e : i = n := by have := nge_i (a := i) (b := n) (by omega) (by omega) c1; omega
        exact e0 hx hb hr hlk hS hP (by rw [hf, e]) (Nat.le_of_ble_eq_true rfl) (Nat.le_of_ble_eq_true rfl) dX2_takeOffDeaths_33
      · skip
        have hlt : i < n := nlt_i (a := i) (b := n) (by omega) (by omega) c1
        refine lv_aload_n hx hb dX2_takeOffDeaths_10 rfl (lv_at hl 1 rfl) ?_
        refine gw2_deaths S i2 hE hP (hts _ (List.mem_of_getElem? (i := 2) rfl)) dX2_takeOffDeaths_11 ?_
        refine lv_iload_n hx hb dX2_takeOffDeaths_14 rfl (lv_at hl 0 rfl) ?_
        refine lC_td S hE hP (f := f) rfl (j := i) (by omega) rfl dX2_takeOffDeaths_15 ?_
        refine lv_iload_n hx hb dX2_takeOffDeaths_16 rfl (lv_at hl 2 rfl) ?_
        refine lv_icmp_ne (tgt := 27) hx hb dX2_takeOffDeaths_17 (by decide) (fun c2 => ?_) (fun c2 => ?_)
        · skip
          refine lv_iinc (v := nI (i + 1)) (lv' := [(2, .int (nI (i + 1))), (0, .ref (g 4)), (1, .int x)]) hx hb dX2_takeOffDeaths_27 hl (k := 0) rfl (nI_1 i) (by decide) rfl (fun ls hl => ?_)
          refine lv_goto (tgt := 2) hx hb dX2_takeOffDeaths_30 (by decide) ?_
          exact ih2 (i + 1) f (by omega) (by first | (rw [hf]; rw [hf] at c2; exact rpl_y c2) | (rw [hf]; rw [hf] at c2; exact rpl_n c2)) (by omega) _ _ hP hS ls (lv_sub hl [0, 1, 2] rfl)
        · skip
          refine lv_aload_n hx hb dX2_takeOffDeaths_20 rfl (lv_at hl 1 rfl) ?_
          refine gw2_deaths S i2 hE hP (hts _ (List.mem_of_getElem? (i := 2) rfl)) dX2_takeOffDeaths_21 ?_
          refine lv_iload_n hx hb dX2_takeOffDeaths_24 rfl (lv_at hl 0 rfl) ?_
          refine lv_iconst (v := (-1)) hx hb dX2_takeOffDeaths_25 (by decide) ?_
          refine sC_td S hE hP hg hS (j := i) (by omega) rfl dX2_takeOffDeaths_26 (fun H locs hP hS => ?_)
          have hP : va_P D vwCl (wC K g (s_td (s_td u f) (upd f i (-1)))) H := hP
          refine lv_iinc (v := nI (i + 1)) (lv' := [(2, .int (nI (i + 1))), (0, .ref (g 4)), (1, .int x)]) hx hb dX2_takeOffDeaths_27 hl (k := 0) rfl (nI_1 i) (by decide) rfl (fun ls hl => ?_)
          refine lv_goto (tgt := 2) hx hb dX2_takeOffDeaths_30 (by decide) ?_
          exact ih2 (i + 1) (upd f i (-1)) (by omega) (by first | (rw [hf]; rw [hf] at c2; exact rpl_y c2) | (rw [hf]; rw [hf] at c2; exact rpl_n c2)) (by omega) _ _ hP hS ls (lv_sub hl [0, 1, 2] rfl)
  exact loop2 _ 0 (c_td u) (by omega) rpl_0.symm (Nat.lt_succ_self _) _ _ hP hS ls (lv_sub hl [0, 1, 2] rfl)

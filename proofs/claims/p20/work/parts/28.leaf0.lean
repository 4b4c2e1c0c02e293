/-! ===== the face of the class where nothing is thrown: no new cell ===== -/
def rmX4_checkTransaction0 : Room := { frames := 1, cells := 0, slots := 0, locals := 21 }
set_option maxHeartbeats 4000000 in
set_option maxRecDepth 100000 in
theorem kX4_checkTransaction0 {l : Launch} {D : va_G} {K : Nat → ClassId} {L : Nat → Prop} {g : Nat → Nat} (hg : gd L g 29) (u : CU) (x : Int32) (hw : wbP u x) : CV l yX4_checkTransaction wsX4_checkTransaction rmX4_checkTransaction0 D K L [.ref (g 0), .int x] (wC K g u) (wC K g u) := by
  refine CV.of (cc := cX4_checkTransaction) (maxL := 2) (ret := none) (by decide +kernel) rfl (Nat.le_of_ble_eq_true rfl) ?_
  intro p e s m below meth c ls hen hP
  obtain ⟨hx, hb, hr, hts, hown, hlk, hml, hnm, hE, hl⟩ := hen
  have S : CallFix p m c cX4_checkTransaction 2 s _ wsX4_checkTransaction RX4 := ⟨hx, hb, hml, hown, hts⟩
  have hS : va_S (fr L s.heap.size) s.heap s.heap [] := va_S.rf
  have hl : lv_has ls 2 [(0, .ref (g 0)), (1, .int x)] := hl
  have i4 : ∀ w ∈ wsX40, w ∈ wsX4_checkTransaction := fun _ h => List.mem_cons_of_mem _ (List.mem_append_left _ (List.mem_append_left _ (List.mem_append_right _ h)))
  have i3 : ∀ w ∈ wsX30, w ∈ wsX4_checkTransaction := fun _ h => List.mem_cons_of_mem _ (List.mem_append_left _ (List.mem_append_right _ h))
  refine lv_aload_n hx hb dX4_checkTransaction_0 rfl (lv_at hl 0 rfl) ?_
  refine gw4_transactions S i4 hE hP (hts _ (List.mem_of_getElem? (i := 3) rfl)) dX4_checkTransaction_1 ?_
  refine lv_iload_n hx hb dX4_checkTransaction_4 rfl (lv_at hl 1 rfl) ?_
  refine kiV (As := [.int x]) (rest := []) S (kX3_wasBegun hg u x) (cwV 1 hts gX4_checkTransaction_X3_wasBegun rfl rfl rfl hdX3_wasBegun ⟨Nat.le_of_ble_eq_true rfl, Nat.le_of_ble_eq_true rfl⟩) rfl rfl 1 rfl rfl hE hP hS (frs hS) rfl hl.1 rfl (Nat.le_of_ble_eq_true rfl) dX4_checkTransaction_5 ⟨Nat.le_of_ble_eq_true rfl, Nat.le_of_ble_eq_true rfl⟩ (fun H locs hP _ _ hS => ?_)
  refine bzne (tgt := 21) hx hb dX4_checkTransaction_8 (by decide) (fun c1 => ?_) (fun c1 => ?_)
  · skip
    exact e0 hx hb hr hlk hS hP rfl (Nat.le_of_ble_eq_true rfl) (Nat.le_of_ble_eq_true rfl) dX4_checkTransaction_21
  · skip
    exact absurd hw c1
def rmX4_checkActive0 : Room := { frames := 2, cells := 0, slots := 0, locals := 43 }
set_option maxHeartbeats 4000000 in
set_option maxRecDepth 100000 in
theorem kX4_checkActive0 {l : Launch} {D : va_G} {K : Nat → ClassId} {L : Nat → Prop} {g : Nat → Nat} (hg : gd L g 29) (u : CU) (x : Int32) (hw : hasP (c_ac u) x) : CV l yX4_checkActive wsX4_checkActive rmX4_checkActive0 D K L [.ref (g 0), .int x] (wC K g u) (wC K g u) := by
  refine CV.of (cc := cX4_checkActive) (maxL := 2) (ret := none) (by decide +kernel) rfl (Nat.le_of_ble_eq_true rfl) ?_
  intro p e s m below meth c ls hen hP
  obtain ⟨hx, hb, hr, hts, hown, hlk, hml, hnm, hE, hl⟩ := hen
  have S : CallFix p m c cX4_checkActive 2 s _ wsX4_checkActive RX4 := ⟨hx, hb, hml, hown, hts⟩
  have hS : va_S (fr L s.heap.size) s.heap s.heap [] := va_S.rf
  have hl : lv_has ls 2 [(0, .ref (g 0)), (1, .int x)] := hl
  have i4 : ∀ w ∈ wsX40, w ∈ wsX4_checkActive := fun _ h => List.mem_cons_of_mem _ (List.mem_append_left _ (List.mem_append_left _ (List.mem_append_right _ h)))
  have i3 : ∀ w ∈ wsX30, w ∈ wsX4_checkActive := fun _ h => List.mem_cons_of_mem _ (List.mem_append_left _ (List.mem_append_right _ h))
  refine lv_aload_n hx hb dX4_checkActive_0 rfl (lv_at hl 0 rfl) ?_
  refine gw4_transactions S i4 hE hP (hts _ (List.mem_of_getElem? (i := 3) rfl)) dX4_checkActive_1 ?_
  refine lv_iload_n hx hb dX4_checkActive_4 rfl (lv_at hl 1 rfl) ?_
  refine kiV (As := [.int x]) (rest := []) S (kX3_isActive hg u x) (cwV 1 hts gX4_checkActive_X3_isActive rfl rfl rfl hdX3_isActive ⟨Nat.le_of_ble_eq_true rfl, Nat.le_of_ble_eq_true rfl⟩) rfl rfl 1 rfl rfl hE hP hS (frs hS) rfl hl.1 rfl (Nat.le_of_ble_eq_true rfl) dX4_checkActive_5 ⟨Nat.le_of_ble_eq_true rfl, Nat.le_of_ble_eq_true rfl⟩ (fun H locs hP _ _ hS => ?_)
  refine bzne (tgt := 21) hx hb dX4_checkActive_8 (by decide) (fun c1 => ?_) (fun c1 => ?_)
  · skip
    exact e0 hx hb hr hlk hS hP rfl (Nat.le_of_ble_eq_true rfl) (Nat.le_of_ble_eq_true rfl) dX4_checkActive_21
  · skip
    exact absurd hw c1
def rmX4_checkStamp0 : Room := { frames := 0, cells := 0, slots := 0, locals := 0 }
set_option maxHeartbeats 4000000 in
set_option maxRecDepth 100000 in
theorem kX4_checkStamp0 {l : Launch} {D : va_G} {K : Nat → ClassId} {L : Nat → Prop} {w : va_W} (x : Int32) (hw : stP x) : CV l yX4_checkStamp wsX4_checkStamp rmX4_checkStamp0 D K L [.int x] w w := by
  refine CV.of (cc := cX4_checkStamp) (maxL := 1) (ret := none) (by decide +kernel) rfl (Nat.le_of_ble_eq_true rfl) ?_
  intro p e s m below meth c ls hen hP
  obtain ⟨hx, hb, hr, hts, hown, hlk, hml, hnm, hE, hl⟩ := hen
  have S : CallFix p m c cX4_checkStamp 1 s _ wsX4_checkStamp RX4 := ⟨hx, hb, hml, hown, hts⟩
  have hS : va_S (fr L s.heap.size) s.heap s.heap [] := va_S.rf
  have hl : lv_has ls 1 [(0, .int x)] := hl
  refine lv_iload_n hx hb dX4_checkStamp_0 rfl (lv_at hl 0 rfl) ?_
  refine lv_if_lt (tgt := 10) hx hb dX4_checkStamp_1 (by decide) (fun c1 => ?_) (fun c1 => ?_)
  · skip
    have no : ¬ stP x := fun k => k.1 c1
    exact absurd hw no
  · skip
    refine lv_iload_n hx hb dX4_checkStamp_4 rfl (lv_at hl 0 rfl) ?_
    refine lv_bipush (v := 64) hx hb dX4_checkStamp_5 (by decide) ?_
    refine lv_icmp_lt (tgt := 20) hx hb dX4_checkStamp_7 (by decide) (fun c2 => ?_) (fun c2 => ?_)
    · skip
      have yes : stP x := ⟨c1, c2⟩
      exact e0 hx hb hr hlk hS hP rfl (Nat.le_of_ble_eq_true rfl) (Nat.le_of_ble_eq_true rfl) dX4_checkStamp_20
    · skip
      have no : ¬ stP x := fun k => c2 k.2
      exact absurd hw no
def rmX4_checkKey0 : Room := { frames := 0, cells := 0, slots := 0, locals := 0 }
set_option maxHeartbeats 4000000 in
set_option maxRecDepth 100000 in
theorem kX4_checkKey0 {l : Launch} {D : va_G} {K : Nat → ClassId} {L : Nat → Prop} {w : va_W} (x : Int32) (hw : kyP x) : CV l yX4_checkKey wsX4_checkKey rmX4_checkKey0 D K L [.int x] w w := by
  refine CV.of (cc := cX4_checkKey) (maxL := 1) (ret := none) (by decide +kernel) rfl (Nat.le_of_ble_eq_true rfl) ?_
  intro p e s m below meth c ls hen hP
  obtain ⟨hx, hb, hr, hts, hown, hlk, hml, hnm, hE, hl⟩ := hen
  have S : CallFix p m c cX4_checkKey 1 s _ wsX4_checkKey RX4 := ⟨hx, hb, hml, hown, hts⟩
  have hS : va_S (fr L s.heap.size) s.heap s.heap [] := va_S.rf
  have hl : lv_has ls 1 [(0, .int x)] := hl
  refine lv_iload_n hx hb dX4_checkKey_0 rfl (lv_at hl 0 rfl) ?_
  refine lv_if_lt (tgt := 10) hx hb dX4_checkKey_1 (by decide) (fun c1 => ?_) (fun c1 => ?_)
  · skip
    have no : ¬ kyP x := fun k => k.1 c1
    exact absurd hw no
  · skip
    refine lv_iload_n hx hb dX4_checkKey_4 rfl (lv_at hl 0 rfl) ?_
    refine lv_bipush (v := 6) hx hb dX4_checkKey_5 (by decide) ?_
    refine lv_icmp_lt (tgt := 20) hx hb dX4_checkKey_7 (by decide) (fun c2 => ?_) (fun c2 => ?_)
    · skip
      have yes : kyP x := ⟨c1, c2⟩
      exact e0 hx hb hr hlk hS hP rfl (Nat.le_of_ble_eq_true rfl) (Nat.le_of_ble_eq_true rfl) dX4_checkKey_20
    · skip
      have no : ¬ kyP x := fun k => c2 k.2
      exact absurd hw no
def rmX4_checkPage0 : Room := { frames := 0, cells := 0, slots := 0, locals := 0 }
set_option maxHeartbeats 4000000 in
set_option maxRecDepth 100000 in
theorem kX4_checkPage0 {l : Launch} {D : va_G} {K : Nat → ClassId} {L : Nat → Prop} {w : va_W} (x : Int32) (hw : pgP x) : CV l yX4_checkPage wsX4_checkPage rmX4_checkPage0 D K L [.int x] w w := by
  refine CV.of (cc := cX4_checkPage) (maxL := 1) (ret := none) (by decide +kernel) rfl (Nat.le_of_ble_eq_true rfl) ?_
  intro p e s m below meth c ls hen hP
  obtain ⟨hx, hb, hr, hts, hown, hlk, hml, hnm, hE, hl⟩ := hen
  have S : CallFix p m c cX4_checkPage 1 s _ wsX4_checkPage RX4 := ⟨hx, hb, hml, hown, hts⟩
  have hS : va_S (fr L s.heap.size) s.heap s.heap [] := va_S.rf
  have hl : lv_has ls 1 [(0, .int x)] := hl
  refine lv_iload_n hx hb dX4_checkPage_0 rfl (lv_at hl 0 rfl) ?_
  refine lv_if_lt (tgt := 9) hx hb dX4_checkPage_1 (by decide) (fun c1 => ?_) (fun c1 => ?_)
  · skip
    have no : ¬ pgP x := fun k => k.1 c1
    exact absurd hw no
  · skip
    refine lv_iload_n hx hb dX4_checkPage_4 rfl (lv_at hl 0 rfl) ?_
    refine lv_iconst (v := 4) hx hb dX4_checkPage_5 (by decide) ?_
    refine lv_icmp_lt (tgt := 20) hx hb dX4_checkPage_6 (by decide) (fun c2 => ?_) (fun c2 => ?_)
    · skip
      have yes : pgP x := ⟨c1, c2⟩
      exact e0 hx hb hr hlk hS hP rfl (Nat.le_of_ble_eq_true rfl) (Nat.le_of_ble_eq_true rfl) dX4_checkPage_20
    · skip
      have no : ¬ pgP x := fun k => c2 k.2
      exact absurd hw no
def rmX4_checkSlot0 : Room := { frames := 0, cells := 0, slots := 0, locals := 0 }
set_option maxHeartbeats 4000000 in
set_option maxRecDepth 100000 in
theorem kX4_checkSlot0 {l : Launch} {D : va_G} {K : Nat → ClassId} {L : Nat → Prop} {w : va_W} (x : Int32) (hw : slP x) : CV l yX4_checkSlot wsX4_checkSlot rmX4_checkSlot0 D K L [.int x] w w := by
  refine CV.of (cc := cX4_checkSlot) (maxL := 1) (ret := none) (by decide +kernel) rfl (Nat.le_of_ble_eq_true rfl) ?_
  intro p e s m below meth c ls hen hP
  obtain ⟨hx, hb, hr, hts, hown, hlk, hml, hnm, hE, hl⟩ := hen
  have S : CallFix p m c cX4_checkSlot 1 s _ wsX4_checkSlot RX4 := ⟨hx, hb, hml, hown, hts⟩
  have hS : va_S (fr L s.heap.size) s.heap s.heap [] := va_S.rf
  have hl : lv_has ls 1 [(0, .int x)] := hl
  refine lv_iload_n hx hb dX4_checkSlot_0 rfl (lv_at hl 0 rfl) ?_
  refine lv_if_lt (tgt := 10) hx hb dX4_checkSlot_1 (by decide) (fun c1 => ?_) (fun c1 => ?_)
  · skip
    have no : ¬ slP x := fun k => k.1 c1
    exact absurd hw no
  · skip
    refine lv_iload_n hx hb dX4_checkSlot_4 rfl (lv_at hl 0 rfl) ?_
    refine lv_bipush (v := 8) hx hb dX4_checkSlot_5 (by decide) ?_
    refine lv_icmp_lt (tgt := 21) hx hb dX4_checkSlot_7 (by decide) (fun c2 => ?_) (fun c2 => ?_)
    · skip
      have yes : slP x := ⟨c1, c2⟩
      exact e0 hx hb hr hlk hS hP rfl (Nat.le_of_ble_eq_true rfl) (Nat.le_of_ble_eq_true rfl) dX4_checkSlot_21
    · skip
      have no : ¬ slP x := fun k => c2 k.2
      exact absurd hw no
def rmX4_end0 : Room := { frames := 3, cells := 0, slots := 0, locals := 64 }
set_option maxHeartbeats 4000000 in
set_option maxRecDepth 100000 in
theorem kX4_end0 {l : Launch} {D : va_G} {K : Nat → ClassId} {L : Nat → Prop} {g : Nat → Nat} (hg : gd L g 29) (u : CU) (t : Nat) (q : Prop) (N : Nat) (hN : N ≤ 60) (hcn : c_cn u = nI N) (hwb : wbP u (nI t)) (ht : t < 60) (hac : hasP (c_ac u) (nI t)) (T : Nat) (hT : T ≤ 512) (htc : c_tc u = nI T) : CI l yX4_end wsX4_end rmX4_end0 D K L [.ref (g 0), .int (nI t), .int (fb q)] (wC K g u) (wC K g (cen u t T q)) (bcn (c_ac (cfi u t q))) := by
  refine CI.of (cc := cX4_end) (maxL := 3) (ret := (some .int)) (by decide +kernel) rfl (Nat.le_of_ble_eq_true rfl) ?_
  intro p e s m below meth c ls hen hP
  obtain ⟨hx, hb, hr, hts, hown, hlk, hml, hnm, hE, hl⟩ := hen
  have S : CallFix p m c cX4_end 3 s _ wsX4_end RX4 := ⟨hx, hb, hml, hown, hts⟩
  have hS : va_S (fr L s.heap.size) s.heap s.heap [] := va_S.rf
  have hl : lv_has ls 3 [(0, .ref (g 0)), (1, .int (nI t)), (2, .int (fb q))] := hl
  have i4 : ∀ w ∈ wsX40, w ∈ wsX4_end := fun _ h => List.mem_cons_of_mem _ (List.mem_append_left _ (List.mem_append_left _ (List.mem_append_left _ (List.mem_append_left _ (List.mem_append_left _ (List.mem_append_right _ h))))))
  have i3 : ∀ w ∈ wsX30, w ∈ wsX4_end := fun _ h => List.mem_cons_of_mem _ (List.mem_append_left _ (List.mem_append_left _ (List.mem_append_left _ (List.mem_append_left _ (List.mem_append_right _ h)))))
  have i1 : ∀ w ∈ wsX10, w ∈ wsX4_end := fun _ h => List.mem_cons_of_mem _ (List.mem_append_left _ (List.mem_append_left _ (List.mem_append_left _ (List.mem_append_right _ h))))
  have i2 : ∀ w ∈ wsX20, w ∈ wsX4_end := fun _ h => List.mem_cons_of_mem _ (List.mem_append_left _ (List.mem_append_left _ (List.mem_append_right _ h)))
  refine lv_aload_n hx hb dX4_end_0 rfl (lv_at hl 0 rfl) ?_
  refine lv_iload_n hx hb dX4_end_1 rfl (lv_at hl 1 rfl) ?_
  refine kvV (As := [.int (nI t)]) (rest := []) S (kX4_checkTransaction0 hg u (nI t) hwb) (cwV 1 hts gX4_end_X4_checkTransaction rfl rfl rfl hdX4_checkTransaction ⟨Nat.le_of_ble_eq_true rfl, Nat.le_of_ble_eq_true rfl⟩) rfl rfl 0 rfl rfl hE hP hS (frs hS) rfl hl.1 rfl (Nat.le_of_ble_eq_true rfl) dX4_end_2 ⟨Nat.le_of_ble_eq_true rfl, Nat.le_of_ble_eq_true rfl⟩ (fun H locs hP _ _ hS => ?_)
  refine lv_aload_n hx hb dX4_end_5 rfl (lv_at hl 0 rfl) ?_
  refine lv_iload_n hx hb dX4_end_6 rfl (lv_at hl 1 rfl) ?_
  refine kvV (As := [.int (nI t)]) (rest := []) S (kX4_checkActive0 hg u (nI t) hac) (cwV 1 hts gX4_end_X4_checkActive rfl rfl rfl hdX4_checkActive ⟨Nat.le_of_ble_eq_true rfl, Nat.le_of_ble_eq_true rfl⟩) rfl rfl 0 rfl rfl hE hP hS (frs hS) rfl hl.1 rfl (Nat.le_of_ble_eq_true rfl) dX4_end_7 ⟨Nat.le_of_ble_eq_true rfl, Nat.le_of_ble_eq_true rfl⟩ (fun H locs hP _ _ hS => ?_)
  refine lv_aload_n hx hb dX4_end_10 rfl (lv_at hl 0 rfl) ?_
  refine gw4_transactions S i4 hE hP (hts _ (List.mem_of_getElem? (i := 1) rfl)) dX4_end_11 ?_
  refine lv_iload_n hx hb dX4_end_14 rfl (lv_at hl 1 rfl) ?_
  refine lv_iload_n hx hb dX4_end_15 rfl (lv_at hl 2 rfl) ?_
  refine kvV (As := [.int (nI t), .int (fb q)]) (rest := []) S (kX3_finish hg u t q (by omega)) (cwV 2 hts gX4_end_X3_finish rfl rfl rfl hdX3_finish ⟨Nat.le_of_ble_eq_true rfl, Nat.le_of_ble_eq_true rfl⟩) rfl rfl 1 rfl rfl hE hP hS (frs hS) rfl hl.1 rfl (Nat.le_of_ble_eq_true rfl) dX4_end_16 ⟨Nat.le_of_ble_eq_true rfl, Nat.le_of_ble_eq_true rfl⟩ (fun H locs hP _ _ hS => ?_)
  refine lv_iload_n hx hb dX4_end_19 rfl (lv_at hl 2 rfl) ?_
  refine bzne (tgt := 39) hx hb dX4_end_20 (by decide) (fun c1 => ?_) (fun c1 => ?_)
  · skip
    refine lv_aload_n hx hb dX4_end_39 rfl (lv_at hl 0 rfl) ?_
    refine gw4_transactions S i4 hE hP (hts _ (List.mem_of_getElem? (i := 1) rfl)) dX4_end_40 ?_
    refine kiV (As := []) (rest := []) S (kX3_activeCount hg (cfi u t q)) (cwV 0 hts gX4_end_X3_activeCount rfl rfl rfl hdX3_activeCount ⟨Nat.le_of_ble_eq_true rfl, Nat.le_of_ble_eq_true rfl⟩) rfl rfl 1 rfl rfl hE hP hS (frs hS) rfl hl.1 rfl (Nat.le_of_ble_eq_true rfl) dX4_end_43 ⟨Nat.le_of_ble_eq_true rfl, Nat.le_of_ble_eq_true rfl⟩ (fun H locs hP _ _ hS => ?_)
    exact ei hx hb hr hlk hS hP (by first | rw [cen_t c1] | (rw [cen_f c1]; rfl)) (by rfl) (Nat.le_of_ble_eq_true rfl) (Nat.le_of_ble_eq_true rfl) dX4_end_46
  · skip
    refine lv_aload_n hx hb dX4_end_23 rfl (lv_at hl 0 rfl) ?_
    refine gw4_slots S i4 hE hP (hts _ (List.mem_of_getElem? (i := 2) rfl)) dX4_end_24 ?_
    refine lv_iload_n hx hb dX4_end_27 rfl (lv_at hl 1 rfl) ?_
    refine kvV (As := [.int (nI t)]) (rest := []) S (kX1_takeOffDeaths hg (cfi u t q) (nI t)) (cwV 1 hts gX4_end_X1_takeOffDeaths rfl rfl rfl hdX1_takeOffDeaths ⟨Nat.le_of_ble_eq_true rfl, Nat.le_of_ble_eq_true rfl⟩) rfl rfl 2 rfl rfl hE hP hS (frs hS) rfl hl.1 rfl (Nat.le_of_ble_eq_true rfl) dX4_end_28 ⟨Nat.le_of_ble_eq_true rfl, Nat.le_of_ble_eq_true rfl⟩ (fun H locs hP _ _ hS => ?_)
    refine lv_aload_n hx hb dX4_end_31 rfl (lv_at hl 0 rfl) ?_
    refine gw4_table S i4 hE hP (hts _ (List.mem_of_getElem? (i := 3) rfl)) dX4_end_32 ?_
    refine lv_iload_n hx hb dX4_end_35 rfl (lv_at hl 1 rfl) ?_
    refine kvV (As := [.int (nI t)]) (rest := []) S (kX2_takeOffDeaths hg (s_d (cfi u t q) (rpl (c_d (cfi u t q)) (nI t) (-1) 32)) (nI t) T hT (cfi_tc.trans htc)) (cwV 1 hts gX4_end_X2_takeOffDeaths rfl rfl rfl hdX2_takeOffDeaths ⟨Nat.le_of_ble_eq_true rfl, Nat.le_of_ble_eq_true rfl⟩) rfl rfl 4 rfl rfl hE hP hS (frs hS) rfl hl.1 rfl (Nat.le_of_ble_eq_true rfl) dX4_end_36 ⟨Nat.le_of_ble_eq_true rfl, Nat.le_of_ble_eq_true rfl⟩ (fun H locs hP _ _ hS => ?_)
    refine lv_aload_n hx hb dX4_end_39 rfl (lv_at hl 0 rfl) ?_
    refine gw4_transactions S i4 hE hP (hts _ (List.mem_of_getElem? (i := 1) rfl)) dX4_end_40 ?_
    refine kiV (As := []) (rest := []) S (kX3_activeCount hg (s_td (s_d (cfi u t q) (rpl (c_d (cfi u t q)) (nI t) (-1) 32)) (rpl (c_td (s_d (cfi u t q) (rpl (c_d (cfi u t q)) (nI t) (-1) 32))) (nI t) (-1) T))) (cwV 0 hts gX4_end_X3_activeCount rfl rfl rfl hdX3_activeCount ⟨Nat.le_of_ble_eq_true rfl, Nat.le_of_ble_eq_true rfl⟩) rfl rfl 1 rfl rfl hE hP hS (frs hS) rfl hl.1 rfl (Nat.le_of_ble_eq_true rfl) dX4_end_43 ⟨Nat.le_of_ble_eq_true rfl, Nat.le_of_ble_eq_true rfl⟩ (fun H locs hP _ _ hS => ?_)
    exact ei hx hb hr hlk hS hP (by first | rw [cen_t c1] | (rw [cen_f c1]; rfl)) (by rfl) (Nat.le_of_ble_eq_true rfl) (Nat.le_of_ble_eq_true rfl) dX4_end_46
def rmX4_isBefore0 : Room := { frames := 2, cells := 0, slots := 0, locals := 43 }
set_option maxHeartbeats 4000000 in
set_option maxRecDepth 100000 in
theorem kX4_isBefore0 {l : Launch} {D : va_G} {K : Nat → ClassId} {L : Nat → Prop} {g : Nat → Nat} (hg : gd L g 29) (u : CU) (x y : Int32) (hsx : stP x) (hsy : stP y) : CI l yX4_isBefore wsX4_isBefore rmX4_isBefore0 D K L [.ref (g 0), .int x, .int y] (wC K g u) (wC K g u) (fb (ibP x y)) := by
  refine CI.of (cc := cX4_isBefore) (maxL := 3) (ret := (some .boolean)) (by decide +kernel) rfl (Nat.le_of_ble_eq_true rfl) ?_
  intro p e s m below meth c ls hen hP
  obtain ⟨hx, hb, hr, hts, hown, hlk, hml, hnm, hE, hl⟩ := hen
  have S : CallFix p m c cX4_isBefore 3 s _ wsX4_isBefore RX4 := ⟨hx, hb, hml, hown, hts⟩
  have hS : va_S (fr L s.heap.size) s.heap s.heap [] := va_S.rf
  have hl : lv_has ls 3 [(0, .ref (g 0)), (1, .int x), (2, .int y)] := hl
  refine lv_iload_n hx hb dX4_isBefore_0 rfl (lv_at hl 1 rfl) ?_
  refine kvS (As := [.int x]) (rest := []) S (kX4_checkStamp0 x hsx) (va_cwS 1 hts gX4_isBefore_X4_checkStamp rfl rfl rfl hdX4_checkStamp.2 ⟨Nat.le_of_ble_eq_true rfl, Nat.le_of_ble_eq_true rfl⟩) rfl rfl hE hP hS (frs hS) rfl hl.1 rfl (Nat.le_of_ble_eq_true rfl) dX4_isBefore_1 ⟨Nat.le_of_ble_eq_true rfl, Nat.le_of_ble_eq_true rfl⟩ (fun H locs hP _ _ hS => ?_)
  refine lv_iload_n hx hb dX4_isBefore_4 rfl (lv_at hl 2 rfl) ?_
  refine kvS (As := [.int y]) (rest := []) S (kX4_checkStamp0 y hsy) (va_cwS 1 hts gX4_isBefore_X4_checkStamp rfl rfl rfl hdX4_checkStamp.2 ⟨Nat.le_of_ble_eq_true rfl, Nat.le_of_ble_eq_true rfl⟩) rfl rfl hE hP hS (frs hS) rfl hl.1 rfl (Nat.le_of_ble_eq_true rfl) dX4_isBefore_5 ⟨Nat.le_of_ble_eq_true rfl, Nat.le_of_ble_eq_true rfl⟩ (fun H locs hP _ _ hS => ?_)
  refine lv_iload_n hx hb dX4_isBefore_8 rfl (lv_at hl 1 rfl) ?_
  refine lv_iload_n hx hb dX4_isBefore_9 rfl (lv_at hl 2 rfl) ?_
  refine lv_icmp_eq (tgt := 27) hx hb dX4_isBefore_10 (by decide) (fun c1 => ?_) (fun c1 => ?_)
  · skip
    have no : ¬ ibP x y := fun k => k.1 c1
    refine lv_iconst (v := 0) hx hb dX4_isBefore_27 (by decide) ?_
    exact ez hx hb hr hlk hS hP rfl (by first | exact f_fb no | exact t_fb yes) rfl (Nat.le_of_ble_eq_true rfl) (Nat.le_of_ble_eq_true rfl) dX4_isBefore_28
  · skip
    have nq : ¬ x = y := c1
    refine lv_iload_n hx hb dX4_isBefore_13 rfl (lv_at hl 1 rfl) ?_
    refine lv_iload_n hx hb dX4_isBefore_14 rfl (lv_at hl 2 rfl) ?_
    refine kiS (As := [.int x, .int y]) (rest := []) S (kX4_distance x y) (va_cwS 2 hts gX4_isBefore_X4_distance rfl rfl rfl hdX4_distance.2 ⟨Nat.le_of_ble_eq_true rfl, Nat.le_of_ble_eq_true rfl⟩) rfl rfl hE hP hS (frs hS) rfl hl.1 rfl (Nat.le_of_ble_eq_true rfl) dX4_isBefore_15 ⟨Nat.le_of_ble_eq_true rfl, Nat.le_of_ble_eq_true rfl⟩ (fun H locs hP _ _ hS => ?_)
    refine lv_bipush (v := 32) hx hb dX4_isBefore_18 (by decide) ?_
    refine lv_icmp_ge (tgt := 27) hx hb dX4_isBefore_20 (by decide) (fun c2 => ?_) (fun c2 => ?_)
    · skip
      have no : ¬ ibP x y := fun k => k.2 c2
      refine lv_iconst (v := 0) hx hb dX4_isBefore_27 (by decide) ?_
      exact ez hx hb hr hlk hS hP rfl (by first | exact f_fb no | exact t_fb yes) rfl (Nat.le_of_ble_eq_true rfl) (Nat.le_of_ble_eq_true rfl) dX4_isBefore_28
    · skip
      have yes : ibP x y := ⟨nq, c2⟩
      refine lv_iconst (v := 1) hx hb dX4_isBefore_23 (by decide) ?_
      refine lv_goto (tgt := 28) hx hb dX4_isBefore_24 (by decide) ?_
      exact ez hx hb hr hlk hS hP rfl (by first | exact f_fb no | exact t_fb yes) rfl (Nat.le_of_ble_eq_true rfl) (Nat.le_of_ble_eq_true rfl) dX4_isBefore_28
def rmX4_read0 : Room := { frames := 5, cells := 0, slots := 0, locals := 115 }
set_option maxHeartbeats 4000000 in
set_option maxRecDepth 100000 in
theorem kX4_read0 {l : Launch} {D : va_G} {K : Nat → ClassId} {L : Nat → Prop} {g : Nat → Nat} (hg : gd L g 29) (u : CU) (N : Nat) (hN : N ≤ 60) (hcn : c_cn u = nI N) (t k : Nat) (ht : t < N) (hk : k < 6) (hwb : wbP u (nI t)) (hky : kyP (nI k)) (hac : hasP (c_ac u) (nI t)) (hct : ctP u) : CI l yX4_read wsX4_read rmX4_read0 D K L [.ref (g 0), .int (nI t), .int (nI k)] (wC K g u) (wC K g u) (rdv u (spl u t k (nat (c_ct u k)))) := by
  refine CI.of (cc := cX4_read) (maxL := 4) (ret := (some .int)) (by decide +kernel) rfl (Nat.le_of_ble_eq_true rfl) ?_
  intro p e s m below meth c ls hen hP
  obtain ⟨hx, hb, hr, hts, hown, hlk, hml, hnm, hE, hl⟩ := hen
  have S : CallFix p m c cX4_read 4 s _ wsX4_read RX4 := ⟨hx, hb, hml, hown, hts⟩
  have hS : va_S (fr L s.heap.size) s.heap s.heap [] := va_S.rf
  have hl : lv_has ls 4 [(0, .ref (g 0)), (1, .int (nI t)), (2, .int (nI k))] := hl
  have i4 : ∀ w ∈ wsX40, w ∈ wsX4_read := fun _ h => List.mem_cons_of_mem _ (List.mem_append_left _ (List.mem_append_left _ (List.mem_append_left _ (List.mem_append_left _ (List.mem_append_left _ (List.mem_append_left _ (List.mem_append_right _ h)))))))
  have i1 : ∀ w ∈ wsX10, w ∈ wsX4_read := fun _ h => List.mem_cons_of_mem _ (List.mem_append_left _ (List.mem_append_left _ (List.mem_append_left _ (List.mem_append_left _ (List.mem_append_left _ (List.mem_append_right _ h))))))
  have i3 : ∀ w ∈ wsX30, w ∈ wsX4_read := fun _ h => List.mem_cons_of_mem _ (List.mem_append_left _ (List.mem_append_left _ (List.mem_append_left _ (List.mem_append_left _ (List.mem_append_right _ h)))))
  have i0 : ∀ w ∈ wsX00, w ∈ wsX4_read := fun _ h => List.mem_cons_of_mem _ (List.mem_append_left _ (List.mem_append_left _ (List.mem_append_left _ (List.mem_append_right _ h))))
  refine lv_aload_n hx hb dX4_read_0 rfl (lv_at hl 0 rfl) ?_
  refine lv_iload_n hx hb dX4_read_1 rfl (lv_at hl 1 rfl) ?_
  refine kvV (As := [.int (nI t)]) (rest := []) S (kX4_checkTransaction0 hg u (nI t) hwb) (cwV 1 hts gX4_read_X4_checkTransaction rfl rfl rfl hdX4_checkTransaction ⟨Nat.le_of_ble_eq_true rfl, Nat.le_of_ble_eq_true rfl⟩) rfl rfl 0 rfl rfl hE hP hS (frs hS) rfl hl.1 rfl (Nat.le_of_ble_eq_true rfl) dX4_read_2 ⟨Nat.le_of_ble_eq_true rfl, Nat.le_of_ble_eq_true rfl⟩ (fun H locs hP _ _ hS => ?_)
  refine lv_iload_n hx hb dX4_read_5 rfl (lv_at hl 2 rfl) ?_
  refine kvS (As := [.int (nI k)]) (rest := []) S (kX4_checkKey0 (nI k) hky) (va_cwS 1 hts gX4_read_X4_checkKey rfl rfl rfl hdX4_checkKey.2 ⟨Nat.le_of_ble_eq_true rfl, Nat.le_of_ble_eq_true rfl⟩) rfl rfl hE hP hS (frs hS) rfl hl.1 rfl (Nat.le_of_ble_eq_true rfl) dX4_read_6 ⟨Nat.le_of_ble_eq_true rfl, Nat.le_of_ble_eq_true rfl⟩ (fun H locs hP _ _ hS => ?_)
  refine lv_aload_n hx hb dX4_read_9 rfl (lv_at hl 0 rfl) ?_
  refine lv_iload_n hx hb dX4_read_10 rfl (lv_at hl 1 rfl) ?_
  refine kvV (As := [.int (nI t)]) (rest := []) S (kX4_checkActive0 hg u (nI t) hac) (cwV 1 hts gX4_read_X4_checkActive rfl rfl rfl hdX4_checkActive ⟨Nat.le_of_ble_eq_true rfl, Nat.le_of_ble_eq_true rfl⟩) rfl rfl 0 rfl rfl hE hP hS (frs hS) rfl hl.1 rfl (Nat.le_of_ble_eq_true rfl) dX4_read_11 ⟨Nat.le_of_ble_eq_true rfl, Nat.le_of_ble_eq_true rfl⟩ (fun H locs hP _ _ hS => ?_)
  refine lv_aload_n hx hb dX4_read_14 rfl (lv_at hl 0 rfl) ?_
  refine lv_iload_n hx hb dX4_read_15 rfl (lv_at hl 1 rfl) ?_
  refine lv_iload_n hx hb dX4_read_16 rfl (lv_at hl 2 rfl) ?_
  refine kiV (As := [.int (nI t), .int (nI k)]) (rest := []) S (kX4_seenPlace hg u t k (nat (c_ct u k)) (by omega) hk (hct k hk).1 (hct k hk).2) (cwV 2 hts gX4_read_X4_seenPlace rfl rfl rfl hdX4_seenPlace ⟨Nat.le_of_ble_eq_true rfl, Nat.le_of_ble_eq_true rfl⟩) rfl rfl 0 rfl rfl hE hP hS (frs hS) rfl hl.1 rfl (Nat.le_of_ble_eq_true rfl) dX4_read_17 ⟨Nat.le_of_ble_eq_true rfl, Nat.le_of_ble_eq_true rfl⟩ (fun H locs hP _ _ hS => ?_)
  generalize spl u t k (nat (c_ct u k)) = v
  refine lv_istore_n (lv' := [(3, .int v), (0, .ref (g 0)), (1, .int (nI t)), (2, .int (nI k))]) hx hb dX4_read_20 rfl hl (by decide) rfl (fun ls hl => ?_)
  refine lv_iload_n hx hb dX4_read_21 rfl (lv_at hl 0 rfl) ?_
  refine kiS (As := [.int v]) (rest := []) S (kX4_isPlace v) (va_cwS 1 hts gX4_read_X4_isPlace rfl rfl rfl hdX4_isPlace.2 ⟨Nat.le_of_ble_eq_true rfl, Nat.le_of_ble_eq_true rfl⟩) rfl rfl hE hP hS (frs hS) rfl hl.1 rfl (Nat.le_of_ble_eq_true rfl) dX4_read_22 ⟨Nat.le_of_ble_eq_true rfl, Nat.le_of_ble_eq_true rfl⟩ (fun H locs hP _ _ hS => ?_)
  refine bzeq (tgt := 40) hx hb dX4_read_25 (by decide) (fun c1 => ?_) (fun c1 => ?_)
  · skip
    refine lv_iconst (v := (-1)) hx hb dX4_read_40 (by decide) ?_
    exact ei hx hb hr hlk hS hP rfl (by first | exact (rdv_y hj).symm | exact (rdv_n c1).symm) (Nat.le_of_ble_eq_true rfl) (Nat.le_of_ble_eq_true rfl) dX4_read_41
  · skip
    obtain ⟨j, hj, ej⟩ := pl_at c1
    subst ej
    refine lv_aload_n hx hb dX4_read_28 rfl (lv_at hl 1 rfl) ?_
    refine gw4_slots S i4 hE hP (hts _ (List.mem_of_getElem? (i := 1) rfl)) dX4_read_29 ?_
    refine gw1_values S i1 hE hP (hts _ (List.mem_of_getElem? (i := 2) rfl)) dX4_read_32 ?_
    refine lv_iload_n hx hb dX4_read_35 rfl (lv_at hl 0 rfl) ?_
    refine lC_v S hE hP (f := c_v u) rfl (j := j) (by omega) rfl dX4_read_36 ?_
    refine lv_goto (tgt := 41) hx hb dX4_read_37 (by decide) ?_
    exact ei hx hb hr hlk hS hP rfl (by first | exact (rdv_y hj).symm | exact (rdv_n c1).symm) (Nat.le_of_ble_eq_true rfl) (Nat.le_of_ble_eq_true rfl) dX4_read_41
def rmX4_readPlain0 : Room := { frames := 3, cells := 0, slots := 0, locals := 64 }
set_option maxHeartbeats 4000000 in
set_option maxRecDepth 100000 in
theorem kX4_readPlain0 {l : Launch} {D : va_G} {K : Nat → ClassId} {L : Nat → Prop} {g : Nat → Nat} (hg : gd L g 29) (u : CU) (N : Nat) (hN : N ≤ 60) (hcn : c_cn u = nI N) (t k : Nat) (ht : t < N) (hk : k < 6) (hwb : wbP u (nI t)) (hky : kyP (nI k)) (hac : hasP (c_ac u) (nI t)) (T : Nat) (hT : T ≤ 512) (htc : c_tc u = nI T) : CI l yX4_readPlain wsX4_readPlain rmX4_readPlain0 D K L [.ref (g 0), .int (nI t), .int (nI k)] (wC K g u) (wC K g u) (rpw u t k 0 T) := by
  refine CI.of (cc := cX4_readPlain) (maxL := 4) (ret := (some .int)) (by decide +kernel) rfl (Nat.le_of_ble_eq_true rfl) ?_
  intro p e s m below meth c ls hen hP
  obtain ⟨hx, hb, hr, hts, hown, hlk, hml, hnm, hE, hl⟩ := hen
  have S : CallFix p m c cX4_readPlain 4 s _ wsX4_readPlain RX4 := ⟨hx, hb, hml, hown, hts⟩
  have hS : va_S (fr L s.heap.size) s.heap s.heap [] := va_S.rf
  have hl : lv_has ls 4 [(0, .ref (g 0)), (1, .int (nI t)), (2, .int (nI k))] := hl
  have i4 : ∀ w ∈ wsX40, w ∈ wsX4_readPlain := fun _ h => List.mem_cons_of_mem _ (List.mem_append_left _ (List.mem_append_left _ (List.mem_append_left _ (List.mem_append_left _ (List.mem_append_left _ (List.mem_append_right _ h))))))
  have i2 : ∀ w ∈ wsX20, w ∈ wsX4_readPlain := fun _ h => List.mem_cons_of_mem _ (List.mem_append_left _ (List.mem_append_left _ (List.mem_append_left _ (List.mem_append_left _ (List.mem_append_right _ h)))))
  have i3 : ∀ w ∈ wsX30, w ∈ wsX4_readPlain := fun _ h => List.mem_cons_of_mem _ (List.mem_append_left _ (List.mem_append_left _ (List.mem_append_left _ (List.mem_append_right _ h))))
  refine lv_aload_n hx hb dX4_readPlain_0 rfl (lv_at hl 0 rfl) ?_
  refine lv_iload_n hx hb dX4_readPlain_1 rfl (lv_at hl 1 rfl) ?_
  refine kvV (As := [.int (nI t)]) (rest := []) S (kX4_checkTransaction0 hg u (nI t) hwb) (cwV 1 hts gX4_readPlain_X4_checkTransaction rfl rfl rfl hdX4_checkTransaction ⟨Nat.le_of_ble_eq_true rfl, Nat.le_of_ble_eq_true rfl⟩) rfl rfl 0 rfl rfl hE hP hS (frs hS) rfl hl.1 rfl (Nat.le_of_ble_eq_true rfl) dX4_readPlain_2 ⟨Nat.le_of_ble_eq_true rfl, Nat.le_of_ble_eq_true rfl⟩ (fun H locs hP _ _ hS => ?_)
  refine lv_iload_n hx hb dX4_readPlain_5 rfl (lv_at hl 2 rfl) ?_
  refine kvS (As := [.int (nI k)]) (rest := []) S (kX4_checkKey0 (nI k) hky) (va_cwS 1 hts gX4_readPlain_X4_checkKey rfl rfl rfl hdX4_checkKey.2 ⟨Nat.le_of_ble_eq_true rfl, Nat.le_of_ble_eq_true rfl⟩) rfl rfl hE hP hS (frs hS) rfl hl.1 rfl (Nat.le_of_ble_eq_true rfl) dX4_readPlain_6 ⟨Nat.le_of_ble_eq_true rfl, Nat.le_of_ble_eq_true rfl⟩ (fun H locs hP _ _ hS => ?_)
  refine lv_aload_n hx hb dX4_readPlain_9 rfl (lv_at hl 0 rfl) ?_
  refine lv_iload_n hx hb dX4_readPlain_10 rfl (lv_at hl 1 rfl) ?_
  refine kvV (As := [.int (nI t)]) (rest := []) S (kX4_checkActive0 hg u (nI t) hac) (cwV 1 hts gX4_readPlain_X4_checkActive rfl rfl rfl hdX4_checkActive ⟨Nat.le_of_ble_eq_true rfl, Nat.le_of_ble_eq_true rfl⟩) rfl rfl 0 rfl rfl hE hP hS (frs hS) rfl hl.1 rfl (Nat.le_of_ble_eq_true rfl) dX4_readPlain_11 ⟨Nat.le_of_ble_eq_true rfl, Nat.le_of_ble_eq_true rfl⟩ (fun H locs hP _ _ hS => ?_)
  refine lv_iconst (v := 0) hx hb dX4_readPlain_14 (by decide) ?_
  refine lv_istore_n (lv' := [(3, .int 0), (0, .ref (g 0)), (1, .int (nI t)), (2, .int (nI k))]) hx hb dX4_readPlain_15 rfl hl (by decide) rfl (fun ls hl => ?_)
  have loop16 : ∀ (n16 : Nat) (i : Nat), (hi : i ≤ T) → (hr0 : rpw u t k 0 T = rpw u t k i (T - i)) → T - i < n16 → ∀ (H : Heap) (locs : List Loc), va_P D vwCl (wC K g u) H → va_S (fr L s.heap.size) s.heap H locs → ∀ (ls : Array Slot), lv_has ls 4 [(3, .int (nI i)), (0, .ref (g 0)), (1, .int (nI t)), (2, .int (nI k))] → W p l e rmX4_readPlain0 s m ([.ref (g 0), .int (nI t), .int (nI k)] : List Value).toArray below meth c H locs 0 0 (MQ below (va_Qi (fun (r9 : Int32) (_ : Unit) => r9 = rpw u t k 0 T) (fun _ t9 => va_P D vwCl (wC K g u) t9.heap) (fr L s.heap.size)) ([.ref (g 0), .int (nI t), .int (nI k)] : List Value).toArray s rmX4_readPlain0.cells rmX4_readPlain0.slots (fr L s.heap.size)) (F0 m 16 ls []) := by
    intro n16
    induction n16 with
    | zero =>
      intro i hi hr0 hn16
      exact absurd hn16 (Nat.not_lt_zero _)
    | succ n16 ih16 =>
      intro i hi hr0 hn16 H locs hP hS ls hl
      refine lv_iload_n hx hb dX4_readPlain_16 rfl (lv_at hl 0 rfl) ?_
      refine lv_aload_n hx hb dX4_readPlain_17 rfl (lv_at hl 1 rfl) ?_
      refine gw4_table S i4 hE hP (hts _ (List.mem_of_getElem? (i := 1) rfl)) dX4_readPlain_18 ?_
      refine gw2_count S i2 hE hP (f := c_tc u) rfl (hts _ (List.mem_of_getElem? (i := 2) rfl)) dX4_readPlain_21 ?_
      refine tpi (y := nI T) htc ?_
      refine lv_icmp_ge (tgt := 96) hx hb dX4_readPlain_24 (by decide) (fun c1 => ?_) (fun c1 => ?_)
      · skip
        have e9 : i = T := by have := nge_i (a := i) (b := T) (by omega) (by omega) c1; omega
        refine lv_iconst (v := (-1)) hx hb dX4_readPlain_96 (by decide) ?_
        exact ei hx hb hr hlk hS hP rfl (by rw [hr0, e9, Nat.sub_self]; rfl) (Nat.le_of_ble_eq_true rfl) (Nat.le_of_ble_eq_true rfl) dX4_readPlain_97
      · skip
        have hlt : i < T := nlt_i (a := i) (b := T) (by omega) (by omega) c1
        refine lv_aload_n hx hb dX4_readPlain_27 rfl (lv_at hl 1 rfl) ?_
        refine gw4_table S i4 hE hP (hts _ (List.mem_of_getElem? (i := 1) rfl)) dX4_readPlain_28 ?_
        refine gw2_keys S i2 hE hP (hts _ (List.mem_of_getElem? (i := 3) rfl)) dX4_readPlain_31 ?_
        refine lv_iload_n hx hb dX4_readPlain_34 rfl (lv_at hl 0 rfl) ?_
        refine lC_tk S hE hP (f := c_tk u) rfl (j := i) (by omega) rfl dX4_readPlain_35 ?_
        refine lv_iload_n hx hb dX4_readPlain_36 rfl (lv_at hl 3 rfl) ?_
        refine lv_icmp_ne (tgt := 90) hx hb dX4_readPlain_37 (by decide) (fun c2 => ?_) (fun c2 => ?_)
        · skip
          have no : ¬ rwP u t k i := fun z => c2 z.1
          refine lv_iinc (v := nI (i + 1)) (lv' := [(3, .int (nI (i + 1))), (0, .ref (g 0)), (1, .int (nI t)), (2, .int (nI k))]) hx hb dX4_readPlain_90 hl (k := 0) rfl (nI_1 i) (by decide) rfl (fun ls hl => ?_)
          refine lv_goto (tgt := 16) hx hb dX4_readPlain_93 (by decide) ?_
          exact ih16 (i + 1) (by omega) (by rw [hr0, show T - i = (T - (i + 1)) + 1 by omega]; exact rpw_n no) (by omega) _ _ hP hS ls (lv_sub hl [0, 1, 2, 3] rfl)
        · skip
          have z1 : c_tk u i = nI k := c2
          refine lv_aload_n hx hb dX4_readPlain_40 rfl (lv_at hl 1 rfl) ?_
          refine gw4_transactions S i4 hE hP (hts _ (List.mem_of_getElem? (i := 4) rfl)) dX4_readPlain_41 ?_
          refine lv_iload_n hx hb dX4_readPlain_44 rfl (lv_at hl 2 rfl) ?_
          refine lv_aload_n hx hb dX4_readPlain_45 rfl (lv_at hl 1 rfl) ?_
          refine gw4_table S i4 hE hP (hts _ (List.mem_of_getElem? (i := 1) rfl)) dX4_readPlain_46 ?_
          refine gw2_births S i2 hE hP (hts _ (List.mem_of_getElem? (i := 5) rfl)) dX4_readPlain_49 ?_
          refine lv_iload_n hx hb dX4_readPlain_52 rfl (lv_at hl 0 rfl) ?_
          refine lC_tb S hE hP (f := c_tb u) rfl (j := i) (by omega) rfl dX4_readPlain_53 ?_
          refine kiV (As := [.int (nI t), .int (c_tb u i)]) (rest := []) S (kX3_knows hg u t (c_tb u i) (by omega)) (cwV 2 hts gX4_readPlain_X3_knows rfl rfl rfl hdX3_knows ⟨Nat.le_of_ble_eq_true rfl, Nat.le_of_ble_eq_true rfl⟩) rfl rfl 1 rfl rfl hE hP hS (frs hS) rfl hl.1 rfl (Nat.le_of_ble_eq_true rfl) dX4_readPlain_54 ⟨Nat.le_of_ble_eq_true rfl, Nat.le_of_ble_eq_true rfl⟩ (fun H locs hP _ _ hS => ?_)
          refine bzeq (tgt := 90) hx hb dX4_readPlain_57 (by decide) (fun c3 => ?_) (fun c3 => ?_)
          · skip
            have no : ¬ rwP u t k i := fun z => c3 z.2.1
            refine lv_iinc (v := nI (i + 1)) (lv' := [(3, .int (nI (i + 1))), (0, .ref (g 0)), (1, .int (nI t)), (2, .int (nI k))]) hx hb dX4_readPlain_90 hl (k := 0) rfl (nI_1 i) (by decide) rfl (fun ls hl => ?_)
            refine lv_goto (tgt := 16) hx hb dX4_readPlain_93 (by decide) ?_
            exact ih16 (i + 1) (by omega) (by rw [hr0, show T - i = (T - (i + 1)) + 1 by omega]; exact rpw_n no) (by omega) _ _ hP hS ls (lv_sub hl [0, 1, 2, 3] rfl)
          · skip
            have z2 : knP u t (c_tb u i) := c3
            refine lv_aload_n hx hb dX4_readPlain_60 rfl (lv_at hl 1 rfl) ?_
            refine gw4_transactions S i4 hE hP (hts _ (List.mem_of_getElem? (i := 4) rfl)) dX4_readPlain_61 ?_
            refine lv_iload_n hx hb dX4_readPlain_64 rfl (lv_at hl 2 rfl) ?_
            refine lv_aload_n hx hb dX4_readPlain_65 rfl (lv_at hl 1 rfl) ?_
            refine gw4_table S i4 hE hP (hts _ (List.mem_of_getElem? (i := 1) rfl)) dX4_readPlain_66 ?_
            refine gw2_deaths S i2 hE hP (hts _ (List.mem_of_getElem? (i := 6) rfl)) dX4_readPlain_69 ?_
            refine lv_iload_n hx hb dX4_readPlain_72 rfl (lv_at hl 0 rfl) ?_
            refine lC_td S hE hP (f := c_td u) rfl (j := i) (by omega) rfl dX4_readPlain_73 ?_
            refine kiV (As := [.int (nI t), .int (c_td u i)]) (rest := []) S (kX3_knows hg u t (c_td u i) (by omega)) (cwV 2 hts gX4_readPlain_X3_knows rfl rfl rfl hdX3_knows ⟨Nat.le_of_ble_eq_true rfl, Nat.le_of_ble_eq_true rfl⟩) rfl rfl 1 rfl rfl hE hP hS (frs hS) rfl hl.1 rfl (Nat.le_of_ble_eq_true rfl) dX4_readPlain_74 ⟨Nat.le_of_ble_eq_true rfl, Nat.le_of_ble_eq_true rfl⟩ (fun H locs hP _ _ hS => ?_)
            refine bzne (tgt := 90) hx hb dX4_readPlain_77 (by decide) (fun c4 => ?_) (fun c4 => ?_)
            · skip
              have no : ¬ rwP u t k i := fun z => z.2.2 c4
              refine lv_iinc (v := nI (i + 1)) (lv' := [(3, .int (nI (i + 1))), (0, .ref (g 0)), (1, .int (nI t)), (2, .int (nI k))]) hx hb dX4_readPlain_90 hl (k := 0) rfl (nI_1 i) (by decide) rfl (fun ls hl => ?_)
              refine lv_goto (tgt := 16) hx hb dX4_readPlain_93 (by decide) ?_
              exact ih16 (i + 1) (by omega) (by rw [hr0, show T - i = (T - (i + 1)) + 1 by omega]; exact rpw_n no) (by omega) _ _ hP hS ls (lv_sub hl [0, 1, 2, 3] rfl)
            · skip
              have yes : rwP u t k i := ⟨z1, z2, c4⟩
              refine lv_aload_n hx hb dX4_readPlain_80 rfl (lv_at hl 1 rfl) ?_
              refine gw4_table S i4 hE hP (hts _ (List.mem_of_getElem? (i := 1) rfl)) dX4_readPlain_81 ?_
              refine gw2_values S i2 hE hP (hts _ (List.mem_of_getElem? (i := 7) rfl)) dX4_readPlain_84 ?_
              refine lv_iload_n hx hb dX4_readPlain_87 rfl (lv_at hl 0 rfl) ?_
              refine lC_tv S hE hP (f := c_tv u) rfl (j := i) (by omega) rfl dX4_readPlain_88 ?_
              exact ei hx hb hr hlk hS hP rfl (by rw [hr0, show T - i = (T - (i + 1)) + 1 by omega]; exact (rpw_y yes).symm) (Nat.le_of_ble_eq_true rfl) (Nat.le_of_ble_eq_true rfl) dX4_readPlain_89
  exact loop16 _ 0 (by omega) rfl (Nat.lt_succ_self _) _ _ hP hS ls (lv_sub hl [0, 1, 2, 3] rfl)
def rmX4_setFreezing0 : Room := { frames := 0, cells := 0, slots := 0, locals := 0 }
set_option maxHeartbeats 4000000 in
set_option maxRecDepth 100000 in
theorem kX4_setFreezing0 {l : Launch} {D : va_G} {K : Nat → ClassId} {L : Nat → Prop} {g : Nat → Nat} (hg : gd L g 29) (u : CU) (x : Int32) (hw : fzR x) : CI l yX4_setFreezing wsX4_setFreezing rmX4_setFreezing0 D K L [.ref (g 0), .int x] (wC K g u) (wC K g (s_fz u x)) (c_fz u) := by
  refine CI.of (cc := cX4_setFreezing) (maxL := 3) (ret := (some .int)) (by decide +kernel) rfl (Nat.le_of_ble_eq_true rfl) ?_
  intro p e s m below meth c ls hen hP
  obtain ⟨hx, hb, hr, hts, hown, hlk, hml, hnm, hE, hl⟩ := hen
  have S : CallFix p m c cX4_setFreezing 3 s _ wsX4_setFreezing RX4 := ⟨hx, hb, hml, hown, hts⟩
  have hS : va_S (fr L s.heap.size) s.heap s.heap [] := va_S.rf
  have hl : lv_has ls 3 [(0, .ref (g 0)), (1, .int x)] := hl
  have i4 : ∀ w ∈ wsX40, w ∈ wsX4_setFreezing := fun _ h => List.mem_cons_of_mem _ (List.mem_append_left _ (List.mem_append_right _ h))
  refine lv_iload_n hx hb dX4_setFreezing_0 rfl (lv_at hl 1 rfl) ?_
  refine lv_iconst (v := 1) hx hb dX4_setFreezing_1 (by decide) ?_
  refine lv_icmp_lt (tgt := 11) hx hb dX4_setFreezing_2 (by decide) (fun c1 => ?_) (fun c1 => ?_)
  · skip
    have no : ¬ fzR x := fun k => k.1 c1
    exact absurd hw no
  · skip
    refine lv_iload_n hx hb dX4_setFreezing_5 rfl (lv_at hl 1 rfl) ?_
    refine lv_bipush (v := 27) hx hb dX4_setFreezing_6 (by decide) ?_
    refine lv_icmp_le (tgt := 21) hx hb dX4_setFreezing_8 (by decide) (fun c2 => ?_) (fun c2 => ?_)
    · skip
      have yes : fzR x := ⟨c1, c2⟩
      refine lv_aload_n hx hb dX4_setFreezing_21 rfl (lv_at hl 0 rfl) ?_
      refine gw4_freezingAge S i4 hE hP (f := c_fz u) rfl (hts _ (List.mem_of_getElem? (i := 3) rfl)) dX4_setFreezing_22 ?_
      refine lv_istore_n (lv' := [(2, .int (c_fz u)), (0, .ref (g 0)), (1, .int x)]) hx hb dX4_setFreezing_25 rfl hl (by decide) rfl (fun ls hl => ?_)
      refine lv_aload_n hx hb dX4_setFreezing_26 rfl (lv_at hl 1 rfl) ?_
      refine lv_iload_n hx hb dX4_setFreezing_27 rfl (lv_at hl 2 rfl) ?_
      refine pw4_freezingAge S i4 hE hP hg hS (hts _ (List.mem_of_getElem? (i := 3) rfl)) dX4_setFreezing_28 (fun H locs hP hS => ?_)
      refine lv_iload_n hx hb dX4_setFreezing_31 rfl (lv_at hl 0 rfl) ?_
      exact ei hx hb hr hlk hS hP rfl (by rfl) (Nat.le_of_ble_eq_true rfl) (Nat.le_of_ble_eq_true rfl) dX4_setFreezing_32
    · skip
      have no : ¬ fzR x := fun k => c2 k.2
      exact absurd hw no
def rmX4_isMapped0 : Room := { frames := 1, cells := 0, slots := 0, locals := 20 }
set_option maxHeartbeats 4000000 in
set_option maxRecDepth 100000 in
theorem kX4_isMapped0 {l : Launch} {D : va_G} {K : Nat → ClassId} {L : Nat → Prop} {g : Nat → Nat} (hg : gd L g 29) (u : CU) (a : Nat) (ha : a < 4) (hpg : pgP (nI a)) (hmp : c_mp u a = 0 ∨ c_mp u a = 1) : CI l yX4_isMapped wsX4_isMapped rmX4_isMapped0 D K L [.ref (g 0), .int (nI a)] (wC K g u) (wC K g u) (c_mp u a) := by
  refine CI.of (cc := cX4_isMapped) (maxL := 2) (ret := (some .boolean)) (by decide +kernel) rfl (Nat.le_of_ble_eq_true rfl) ?_
  intro p e s m below meth c ls hen hP
  obtain ⟨hx, hb, hr, hts, hown, hlk, hml, hnm, hE, hl⟩ := hen
  have S : CallFix p m c cX4_isMapped 2 s _ wsX4_isMapped RX4 := ⟨hx, hb, hml, hown, hts⟩
  have hS : va_S (fr L s.heap.size) s.heap s.heap [] := va_S.rf
  have hl : lv_has ls 2 [(0, .ref (g 0)), (1, .int (nI a))] := hl
  have i4 : ∀ w ∈ wsX40, w ∈ wsX4_isMapped := fun _ h => List.mem_cons_of_mem _ (List.mem_append_left _ (List.mem_append_right _ h))
  refine lv_iload_n hx hb dX4_isMapped_0 rfl (lv_at hl 1 rfl) ?_
  refine kvS (As := [.int (nI a)]) (rest := []) S (kX4_checkPage0 (nI a) hpg) (va_cwS 1 hts gX4_isMapped_X4_checkPage rfl rfl rfl hdX4_checkPage.2 ⟨Nat.le_of_ble_eq_true rfl, Nat.le_of_ble_eq_true rfl⟩) rfl rfl hE hP hS (frs hS) rfl hl.1 rfl (Nat.le_of_ble_eq_true rfl) dX4_isMapped_1 ⟨Nat.le_of_ble_eq_true rfl, Nat.le_of_ble_eq_true rfl⟩ (fun H locs hP _ _ hS => ?_)
  refine lv_aload_n hx hb dX4_isMapped_4 rfl (lv_at hl 0 rfl) ?_
  refine gw4_mapped S i4 hE hP (hts _ (List.mem_of_getElem? (i := 1) rfl)) dX4_isMapped_5 ?_
  refine lv_iload_n hx hb dX4_isMapped_8 rfl (lv_at hl 1 rfl) ?_
  refine lC_mp S hE hP (f := c_mp u) rfl (j := a) (by omega) rfl dX4_isMapped_9 ?_
  exact ez hx hb hr hlk hS hP rfl (by rfl) (by rcases hmp with h | h <;> rw [h] <;> rfl) (Nat.le_of_ble_eq_true rfl) (Nat.le_of_ble_eq_true rfl) dX4_isMapped_10
def rmX4_isWhole0 : Room := { frames := 3, cells := 0, slots := 0, locals := 66 }
set_option maxHeartbeats 4000000 in
set_option maxRecDepth 100000 in
theorem kX4_isWhole0 {l : Launch} {D : va_G} {K : Nat → ClassId} {L : Nat → Prop} {g : Nat → Nat} (hg : gd L g 29) (u : CU) (a : Nat) (ha : a < 4) (hpg : pgP (nI a)) (N : Nat) (hN : N ≤ 60) (hcn : c_cn u = nI N) : CI l yX4_isWhole wsX4_isWhole rmX4_isWhole0 D K L [.ref (g 0), .int (nI a)] (wC K g u) (wC K g u) (fb (whP u a (stl u N))) := by
  refine CI.of (cc := cX4_isWhole) (maxL := 5) (ret := (some .boolean)) (by decide +kernel) rfl (Nat.le_of_ble_eq_true rfl) ?_
  intro p e s m below meth c ls hen hP
  obtain ⟨hx, hb, hr, hts, hown, hlk, hml, hnm, hE, hl⟩ := hen
  have S : CallFix p m c cX4_isWhole 5 s _ wsX4_isWhole RX4 := ⟨hx, hb, hml, hown, hts⟩
  have hS : va_S (fr L s.heap.size) s.heap s.heap [] := va_S.rf
  have hl : lv_has ls 5 [(0, .ref (g 0)), (1, .int (nI a))] := hl
  have i4 : ∀ w ∈ wsX40, w ∈ wsX4_isWhole := fun _ h => List.mem_cons_of_mem _ (List.mem_append_left _ (List.mem_append_left _ (List.mem_append_left _ (List.mem_append_right _ h))))
  have i3 : ∀ w ∈ wsX30, w ∈ wsX4_isWhole := fun _ h => List.mem_cons_of_mem _ (List.mem_append_left _ (List.mem_append_left _ (List.mem_append_right _ h)))
  have i1 : ∀ w ∈ wsX10, w ∈ wsX4_isWhole := fun _ h => List.mem_cons_of_mem _ (List.mem_append_left _ (List.mem_append_right _ h))
  refine lv_iload_n hx hb dX4_isWhole_0 rfl (lv_at hl 1 rfl) ?_
  refine kvS (As := [.int (nI a)]) (rest := []) S (kX4_checkPage0 (nI a) hpg) (va_cwS 1 hts gX4_isWhole_X4_checkPage rfl rfl rfl hdX4_checkPage.2 ⟨Nat.le_of_ble_eq_true rfl, Nat.le_of_ble_eq_true rfl⟩) rfl rfl hE hP hS (frs hS) rfl hl.1 rfl (Nat.le_of_ble_eq_true rfl) dX4_isWhole_1 ⟨Nat.le_of_ble_eq_true rfl, Nat.le_of_ble_eq_true rfl⟩ (fun H locs hP _ _ hS => ?_)
  refine lv_aload_n hx hb dX4_isWhole_4 rfl (lv_at hl 0 rfl) ?_
  refine gw4_transactions S i4 hE hP (hts _ (List.mem_of_getElem? (i := 1) rfl)) dX4_isWhole_5 ?_
  refine klV (As := []) (rest := []) S (kX3_settled hg u N (by omega) hcn) (cwV 0 hts gX4_isWhole_X3_settled rfl rfl rfl hdX3_settled ⟨Nat.le_of_ble_eq_true rfl, Nat.le_of_ble_eq_true rfl⟩) rfl rfl 1 rfl rfl hE hP hS (frs hS) rfl hl.1 rfl (Nat.le_of_ble_eq_true rfl) dX4_isWhole_8 ⟨Nat.le_of_ble_eq_true rfl, Nat.le_of_ble_eq_true rfl⟩ (fun H locs hP _ _ hS => ?_)
  refine lv_lstore_n (lv' := [(2, .long (stl u N)), (0, .ref (g 0)), (1, .int (nI a))]) hx hb dX4_isWhole_11 rfl hl (by decide) rfl (fun ls hl => ?_)
  refine lv_iload_n hx hb dX4_isWhole_12 rfl (lv_at hl 2 rfl) ?_
  refine kiS (As := [.int (nI a)]) (rest := []) S (kX4_firstOf a) (va_cwS 1 hts gX4_isWhole_X4_firstOf rfl rfl rfl hdX4_firstOf.2 ⟨Nat.le_of_ble_eq_true rfl, Nat.le_of_ble_eq_true rfl⟩) rfl rfl hE hP hS (frs hS) rfl hl.1 rfl (Nat.le_of_ble_eq_true rfl) dX4_isWhole_13 ⟨Nat.le_of_ble_eq_true rfl, Nat.le_of_ble_eq_true rfl⟩ (fun H locs hP _ _ hS => ?_)
  refine lv_istore (lv' := [(4, .int (nI (a * 8))), (2, .long (stl u N)), (0, .ref (g 0)), (1, .int (nI a))]) hx hb dX4_isWhole_16 hl (by decide) rfl (fun ls hl => ?_)
  have loop18 : ∀ (n18 : Nat) (i : Nat), (hi1 : a * 8 ≤ i) → (hi : i ≤ a * 8 + 8) → (hw : ∀ j, a * 8 ≤ j → j < i → usP u j → sbP u j (stl u N)) → a * 8 + 8 - i < n18 → ∀ (H : Heap) (locs : List Loc), va_P D vwCl (wC K g u) H → va_S (fr L s.heap.size) s.heap H locs → ∀ (ls : Array Slot), lv_has ls 5 [(4, .int (nI i)), (2, .long (stl u N)), (0, .ref (g 0)), (1, .int (nI a))] → W p l e rmX4_isWhole0 s m ([.ref (g 0), .int (nI a)] : List Value).toArray below meth c H locs 0 0 (MQ below (va_Qi (fun (r9 : Int32) (_ : Unit) => r9 = fb (whP u a (stl u N))) (fun _ t9 => va_P D vwCl (wC K g u) t9.heap) (fr L s.heap.size)) ([.ref (g 0), .int (nI a)] : List Value).toArray s rmX4_isWhole0.cells rmX4_isWhole0.slots (fr L s.heap.size)) (F0 m 18 ls []) := by
    intro n18
    induction n18 with
    | zero =>
      intro i hi1 hi hw hn18
      exact absurd hn18 (Nat.not_lt_zero _)
    | succ n18 ih18 =>
      intro i hi1 hi hw hn18 H locs hP hS ls hl
      refine lv_iload hx hb dX4_isWhole_18 (lv_at hl 0 rfl) ?_
      refine lv_iload_n hx hb dX4_isWhole_20 rfl (lv_at hl 3 rfl) ?_
      refine kiS (As := [.int (nI a)]) (rest := [.int (nI i)]) S (kX4_firstOf a) (va_cwS 1 hts gX4_isWhole_X4_firstOf rfl rfl rfl hdX4_firstOf.2 ⟨Nat.le_of_ble_eq_true rfl, Nat.le_of_ble_eq_true rfl⟩) rfl rfl hE hP hS (frs hS) rfl hl.1 rfl (Nat.le_of_ble_eq_true rfl) dX4_isWhole_21 ⟨Nat.le_of_ble_eq_true rfl, Nat.le_of_ble_eq_true rfl⟩ (fun H locs hP _ _ hS => ?_)
      refine lv_bipush (v := 8) hx hb dX4_isWhole_24 (by decide) ?_
      refine lv_iadd hx hb dX4_isWhole_26 ?_
      refine tpi (y := nI (a * 8 + 8)) (nI_add (a * 8) 8) ?_
      refine lv_icmp_ge (tgt := 60) hx hb dX4_isWhole_27 (by decide) (fun c1 => ?_) (fun c1 => ?_)
      · skip
        have yes : whP u a (stl u N) := fun j h1 h2 h3 => hw j h1 (by have := nge_i (a := i) (b := a * 8 + 8) (by omega) (by omega) c1; omega) h3
        refine lv_iconst (v := 1) hx hb dX4_isWhole_60 (by decide) ?_
        exact ez hx hb hr hlk hS hP rfl (by first | exact f_fb no | exact t_fb yes) rfl (Nat.le_of_ble_eq_true rfl) (Nat.le_of_ble_eq_true rfl) dX4_isWhole_61
      · skip
        have hlt : i < a * 8 + 8 := nlt_i (a := i) (b := a * 8 + 8) (by omega) (by omega) c1
        refine lv_aload_n hx hb dX4_isWhole_30 rfl (lv_at hl 2 rfl) ?_
        refine gw4_slots S i4 hE hP (hts _ (List.mem_of_getElem? (i := 2) rfl)) dX4_isWhole_31 ?_
        refine lv_iload hx hb dX4_isWhole_34 (lv_at hl 0 rfl) ?_
        refine kiV (As := [.int (nI i)]) (rest := []) S (kX1_isUsed hg u i (by omega)) (cwV 1 hts gX4_isWhole_X1_isUsed rfl rfl rfl hdX1_isUsed ⟨Nat.le_of_ble_eq_true rfl, Nat.le_of_ble_eq_true rfl⟩) rfl rfl 2 rfl rfl hE hP hS (frs hS) rfl hl.1 rfl (Nat.le_of_ble_eq_true rfl) dX4_isWhole_36 ⟨Nat.le_of_ble_eq_true rfl, Nat.le_of_ble_eq_true rfl⟩ (fun H locs hP _ _ hS => ?_)
        refine bzeq (tgt := 54) hx hb dX4_isWhole_39 (by decide) (fun c2 => ?_) (fun c2 => ?_)
        · skip
          have ok : usP u i → sbP u i (stl u N) := fun k => absurd k c2
          refine lv_iinc (v := nI (i + 1)) (lv' := [(4, .int (nI (i + 1))), (2, .long (stl u N)), (0, .ref (g 0)), (1, .int (nI a))]) hx hb dX4_isWhole_54 hl (k := 0) rfl (nI_1 i) (by decide) rfl (fun ls hl => ?_)
          refine lv_goto (tgt := 18) hx hb dX4_isWhole_57 (by decide) ?_
          exact ih18 (i + 1) (by omega) (by omega) (fun j h1 h2 h3 => by
                      by_cases ej : j = i
                      · subst ej; exact ok h3
                      · exact hw j h1 (by omega) h3) (by omega) _ _ hP hS ls (lv_sub hl [0, 1, 2, 3] rfl)
        · skip
          have us : usP u i := c2
          refine lv_aload_n hx hb dX4_isWhole_42 rfl (lv_at hl 2 rfl) ?_
          refine lv_iload hx hb dX4_isWhole_43 (lv_at hl 0 rfl) ?_
          refine lv_lload_n hx hb dX4_isWhole_45 rfl (lv_at hl 1 rfl) ?_
          refine kiV (As := [.int (nI i), .long (stl u N)]) (rest := []) S (kX4_isSeenByAll hg u i (stl u N) (by omega)) (cwV 2 hts gX4_isWhole_X4_isSeenByAll rfl rfl rfl hdX4_isSeenByAll ⟨Nat.le_of_ble_eq_true rfl, Nat.le_of_ble_eq_true rfl⟩) rfl rfl 0 rfl rfl hE hP hS (frs hS) rfl hl.1 rfl (Nat.le_of_ble_eq_true rfl) dX4_isWhole_46 ⟨Nat.le_of_ble_eq_true rfl, Nat.le_of_ble_eq_true rfl⟩ (fun H locs hP _ _ hS => ?_)
          refine bzne (tgt := 54) hx hb dX4_isWhole_49 (by decide) (fun c3 => ?_) (fun c3 => ?_)
          · skip
            have ok : usP u i → sbP u i (stl u N) := fun _ => c3
            refine lv_iinc (v := nI (i + 1)) (lv' := [(4, .int (nI (i + 1))), (2, .long (stl u N)), (0, .ref (g 0)), (1, .int (nI a))]) hx hb dX4_isWhole_54 hl (k := 0) rfl (nI_1 i) (by decide) rfl (fun ls hl => ?_)
            refine lv_goto (tgt := 18) hx hb dX4_isWhole_57 (by decide) ?_
            exact ih18 (i + 1) (by omega) (by omega) (fun j h1 h2 h3 => by
                      by_cases ej : j = i
                      · subst ej; exact ok h3
                      · exact hw j h1 (by omega) h3) (by omega) _ _ hP hS ls (lv_sub hl [0, 1, 2, 3] rfl)
          · skip
            have no : ¬ whP u a (stl u N) := fun k => c3 (k i hi1 hlt us)
            refine lv_iconst (v := 0) hx hb dX4_isWhole_52 (by decide) ?_
            exact ez hx hb hr hlk hS hP rfl (by first | exact f_fb no | exact t_fb yes) rfl (Nat.le_of_ble_eq_true rfl) (Nat.le_of_ble_eq_true rfl) dX4_isWhole_53
  exact loop18 _ (a * 8) (by omega) (by omega) (fun j h1 h2 => absurd h2 (by omega)) (Nat.lt_succ_self _) _ _ hP hS ls (lv_sub hl [0, 1, 2, 3] rfl)
def rmX4_slot0 : Room := { frames := 1, cells := 0, slots := 0, locals := 21 }
set_option maxHeartbeats 4000000 in
set_option maxRecDepth 100000 in
theorem kX4_slot0 {l : Launch} {D : va_G} {K : Nat → ClassId} {L : Nat → Prop} {g : Nat → Nat} (hg : gd L g 29) (u : CU) (a : Nat) (ha : a < 4) (hpg : pgP (nI a)) (b : Nat) (hb9 : b < 8) (hsl : slP (nI b)) : CI l yX4_slot wsX4_slot rmX4_slot0 D K L [.ref (g 0), .int (nI a), .int (nI b)] (wC K g u) (wC K g u) (slv u (a * 8 + b)) := by
  refine CI.of (cc := cX4_slot) (maxL := 5) (ret := (some .int)) (by decide +kernel) rfl (Nat.le_of_ble_eq_true rfl) ?_
  intro p e s m below meth c ls hen hP
  obtain ⟨hx, hb, hr, hts, hown, hlk, hml, hnm, hE, hl⟩ := hen
  have S : CallFix p m c cX4_slot 5 s _ wsX4_slot RX4 := ⟨hx, hb, hml, hown, hts⟩
  have hS : va_S (fr L s.heap.size) s.heap s.heap [] := va_S.rf
  have hl : lv_has ls 5 [(0, .ref (g 0)), (1, .int (nI a)), (2, .int (nI b))] := hl
  have i4 : ∀ w ∈ wsX40, w ∈ wsX4_slot := fun _ h => List.mem_cons_of_mem _ (List.mem_append_left _ (List.mem_append_left _ (List.mem_append_right _ h)))
  have i1 : ∀ w ∈ wsX10, w ∈ wsX4_slot := fun _ h => List.mem_cons_of_mem _ (List.mem_append_left _ (List.mem_append_right _ h))
  have hq : a * 8 + b < 32 := by omega
  refine lv_iload_n hx hb dX4_slot_0 rfl (lv_at hl 1 rfl) ?_
  refine kvS (As := [.int (nI a)]) (rest := []) S (kX4_checkPage0 (nI a) hpg) (va_cwS 1 hts gX4_slot_X4_checkPage rfl rfl rfl hdX4_checkPage.2 ⟨Nat.le_of_ble_eq_true rfl, Nat.le_of_ble_eq_true rfl⟩) rfl rfl hE hP hS (frs hS) rfl hl.1 rfl (Nat.le_of_ble_eq_true rfl) dX4_slot_1 ⟨Nat.le_of_ble_eq_true rfl, Nat.le_of_ble_eq_true rfl⟩ (fun H locs hP _ _ hS => ?_)
  refine lv_iload_n hx hb dX4_slot_4 rfl (lv_at hl 2 rfl) ?_
  refine kvS (As := [.int (nI b)]) (rest := []) S (kX4_checkSlot0 (nI b) hsl) (va_cwS 1 hts gX4_slot_X4_checkSlot rfl rfl rfl hdX4_checkSlot.2 ⟨Nat.le_of_ble_eq_true rfl, Nat.le_of_ble_eq_true rfl⟩) rfl rfl hE hP hS (frs hS) rfl hl.1 rfl (Nat.le_of_ble_eq_true rfl) dX4_slot_5 ⟨Nat.le_of_ble_eq_true rfl, Nat.le_of_ble_eq_true rfl⟩ (fun H locs hP _ _ hS => ?_)
  refine lv_iload_n hx hb dX4_slot_8 rfl (lv_at hl 1 rfl) ?_
  refine kiS (As := [.int (nI a)]) (rest := []) S (kX4_firstOf a) (va_cwS 1 hts gX4_slot_X4_firstOf rfl rfl rfl hdX4_firstOf.2 ⟨Nat.le_of_ble_eq_true rfl, Nat.le_of_ble_eq_true rfl⟩) rfl rfl hE hP hS (frs hS) rfl hl.1 rfl (Nat.le_of_ble_eq_true rfl) dX4_slot_9 ⟨Nat.le_of_ble_eq_true rfl, Nat.le_of_ble_eq_true rfl⟩ (fun H locs hP _ _ hS => ?_)
  refine lv_iload_n hx hb dX4_slot_12 rfl (lv_at hl 2 rfl) ?_
  refine lv_iadd hx hb dX4_slot_13 ?_
  refine tpi (y := nI (a * 8 + b)) (nI_add (a * 8) b) ?_
  refine lv_istore_n (lv' := [(3, .int (nI (a * 8 + b))), (0, .ref (g 0)), (1, .int (nI a)), (2, .int (nI b))]) hx hb dX4_slot_14 rfl hl (by decide) rfl (fun ls hl => ?_)
  refine lv_aload_n hx hb dX4_slot_15 rfl (lv_at hl 1 rfl) ?_
  refine gw4_slots S i4 hE hP (hts _ (List.mem_of_getElem? (i := 1) rfl)) dX4_slot_16 ?_
  refine lv_iload_n hx hb dX4_slot_19 rfl (lv_at hl 0 rfl) ?_
  refine kiV (As := [.int (nI (a * 8 + b))]) (rest := []) S (kX1_isUsed hg u (a * 8 + b) (by omega)) (cwV 1 hts gX4_slot_X1_isUsed rfl rfl rfl hdX1_isUsed ⟨Nat.le_of_ble_eq_true rfl, Nat.le_of_ble_eq_true rfl⟩) rfl rfl 2 rfl rfl hE hP hS (frs hS) rfl hl.1 rfl (Nat.le_of_ble_eq_true rfl) dX4_slot_20 ⟨Nat.le_of_ble_eq_true rfl, Nat.le_of_ble_eq_true rfl⟩ (fun H locs hP _ _ hS => ?_)
  refine bzne (tgt := 28) hx hb dX4_slot_23 (by decide) (fun c1 => ?_) (fun c1 => ?_)
  · skip
    have e0 : slv u (a * 8 + b) = sl3 u (a * 8 + b) (sl2 u (a * 8 + b) (sl1 u (a * 8 + b))) := by unfold slv; exact if_pos c1
    refine lv_aload_n hx hb dX4_slot_28 rfl (lv_at hl 1 rfl) ?_
    refine gw4_slots S i4 hE hP (hts _ (List.mem_of_getElem? (i := 1) rfl)) dX4_slot_29 ?_
    refine gw1_keys S i1 hE hP (hts _ (List.mem_of_getElem? (i := 2) rfl)) dX4_slot_32 ?_
    refine lv_iload_n hx hb dX4_slot_35 rfl (lv_at hl 0 rfl) ?_
    refine lC_k S hE hP (f := c_k u) rfl (j := (a * 8 + b)) (by omega) rfl dX4_slot_36 ?_
    refine lv_istore (lv' := [(4, .int (c_k u (a * 8 + b))), (3, .int (nI (a * 8 + b))), (0, .ref (g 0)), (1, .int (nI a)), (2, .int (nI b))]) hx hb dX4_slot_37 hl (by decide) rfl (fun ls hl => ?_)
    refine lv_aload_n hx hb dX4_slot_39 rfl (lv_at hl 2 rfl) ?_
    refine gw4_slots S i4 hE hP (hts _ (List.mem_of_getElem? (i := 1) rfl)) dX4_slot_40 ?_
    refine gw1_frozen S i1 hE hP (hts _ (List.mem_of_getElem? (i := 3) rfl)) dX4_slot_43 ?_
    refine lv_iload_n hx hb dX4_slot_46 rfl (lv_at hl 1 rfl) ?_
    refine lC_f S hE hP (f := c_f u) rfl (j := (a * 8 + b)) (by omega) rfl dX4_slot_47 ?_
    refine lv_if_eq (tgt := 54) hx hb dX4_slot_48 (by decide) (fun c2 => ?_) (fun c2 => ?_)
    · skip
      have e1 : sl1 u (a * 8 + b) = c_k u (a * 8 + b) := by unfold sl1; exact if_pos c2
      refine lv_aload_n hx hb dX4_slot_54 rfl (lv_at hl 2 rfl) ?_
      refine gw4_slots S i4 hE hP (hts _ (List.mem_of_getElem? (i := 1) rfl)) dX4_slot_55 ?_
      refine lv_iload_n hx hb dX4_slot_58 rfl (lv_at hl 1 rfl) ?_
      refine kiV (As := [.int (nI (a * 8 + b))]) (rest := []) S (kX1_hasDeath hg u (a * 8 + b) (by omega)) (cwV 1 hts gX4_slot_X1_hasDeath rfl rfl rfl hdX1_hasDeath ⟨Nat.le_of_ble_eq_true rfl, Nat.le_of_ble_eq_true rfl⟩) rfl rfl 2 rfl rfl hE hP hS (frs hS) rfl hl.1 rfl (Nat.le_of_ble_eq_true rfl) dX4_slot_59 ⟨Nat.le_of_ble_eq_true rfl, Nat.le_of_ble_eq_true rfl⟩ (fun H locs hP _ _ hS => ?_)
      refine bzeq (tgt := 68) hx hb dX4_slot_62 (by decide) (fun c3 => ?_) (fun c3 => ?_)
      · skip
        have e2 : ∀ z, sl2 u (a * 8 + b) z = z := fun z => by unfold sl2; exact if_neg c3
        refine lv_aload_n hx hb dX4_slot_68 rfl (lv_at hl 2 rfl) ?_
        refine gw4_slots S i4 hE hP (hts _ (List.mem_of_getElem? (i := 1) rfl)) dX4_slot_69 ?_
        refine gw1_nexts S i1 hE hP (hts _ (List.mem_of_getElem? (i := 4) rfl)) dX4_slot_72 ?_
        refine lv_iload_n hx hb dX4_slot_75 rfl (lv_at hl 1 rfl) ?_
        refine lC_n S hE hP (f := c_n u) rfl (j := (a * 8 + b)) (by omega) rfl dX4_slot_76 ?_
        refine kiS (As := [.int (c_n u (a * 8 + b))]) (rest := []) S (kX4_isPlace (c_n u (a * 8 + b))) (va_cwS 1 hts gX4_slot_X4_isPlace rfl rfl rfl hdX4_isPlace.2 ⟨Nat.le_of_ble_eq_true rfl, Nat.le_of_ble_eq_true rfl⟩) rfl rfl hE hP hS (frs hS) rfl hl.1 rfl (Nat.le_of_ble_eq_true rfl) dX4_slot_77 ⟨Nat.le_of_ble_eq_true rfl, Nat.le_of_ble_eq_true rfl⟩ (fun H locs hP _ _ hS => ?_)
        refine bzeq (tgt := 105) hx hb dX4_slot_80 (by decide) (fun c4 => ?_) (fun c4 => ?_)
        · skip
          have e3 : ∀ z, sl3 u (a * 8 + b) z = z := fun z => by unfold sl3; exact if_neg c4
          refine lv_iload hx hb dX4_slot_105 (lv_at hl 0 rfl) ?_
          exact ei hx hb hr hlk hS hP rfl (by rw [e0, e3, e2, e1]) (Nat.le_of_ble_eq_true rfl) (Nat.le_of_ble_eq_true rfl) dX4_slot_107
        · skip
          have e3 : ∀ z, sl3 u (a * 8 + b) z = z + 100 * (1 + nI (nat (c_n u (a * 8 + b)) % 8)) := fun z => by unfold sl3; exact if_pos c4
          obtain ⟨j, hj, ej⟩ := pl_at c4
          refine lv_iload hx hb dX4_slot_83 (lv_at hl 0 rfl) ?_
          refine lv_bipush (v := 100) hx hb dX4_slot_85 (by decide) ?_
          refine lv_iconst (v := 1) hx hb dX4_slot_87 (by decide) ?_
          refine lv_aload_n hx hb dX4_slot_88 rfl (lv_at hl 2 rfl) ?_
          refine gw4_slots S i4 hE hP (hts _ (List.mem_of_getElem? (i := 1) rfl)) dX4_slot_89 ?_
          refine gw1_nexts S i1 hE hP (hts _ (List.mem_of_getElem? (i := 4) rfl)) dX4_slot_92 ?_
          refine lv_iload_n hx hb dX4_slot_95 rfl (lv_at hl 1 rfl) ?_
          refine lC_n S hE hP (f := c_n u) rfl (j := (a * 8 + b)) (by omega) rfl dX4_slot_96 ?_
          refine tpi (y := nI j) ej ?_
          refine kiS (As := [.int (nI j)]) (rest := [.int 1, .int 100, .int (c_k u (a * 8 + b))]) S (kX4_slotOf j (by omega)) (va_cwS 1 hts gX4_slot_X4_slotOf rfl rfl rfl hdX4_slotOf.2 ⟨Nat.le_of_ble_eq_true rfl, Nat.le_of_ble_eq_true rfl⟩) rfl rfl hE hP hS (frs hS) rfl hl.1 rfl (Nat.le_of_ble_eq_true rfl) dX4_slot_97 ⟨Nat.le_of_ble_eq_true rfl, Nat.le_of_ble_eq_true rfl⟩ (fun H locs hP _ _ hS => ?_)
          refine lv_iadd hx hb dX4_slot_100 ?_
          refine lv_imul hx hb dX4_slot_101 ?_
          have ej2 : nat (c_n u (a * 8 + b)) = j := by rw [ej]; exact nat_nI (by omega)
          rw [ej2] at e3
          refine lv_iadd hx hb dX4_slot_102 ?_
          refine lv_istore (lv' := [(4, .int ((c_k u (a * 8 + b)) + (100 * (1 + (nI (j % 8)))))), (3, .int (nI (a * 8 + b))), (0, .ref (g 0)), (1, .int (nI a)), (2, .int (nI b))]) hx hb dX4_slot_103 hl (by decide) rfl (fun ls hl => ?_)
          refine lv_iload hx hb dX4_slot_105 (lv_at hl 0 rfl) ?_
          exact ei hx hb hr hlk hS hP rfl (by rw [e0, e3, e2, e1]) (Nat.le_of_ble_eq_true rfl) (Nat.le_of_ble_eq_true rfl) dX4_slot_107
      · skip
        have e2 : ∀ z, sl2 u (a * 8 + b) z = z + 20 := fun z => by unfold sl2; exact if_pos c3
        refine lv_iinc (v := c_k u (a * 8 + b) + 20) (lv' := [(4, .int (c_k u (a * 8 + b) + 20)), (3, .int (nI (a * 8 + b))), (0, .ref (g 0)), (1, .int (nI a)), (2, .int (nI b))]) hx hb dX4_slot_65 hl (k := 0) rfl rfl (by decide) rfl (fun ls hl => ?_)
        refine lv_aload_n hx hb dX4_slot_68 rfl (lv_at hl 2 rfl) ?_
        refine gw4_slots S i4 hE hP (hts _ (List.mem_of_getElem? (i := 1) rfl)) dX4_slot_69 ?_
        refine gw1_nexts S i1 hE hP (hts _ (List.mem_of_getElem? (i := 4) rfl)) dX4_slot_72 ?_
        refine lv_iload_n hx hb dX4_slot_75 rfl (lv_at hl 1 rfl) ?_
        refine lC_n S hE hP (f := c_n u) rfl (j := (a * 8 + b)) (by omega) rfl dX4_slot_76 ?_
        refine kiS (As := [.int (c_n u (a * 8 + b))]) (rest := []) S (kX4_isPlace (c_n u (a * 8 + b))) (va_cwS 1 hts gX4_slot_X4_isPlace rfl rfl rfl hdX4_isPlace.2 ⟨Nat.le_of_ble_eq_true rfl, Nat.le_of_ble_eq_true rfl⟩) rfl rfl hE hP hS (frs hS) rfl hl.1 rfl (Nat.le_of_ble_eq_true rfl) dX4_slot_77 ⟨Nat.le_of_ble_eq_true rfl, Nat.le_of_ble_eq_true rfl⟩ (fun H locs hP _ _ hS => ?_)
        refine bzeq (tgt := 105) hx hb dX4_slot_80 (by decide) (fun c5 => ?_) (fun c5 => ?_)
        · skip
          have e3 : ∀ z, sl3 u (a * 8 + b) z = z := fun z => by unfold sl3; exact if_neg c5
          refine lv_iload hx hb dX4_slot_105 (lv_at hl 0 rfl) ?_
          exact ei hx hb hr hlk hS hP rfl (by rw [e0, e3, e2, e1]) (Nat.le_of_ble_eq_true rfl) (Nat.le_of_ble_eq_true rfl) dX4_slot_107
        · skip
          have e3 : ∀ z, sl3 u (a * 8 + b) z = z + 100 * (1 + nI (nat (c_n u (a * 8 + b)) % 8)) := fun z => by unfold sl3; exact if_pos c5
          obtain ⟨j, hj, ej⟩ := pl_at c5
          refine lv_iload hx hb dX4_slot_83 (lv_at hl 0 rfl) ?_
          refine lv_bipush (v := 100) hx hb dX4_slot_85 (by decide) ?_
          refine lv_iconst (v := 1) hx hb dX4_slot_87 (by decide) ?_
          refine lv_aload_n hx hb dX4_slot_88 rfl (lv_at hl 2 rfl) ?_
          refine gw4_slots S i4 hE hP (hts _ (List.mem_of_getElem? (i := 1) rfl)) dX4_slot_89 ?_
          refine gw1_nexts S i1 hE hP (hts _ (List.mem_of_getElem? (i := 4) rfl)) dX4_slot_92 ?_
          refine lv_iload_n hx hb dX4_slot_95 rfl (lv_at hl 1 rfl) ?_
          refine lC_n S hE hP (f := c_n u) rfl (j := (a * 8 + b)) (by omega) rfl dX4_slot_96 ?_
          refine tpi (y := nI j) ej ?_
          refine kiS (As := [.int (nI j)]) (rest := [.int 1, .int 100, .int (c_k u (a * 8 + b) + 20)]) S (kX4_slotOf j (by omega)) (va_cwS 1 hts gX4_slot_X4_slotOf rfl rfl rfl hdX4_slotOf.2 ⟨Nat.le_of_ble_eq_true rfl, Nat.le_of_ble_eq_true rfl⟩) rfl rfl hE hP hS (frs hS) rfl hl.1 rfl (Nat.le_of_ble_eq_true rfl) dX4_slot_97 ⟨Nat.le_of_ble_eq_true rfl, Nat.le_of_ble_eq_true rfl⟩ (fun H locs hP _ _ hS => ?_)
          refine lv_iadd hx hb dX4_slot_100 ?_
          refine lv_imul hx hb dX4_slot_101 ?_
          have ej2 : nat (c_n u (a * 8 + b)) = j := by rw [ej]; exact nat_nI (by omega)
          rw [ej2] at e3
          refine lv_iadd hx hb dX4_slot_102 ?_
          refine lv_istore (lv' := [(4, .int ((c_k u (a * 8 + b) + 20) + (100 * (1 + (nI (j % 8)))))), (3, .int (nI (a * 8 + b))), (0, .ref (g 0)), (1, .int (nI a)), (2, .int (nI b))]) hx hb dX4_slot_103 hl (by decide) rfl (fun ls hl => ?_)
          refine lv_iload hx hb dX4_slot_105 (lv_at hl 0 rfl) ?_
          exact ei hx hb hr hlk hS hP rfl (by rw [e0, e3, e2, e1]) (Nat.le_of_ble_eq_true rfl) (Nat.le_of_ble_eq_true rfl) dX4_slot_107
    · skip
      have e1 : sl1 u (a * 8 + b) = c_k u (a * 8 + b) + 10 := by unfold sl1; exact if_neg c2
      refine lv_iinc (v := c_k u (a * 8 + b) + 10) (lv' := [(4, .int (c_k u (a * 8 + b) + 10)), (3, .int (nI (a * 8 + b))), (0, .ref (g 0)), (1, .int (nI a)), (2, .int (nI b))]) hx hb dX4_slot_51 hl (k := 0) rfl rfl (by decide) rfl (fun ls hl => ?_)
      refine lv_aload_n hx hb dX4_slot_54 rfl (lv_at hl 2 rfl) ?_
      refine gw4_slots S i4 hE hP (hts _ (List.mem_of_getElem? (i := 1) rfl)) dX4_slot_55 ?_
      refine lv_iload_n hx hb dX4_slot_58 rfl (lv_at hl 1 rfl) ?_
      refine kiV (As := [.int (nI (a * 8 + b))]) (rest := []) S (kX1_hasDeath hg u (a * 8 + b) (by omega)) (cwV 1 hts gX4_slot_X1_hasDeath rfl rfl rfl hdX1_hasDeath ⟨Nat.le_of_ble_eq_true rfl, Nat.le_of_ble_eq_true rfl⟩) rfl rfl 2 rfl rfl hE hP hS (frs hS) rfl hl.1 rfl (Nat.le_of_ble_eq_true rfl) dX4_slot_59 ⟨Nat.le_of_ble_eq_true rfl, Nat.le_of_ble_eq_true rfl⟩ (fun H locs hP _ _ hS => ?_)
      refine bzeq (tgt := 68) hx hb dX4_slot_62 (by decide) (fun c6 => ?_) (fun c6 => ?_)
      · skip
        have e2 : ∀ z, sl2 u (a * 8 + b) z = z := fun z => by unfold sl2; exact if_neg c6
        refine lv_aload_n hx hb dX4_slot_68 rfl (lv_at hl 2 rfl) ?_
        refine gw4_slots S i4 hE hP (hts _ (List.mem_of_getElem? (i := 1) rfl)) dX4_slot_69 ?_
        refine gw1_nexts S i1 hE hP (hts _ (List.mem_of_getElem? (i := 4) rfl)) dX4_slot_72 ?_
        refine lv_iload_n hx hb dX4_slot_75 rfl (lv_at hl 1 rfl) ?_
        refine lC_n S hE hP (f := c_n u) rfl (j := (a * 8 + b)) (by omega) rfl dX4_slot_76 ?_
        refine kiS (As := [.int (c_n u (a * 8 + b))]) (rest := []) S (kX4_isPlace (c_n u (a * 8 + b))) (va_cwS 1 hts gX4_slot_X4_isPlace rfl rfl rfl hdX4_isPlace.2 ⟨Nat.le_of_ble_eq_true rfl, Nat.le_of_ble_eq_true rfl⟩) rfl rfl hE hP hS (frs hS) rfl hl.1 rfl (Nat.le_of_ble_eq_true rfl) dX4_slot_77 ⟨Nat.le_of_ble_eq_true rfl, Nat.le_of_ble_eq_true rfl⟩ (fun H locs hP _ _ hS => ?_)
        refine bzeq (tgt := 105) hx hb dX4_slot_80 (by decide) (fun c7 => ?_) (fun c7 => ?_)
        · skip
          have e3 : ∀ z, sl3 u (a * 8 + b) z = z := fun z => by unfold sl3; exact if_neg c7
          refine lv_iload hx hb dX4_slot_105 (lv_at hl 0 rfl) ?_
          exact ei hx hb hr hlk hS hP rfl (by rw [e0, e3, e2, e1]) (Nat.le_of_ble_eq_true rfl) (Nat.le_of_ble_eq_true rfl) dX4_slot_107
        · skip
          have e3 : ∀ z, sl3 u (a * 8 + b) z = z + 100 * (1 + nI (nat (c_n u (a * 8 + b)) % 8)) := fun z => by unfold sl3; exact if_pos c7
          obtain ⟨j, hj, ej⟩ := pl_at c7
          refine lv_iload hx hb dX4_slot_83 (lv_at hl 0 rfl) ?_
          refine lv_bipush (v := 100) hx hb dX4_slot_85 (by decide) ?_
          refine lv_iconst (v := 1) hx hb dX4_slot_87 (by decide) ?_
          refine lv_aload_n hx hb dX4_slot_88 rfl (lv_at hl 2 rfl) ?_
          refine gw4_slots S i4 hE hP (hts _ (List.mem_of_getElem? (i := 1) rfl)) dX4_slot_89 ?_
          refine gw1_nexts S i1 hE hP (hts _ (List.mem_of_getElem? (i := 4) rfl)) dX4_slot_92 ?_
          refine lv_iload_n hx hb dX4_slot_95 rfl (lv_at hl 1 rfl) ?_
          refine lC_n S hE hP (f := c_n u) rfl (j := (a * 8 + b)) (by omega) rfl dX4_slot_96 ?_
          refine tpi (y := nI j) ej ?_
          refine kiS (As := [.int (nI j)]) (rest := [.int 1, .int 100, .int (c_k u (a * 8 + b) + 10)]) S (kX4_slotOf j (by omega)) (va_cwS 1 hts gX4_slot_X4_slotOf rfl rfl rfl hdX4_slotOf.2 ⟨Nat.le_of_ble_eq_true rfl, Nat.le_of_ble_eq_true rfl⟩) rfl rfl hE hP hS (frs hS) rfl hl.1 rfl (Nat.le_of_ble_eq_true rfl) dX4_slot_97 ⟨Nat.le_of_ble_eq_true rfl, Nat.le_of_ble_eq_true rfl⟩ (fun H locs hP _ _ hS => ?_)
          refine lv_iadd hx hb dX4_slot_100 ?_
          refine lv_imul hx hb dX4_slot_101 ?_
          have ej2 : nat (c_n u (a * 8 + b)) = j := by rw [ej]; exact nat_nI (by omega)
          rw [ej2] at e3
          refine lv_iadd hx hb dX4_slot_102 ?_
          refine lv_istore (lv' := [(4, .int ((c_k u (a * 8 + b) + 10) + (100 * (1 + (nI (j % 8)))))), (3, .int (nI (a * 8 + b))), (0, .ref (g 0)), (1, .int (nI a)), (2, .int (nI b))]) hx hb dX4_slot_103 hl (by decide) rfl (fun ls hl => ?_)
          refine lv_iload hx hb dX4_slot_105 (lv_at hl 0 rfl) ?_
          exact ei hx hb hr hlk hS hP rfl (by rw [e0, e3, e2, e1]) (Nat.le_of_ble_eq_true rfl) (Nat.le_of_ble_eq_true rfl) dX4_slot_107
      · skip
        have e2 : ∀ z, sl2 u (a * 8 + b) z = z + 20 := fun z => by unfold sl2; exact if_pos c6
        refine lv_iinc (v := c_k u (a * 8 + b) + 10 + 20) (lv' := [(4, .int (c_k u (a * 8 + b) + 10 + 20)), (3, .int (nI (a * 8 + b))), (0, .ref (g 0)), (1, .int (nI a)), (2, .int (nI b))]) hx hb dX4_slot_65 hl (k := 0) rfl rfl (by decide) rfl (fun ls hl => ?_)
        refine lv_aload_n hx hb dX4_slot_68 rfl (lv_at hl 2 rfl) ?_
        refine gw4_slots S i4 hE hP (hts _ (List.mem_of_getElem? (i := 1) rfl)) dX4_slot_69 ?_
        refine gw1_nexts S i1 hE hP (hts _ (List.mem_of_getElem? (i := 4) rfl)) dX4_slot_72 ?_
        refine lv_iload_n hx hb dX4_slot_75 rfl (lv_at hl 1 rfl) ?_
        refine lC_n S hE hP (f := c_n u) rfl (j := (a * 8 + b)) (by omega) rfl dX4_slot_76 ?_
        refine kiS (As := [.int (c_n u (a * 8 + b))]) (rest := []) S (kX4_isPlace (c_n u (a * 8 + b))) (va_cwS 1 hts gX4_slot_X4_isPlace rfl rfl rfl hdX4_isPlace.2 ⟨Nat.le_of_ble_eq_true rfl, Nat.le_of_ble_eq_true rfl⟩) rfl rfl hE hP hS (frs hS) rfl hl.1 rfl (Nat.le_of_ble_eq_true rfl) dX4_slot_77 ⟨Nat.le_of_ble_eq_true rfl, Nat.le_of_ble_eq_true rfl⟩ (fun H locs hP _ _ hS => ?_)
        refine bzeq (tgt := 105) hx hb dX4_slot_80 (by decide) (fun c8 => ?_) (fun c8 => ?_)
        · skip
          have e3 : ∀ z, sl3 u (a * 8 + b) z = z := fun z => by unfold sl3; exact if_neg c8
          refine lv_iload hx hb dX4_slot_105 (lv_at hl 0 rfl) ?_
          exact ei hx hb hr hlk hS hP rfl (by rw [e0, e3, e2, e1]) (Nat.le_of_ble_eq_true rfl) (Nat.le_of_ble_eq_true rfl) dX4_slot_107
        · skip
          have e3 : ∀ z, sl3 u (a * 8 + b) z = z + 100 * (1 + nI (nat (c_n u (a * 8 + b)) % 8)) := fun z => by unfold sl3; exact if_pos c8
          obtain ⟨j, hj, ej⟩ := pl_at c8
          refine lv_iload hx hb dX4_slot_83 (lv_at hl 0 rfl) ?_
          refine lv_bipush (v := 100) hx hb dX4_slot_85 (by decide) ?_
          refine lv_iconst (v := 1) hx hb dX4_slot_87 (by decide) ?_
          refine lv_aload_n hx hb dX4_slot_88 rfl (lv_at hl 2 rfl) ?_
          refine gw4_slots S i4 hE hP (hts _ (List.mem_of_getElem? (i := 1) rfl)) dX4_slot_89 ?_
          refine gw1_nexts S i1 hE hP (hts _ (List.mem_of_getElem? (i := 4) rfl)) dX4_slot_92 ?_
          refine lv_iload_n hx hb dX4_slot_95 rfl (lv_at hl 1 rfl) ?_
          refine lC_n S hE hP (f := c_n u) rfl (j := (a * 8 + b)) (by omega) rfl dX4_slot_96 ?_
          refine tpi (y := nI j) ej ?_
          refine kiS (As := [.int (nI j)]) (rest := [.int 1, .int 100, .int (c_k u (a * 8 + b) + 10 + 20)]) S (kX4_slotOf j (by omega)) (va_cwS 1 hts gX4_slot_X4_slotOf rfl rfl rfl hdX4_slotOf.2 ⟨Nat.le_of_ble_eq_true rfl, Nat.le_of_ble_eq_true rfl⟩) rfl rfl hE hP hS (frs hS) rfl hl.1 rfl (Nat.le_of_ble_eq_true rfl) dX4_slot_97 ⟨Nat.le_of_ble_eq_true rfl, Nat.le_of_ble_eq_true rfl⟩ (fun H locs hP _ _ hS => ?_)
          refine lv_iadd hx hb dX4_slot_100 ?_
          refine lv_imul hx hb dX4_slot_101 ?_
          have ej2 : nat (c_n u (a * 8 + b)) = j := by rw [ej]; exact nat_nI (by omega)
          rw [ej2] at e3
          refine lv_iadd hx hb dX4_slot_102 ?_
          refine lv_istore (lv' := [(4, .int ((c_k u (a * 8 + b) + 10 + 20) + (100 * (1 + (nI (j % 8)))))), (3, .int (nI (a * 8 + b))), (0, .ref (g 0)), (1, .int (nI a)), (2, .int (nI b))]) hx hb dX4_slot_103 hl (by decide) rfl (fun ls hl => ?_)
          refine lv_iload hx hb dX4_slot_105 (lv_at hl 0 rfl) ?_
          exact ei hx hb hr hlk hS hP rfl (by rw [e0, e3, e2, e1]) (Nat.le_of_ble_eq_true rfl) (Nat.le_of_ble_eq_true rfl) dX4_slot_107
  · skip
    have e0 : slv u (a * 8 + b) = -1 := by unfold slv; exact if_neg c1
    refine lv_iconst (v := (-1)) hx hb dX4_slot_26 (by decide) ?_
    exact ei hx hb hr hlk hS hP rfl (by rw [e0]) (Nat.le_of_ble_eq_true rfl) (Nat.le_of_ble_eq_true rfl) dX4_slot_27
def rmX4_entries0 : Room := { frames := 1, cells := 0, slots := 0, locals := 20 }
set_option maxHeartbeats 4000000 in
set_option maxRecDepth 100000 in
theorem kX4_entries0 {l : Launch} {D : va_G} {K : Nat → ClassId} {L : Nat → Prop} {g : Nat → Nat} (hg : gd L g 29) (u : CU) (k : Nat) (hk : k < 6) (hky : kyP (nI k)) : CI l yX4_entries wsX4_entries rmX4_entries0 D K L [.ref (g 0), .int (nI k)] (wC K g u) (wC K g u) (c_ct u k) := by
  refine CI.of (cc := cX4_entries) (maxL := 2) (ret := (some .int)) (by decide +kernel) rfl (Nat.le_of_ble_eq_true rfl) ?_
  intro p e s m below meth c ls hen hP
  obtain ⟨hx, hb, hr, hts, hown, hlk, hml, hnm, hE, hl⟩ := hen
  have S : CallFix p m c cX4_entries 2 s _ wsX4_entries RX4 := ⟨hx, hb, hml, hown, hts⟩
  have hS : va_S (fr L s.heap.size) s.heap s.heap [] := va_S.rf
  have hl : lv_has ls 2 [(0, .ref (g 0)), (1, .int (nI k))] := hl
  have i4 : ∀ w ∈ wsX40, w ∈ wsX4_entries := fun _ h => List.mem_cons_of_mem _ (List.mem_append_left _ (List.mem_append_left _ (List.mem_append_right _ h)))
  have i0 : ∀ w ∈ wsX00, w ∈ wsX4_entries := fun _ h => List.mem_cons_of_mem _ (List.mem_append_left _ (List.mem_append_right _ h))
  refine lv_iload_n hx hb dX4_entries_0 rfl (lv_at hl 1 rfl) ?_
  refine kvS (As := [.int (nI k)]) (rest := []) S (kX4_checkKey0 (nI k) hky) (va_cwS 1 hts gX4_entries_X4_checkKey rfl rfl rfl hdX4_checkKey.2 ⟨Nat.le_of_ble_eq_true rfl, Nat.le_of_ble_eq_true rfl⟩) rfl rfl hE hP hS (frs hS) rfl hl.1 rfl (Nat.le_of_ble_eq_true rfl) dX4_entries_1 ⟨Nat.le_of_ble_eq_true rfl, Nat.le_of_ble_eq_true rfl⟩ (fun H locs hP _ _ hS => ?_)
  refine lv_aload_n hx hb dX4_entries_4 rfl (lv_at hl 0 rfl) ?_
  refine gw4_index S i4 hE hP (hts _ (List.mem_of_getElem? (i := 1) rfl)) dX4_entries_5 ?_
  refine gw0_counts S i0 hE hP (hts _ (List.mem_of_getElem? (i := 2) rfl)) dX4_entries_8 ?_
  refine lv_iload_n hx hb dX4_entries_11 rfl (lv_at hl 1 rfl) ?_
  refine lC_ct S hE hP (f := c_ct u) rfl (j := k) (by omega) rfl dX4_entries_12 ?_
  exact ei hx hb hr hlk hS hP rfl (by rfl) (Nat.le_of_ble_eq_true rfl) (Nat.le_of_ble_eq_true rfl) dX4_entries_13
def rmX4_fullness0 : Room := { frames := 1, cells := 0, slots := 0, locals := 21 }
set_option maxHeartbeats 4000000 in
set_option maxRecDepth 100000 in
theorem kX4_fullness0 {l : Launch} {D : va_G} {K : Nat → ClassId} {L : Nat → Prop} {g : Nat → Nat} (hg : gd L g 29) (u : CU) (a : Nat) (ha : a < 4) (hpg : pgP (nI a)) : CF l yX4_fullness wsX4_fullness rmX4_fullness0 D K L [.ref (g 0), .int (nI a)] (wC K g u) (wC K g u) (fdv (ful u a 8)) := by
  refine CF.of (cc := cX4_fullness) (maxL := 4) (ret := (some .float)) (by decide +kernel) rfl (Nat.le_of_ble_eq_true rfl) ?_
  intro p e s m below meth c ls hen hP
  obtain ⟨hx, hb, hr, hts, hown, hlk, hml, hnm, hE, hl⟩ := hen
  have S : CallFix p m c cX4_fullness 4 s _ wsX4_fullness RX4 := ⟨hx, hb, hml, hown, hts⟩
  have hS : va_S (fr L s.heap.size) s.heap s.heap [] := va_S.rf
  have hl : lv_has ls 4 [(0, .ref (g 0)), (1, .int (nI a))] := hl
  have i4 : ∀ w ∈ wsX40, w ∈ wsX4_fullness := fun _ h => List.mem_cons_of_mem _ (List.mem_append_left _ (List.mem_append_left _ (List.mem_append_right _ h)))
  have i1 : ∀ w ∈ wsX10, w ∈ wsX4_fullness := fun _ h => List.mem_cons_of_mem _ (List.mem_append_left _ (List.mem_append_right _ h))
  refine lv_iload_n hx hb dX4_fullness_0 rfl (lv_at hl 1 rfl) ?_
  refine kvS (As := [.int (nI a)]) (rest := []) S (kX4_checkPage0 (nI a) hpg) (va_cwS 1 hts gX4_fullness_X4_checkPage rfl rfl rfl hdX4_checkPage.2 ⟨Nat.le_of_ble_eq_true rfl, Nat.le_of_ble_eq_true rfl⟩) rfl rfl hE hP hS (frs hS) rfl hl.1 rfl (Nat.le_of_ble_eq_true rfl) dX4_fullness_1 ⟨Nat.le_of_ble_eq_true rfl, Nat.le_of_ble_eq_true rfl⟩ (fun H locs hP _ _ hS => ?_)
  refine lv_iconst (v := 0) hx hb dX4_fullness_4 (by decide) ?_
  refine lv_istore_n (lv' := [(2, .int 0), (0, .ref (g 0)), (1, .int (nI a))]) hx hb dX4_fullness_5 rfl hl (by decide) rfl (fun ls hl => ?_)
  refine lv_iload_n hx hb dX4_fullness_6 rfl (lv_at hl 2 rfl) ?_
  refine kiS (As := [.int (nI a)]) (rest := []) S (kX4_firstOf a) (va_cwS 1 hts gX4_fullness_X4_firstOf rfl rfl rfl hdX4_firstOf.2 ⟨Nat.le_of_ble_eq_true rfl, Nat.le_of_ble_eq_true rfl⟩) rfl rfl hE hP hS (frs hS) rfl hl.1 rfl (Nat.le_of_ble_eq_true rfl) dX4_fullness_7 ⟨Nat.le_of_ble_eq_true rfl, Nat.le_of_ble_eq_true rfl⟩ (fun H locs hP _ _ hS => ?_)
  refine lv_istore_n (lv' := [(3, .int (nI (a * 8))), (2, .int 0), (0, .ref (g 0)), (1, .int (nI a))]) hx hb dX4_fullness_10 rfl hl (by decide) rfl (fun ls hl => ?_)
  have loop11 : ∀ (n11 : Nat) (i : Nat) (d : Nat), (hi : i ≤ 8) → (hd : d = ful u a i) → 8 - i < n11 → ∀ (H : Heap) (locs : List Loc), va_P D vwCl (wC K g u) H → va_S (fr L s.heap.size) s.heap H locs → ∀ (ls : Array Slot), lv_has ls 4 [(3, .int (nI (a * 8 + i))), (2, .int (nI d)), (0, .ref (g 0)), (1, .int (nI a))] → W p l e rmX4_fullness0 s m ([.ref (g 0), .int (nI a)] : List Value).toArray below meth c H locs 0 0 (MQ below (va_Qf (fun (r9 : UInt32) (_ : Unit) => r9 = fdv (ful u a 8)) (fun _ t9 => va_P D vwCl (wC K g u) t9.heap) (fr L s.heap.size)) ([.ref (g 0), .int (nI a)] : List Value).toArray s rmX4_fullness0.cells rmX4_fullness0.slots (fr L s.heap.size)) (F0 m 11 ls []) := by
    intro n11
    induction n11 with
    | zero =>
      intro i d hi hd hn11
      exact absurd hn11 (Nat.not_lt_zero _)
    | succ n11 ih11 =>
      intro i d hi hd hn11 H locs hP hS ls hl
      refine lv_iload_n hx hb dX4_fullness_11 rfl (lv_at hl 0 rfl) ?_
      refine lv_iload_n hx hb dX4_fullness_12 rfl (lv_at hl 3 rfl) ?_
      refine kiS (As := [.int (nI a)]) (rest := [.int (nI (a * 8 + i))]) S (kX4_firstOf a) (va_cwS 1 hts gX4_fullness_X4_firstOf rfl rfl rfl hdX4_firstOf.2 ⟨Nat.le_of_ble_eq_true rfl, Nat.le_of_ble_eq_true rfl⟩) rfl rfl hE hP hS (frs hS) rfl hl.1 rfl (Nat.le_of_ble_eq_true rfl) dX4_fullness_13 ⟨Nat.le_of_ble_eq_true rfl, Nat.le_of_ble_eq_true rfl⟩ (fun H locs hP _ _ hS => ?_)
      refine lv_bipush (v := 8) hx hb dX4_fullness_16 (by decide) ?_
      refine lv_iadd hx hb dX4_fullness_18 ?_
      refine tpi (y := nI (a * 8 + 8)) (nI_add (a * 8) 8) ?_
      refine lv_icmp_ge (tgt := 42) hx hb dX4_fullness_19 (by decide) (fun c1 => ?_) (fun c1 => ?_)
      · skip
        have e9 : i = 8 := by have := nge_i (a := a * 8 + i) (b := a * 8 + 8) (by omega) (by omega) c1; omega
        have hd8 : d < 9 := by have := ful_le (u := u) (a := a) i; omega
        refine lv_iload_n hx hb dX4_fullness_42 rfl (lv_at hl 1 rfl) ?_
        refine lv_i2f hx hb dX4_fullness_43 ?_
        refine lv_ldcf (v := 1090519040) hx hb hown (hts _ (List.mem_of_getElem? (i := 2) rfl)) dX4_fullness_44 ?_
        refine lv_fdiv hx hb dX4_fullness_46 (fdv_all d hd8) ?_
        exact ef hx hb hr hlk hS hP rfl (by rw [← e9, ← hd]; rfl) (Nat.le_of_ble_eq_true rfl) (Nat.le_of_ble_eq_true rfl) dX4_fullness_47
      · skip
        have hlt : a * 8 + i < a * 8 + 8 := nlt_i (a := a * 8 + i) (b := a * 8 + 8) (by omega) (by omega) c1
        refine lv_aload_n hx hb dX4_fullness_22 rfl (lv_at hl 2 rfl) ?_
        refine gw4_slots S i4 hE hP (hts _ (List.mem_of_getElem? (i := 1) rfl)) dX4_fullness_23 ?_
        refine lv_iload_n hx hb dX4_fullness_26 rfl (lv_at hl 0 rfl) ?_
        refine kiV (As := [.int (nI (a * 8 + i))]) (rest := []) S (kX1_isUsed hg u (a * 8 + i) (by omega)) (cwV 1 hts gX4_fullness_X1_isUsed rfl rfl rfl hdX1_isUsed ⟨Nat.le_of_ble_eq_true rfl, Nat.le_of_ble_eq_true rfl⟩) rfl rfl 2 rfl rfl hE hP hS (frs hS) rfl hl.1 rfl (Nat.le_of_ble_eq_true rfl) dX4_fullness_27 ⟨Nat.le_of_ble_eq_true rfl, Nat.le_of_ble_eq_true rfl⟩ (fun H locs hP _ _ hS => ?_)
        refine bzeq (tgt := 36) hx hb dX4_fullness_30 (by decide) (fun c2 => ?_) (fun c2 => ?_)
        · skip
          refine lv_iinc (v := nI ((a * 8 + i) + 1)) (lv' := [(3, .int (nI ((a * 8 + i) + 1))), (2, .int (nI d)), (0, .ref (g 0)), (1, .int (nI a))]) hx hb dX4_fullness_36 hl (k := 0) rfl (nI_1 (a * 8 + i)) (by decide) rfl (fun ls hl => ?_)
          refine lv_goto (tgt := 11) hx hb dX4_fullness_39 (by decide) ?_
          exact ih11 (i + 1) d (by omega) (by first | (rw [ful_y c2, hd]; done) | (rw [ful_n c2, hd]; done)) (by omega) _ _ hP hS ls (lv_sub hl [0, 1, 2, 3] rfl)
        · skip
          refine lv_iinc (v := nI (d + 1)) (lv' := [(2, .int (nI (d + 1))), (3, .int (nI (a * 8 + i))), (0, .ref (g 0)), (1, .int (nI a))]) hx hb dX4_fullness_33 hl (k := 1) rfl (nI_1 d) (by decide) rfl (fun ls hl => ?_)
          refine lv_iinc (v := nI ((a * 8 + i) + 1)) (lv' := [(3, .int (nI ((a * 8 + i) + 1))), (2, .int (nI (d + 1))), (0, .ref (g 0)), (1, .int (nI a))]) hx hb dX4_fullness_36 hl (k := 1) rfl (nI_1 (a * 8 + i)) (by decide) rfl (fun ls hl => ?_)
          refine lv_goto (tgt := 11) hx hb dX4_fullness_39 (by decide) ?_
          exact ih11 (i + 1) (d + 1) (by omega) (by first | (rw [ful_y c2, hd]; done) | (rw [ful_n c2, hd]; done)) (by omega) _ _ hP hS ls (lv_sub hl [0, 1, 2, 3] rfl)
  exact loop11 _ 0 0 (by omega) rfl (Nat.lt_succ_self _) _ _ hP hS ls (lv_sub hl [0, 1, 2, 3] rfl)
def rmX4_clean0 : Room := { frames := 4, cells := 0, slots := 0, locals := 90 }
set_option maxHeartbeats 4000000 in
set_option maxRecDepth 100000 in
theorem kX4_clean0 {l : Launch} {D : va_G} {K : Nat → ClassId} {L : Nat → Prop} {g : Nat → Nat} (hg : gd L g 29) (u : CU) (a : Nat) (ha : a < 4) (hpg : pgP (nI a)) (N : Nat) (hN : N ≤ 60) (hcn : c_cn u = nI N) (hok : ∀ i, i < 8 → cgP (cln u (stl u N) a i).1 (a * 8 + i) (stl u N) → okT (cln u (stl u N) a i).1 (a * 8 + i)) : CI l yX4_clean wsX4_clean rmX4_clean0 D K L [.ref (g 0), .int (nI a)] (wC K g u) (wC K g (ccl u N a)) (nI (cln u (stl u N) a 8).2) := by
  refine CI.of (cc := cX4_clean) (maxL := 6) (ret := (some .int)) (by decide +kernel) rfl (Nat.le_of_ble_eq_true rfl) ?_
  intro p e s m below meth c ls hen hP
  obtain ⟨hx, hb, hr, hts, hown, hlk, hml, hnm, hE, hl⟩ := hen
  have S : CallFix p m c cX4_clean 6 s _ wsX4_clean RX4 := ⟨hx, hb, hml, hown, hts⟩
  have hS : va_S (fr L s.heap.size) s.heap s.heap [] := va_S.rf
  have hl : lv_has ls 6 [(0, .ref (g 0)), (1, .int (nI a))] := hl
  have i4 : ∀ w ∈ wsX40, w ∈ wsX4_clean := fun _ h => List.mem_cons_of_mem _ (List.mem_append_left _ (List.mem_append_left _ (List.mem_append_left _ (List.mem_append_left _ (List.mem_append_right _ h)))))
  have i3 : ∀ w ∈ wsX30, w ∈ wsX4_clean := fun _ h => List.mem_cons_of_mem _ (List.mem_append_left _ (List.mem_append_left _ (List.mem_append_left _ (List.mem_append_right _ h))))
  have i1 : ∀ w ∈ wsX10, w ∈ wsX4_clean := fun _ h => List.mem_cons_of_mem _ (List.mem_append_left _ (List.mem_append_left _ (List.mem_append_right _ h)))
  have i0 : ∀ w ∈ wsX00, w ∈ wsX4_clean := fun _ h => List.mem_cons_of_mem _ (List.mem_append_left _ (List.mem_append_right _ h))
  refine lv_iload_n hx hb dX4_clean_0 rfl (lv_at hl 1 rfl) ?_
  refine kvS (As := [.int (nI a)]) (rest := []) S (kX4_checkPage0 (nI a) hpg) (va_cwS 1 hts gX4_clean_X4_checkPage rfl rfl rfl hdX4_checkPage.2 ⟨Nat.le_of_ble_eq_true rfl, Nat.le_of_ble_eq_true rfl⟩) rfl rfl hE hP hS (frs hS) rfl hl.1 rfl (Nat.le_of_ble_eq_true rfl) dX4_clean_1 ⟨Nat.le_of_ble_eq_true rfl, Nat.le_of_ble_eq_true rfl⟩ (fun H locs hP _ _ hS => ?_)
  refine lv_aload_n hx hb dX4_clean_4 rfl (lv_at hl 0 rfl) ?_
  refine gw4_transactions S i4 hE hP (hts _ (List.mem_of_getElem? (i := 1) rfl)) dX4_clean_5 ?_
  refine klV (As := []) (rest := []) S (kX3_settled hg u N (by omega) hcn) (cwV 0 hts gX4_clean_X3_settled rfl rfl rfl hdX3_settled ⟨Nat.le_of_ble_eq_true rfl, Nat.le_of_ble_eq_true rfl⟩) rfl rfl 1 rfl rfl hE hP hS (frs hS) rfl hl.1 rfl (Nat.le_of_ble_eq_true rfl) dX4_clean_8 ⟨Nat.le_of_ble_eq_true rfl, Nat.le_of_ble_eq_true rfl⟩ (fun H locs hP _ _ hS => ?_)
  refine lv_lstore_n (lv' := [(2, .long (stl u N)), (0, .ref (g 0)), (1, .int (nI a))]) hx hb dX4_clean_11 rfl hl (by decide) rfl (fun ls hl => ?_)
  refine lv_iconst (v := 0) hx hb dX4_clean_12 (by decide) ?_
  refine lv_istore (lv' := [(4, .int 0), (2, .long (stl u N)), (0, .ref (g 0)), (1, .int (nI a))]) hx hb dX4_clean_13 hl (by decide) rfl (fun ls hl => ?_)
  refine lv_iload_n hx hb dX4_clean_15 rfl (lv_at hl 3 rfl) ?_
  refine kiS (As := [.int (nI a)]) (rest := []) S (kX4_firstOf a) (va_cwS 1 hts gX4_clean_X4_firstOf rfl rfl rfl hdX4_firstOf.2 ⟨Nat.le_of_ble_eq_true rfl, Nat.le_of_ble_eq_true rfl⟩) rfl rfl hE hP hS (frs hS) rfl hl.1 rfl (Nat.le_of_ble_eq_true rfl) dX4_clean_16 ⟨Nat.le_of_ble_eq_true rfl, Nat.le_of_ble_eq_true rfl⟩ (fun H locs hP _ _ hS => ?_)
  refine lv_istore (lv' := [(5, .int (nI (a * 8))), (4, .int 0), (2, .long (stl u N)), (0, .ref (g 0)), (1, .int (nI a))]) hx hb dX4_clean_19 hl (by decide) rfl (fun ls hl => ?_)
  have loop21 : ∀ (n21 : Nat) (i : Nat) (v : CU) (d : Nat), (hi : i ≤ 8) → (hv : cln u (stl u N) a i = (v, d)) → 8 - i < n21 → ∀ (H : Heap) (locs : List Loc), va_P D vwCl (wC K g v) H → va_S (fr L s.heap.size) s.heap H locs → ∀ (ls : Array Slot), lv_has ls 6 [(5, .int (nI (a * 8 + i))), (4, .int (nI d)), (2, .long (stl u N)), (0, .ref (g 0)), (1, .int (nI a))] → W p l e rmX4_clean0 s m ([.ref (g 0), .int (nI a)] : List Value).toArray below meth c H locs 0 0 (MQ below (va_Qi (fun (r9 : Int32) (_ : Unit) => r9 = nI (cln u (stl u N) a 8).2) (fun _ t9 => va_P D vwCl (wC K g (ccl u N a)) t9.heap) (fr L s.heap.size)) ([.ref (g 0), .int (nI a)] : List Value).toArray s rmX4_clean0.cells rmX4_clean0.slots (fr L s.heap.size)) (F0 m 21 ls []) := by
    intro n21
    induction n21 with
    | zero =>
      intro i v d hi hv hn21
      exact absurd hn21 (Nat.not_lt_zero _)
    | succ n21 ih21 =>
      intro i v d hi hv hn21 H locs hP hS ls hl
      refine lv_iload hx hb dX4_clean_21 (lv_at hl 0 rfl) ?_
      refine lv_iload_n hx hb dX4_clean_23 rfl (lv_at hl 4 rfl) ?_
      refine kiS (As := [.int (nI a)]) (rest := [.int (nI (a * 8 + i))]) S (kX4_firstOf a) (va_cwS 1 hts gX4_clean_X4_firstOf rfl rfl rfl hdX4_firstOf.2 ⟨Nat.le_of_ble_eq_true rfl, Nat.le_of_ble_eq_true rfl⟩) rfl rfl hE hP hS (frs hS) rfl hl.1 rfl (Nat.le_of_ble_eq_true rfl) dX4_clean_24 ⟨Nat.le_of_ble_eq_true rfl, Nat.le_of_ble_eq_true rfl⟩ (fun H locs hP _ _ hS => ?_)
      refine lv_bipush (v := 8) hx hb dX4_clean_27 (by decide) ?_
      refine lv_iadd hx hb dX4_clean_29 ?_
      refine tpi (y := nI (a * 8 + 8)) (nI_add (a * 8) 8) ?_
      refine lv_icmp_ge (tgt := 58) hx hb dX4_clean_30 (by decide) (fun c1 => ?_) (fun c1 => ?_)
      · skip
        have e9 : i = 8 := by have := nge_i (a := a * 8 + i) (b := a * 8 + 8) (by omega) (by omega) c1; omega
        subst e9
        have hcn9 : c_cn v = nI N := by have z9 := cln_cn (u := u) (S9 := stl u N) (a := a) 8; rw [hv] at z9; exact z9.trans hcn
        refine lv_aload_n hx hb dX4_clean_58 rfl (lv_at hl 3 rfl) ?_
        refine lv_iload_n hx hb dX4_clean_59 rfl (lv_at hl 4 rfl) ?_
        refine lv_lload_n hx hb dX4_clean_60 rfl (lv_at hl 2 rfl) ?_
        refine kvV (As := [.int (nI a), .long (stl u N)]) (rest := []) S (kX4_freezeOldOnes hg v a (stl u N) (by omega)) (cwV 2 hts gX4_clean_X4_freezeOldOnes rfl rfl rfl hdX4_freezeOldOnes ⟨Nat.le_of_ble_eq_true rfl, Nat.le_of_ble_eq_true rfl⟩) rfl rfl 0 rfl rfl hE hP hS (frs hS) rfl hl.1 rfl (Nat.le_of_ble_eq_true rfl) dX4_clean_61 ⟨Nat.le_of_ble_eq_true rfl, Nat.le_of_ble_eq_true rfl⟩ (fun H locs hP _ _ hS => ?_)
        refine lv_aload_n hx hb dX4_clean_64 rfl (lv_at hl 3 rfl) ?_
        refine gw4_mapped S i4 hE hP (hts _ (List.mem_of_getElem? (i := 2) rfl)) dX4_clean_65 ?_
        refine lv_iload_n hx hb dX4_clean_68 rfl (lv_at hl 4 rfl) ?_
        refine lv_aload_n hx hb dX4_clean_69 rfl (lv_at hl 3 rfl) ?_
        refine lv_iload_n hx hb dX4_clean_70 rfl (lv_at hl 4 rfl) ?_
        refine kiV (As := [.int (nI a)]) (rest := [.int (nI a), .ref (g 5)]) S (kX4_isWhole0 hg (s_f v (fzn v (stl u N) (a * 8) (a * 8 + 8))) a ha hpg N hN hcn9) (cwV 1 hts gX4_clean_X4_isWhole rfl rfl rfl hdX4_isWhole ⟨Nat.le_of_ble_eq_true rfl, Nat.le_of_ble_eq_true rfl⟩) rfl rfl 0 rfl rfl hE hP hS (frs hS) rfl hl.1 rfl (Nat.le_of_ble_eq_true rfl) dX4_clean_71 ⟨Nat.le_of_ble_eq_true rfl, Nat.le_of_ble_eq_true rfl⟩ (fun H locs hP _ _ hS => ?_)
        refine sC_mp S hE hP fb_vp hg hS (j := a) (by omega) rfl dX4_clean_74 (fun H locs hP hS => ?_)
        have hP : va_P D vwCl (wC K g (s_mp (s_f v (fzn v (stl u N) (a * 8) (a * 8 + 8))) (upd (c_mp (s_f v (fzn v (stl u N) (a * 8) (a * 8 + 8)))) a (fb (whP (s_f v (fzn v (stl u N) (a * 8) (a * 8 + 8))) a (stl (s_f v (fzn v (stl u N) (a * 8) (a * 8 + 8))) N)))))) H := hP
        refine lv_iload hx hb dX4_clean_75 (lv_at hl 1 rfl) ?_
        exact ei hx hb hr hlk hS hP (by simp only [ccl, hv]) (by rw [hv]) (Nat.le_of_ble_eq_true rfl) (Nat.le_of_ble_eq_true rfl) dX4_clean_77
      · skip
        have hlt : i < 8 := by have := nlt_i (a := a * 8 + i) (b := a * 8 + 8) (by omega) (by omega) c1; omega
        refine lv_aload_n hx hb dX4_clean_33 rfl (lv_at hl 3 rfl) ?_
        refine lv_iload hx hb dX4_clean_34 (lv_at hl 0 rfl) ?_
        refine lv_lload_n hx hb dX4_clean_36 rfl (lv_at hl 2 rfl) ?_
        refine kiV (As := [.int (nI (a * 8 + i)), .long (stl u N)]) (rest := []) S (kX4_canGo hg v (a * 8 + i) (stl u N) (by omega)) (cwV 2 hts gX4_clean_X4_canGo rfl rfl rfl hdX4_canGo ⟨Nat.le_of_ble_eq_true rfl, Nat.le_of_ble_eq_true rfl⟩) rfl rfl 0 rfl rfl hE hP hS (frs hS) rfl hl.1 rfl (Nat.le_of_ble_eq_true rfl) dX4_clean_37 ⟨Nat.le_of_ble_eq_true rfl, Nat.le_of_ble_eq_true rfl⟩ (fun H locs hP _ _ hS => ?_)
        refine bzeq (tgt := 52) hx hb dX4_clean_40 (by decide) (fun c2 => ?_) (fun c2 => ?_)
        · skip
          refine lv_iinc (v := nI ((a * 8 + i) + 1)) (lv' := [(5, .int (nI ((a * 8 + i) + 1))), (4, .int (nI d)), (2, .long (stl u N)), (0, .ref (g 0)), (1, .int (nI a))]) hx hb dX4_clean_52 hl (k := 0) rfl (nI_1 (a * 8 + i)) (by decide) rfl (fun ls hl => ?_)
          refine lv_goto (tgt := 21) hx hb dX4_clean_55 (by decide) ?_
          exact ih21 (i + 1) v d (by omega) (by first | exact cln_y hv c2 | exact cln_n hv c2) (by omega) _ _ hP hS ls (lv_sub hl [0, 1, 2, 3, 4] rfl)
        · skip
          have ok : okT v (a * 8 + i) := by have z9 := hok i hlt; rw [hv] at z9; exact z9 c2
          refine lv_aload_n hx hb dX4_clean_43 rfl (lv_at hl 3 rfl) ?_
          refine lv_iload hx hb dX4_clean_44 (lv_at hl 0 rfl) ?_
          refine kvV (As := [.int (nI (a * 8 + i))]) (rest := []) S (kX4_takeOut hg v (a * 8 + i) (nat (c_k v (a * 8 + i))) (nat (c_ct v (nat (c_k v (a * 8 + i))))) (by omega) ok.1 ok.2.2.1 ok.2.1 ok.2.2.2) (cwV 1 hts gX4_clean_X4_takeOut rfl rfl rfl hdX4_takeOut ⟨Nat.le_of_ble_eq_true rfl, Nat.le_of_ble_eq_true rfl⟩) rfl rfl 0 rfl rfl hE hP hS (frs hS) rfl hl.1 rfl (Nat.le_of_ble_eq_true rfl) dX4_clean_46 ⟨Nat.le_of_ble_eq_true rfl, Nat.le_of_ble_eq_true rfl⟩ (fun H locs hP _ _ hS => ?_)
          refine lv_iinc (v := nI (d + 1)) (lv' := [(4, .int (nI (d + 1))), (5, .int (nI (a * 8 + i))), (2, .long (stl u N)), (0, .ref (g 0)), (1, .int (nI a))]) hx hb dX4_clean_49 hl (k := 1) rfl (nI_1 d) (by decide) rfl (fun ls hl => ?_)
          refine lv_iinc (v := nI ((a * 8 + i) + 1)) (lv' := [(5, .int (nI ((a * 8 + i) + 1))), (4, .int (nI (d + 1))), (2, .long (stl u N)), (0, .ref (g 0)), (1, .int (nI a))]) hx hb dX4_clean_52 hl (k := 1) rfl (nI_1 (a * 8 + i)) (by decide) rfl (fun ls hl => ?_)
          refine lv_goto (tgt := 21) hx hb dX4_clean_55 (by decide) ?_
          exact ih21 (i + 1) (cto v (a * 8 + i) (nat (c_k v (a * 8 + i))) (nat (c_ct v (nat (c_k v (a * 8 + i)))))) (d + 1) (by omega) (by first | exact cln_y hv c2 | exact cln_n hv c2) (by omega) _ _ hP hS ls (lv_sub hl [0, 1, 2, 3, 4] rfl)
  exact loop21 _ 0 u 0 (by omega) rfl (Nat.lt_succ_self _) _ _ hP hS ls (lv_sub hl [0, 1, 2, 3, 4] rfl)

/-! ===== RowPages: places, seeing, changing, cleaning ===== -/
/-- no exception, if q; otherwise X -/
noncomputable def ex (q : Prop) (X : String) : Option String := @ite _ q (Classical.propDecidable q) none (some X)
theorem ex_t {q : Prop} {X : String} (h : q) : ex q X = none := by unfold ex; exact if_pos h
theorem ex_f {q : Prop} {X : String} (h : ¬ q) : ex q X = some X := by unfold ex; exact if_neg h
theorem ex_n {q : Prop} {X : String} (h : ex q X = none) : q := Classical.byContradiction fun k => by rw [ex_f k] at h; cases h
/-- the first exception of two -/
def thn (a b : Option String) : Option String := match a with
  | some X => some X
  | none => b
abbrev nat (x : Int32) : Nat := x.toNatClampNeg
theorem nat_nI {n : Nat} (h : n < 2 ^ 31) : nat (nI n) = n := nI_clamp h
def plP (x : Int32) : Prop := ¬ x < 0 ∧ ¬ 32 ≤ x
theorem pl_at {x : Int32} (h : plP x) : ∃ j : Nat, j < 32 ∧ x = nI j := nI_rng (N := 32) (by omega) h.1 h.2
theorem pl_nI {j : Nat} (h : j < 32) : plP (nI j) := ⟨nI_pos (by omega), nI_ge (a := j) (b := 32) h (by omega)⟩
theorem pl_m1 : ¬ plP (-1) := fun h => h.1 (by decide)
def stP (x : Int32) : Prop := ¬ x < 0 ∧ x < 64
def kyP (x : Int32) : Prop := ¬ x < 0 ∧ x < 6
def vaP (x : Int32) : Prop := ¬ x < 0 ∧ x < 10000
def pgP (x : Int32) : Prop := ¬ x < 0 ∧ x < 4
def slP (x : Int32) : Prop := ¬ x < 0 ∧ x < 8
def seP (u : CU) (t q : Nat) : Prop := (¬ c_f u q = 0 ∨ knP u t (c_b u q)) ∧ ¬ knP u t (c_d u q)
/-- what is seen in the chain from x on, n steps at the most -/
noncomputable def sic (u : CU) (t : Nat) : Nat → Int32 → Int32
  | 0, _ => -1
  | n + 1, x => @ite _ (plP x) (Classical.propDecidable _) (@ite _ (seP u t (nat x)) (Classical.propDecidable _) x (sic u t n (c_n u (nat x)))) (-1)
theorem sic_o {u : CU} {t n : Nat} {x : Int32} (h : ¬ plP x) : sic u t n x = -1 := by
  cases n with
  | zero => rfl
  | succ n => rw [sic]; exact if_neg h
theorem sic_y {u : CU} {t n q : Nat} (hq : q < 32) (h : seP u t q) : sic u t (n + 1) (nI q) = nI q := by
  rw [sic, nat_nI (by omega)]; exact (if_pos (pl_nI hq)).trans (if_pos h)
theorem sic_n {u : CU} {t n q : Nat} (hq : q < 32) (h : ¬ seP u t q) : sic u t (n + 1) (nI q) = sic u t n (c_n u q) := by
  rw [sic, nat_nI (by omega)]; exact (if_pos (pl_nI hq)).trans (if_neg h)
/-- what is seen through the first n entries of a key, the last of them first -/
noncomputable def spl (u : CU) (t k : Nat) : Nat → Int32
  | 0 => -1
  | n + 1 => if sic u t 8 (c_pl u k n) = -1 then spl u t k n else sic u t 8 (c_pl u k n)
noncomputable def pfn (u : CU) (x : Int32) : Int32 := @ite _ (plP x) (Classical.propDecidable _) (if lf (c_k u) (nat x / 8 * 8) 8 = -1 then lf (c_k u) 0 32 else lf (c_k u) (nat x / 8 * 8) 8) (lf (c_k u) 0 32)
theorem pfn_o {u : CU} {x : Int32} (h : ¬ plP x) : pfn u x = lf (c_k u) 0 32 := by unfold pfn; exact if_neg h
theorem pfn_y {u : CU} {q : Nat} (hq : q < 32) (h : ¬ lf (c_k u) (q / 8 * 8) 8 = -1) : pfn u (nI q) = lf (c_k u) (q / 8 * 8) 8 := by
  unfold pfn; rw [nat_nI (by omega)]; exact (if_pos (pl_nI hq)).trans (if_neg h)
theorem pfn_n {u : CU} {q : Nat} (hq : q < 32) (h : lf (c_k u) (q / 8 * 8) 8 = -1) : pfn u (nI q) = lf (c_k u) 0 32 := by
  unfold pfn; rw [nat_nI (by omega)]; exact (if_pos (pl_nI hq)).trans (if_pos h)
/-- a death put -/
def cpd (u : CU) (t q r : Nat) : CU := s_mp (s_td (s_ds (s_d u (upd (c_d u) q (nI t))) (upd (c_ds u) q (c_sp u t))) (upd (c_td u) r (nI t))) (upd (c_mp u) (q / 8) 0)
/-- a version put -/
def cpv (u : CU) (t : Nat) (k v : Int32) (q n : Nat) : CU :=
  let u1 := s_bs (s_b (s_v (s_k u (upd (c_k u) q k)) (upd (c_v u) q v)) (upd (c_b u) q (nI t))) (upd (c_bs u) q (c_sp u t))
  s_mp (s_r (cta u1 n k v (nI t)) (upd (c_r u) q (nI n))) (upd (c_mp u) (q / 8) 0)
def cgP (u : CU) (q : Nat) (S9 : Int64) : Prop := usP u q ∧ (tbP u (c_b u q) ∨ hasP S9 (c_d u q))
def sbP (u : CU) (q : Nat) (S9 : Int64) : Prop := ¬ hdP u q ∧ (¬ c_f u q = 0 ∨ hasP S9 (c_b u q))
/-- a version taken out -/
def cto (u : CU) (q kq n : Nat) : CU := cem (cim (s_n u (rpl (c_n u) (nI q) (c_n u q) 32)) kq n (nI q) (c_n u q)) q
def fzP (u : CU) (S9 : Int64) (j : Nat) : Prop := usP u j ∧ ¬ fm (c_ns u - c_bs u j) < c_fz u ∧ hasP S9 (c_b u j)
/-- what is frozen from a on, ahead of b -/
noncomputable def fzn (u : CU) (S9 : Int64) (a b : Nat) : AI := fun j => @ite _ (a ≤ j ∧ j < b ∧ fzP u S9 j) (Classical.propDecidable _) 1 (c_f u j)
theorem fzn_0 {u : CU} {S9 : Int64} {a : Nat} : fzn u S9 a a = c_f u := by
  funext j; unfold fzn; exact if_neg (fun k => by omega)
theorem fzn_y {u : CU} {S9 : Int64} {a i : Nat} (ha : a ≤ i) (h : fzP u S9 i) : upd (fzn u S9 a i) i 1 = fzn u S9 a (i + 1) := by
  funext j; unfold upd
  by_cases hj : j = i
  · rw [if_pos hj, hj]; unfold fzn; exact (if_pos ⟨ha, by omega, h⟩).symm
  · rw [if_neg hj]; unfold fzn
    by_cases h2 : a ≤ j ∧ j < i ∧ fzP u S9 j
    · exact (if_pos h2).trans (if_pos ⟨h2.1, by omega, h2.2.2⟩).symm
    · exact (if_neg h2).trans (if_neg (fun k => h2 ⟨k.1, by omega, k.2.2⟩)).symm
theorem fzn_n {u : CU} {S9 : Int64} {a i : Nat} (h : ¬ fzP u S9 i) : fzn u S9 a i = fzn u S9 a (i + 1) := by
  funext j; unfold fzn
  by_cases h2 : a ≤ j ∧ j < i ∧ fzP u S9 j
  · exact (if_pos h2).trans (if_pos ⟨h2.1, by omega, h2.2.2⟩).symm
  · refine (if_neg h2).trans (if_neg (fun k => ?_)).symm
    by_cases hj : j = i
    · rw [hj] at k; exact h k.2.2
    · exact h2 ⟨k.1, by omega, k.2.2⟩
def whP (u : CU) (a : Nat) (S9 : Int64) : Prop := ∀ j, a * 8 ≤ j → j < a * 8 + 8 → usP u j → sbP u j S9
/-- the oldest age, the first n places looked at -/
noncomputable def olb (u : CU) (j : Nat) (x : Int32) : Int32 := @ite _ (usP u j ∧ c_f u j = 0) (Classical.propDecidable _) (mx x (fm (c_ns u - c_bs u j))) x
noncomputable def old (u : CU) (j : Nat) (x : Int32) : Int32 := @ite _ (hdP u j) (Classical.propDecidable _) (mx x (fm (c_ns u - c_ds u j))) x
noncomputable def olg (u : CU) (N : Nat) : Nat → Int32
  | 0 => oaa u N
  | n + 1 => old u n (olb u n (olg u N n))
theorem olb_y {u : CU} {j : Nat} {x : Int32} (h : usP u j) (h2 : c_f u j = 0) : olb u j x = mx x (fm (c_ns u - c_bs u j)) := by unfold olb; exact if_pos ⟨h, h2⟩
theorem olb_n {u : CU} {j : Nat} {x : Int32} (h : ¬ (usP u j ∧ c_f u j = 0)) : olb u j x = x := by unfold olb; exact if_neg h
theorem old_y {u : CU} {j : Nat} {x : Int32} (h : hdP u j) : old u j x = mx x (fm (c_ns u - c_ds u j)) := by unfold old; exact if_pos h
theorem old_n {u : CU} {j : Nat} {x : Int32} (h : ¬ hdP u j) : old u j x = x := by unfold old; exact if_neg h
def rfP (u : CU) (t k : Nat) : Prop := ∃ j, j < 32 ∧ c_k u j = nI k ∧ (rvP u t (c_b u j) ∨ rvP u t (c_d u j))
theorem pk_rem8 {q : Nat} (h : q < 2 ^ 31) : nI q - nI q / 8 * 8 = nI (q % 8) := pk_rem (d := 8) h (by omega) (by omega)
theorem pk_div8 {q : Nat} (h : q < 2 ^ 31) : nI q / 8 = nI (q / 8) := pk_div (d := 8) h (by omega) (by omega)
theorem nI_dec (n : Nat) : nI n + Int32.ofInt (-1) = nI n - 1 := by rw [Int32.sub_eq_add_neg]; rfl
def rmX4_isPlace : Room := { frames := 0, cells := 0, slots := 0, locals := 0 }
theorem hdX4_isPlace : yX4_isPlace.cls = RX4 ∧ yX4_isPlace.cls ≠ "java/lang/invoke/MethodHandle" ∧ yX4_isPlace.cls ≠ "java/lang/invoke/VarHandle" ∧ (parseMethodDescriptor yX4_isPlace.desc).map (fun d => d.parameters.length) = some 1 := by decide +kernel
set_option maxHeartbeats 4000000 in
set_option maxRecDepth 100000 in
theorem kX4_isPlace {l : Launch} {D : va_G} {K : Nat → ClassId} {L : Nat → Prop} {w : va_W} (x : Int32) : CI l yX4_isPlace wsX4_isPlace rmX4_isPlace D K L [.int x] w w (fb (plP x)) := by
  refine CI.of (cc := cX4_isPlace) (maxL := 1) (ret := (some .boolean)) (by decide +kernel) rfl (Nat.le_of_ble_eq_true rfl) ?_
  intro p e s m below meth c ls hen hP
  obtain ⟨hx, hb, hr, hts, hown, hlk, hml, hnm, hE, hl⟩ := hen
  have S : CallFix p m c cX4_isPlace 1 s _ wsX4_isPlace RX4 := ⟨hx, hb, hml, hown, hts⟩
  have hS : va_S (fr L s.heap.size) s.heap s.heap [] := va_S.rf
  have hl : lv_has ls 1 [(0, .int x)] := hl
  refine lv_iload_n hx hb dX4_isPlace_0 rfl (lv_at hl 0 rfl) ?_
  refine lv_if_lt (tgt := 14) hx hb dX4_isPlace_1 (by decide) (fun c1 => ?_) (fun c1 => ?_)
  · skip
    have no : ¬ plP x := fun k => k.1 c1
    refine lv_iconst (v := 0) hx hb dX4_isPlace_14 (by decide) ?_
    exact ez hx hb hr hlk hS hP rfl (by first | exact f_fb no | exact t_fb yes) rfl (Nat.le_of_ble_eq_true rfl) (Nat.le_of_ble_eq_true rfl) dX4_isPlace_15
  · skip
    refine lv_iload_n hx hb dX4_isPlace_4 rfl (lv_at hl 0 rfl) ?_
    refine lv_bipush (v := 32) hx hb dX4_isPlace_5 (by decide) ?_
    refine lv_icmp_ge (tgt := 14) hx hb dX4_isPlace_7 (by decide) (fun c2 => ?_) (fun c2 => ?_)
    · skip
      have no : ¬ plP x := fun k => k.2 c2
      refine lv_iconst (v := 0) hx hb dX4_isPlace_14 (by decide) ?_
      exact ez hx hb hr hlk hS hP rfl (by first | exact f_fb no | exact t_fb yes) rfl (Nat.le_of_ble_eq_true rfl) (Nat.le_of_ble_eq_true rfl) dX4_isPlace_15
    · skip
      have yes : plP x := ⟨c1, c2⟩
      refine lv_iconst (v := 1) hx hb dX4_isPlace_10 (by decide) ?_
      refine lv_goto (tgt := 15) hx hb dX4_isPlace_11 (by decide) ?_
      exact ez hx hb hr hlk hS hP rfl (by first | exact f_fb no | exact t_fb yes) rfl (Nat.le_of_ble_eq_true rfl) (Nat.le_of_ble_eq_true rfl) dX4_isPlace_15
def rmX4_firstOf : Room := { frames := 0, cells := 0, slots := 0, locals := 0 }
theorem hdX4_firstOf : yX4_firstOf.cls = RX4 ∧ yX4_firstOf.cls ≠ "java/lang/invoke/MethodHandle" ∧ yX4_firstOf.cls ≠ "java/lang/invoke/VarHandle" ∧ (parseMethodDescriptor yX4_firstOf.desc).map (fun d => d.parameters.length) = some 1 := by decide +kernel
set_option maxHeartbeats 4000000 in
set_option maxRecDepth 100000 in
theorem kX4_firstOf {l : Launch} {D : va_G} {K : Nat → ClassId} {L : Nat → Prop} {w : va_W} (q : Nat) : CI l yX4_firstOf wsX4_firstOf rmX4_firstOf D K L [.int (nI q)] w w (nI (q * 8)) := by
  refine CI.of (cc := cX4_firstOf) (maxL := 1) (ret := (some .int)) (by decide +kernel) rfl (Nat.le_of_ble_eq_true rfl) ?_
  intro p e s m below meth c ls hen hP
  obtain ⟨hx, hb, hr, hts, hown, hlk, hml, hnm, hE, hl⟩ := hen
  have S : CallFix p m c cX4_firstOf 1 s _ wsX4_firstOf RX4 := ⟨hx, hb, hml, hown, hts⟩
  have hS : va_S (fr L s.heap.size) s.heap s.heap [] := va_S.rf
  have hl : lv_has ls 1 [(0, .int (nI q))] := hl
  refine lv_iload_n hx hb dX4_firstOf_0 rfl (lv_at hl 0 rfl) ?_
  refine lv_bipush (v := 8) hx hb dX4_firstOf_1 (by decide) ?_
  refine lv_imul hx hb dX4_firstOf_3 ?_
  refine tpi (y := nI (q * 8)) (pk_mul q 8) ?_
  exact ei hx hb hr hlk hS hP rfl (by rfl) (Nat.le_of_ble_eq_true rfl) (Nat.le_of_ble_eq_true rfl) dX4_firstOf_4
def rmX4_pageOf : Room := { frames := 0, cells := 0, slots := 0, locals := 0 }
theorem hdX4_pageOf : yX4_pageOf.cls = RX4 ∧ yX4_pageOf.cls ≠ "java/lang/invoke/MethodHandle" ∧ yX4_pageOf.cls ≠ "java/lang/invoke/VarHandle" ∧ (parseMethodDescriptor yX4_pageOf.desc).map (fun d => d.parameters.length) = some 1 := by decide +kernel
set_option maxHeartbeats 4000000 in
set_option maxRecDepth 100000 in
theorem kX4_pageOf {l : Launch} {D : va_G} {K : Nat → ClassId} {L : Nat → Prop} {w : va_W} (q : Nat) (hq : q < 32) : CI l yX4_pageOf wsX4_pageOf rmX4_pageOf D K L [.int (nI q)] w w (nI (q / 8)) := by
  refine CI.of (cc := cX4_pageOf) (maxL := 1) (ret := (some .int)) (by decide +kernel) rfl (Nat.le_of_ble_eq_true rfl) ?_
  intro p e s m below meth c ls hen hP
  obtain ⟨hx, hb, hr, hts, hown, hlk, hml, hnm, hE, hl⟩ := hen
  have S : CallFix p m c cX4_pageOf 1 s _ wsX4_pageOf RX4 := ⟨hx, hb, hml, hown, hts⟩
  have hS : va_S (fr L s.heap.size) s.heap s.heap [] := va_S.rf
  have hl : lv_has ls 1 [(0, .int (nI q))] := hl
  refine lv_iload_n hx hb dX4_pageOf_0 rfl (lv_at hl 0 rfl) ?_
  refine lv_bipush (v := 8) hx hb dX4_pageOf_1 (by decide) ?_
  refine lv_idiv hx hb dX4_pageOf_3 (by decide) ?_
  refine tpi (y := nI (q / 8)) (pk_div8 (by omega)) ?_
  exact ei hx hb hr hlk hS hP rfl (by rfl) (Nat.le_of_ble_eq_true rfl) (Nat.le_of_ble_eq_true rfl) dX4_pageOf_4
def rmX4_slotOf : Room := { frames := 0, cells := 0, slots := 0, locals := 0 }
theorem hdX4_slotOf : yX4_slotOf.cls = RX4 ∧ yX4_slotOf.cls ≠ "java/lang/invoke/MethodHandle" ∧ yX4_slotOf.cls ≠ "java/lang/invoke/VarHandle" ∧ (parseMethodDescriptor yX4_slotOf.desc).map (fun d => d.parameters.length) = some 1 := by decide +kernel
set_option maxHeartbeats 4000000 in
set_option maxRecDepth 100000 in
theorem kX4_slotOf {l : Launch} {D : va_G} {K : Nat → ClassId} {L : Nat → Prop} {w : va_W} (q : Nat) (hq : q < 32) : CI l yX4_slotOf wsX4_slotOf rmX4_slotOf D K L [.int (nI q)] w w (nI (q % 8)) := by
  refine CI.of (cc := cX4_slotOf) (maxL := 1) (ret := (some .int)) (by decide +kernel) rfl (Nat.le_of_ble_eq_true rfl) ?_
  intro p e s m below meth c ls hen hP
  obtain ⟨hx, hb, hr, hts, hown, hlk, hml, hnm, hE, hl⟩ := hen
  have S : CallFix p m c cX4_slotOf 1 s _ wsX4_slotOf RX4 := ⟨hx, hb, hml, hown, hts⟩
  have hS : va_S (fr L s.heap.size) s.heap s.heap [] := va_S.rf
  have hl : lv_has ls 1 [(0, .int (nI q))] := hl
  refine lv_iload_n hx hb dX4_slotOf_0 rfl (lv_at hl 0 rfl) ?_
  refine lv_bipush (v := 8) hx hb dX4_slotOf_1 (by decide) ?_
  refine lv_irem hx hb dX4_slotOf_3 (by decide) ?_
  refine tpi (y := nI (q % 8)) (pk_rem8 (by omega)) ?_
  exact ei hx hb hr hlk hS hP rfl (by rfl) (Nat.le_of_ble_eq_true rfl) (Nat.le_of_ble_eq_true rfl) dX4_slotOf_4
def rmX4_checkTransaction : Room := { frames := 6, cells := 1, slots := 6, locals := 90 }
theorem hdX4_checkTransaction : yX4_checkTransaction.cls = RX4 ∧ yX4_checkTransaction.cls ≠ "java/lang/invoke/MethodHandle" ∧ yX4_checkTransaction.cls ≠ "java/lang/invoke/VarHandle" ∧ (parseMethodDescriptor yX4_checkTransaction.desc).map (fun d => d.parameters.length) = some 1 := by decide +kernel
set_option maxHeartbeats 4000000 in
set_option maxRecDepth 100000 in
theorem kX4_checkTransaction {l : Launch} {D : va_G} {K : Nat → ClassId} {L : Nat → Prop} {g : Nat → Nat} (hg : gd L g 29) (hfl : l.stackTraces = false) (u : CU) (x : Int32) : XV l yX4_checkTransaction wsX4_checkTransaction rmX4_checkTransaction D K L [.ref (g 0), .int x] (wC K g u) (wC K g u) (ex (wbP u x) xIO) := by
  refine XV.of (cc := cX4_checkTransaction) (maxL := 2) (ret := none) (by decide +kernel) rfl (Nat.le_of_ble_eq_true rfl) ?_
  intro p e s m below meth c ls hen hxt hP
  obtain ⟨hx, hb, hr, hts, hown, hlk, hml, hnm, hE, hl⟩ := hen
  have S : CallFix p m c cX4_checkTransaction 2 s _ wsX4_checkTransaction RX4 := ⟨hx, hb, hml, hown, hts⟩
  have hS : va_S (fr L s.heap.size) s.heap s.heap [] := va_S.rf
  have hl : lv_has ls 2 [(0, .ref (g 0)), (1, .int x)] := hl
  have i4 : ∀ w ∈ wsX40, w ∈ wsX4_checkTransaction := fun _ h => List.mem_cons_of_mem _ (List.mem_append_left _ (List.mem_append_left _ (List.mem_append_right _ h)))
  have i3 : ∀ w ∈ wsX30, w ∈ wsX4_checkTransaction := fun _ h => List.mem_cons_of_mem _ (List.mem_append_left _ (List.mem_append_right _ h))
  refine lv_aload_n hx hb dX4_checkTransaction_0 rfl (lv_at hl 0 rfl) ?_
  refine gw4_transactions S i4 hE hP (hts _ (List.mem_of_getElem? (i := 3) rfl)) dX4_checkTransaction_1 ?_
  refine lv_iload_n hx hb dX4_checkTransaction_4 rfl (lv_at hl 1 rfl) ?_
  refine kiV (As := [.int x]) (rest := []) S (kX3_wasBegun hg u x) (cwV 1 hts gX4_checkTransaction_X3_wasBegun rfl rfl rfl hdX3_wasBegun ⟨Nat.le_of_ble_eq_true rfl, Nat.le_of_ble_eq_true rfl⟩) rfl rfl 1 rfl rfl hE hP hS (frs hS) rfl hl.1 rfl (Nat.le_of_ble_eq_true rfl) dX4_checkTransaction_5 ⟨Nat.le_of_ble_eq_true rfl, Nat.le_of_ble_eq_true rfl⟩ (fun H locs hP _ _ hS => ?_)
  refine bzne (tgt := 21) hx hb dX4_checkTransaction_8 (by decide) (fun c1 => ?_) (fun c1 => ?_)
  · skip
    exact xe0 hx hb hr hlk hS hP rfl (ex_t c1) (Nat.le_of_ble_eq_true rfl) (Nat.le_of_ble_eq_true rfl) dX4_checkTransaction_21
  · skip
    exact xth (X := xIO) hx hb hfl hown hts (List.mem_of_getElem? (i := 2) rfl) (List.mem_of_getElem? (i := 2) rfl) ft_xIO (List.mem_of_getElem? (i := 1) rfl) (List.mem_of_getElem? (i := 2) rfl) (fun _ h => List.mem_cons_of_mem _ (List.mem_append_right _ h)) ng_xIO gd_xIO hE hS hP (ex_f c1) (hl.1.trans hml.symm) dX4_checkTransaction_11 dX4_checkTransaction_14 (Or.inl ⟨dX4_checkTransaction_15, dX4_checkTransaction_17, dX4_checkTransaction_20⟩) hxt (Nat.le_of_ble_eq_true rfl) (Nat.le_of_ble_eq_true rfl) (Nat.le_of_ble_eq_true rfl) (Nat.le_of_ble_eq_true rfl) hlk (Nat.le_of_ble_eq_true rfl) (Nat.le_of_ble_eq_true rfl)
def rmX4_checkActive : Room := { frames := 6, cells := 1, slots := 6, locals := 90 }
theorem hdX4_checkActive : yX4_checkActive.cls = RX4 ∧ yX4_checkActive.cls ≠ "java/lang/invoke/MethodHandle" ∧ yX4_checkActive.cls ≠ "java/lang/invoke/VarHandle" ∧ (parseMethodDescriptor yX4_checkActive.desc).map (fun d => d.parameters.length) = some 1 := by decide +kernel
set_option maxHeartbeats 4000000 in
set_option maxRecDepth 100000 in
theorem kX4_checkActive {l : Launch} {D : va_G} {K : Nat → ClassId} {L : Nat → Prop} {g : Nat → Nat} (hg : gd L g 29) (hfl : l.stackTraces = false) (u : CU) (x : Int32) : XV l yX4_checkActive wsX4_checkActive rmX4_checkActive D K L [.ref (g 0), .int x] (wC K g u) (wC K g u) (ex (hasP (c_ac u) x) xIS) := by
  refine XV.of (cc := cX4_checkActive) (maxL := 2) (ret := none) (by decide +kernel) rfl (Nat.le_of_ble_eq_true rfl) ?_
  intro p e s m below meth c ls hen hxt hP
  obtain ⟨hx, hb, hr, hts, hown, hlk, hml, hnm, hE, hl⟩ := hen
  have S : CallFix p m c cX4_checkActive 2 s _ wsX4_checkActive RX4 := ⟨hx, hb, hml, hown, hts⟩
  have hS : va_S (fr L s.heap.size) s.heap s.heap [] := va_S.rf
  have hl : lv_has ls 2 [(0, .ref (g 0)), (1, .int x)] := hl
  have i4 : ∀ w ∈ wsX40, w ∈ wsX4_checkActive := fun _ h => List.mem_cons_of_mem _ (List.mem_append_left _ (List.mem_append_left _ (List.mem_append_right _ h)))
  have i3 : ∀ w ∈ wsX30, w ∈ wsX4_checkActive := fun _ h => List.mem_cons_of_mem _ (List.mem_append_left _ (List.mem_append_right _ h))
  refine lv_aload_n hx hb dX4_checkActive_0 rfl (lv_at hl 0 rfl) ?_
  refine gw4_transactions S i4 hE hP (hts _ (List.mem_of_getElem? (i := 3) rfl)) dX4_checkActive_1 ?_
  refine lv_iload_n hx hb dX4_checkActive_4 rfl (lv_at hl 1 rfl) ?_
  refine kiV (As := [.int x]) (rest := []) S (kX3_isActive hg u x) (cwV 1 hts gX4_checkActive_X3_isActive rfl rfl rfl hdX3_isActive ⟨Nat.le_of_ble_eq_true rfl, Nat.le_of_ble_eq_true rfl⟩) rfl rfl 1 rfl rfl hE hP hS (frs hS) rfl hl.1 rfl (Nat.le_of_ble_eq_true rfl) dX4_checkActive_5 ⟨Nat.le_of_ble_eq_true rfl, Nat.le_of_ble_eq_true rfl⟩ (fun H locs hP _ _ hS => ?_)
  refine bzne (tgt := 21) hx hb dX4_checkActive_8 (by decide) (fun c1 => ?_) (fun c1 => ?_)
  · skip
    exact xe0 hx hb hr hlk hS hP rfl (ex_t c1) (Nat.le_of_ble_eq_true rfl) (Nat.le_of_ble_eq_true rfl) dX4_checkActive_21
  · skip
    exact xth (X := xIS) hx hb hfl hown hts (List.mem_of_getElem? (i := 0) rfl) (List.mem_of_getElem? (i := 3) rfl) ft_xIS (List.mem_of_getElem? (i := 1) rfl) (List.mem_of_getElem? (i := 2) rfl) (fun _ h => List.mem_cons_of_mem _ (List.mem_append_right _ h)) ng_xIS gd_xIS hE hS hP (ex_f c1) (hl.1.trans hml.symm) dX4_checkActive_11 dX4_checkActive_14 (Or.inl ⟨dX4_checkActive_15, dX4_checkActive_17, dX4_checkActive_20⟩) hxt (Nat.le_of_ble_eq_true rfl) (Nat.le_of_ble_eq_true rfl) (Nat.le_of_ble_eq_true rfl) (Nat.le_of_ble_eq_true rfl) hlk (Nat.le_of_ble_eq_true rfl) (Nat.le_of_ble_eq_true rfl)
def rmX4_checkStamp : Room := { frames := 6, cells := 1, slots := 6, locals := 90 }
theorem hdX4_checkStamp : yX4_checkStamp.cls = RX4 ∧ yX4_checkStamp.cls ≠ "java/lang/invoke/MethodHandle" ∧ yX4_checkStamp.cls ≠ "java/lang/invoke/VarHandle" ∧ (parseMethodDescriptor yX4_checkStamp.desc).map (fun d => d.parameters.length) = some 1 := by decide +kernel
set_option maxHeartbeats 4000000 in
set_option maxRecDepth 100000 in
theorem kX4_checkStamp {l : Launch} {D : va_G} {K : Nat → ClassId} {L : Nat → Prop} {w : va_W} (hfl : l.stackTraces = false) (x : Int32) : XV l yX4_checkStamp wsX4_checkStamp rmX4_checkStamp D K L [.int x] w w (ex (stP x) xIA) := by
  refine XV.of (cc := cX4_checkStamp) (maxL := 1) (ret := none) (by decide +kernel) rfl (Nat.le_of_ble_eq_true rfl) ?_
  intro p e s m below meth c ls hen hxt hP
  obtain ⟨hx, hb, hr, hts, hown, hlk, hml, hnm, hE, hl⟩ := hen
  have S : CallFix p m c cX4_checkStamp 1 s _ wsX4_checkStamp RX4 := ⟨hx, hb, hml, hown, hts⟩
  have hS : va_S (fr L s.heap.size) s.heap s.heap [] := va_S.rf
  have hl : lv_has ls 1 [(0, .int x)] := hl
  refine lv_iload_n hx hb dX4_checkStamp_0 rfl (lv_at hl 0 rfl) ?_
  refine lv_if_lt (tgt := 10) hx hb dX4_checkStamp_1 (by decide) (fun c1 => ?_) (fun c1 => ?_)
  · skip
    have no : ¬ stP x := fun k => k.1 c1
    exact xth (X := xIA) hx hb hfl hown hts (List.mem_of_getElem? (i := 1) rfl) (List.mem_of_getElem? (i := 6) rfl) ft_xIA (List.mem_of_getElem? (i := 1) rfl) (List.mem_of_getElem? (i := 2) rfl) (fun _ h => List.mem_cons_of_mem _ (List.mem_append_right _ h)) ng_xIA gd_xIA hE hS hP (ex_f no) (hl.1.trans hml.symm) dX4_checkStamp_10 dX4_checkStamp_13 (Or.inl ⟨dX4_checkStamp_14, dX4_checkStamp_16, dX4_checkStamp_19⟩) hxt (Nat.le_of_ble_eq_true rfl) (Nat.le_of_ble_eq_true rfl) (Nat.le_of_ble_eq_true rfl) (Nat.le_of_ble_eq_true rfl) hlk (Nat.le_of_ble_eq_true rfl) (Nat.le_of_ble_eq_true rfl)
  · skip
    refine lv_iload_n hx hb dX4_checkStamp_4 rfl (lv_at hl 0 rfl) ?_
    refine lv_bipush (v := 64) hx hb dX4_checkStamp_5 (by decide) ?_
    refine lv_icmp_lt (tgt := 20) hx hb dX4_checkStamp_7 (by decide) (fun c2 => ?_) (fun c2 => ?_)
    · skip
      have yes : stP x := ⟨c1, c2⟩
      exact xe0 hx hb hr hlk hS hP rfl (ex_t yes) (Nat.le_of_ble_eq_true rfl) (Nat.le_of_ble_eq_true rfl) dX4_checkStamp_20
    · skip
      have no : ¬ stP x := fun k => c2 k.2
      exact xth (X := xIA) hx hb hfl hown hts (List.mem_of_getElem? (i := 1) rfl) (List.mem_of_getElem? (i := 6) rfl) ft_xIA (List.mem_of_getElem? (i := 1) rfl) (List.mem_of_getElem? (i := 2) rfl) (fun _ h => List.mem_cons_of_mem _ (List.mem_append_right _ h)) ng_xIA gd_xIA hE hS hP (ex_f no) (hl.1.trans hml.symm) dX4_checkStamp_10 dX4_checkStamp_13 (Or.inl ⟨dX4_checkStamp_14, dX4_checkStamp_16, dX4_checkStamp_19⟩) hxt (Nat.le_of_ble_eq_true rfl) (Nat.le_of_ble_eq_true rfl) (Nat.le_of_ble_eq_true rfl) (Nat.le_of_ble_eq_true rfl) hlk (Nat.le_of_ble_eq_true rfl) (Nat.le_of_ble_eq_true rfl)
def rmX4_checkKey : Room := { frames := 6, cells := 1, slots := 6, locals := 90 }
theorem hdX4_checkKey : yX4_checkKey.cls = RX4 ∧ yX4_checkKey.cls ≠ "java/lang/invoke/MethodHandle" ∧ yX4_checkKey.cls ≠ "java/lang/invoke/VarHandle" ∧ (parseMethodDescriptor yX4_checkKey.desc).map (fun d => d.parameters.length) = some 1 := by decide +kernel
set_option maxHeartbeats 4000000 in
set_option maxRecDepth 100000 in
theorem kX4_checkKey {l : Launch} {D : va_G} {K : Nat → ClassId} {L : Nat → Prop} {w : va_W} (hfl : l.stackTraces = false) (x : Int32) : XV l yX4_checkKey wsX4_checkKey rmX4_checkKey D K L [.int x] w w (ex (kyP x) xIA) := by
  refine XV.of (cc := cX4_checkKey) (maxL := 1) (ret := none) (by decide +kernel) rfl (Nat.le_of_ble_eq_true rfl) ?_
  intro p e s m below meth c ls hen hxt hP
  obtain ⟨hx, hb, hr, hts, hown, hlk, hml, hnm, hE, hl⟩ := hen
  have S : CallFix p m c cX4_checkKey 1 s _ wsX4_checkKey RX4 := ⟨hx, hb, hml, hown, hts⟩
  have hS : va_S (fr L s.heap.size) s.heap s.heap [] := va_S.rf
  have hl : lv_has ls 1 [(0, .int x)] := hl
  refine lv_iload_n hx hb dX4_checkKey_0 rfl (lv_at hl 0 rfl) ?_
  refine lv_if_lt (tgt := 10) hx hb dX4_checkKey_1 (by decide) (fun c1 => ?_) (fun c1 => ?_)
  · skip
    have no : ¬ kyP x := fun k => k.1 c1
    exact xth (X := xIA) hx hb hfl hown hts (List.mem_of_getElem? (i := 1) rfl) (List.mem_of_getElem? (i := 7) rfl) ft_xIA (List.mem_of_getElem? (i := 1) rfl) (List.mem_of_getElem? (i := 2) rfl) (fun _ h => List.mem_cons_of_mem _ (List.mem_append_right _ h)) ng_xIA gd_xIA hE hS hP (ex_f no) (hl.1.trans hml.symm) dX4_checkKey_10 dX4_checkKey_13 (Or.inl ⟨dX4_checkKey_14, dX4_checkKey_16, dX4_checkKey_19⟩) hxt (Nat.le_of_ble_eq_true rfl) (Nat.le_of_ble_eq_true rfl) (Nat.le_of_ble_eq_true rfl) (Nat.le_of_ble_eq_true rfl) hlk (Nat.le_of_ble_eq_true rfl) (Nat.le_of_ble_eq_true rfl)
  · skip
    refine lv_iload_n hx hb dX4_checkKey_4 rfl (lv_at hl 0 rfl) ?_
    refine lv_bipush (v := 6) hx hb dX4_checkKey_5 (by decide) ?_
    refine lv_icmp_lt (tgt := 20) hx hb dX4_checkKey_7 (by decide) (fun c2 => ?_) (fun c2 => ?_)
    · skip
      have yes : kyP x := ⟨c1, c2⟩
      exact xe0 hx hb hr hlk hS hP rfl (ex_t yes) (Nat.le_of_ble_eq_true rfl) (Nat.le_of_ble_eq_true rfl) dX4_checkKey_20
    · skip
      have no : ¬ kyP x := fun k => c2 k.2
      exact xth (X := xIA) hx hb hfl hown hts (List.mem_of_getElem? (i := 1) rfl) (List.mem_of_getElem? (i := 7) rfl) ft_xIA (List.mem_of_getElem? (i := 1) rfl) (List.mem_of_getElem? (i := 2) rfl) (fun _ h => List.mem_cons_of_mem _ (List.mem_append_right _ h)) ng_xIA gd_xIA hE hS hP (ex_f no) (hl.1.trans hml.symm) dX4_checkKey_10 dX4_checkKey_13 (Or.inl ⟨dX4_checkKey_14, dX4_checkKey_16, dX4_checkKey_19⟩) hxt (Nat.le_of_ble_eq_true rfl) (Nat.le_of_ble_eq_true rfl) (Nat.le_of_ble_eq_true rfl) (Nat.le_of_ble_eq_true rfl) hlk (Nat.le_of_ble_eq_true rfl) (Nat.le_of_ble_eq_true rfl)
def rmX4_checkValue : Room := { frames := 6, cells := 1, slots := 6, locals := 90 }
theorem hdX4_checkValue : yX4_checkValue.cls = RX4 ∧ yX4_checkValue.cls ≠ "java/lang/invoke/MethodHandle" ∧ yX4_checkValue.cls ≠ "java/lang/invoke/VarHandle" ∧ (parseMethodDescriptor yX4_checkValue.desc).map (fun d => d.parameters.length) = some 1 := by decide +kernel
set_option maxHeartbeats 4000000 in
set_option maxRecDepth 100000 in
theorem kX4_checkValue {l : Launch} {D : va_G} {K : Nat → ClassId} {L : Nat → Prop} {w : va_W} (hfl : l.stackTraces = false) (x : Int32) : XV l yX4_checkValue wsX4_checkValue rmX4_checkValue D K L [.int x] w w (ex (vaP x) xIA) := by
  refine XV.of (cc := cX4_checkValue) (maxL := 1) (ret := none) (by decide +kernel) rfl (Nat.le_of_ble_eq_true rfl) ?_
  intro p e s m below meth c ls hen hxt hP
  obtain ⟨hx, hb, hr, hts, hown, hlk, hml, hnm, hE, hl⟩ := hen
  have S : CallFix p m c cX4_checkValue 1 s _ wsX4_checkValue RX4 := ⟨hx, hb, hml, hown, hts⟩
  have hS : va_S (fr L s.heap.size) s.heap s.heap [] := va_S.rf
  have hl : lv_has ls 1 [(0, .int x)] := hl
  refine lv_iload_n hx hb dX4_checkValue_0 rfl (lv_at hl 0 rfl) ?_
  refine lv_if_lt (tgt := 11) hx hb dX4_checkValue_1 (by decide) (fun c1 => ?_) (fun c1 => ?_)
  · skip
    have no : ¬ vaP x := fun k => k.1 c1
    exact xth (X := xIA) hx hb hfl hown hts (List.mem_of_getElem? (i := 1) rfl) (List.mem_of_getElem? (i := 8) rfl) ft_xIA (List.mem_of_getElem? (i := 1) rfl) (List.mem_of_getElem? (i := 2) rfl) (fun _ h => List.mem_cons_of_mem _ (List.mem_append_right _ h)) ng_xIA gd_xIA hE hS hP (ex_f no) (hl.1.trans hml.symm) dX4_checkValue_11 dX4_checkValue_14 (Or.inl ⟨dX4_checkValue_15, dX4_checkValue_17, dX4_checkValue_20⟩) hxt (Nat.le_of_ble_eq_true rfl) (Nat.le_of_ble_eq_true rfl) (Nat.le_of_ble_eq_true rfl) (Nat.le_of_ble_eq_true rfl) hlk (Nat.le_of_ble_eq_true rfl) (Nat.le_of_ble_eq_true rfl)
  · skip
    refine lv_iload_n hx hb dX4_checkValue_4 rfl (lv_at hl 0 rfl) ?_
    refine lv_sipush (v := 10000) hx hb dX4_checkValue_5 (by decide) ?_
    refine lv_icmp_lt (tgt := 21) hx hb dX4_checkValue_8 (by decide) (fun c2 => ?_) (fun c2 => ?_)
    · skip
      have yes : vaP x := ⟨c1, c2⟩
      exact xe0 hx hb hr hlk hS hP rfl (ex_t yes) (Nat.le_of_ble_eq_true rfl) (Nat.le_of_ble_eq_true rfl) dX4_checkValue_21
    · skip
      have no : ¬ vaP x := fun k => c2 k.2
      exact xth (X := xIA) hx hb hfl hown hts (List.mem_of_getElem? (i := 1) rfl) (List.mem_of_getElem? (i := 8) rfl) ft_xIA (List.mem_of_getElem? (i := 1) rfl) (List.mem_of_getElem? (i := 2) rfl) (fun _ h => List.mem_cons_of_mem _ (List.mem_append_right _ h)) ng_xIA gd_xIA hE hS hP (ex_f no) (hl.1.trans hml.symm) dX4_checkValue_11 dX4_checkValue_14 (Or.inl ⟨dX4_checkValue_15, dX4_checkValue_17, dX4_checkValue_20⟩) hxt (Nat.le_of_ble_eq_true rfl) (Nat.le_of_ble_eq_true rfl) (Nat.le_of_ble_eq_true rfl) (Nat.le_of_ble_eq_true rfl) hlk (Nat.le_of_ble_eq_true rfl) (Nat.le_of_ble_eq_true rfl)
def rmX4_checkPage : Room := { frames := 6, cells := 1, slots := 6, locals := 90 }
theorem hdX4_checkPage : yX4_checkPage.cls = RX4 ∧ yX4_checkPage.cls ≠ "java/lang/invoke/MethodHandle" ∧ yX4_checkPage.cls ≠ "java/lang/invoke/VarHandle" ∧ (parseMethodDescriptor yX4_checkPage.desc).map (fun d => d.parameters.length) = some 1 := by decide +kernel
set_option maxHeartbeats 4000000 in
set_option maxRecDepth 100000 in
theorem kX4_checkPage {l : Launch} {D : va_G} {K : Nat → ClassId} {L : Nat → Prop} {w : va_W} (hfl : l.stackTraces = false) (x : Int32) : XV l yX4_checkPage wsX4_checkPage rmX4_checkPage D K L [.int x] w w (ex (pgP x) xIA) := by
  refine XV.of (cc := cX4_checkPage) (maxL := 1) (ret := none) (by decide +kernel) rfl (Nat.le_of_ble_eq_true rfl) ?_
  intro p e s m below meth c ls hen hxt hP
  obtain ⟨hx, hb, hr, hts, hown, hlk, hml, hnm, hE, hl⟩ := hen
  have S : CallFix p m c cX4_checkPage 1 s _ wsX4_checkPage RX4 := ⟨hx, hb, hml, hown, hts⟩
  have hS : va_S (fr L s.heap.size) s.heap s.heap [] := va_S.rf
  have hl : lv_has ls 1 [(0, .int x)] := hl
  refine lv_iload_n hx hb dX4_checkPage_0 rfl (lv_at hl 0 rfl) ?_
  refine lv_if_lt (tgt := 9) hx hb dX4_checkPage_1 (by decide) (fun c1 => ?_) (fun c1 => ?_)
  · skip
    have no : ¬ pgP x := fun k => k.1 c1
    exact xth (X := xIA) hx hb hfl hown hts (List.mem_of_getElem? (i := 1) rfl) (List.mem_of_getElem? (i := 11) rfl) ft_xIA (List.mem_of_getElem? (i := 1) rfl) (List.mem_of_getElem? (i := 2) rfl) (fun _ h => List.mem_cons_of_mem _ (List.mem_append_right _ h)) ng_xIA gd_xIA hE hS hP (ex_f no) (hl.1.trans hml.symm) dX4_checkPage_9 dX4_checkPage_12 (Or.inr ⟨dX4_checkPage_13, dX4_checkPage_16, dX4_checkPage_19⟩) hxt (Nat.le_of_ble_eq_true rfl) (Nat.le_of_ble_eq_true rfl) (Nat.le_of_ble_eq_true rfl) (Nat.le_of_ble_eq_true rfl) hlk (Nat.le_of_ble_eq_true rfl) (Nat.le_of_ble_eq_true rfl)
  · skip
    refine lv_iload_n hx hb dX4_checkPage_4 rfl (lv_at hl 0 rfl) ?_
    refine lv_iconst (v := 4) hx hb dX4_checkPage_5 (by decide) ?_
    refine lv_icmp_lt (tgt := 20) hx hb dX4_checkPage_6 (by decide) (fun c2 => ?_) (fun c2 => ?_)
    · skip
      have yes : pgP x := ⟨c1, c2⟩
      exact xe0 hx hb hr hlk hS hP rfl (ex_t yes) (Nat.le_of_ble_eq_true rfl) (Nat.le_of_ble_eq_true rfl) dX4_checkPage_20
    · skip
      have no : ¬ pgP x := fun k => c2 k.2
      exact xth (X := xIA) hx hb hfl hown hts (List.mem_of_getElem? (i := 1) rfl) (List.mem_of_getElem? (i := 11) rfl) ft_xIA (List.mem_of_getElem? (i := 1) rfl) (List.mem_of_getElem? (i := 2) rfl) (fun _ h => List.mem_cons_of_mem _ (List.mem_append_right _ h)) ng_xIA gd_xIA hE hS hP (ex_f no) (hl.1.trans hml.symm) dX4_checkPage_9 dX4_checkPage_12 (Or.inr ⟨dX4_checkPage_13, dX4_checkPage_16, dX4_checkPage_19⟩) hxt (Nat.le_of_ble_eq_true rfl) (Nat.le_of_ble_eq_true rfl) (Nat.le_of_ble_eq_true rfl) (Nat.le_of_ble_eq_true rfl) hlk (Nat.le_of_ble_eq_true rfl) (Nat.le_of_ble_eq_true rfl)
def rmX4_checkSlot : Room := { frames := 6, cells := 1, slots := 6, locals := 90 }
theorem hdX4_checkSlot : yX4_checkSlot.cls = RX4 ∧ yX4_checkSlot.cls ≠ "java/lang/invoke/MethodHandle" ∧ yX4_checkSlot.cls ≠ "java/lang/invoke/VarHandle" ∧ (parseMethodDescriptor yX4_checkSlot.desc).map (fun d => d.parameters.length) = some 1 := by decide +kernel
set_option maxHeartbeats 4000000 in
set_option maxRecDepth 100000 in
theorem kX4_checkSlot {l : Launch} {D : va_G} {K : Nat → ClassId} {L : Nat → Prop} {w : va_W} (hfl : l.stackTraces = false) (x : Int32) : XV l yX4_checkSlot wsX4_checkSlot rmX4_checkSlot D K L [.int x] w w (ex (slP x) xIA) := by
  refine XV.of (cc := cX4_checkSlot) (maxL := 1) (ret := none) (by decide +kernel) rfl (Nat.le_of_ble_eq_true rfl) ?_
  intro p e s m below meth c ls hen hxt hP
  obtain ⟨hx, hb, hr, hts, hown, hlk, hml, hnm, hE, hl⟩ := hen
  have S : CallFix p m c cX4_checkSlot 1 s _ wsX4_checkSlot RX4 := ⟨hx, hb, hml, hown, hts⟩
  have hS : va_S (fr L s.heap.size) s.heap s.heap [] := va_S.rf
  have hl : lv_has ls 1 [(0, .int x)] := hl
  refine lv_iload_n hx hb dX4_checkSlot_0 rfl (lv_at hl 0 rfl) ?_
  refine lv_if_lt (tgt := 10) hx hb dX4_checkSlot_1 (by decide) (fun c1 => ?_) (fun c1 => ?_)
  · skip
    have no : ¬ slP x := fun k => k.1 c1
    exact xth (X := xIA) hx hb hfl hown hts (List.mem_of_getElem? (i := 1) rfl) (List.mem_of_getElem? (i := 13) rfl) ft_xIA (List.mem_of_getElem? (i := 1) rfl) (List.mem_of_getElem? (i := 2) rfl) (fun _ h => List.mem_cons_of_mem _ (List.mem_append_right _ h)) ng_xIA gd_xIA hE hS hP (ex_f no) (hl.1.trans hml.symm) dX4_checkSlot_10 dX4_checkSlot_13 (Or.inr ⟨dX4_checkSlot_14, dX4_checkSlot_17, dX4_checkSlot_20⟩) hxt (Nat.le_of_ble_eq_true rfl) (Nat.le_of_ble_eq_true rfl) (Nat.le_of_ble_eq_true rfl) (Nat.le_of_ble_eq_true rfl) hlk (Nat.le_of_ble_eq_true rfl) (Nat.le_of_ble_eq_true rfl)
  · skip
    refine lv_iload_n hx hb dX4_checkSlot_4 rfl (lv_at hl 0 rfl) ?_
    refine lv_bipush (v := 8) hx hb dX4_checkSlot_5 (by decide) ?_
    refine lv_icmp_lt (tgt := 21) hx hb dX4_checkSlot_7 (by decide) (fun c2 => ?_) (fun c2 => ?_)
    · skip
      have yes : slP x := ⟨c1, c2⟩
      exact xe0 hx hb hr hlk hS hP rfl (ex_t yes) (Nat.le_of_ble_eq_true rfl) (Nat.le_of_ble_eq_true rfl) dX4_checkSlot_21
    · skip
      have no : ¬ slP x := fun k => c2 k.2
      exact xth (X := xIA) hx hb hfl hown hts (List.mem_of_getElem? (i := 1) rfl) (List.mem_of_getElem? (i := 13) rfl) ft_xIA (List.mem_of_getElem? (i := 1) rfl) (List.mem_of_getElem? (i := 2) rfl) (fun _ h => List.mem_cons_of_mem _ (List.mem_append_right _ h)) ng_xIA gd_xIA hE hS hP (ex_f no) (hl.1.trans hml.symm) dX4_checkSlot_10 dX4_checkSlot_13 (Or.inr ⟨dX4_checkSlot_14, dX4_checkSlot_17, dX4_checkSlot_20⟩) hxt (Nat.le_of_ble_eq_true rfl) (Nat.le_of_ble_eq_true rfl) (Nat.le_of_ble_eq_true rfl) (Nat.le_of_ble_eq_true rfl) hlk (Nat.le_of_ble_eq_true rfl) (Nat.le_of_ble_eq_true rfl)
def rmX4_sees : Room := { frames := 2, cells := 0, slots := 0, locals := 44 }
theorem hdX4_sees : yX4_sees.cls = RX4 ∧ yX4_sees.cls ≠ "java/lang/invoke/MethodHandle" ∧ yX4_sees.cls ≠ "java/lang/invoke/VarHandle" ∧ (parseMethodDescriptor yX4_sees.desc).map (fun d => d.parameters.length) = some 2 := by decide +kernel
set_option maxHeartbeats 4000000 in
set_option maxRecDepth 100000 in
theorem kX4_sees {l : Launch} {D : va_G} {K : Nat → ClassId} {L : Nat → Prop} {g : Nat → Nat} (hg : gd L g 29) (u : CU) (t q : Nat) (ht : t < 60) (hq : q < 32) : CI l yX4_sees wsX4_sees rmX4_sees D K L [.ref (g 0), .int (nI t), .int (nI q)] (wC K g u) (wC K g u) (fb (seP u t q)) := by
  refine CI.of (cc := cX4_sees) (maxL := 4) (ret := (some .boolean)) (by decide +kernel) rfl (Nat.le_of_ble_eq_true rfl) ?_
  intro p e s m below meth c ls hen hP
  obtain ⟨hx, hb, hr, hts, hown, hlk, hml, hnm, hE, hl⟩ := hen
  have S : CallFix p m c cX4_sees 4 s _ wsX4_sees RX4 := ⟨hx, hb, hml, hown, hts⟩
  have hS : va_S (fr L s.heap.size) s.heap s.heap [] := va_S.rf
  have hl : lv_has ls 4 [(0, .ref (g 0)), (1, .int (nI t)), (2, .int (nI q))] := hl
  have i4 : ∀ w ∈ wsX40, w ∈ wsX4_sees := fun _ h => List.mem_cons_of_mem _ (List.mem_append_left _ (List.mem_append_left _ (List.mem_append_right _ h)))
  have i1 : ∀ w ∈ wsX10, w ∈ wsX4_sees := fun _ h => List.mem_cons_of_mem _ (List.mem_append_left _ (List.mem_append_right _ h))
  have i3 : ∀ w ∈ wsX30, w ∈ wsX4_sees := fun _ h => List.mem_cons_of_mem _ (List.mem_append_right _ h)
  refine lv_aload_n hx hb dX4_sees_0 rfl (lv_at hl 0 rfl) ?_
  refine gw4_slots S i4 hE hP (hts _ (List.mem_of_getElem? (i := 1) rfl)) dX4_sees_1 ?_
  refine gw1_frozen S i1 hE hP (hts _ (List.mem_of_getElem? (i := 2) rfl)) dX4_sees_4 ?_
  refine lv_iload_n hx hb dX4_sees_7 rfl (lv_at hl 2 rfl) ?_
  refine lC_f S hE hP (f := c_f u) rfl (j := q) (by omega) rfl dX4_sees_8 ?_
  refine lv_if_ne (tgt := 32) hx hb dX4_sees_9 (by decide) (fun c1 => ?_) (fun c1 => ?_)
  · skip
    have h1 : ¬ c_f u q = 0 ∨ knP u t (c_b u q) := Or.inl c1
    refine lv_iconst (v := 1) hx hb dX4_sees_32 (by decide) ?_
    refine lv_goto (tgt := 37) hx hb dX4_sees_33 (by decide) ?_
    refine lv_istore_n (lv' := [(3, .int 1), (0, .ref (g 0)), (1, .int (nI t)), (2, .int (nI q))]) hx hb dX4_sees_37 rfl hl (by decide) rfl (fun ls hl => ?_)
    refine lv_iload_n hx hb dX4_sees_38 rfl (lv_at hl 0 rfl) ?_
    refine lv_if_eq (tgt := 66) hx hb dX4_sees_39 (by decide) (fun c2 => ?_) (fun c2 => ?_)
    · skip
      exact (by first | exact absurd c2 (by decide) | exact absurd (by decide) c2)
    · skip
      refine lv_aload_n hx hb dX4_sees_42 rfl (lv_at hl 1 rfl) ?_
      refine gw4_transactions S i4 hE hP (hts _ (List.mem_of_getElem? (i := 3) rfl)) dX4_sees_43 ?_
      refine lv_iload_n hx hb dX4_sees_46 rfl (lv_at hl 2 rfl) ?_
      refine lv_aload_n hx hb dX4_sees_47 rfl (lv_at hl 1 rfl) ?_
      refine gw4_slots S i4 hE hP (hts _ (List.mem_of_getElem? (i := 1) rfl)) dX4_sees_48 ?_
      refine gw1_deaths S i1 hE hP (hts _ (List.mem_of_getElem? (i := 5) rfl)) dX4_sees_51 ?_
      refine lv_iload_n hx hb dX4_sees_54 rfl (lv_at hl 3 rfl) ?_
      refine lC_d S hE hP (f := c_d u) rfl (j := q) (by omega) rfl dX4_sees_55 ?_
      refine kiV (As := [.int (nI t), .int (c_d u q)]) (rest := []) S (kX3_knows hg u t (c_d u q) (by omega)) (cwV 2 hts gX4_sees_X3_knows rfl rfl rfl hdX3_knows ⟨Nat.le_of_ble_eq_true rfl, Nat.le_of_ble_eq_true rfl⟩) rfl rfl 1 rfl rfl hE hP hS (frs hS) rfl hl.1 rfl (Nat.le_of_ble_eq_true rfl) dX4_sees_56 ⟨Nat.le_of_ble_eq_true rfl, Nat.le_of_ble_eq_true rfl⟩ (fun H locs hP _ _ hS => ?_)
      refine bzne (tgt := 66) hx hb dX4_sees_59 (by decide) (fun c3 => ?_) (fun c3 => ?_)
      · skip
        have no : ¬ seP u t q := fun k => k.2 c3
        refine lv_iconst (v := 0) hx hb dX4_sees_66 (by decide) ?_
        exact ez hx hb hr hlk hS hP rfl (by first | exact f_fb no | exact t_fb yes) rfl (Nat.le_of_ble_eq_true rfl) (Nat.le_of_ble_eq_true rfl) dX4_sees_67
      · skip
        have yes : seP u t q := ⟨h1, c3⟩
        refine lv_iconst (v := 1) hx hb dX4_sees_62 (by decide) ?_
        refine lv_goto (tgt := 67) hx hb dX4_sees_63 (by decide) ?_
        exact ez hx hb hr hlk hS hP rfl (by first | exact f_fb no | exact t_fb yes) rfl (Nat.le_of_ble_eq_true rfl) (Nat.le_of_ble_eq_true rfl) dX4_sees_67
  · skip
    refine lv_aload_n hx hb dX4_sees_12 rfl (lv_at hl 0 rfl) ?_
    refine gw4_transactions S i4 hE hP (hts _ (List.mem_of_getElem? (i := 3) rfl)) dX4_sees_13 ?_
    refine lv_iload_n hx hb dX4_sees_16 rfl (lv_at hl 1 rfl) ?_
    refine lv_aload_n hx hb dX4_sees_17 rfl (lv_at hl 0 rfl) ?_
    refine gw4_slots S i4 hE hP (hts _ (List.mem_of_getElem? (i := 1) rfl)) dX4_sees_18 ?_
    refine gw1_births S i1 hE hP (hts _ (List.mem_of_getElem? (i := 4) rfl)) dX4_sees_21 ?_
    refine lv_iload_n hx hb dX4_sees_24 rfl (lv_at hl 2 rfl) ?_
    refine lC_b S hE hP (f := c_b u) rfl (j := q) (by omega) rfl dX4_sees_25 ?_
    refine kiV (As := [.int (nI t), .int (c_b u q)]) (rest := []) S (kX3_knows hg u t (c_b u q) (by omega)) (cwV 2 hts gX4_sees_X3_knows rfl rfl rfl hdX3_knows ⟨Nat.le_of_ble_eq_true rfl, Nat.le_of_ble_eq_true rfl⟩) rfl rfl 1 rfl rfl hE hP hS (frs hS) rfl hl.1 rfl (Nat.le_of_ble_eq_true rfl) dX4_sees_26 ⟨Nat.le_of_ble_eq_true rfl, Nat.le_of_ble_eq_true rfl⟩ (fun H locs hP _ _ hS => ?_)
    refine bzeq (tgt := 36) hx hb dX4_sees_29 (by decide) (fun c4 => ?_) (fun c4 => ?_)
    · skip
      have no : ¬ seP u t q := fun k => k.1.elim (fun k => k c1) c4
      refine lv_iconst (v := 0) hx hb dX4_sees_36 (by decide) ?_
      refine lv_istore_n (lv' := [(3, .int 0), (0, .ref (g 0)), (1, .int (nI t)), (2, .int (nI q))]) hx hb dX4_sees_37 rfl hl (by decide) rfl (fun ls hl => ?_)
      refine lv_iload_n hx hb dX4_sees_38 rfl (lv_at hl 0 rfl) ?_
      refine lv_if_eq (tgt := 66) hx hb dX4_sees_39 (by decide) (fun c5 => ?_) (fun c5 => ?_)
      · skip
        refine lv_iconst (v := 0) hx hb dX4_sees_66 (by decide) ?_
        exact ez hx hb hr hlk hS hP rfl (by first | exact f_fb no | exact t_fb yes) rfl (Nat.le_of_ble_eq_true rfl) (Nat.le_of_ble_eq_true rfl) dX4_sees_67
      · skip
        exact (by first | exact absurd c5 (by decide) | exact absurd (by decide) c5)
    · skip
      have h1 : ¬ c_f u q = 0 ∨ knP u t (c_b u q) := Or.inr c4
      refine lv_iconst (v := 1) hx hb dX4_sees_32 (by decide) ?_
      refine lv_goto (tgt := 37) hx hb dX4_sees_33 (by decide) ?_
      refine lv_istore_n (lv' := [(3, .int 1), (0, .ref (g 0)), (1, .int (nI t)), (2, .int (nI q))]) hx hb dX4_sees_37 rfl hl (by decide) rfl (fun ls hl => ?_)
      refine lv_iload_n hx hb dX4_sees_38 rfl (lv_at hl 0 rfl) ?_
      refine lv_if_eq (tgt := 66) hx hb dX4_sees_39 (by decide) (fun c6 => ?_) (fun c6 => ?_)
      · skip
        exact (by first | exact absurd c6 (by decide) | exact absurd (by decide) c6)
      · skip
        refine lv_aload_n hx hb dX4_sees_42 rfl (lv_at hl 1 rfl) ?_
        refine gw4_transactions S i4 hE hP (hts _ (List.mem_of_getElem? (i := 3) rfl)) dX4_sees_43 ?_
        refine lv_iload_n hx hb dX4_sees_46 rfl (lv_at hl 2 rfl) ?_
        refine lv_aload_n hx hb dX4_sees_47 rfl (lv_at hl 1 rfl) ?_
        refine gw4_slots S i4 hE hP (hts _ (List.mem_of_getElem? (i := 1) rfl)) dX4_sees_48 ?_
        refine gw1_deaths S i1 hE hP (hts _ (List.mem_of_getElem? (i := 5) rfl)) dX4_sees_51 ?_
        refine lv_iload_n hx hb dX4_sees_54 rfl (lv_at hl 3 rfl) ?_
        refine lC_d S hE hP (f := c_d u) rfl (j := q) (by omega) rfl dX4_sees_55 ?_
        refine kiV (As := [.int (nI t), .int (c_d u q)]) (rest := []) S (kX3_knows hg u t (c_d u q) (by omega)) (cwV 2 hts gX4_sees_X3_knows rfl rfl rfl hdX3_knows ⟨Nat.le_of_ble_eq_true rfl, Nat.le_of_ble_eq_true rfl⟩) rfl rfl 1 rfl rfl hE hP hS (frs hS) rfl hl.1 rfl (Nat.le_of_ble_eq_true rfl) dX4_sees_56 ⟨Nat.le_of_ble_eq_true rfl, Nat.le_of_ble_eq_true rfl⟩ (fun H locs hP _ _ hS => ?_)
        refine bzne (tgt := 66) hx hb dX4_sees_59 (by decide) (fun c7 => ?_) (fun c7 => ?_)
        · skip
          have no : ¬ seP u t q := fun k => k.2 c7
          refine lv_iconst (v := 0) hx hb dX4_sees_66 (by decide) ?_
          exact ez hx hb hr hlk hS hP rfl (by first | exact f_fb no | exact t_fb yes) rfl (Nat.le_of_ble_eq_true rfl) (Nat.le_of_ble_eq_true rfl) dX4_sees_67
        · skip
          have yes : seP u t q := ⟨h1, c7⟩
          refine lv_iconst (v := 1) hx hb dX4_sees_62 (by decide) ?_
          refine lv_goto (tgt := 67) hx hb dX4_sees_63 (by decide) ?_
          exact ez hx hb hr hlk hS hP rfl (by first | exact f_fb no | exact t_fb yes) rfl (Nat.le_of_ble_eq_true rfl) (Nat.le_of_ble_eq_true rfl) dX4_sees_67
def rmX4_seenInChain : Room := { frames := 3, cells := 0, slots := 0, locals := 67 }
theorem hdX4_seenInChain : yX4_seenInChain.cls = RX4 ∧ yX4_seenInChain.cls ≠ "java/lang/invoke/MethodHandle" ∧ yX4_seenInChain.cls ≠ "java/lang/invoke/VarHandle" ∧ (parseMethodDescriptor yX4_seenInChain.desc).map (fun d => d.parameters.length) = some 2 := by decide +kernel
set_option maxHeartbeats 4000000 in
set_option maxRecDepth 100000 in
theorem kX4_seenInChain {l : Launch} {D : va_G} {K : Nat → ClassId} {L : Nat → Prop} {g : Nat → Nat} (hg : gd L g 29) (u : CU) (t : Nat) (x : Int32) (ht : t < 60) : CI l yX4_seenInChain wsX4_seenInChain rmX4_seenInChain D K L [.ref (g 0), .int (nI t), .int x] (wC K g u) (wC K g u) (sic u t 8 x) := by
  refine CI.of (cc := cX4_seenInChain) (maxL := 5) (ret := (some .int)) (by decide +kernel) rfl (Nat.le_of_ble_eq_true rfl) ?_
  intro p e s m below meth c ls hen hP
  obtain ⟨hx, hb, hr, hts, hown, hlk, hml, hnm, hE, hl⟩ := hen
  have S : CallFix p m c cX4_seenInChain 5 s _ wsX4_seenInChain RX4 := ⟨hx, hb, hml, hown, hts⟩
  have hS : va_S (fr L s.heap.size) s.heap s.heap [] := va_S.rf
  have hl : lv_has ls 5 [(0, .ref (g 0)), (1, .int (nI t)), (2, .int x)] := hl
  have i4 : ∀ w ∈ wsX40, w ∈ wsX4_seenInChain := fun _ h => List.mem_cons_of_mem _ (List.mem_append_left _ (List.mem_append_left _ (List.mem_append_right _ h)))
  have i1 : ∀ w ∈ wsX10, w ∈ wsX4_seenInChain := fun _ h => List.mem_cons_of_mem _ (List.mem_append_left _ (List.mem_append_right _ h))
  have i3 : ∀ w ∈ wsX30, w ∈ wsX4_seenInChain := fun _ h => List.mem_cons_of_mem _ (List.mem_append_right _ h)
  refine lv_iload_n hx hb dX4_seenInChain_0 rfl (lv_at hl 2 rfl) ?_
  refine lv_istore_n (lv' := [(3, .int x), (0, .ref (g 0)), (1, .int (nI t)), (2, .int x)]) hx hb dX4_seenInChain_1 rfl hl (by decide) rfl (fun ls hl => ?_)
  refine lv_iconst (v := 0) hx hb dX4_seenInChain_2 (by decide) ?_
  refine lv_istore (lv' := [(4, .int 0), (3, .int x), (0, .ref (g 0)), (1, .int (nI t)), (2, .int x)]) hx hb dX4_seenInChain_3 hl (by decide) rfl (fun ls hl => ?_)
  have loop5 : ∀ (n5 : Nat) (i : Nat) (y : Int32), (hi : i ≤ 8) → (hr0 : sic u t 8 x = sic u t (8 - i) y) → 8 - i < n5 → ∀ (H : Heap) (locs : List Loc), va_P D vwCl (wC K g u) H → va_S (fr L s.heap.size) s.heap H locs → ∀ (ls : Array Slot), lv_has ls 5 [(4, .int (nI i)), (3, .int y), (0, .ref (g 0)), (1, .int (nI t)), (2, .int x)] → W p l e rmX4_seenInChain s m ([.ref (g 0), .int (nI t), .int x] : List Value).toArray below meth c H locs 0 0 (MQ below (va_Qi (fun (r9 : Int32) (_ : Unit) => r9 = sic u t 8 x) (fun _ t => va_P D vwCl (wC K g u) t.heap) (fr L s.heap.size)) ([.ref (g 0), .int (nI t), .int x] : List Value).toArray s rmX4_seenInChain.cells rmX4_seenInChain.slots (fr L s.heap.size)) (F0 m 5 ls []) := by
    intro n5
    induction n5 with
    | zero =>
      intro i y hi hr0 hn5
      exact absurd hn5 (Nat.not_lt_zero _)
    | succ n5 ih5 =>
      intro i y hi hr0 hn5 H locs hP hS ls hl
      refine lv_iload hx hb dX4_seenInChain_5 (lv_at hl 0 rfl) ?_
      refine lv_bipush (v := 8) hx hb dX4_seenInChain_7 (by decide) ?_
      refine lv_icmp_ge (tgt := 46) hx hb dX4_seenInChain_9 (by decide) (fun c1 => ?_) (fun c1 => ?_)
      · skip
        have e : i = 8 := by have := nge_i (a := i) (b := 8) (by omega) (by omega) c1; omega
        have fin : -1 = sic u t 8 x := by rw [hr0, e]; rfl
        refine lv_iconst (v := (-1)) hx hb dX4_seenInChain_46 (by decide) ?_
        exact ei hx hb hr hlk hS hP rfl fin (Nat.le_of_ble_eq_true rfl) (Nat.le_of_ble_eq_true rfl) dX4_seenInChain_47
      · skip
        have hlt : i < 8 := nlt_i (a := i) (b := 8) (by omega) (by omega) c1
        refine lv_iload_n hx hb dX4_seenInChain_12 rfl (lv_at hl 1 rfl) ?_
        refine kiS (As := [.int y]) (rest := []) S (kX4_isPlace y) (va_cwS 1 hts gX4_seenInChain_X4_isPlace rfl rfl rfl hdX4_isPlace.2 ⟨Nat.le_of_ble_eq_true rfl, Nat.le_of_ble_eq_true rfl⟩) rfl rfl hE hP hS (frs hS) rfl hl.1 rfl (Nat.le_of_ble_eq_true rfl) dX4_seenInChain_13 ⟨Nat.le_of_ble_eq_true rfl, Nat.le_of_ble_eq_true rfl⟩ (fun H locs hP _ _ hS => ?_)
        refine bzeq (tgt := 46) hx hb dX4_seenInChain_16 (by decide) (fun c2 => ?_) (fun c2 => ?_)
        · skip
          have fin : -1 = sic u t 8 x := by rw [hr0]; exact (sic_o c2).symm
          refine lv_iconst (v := (-1)) hx hb dX4_seenInChain_46 (by decide) ?_
          exact ei hx hb hr hlk hS hP rfl fin (Nat.le_of_ble_eq_true rfl) (Nat.le_of_ble_eq_true rfl) dX4_seenInChain_47
        · skip
          obtain ⟨j, hj, ej⟩ := pl_at c2
          subst ej
          refine lv_aload_n hx hb dX4_seenInChain_19 rfl (lv_at hl 2 rfl) ?_
          refine lv_iload_n hx hb dX4_seenInChain_20 rfl (lv_at hl 3 rfl) ?_
          refine lv_iload_n hx hb dX4_seenInChain_21 rfl (lv_at hl 1 rfl) ?_
          refine kiV (As := [.int (nI t), .int (nI j)]) (rest := []) S (kX4_sees hg u t j (by omega) (by omega)) (cwV 2 hts gX4_seenInChain_X4_sees rfl rfl rfl hdX4_sees ⟨Nat.le_of_ble_eq_true rfl, Nat.le_of_ble_eq_true rfl⟩) rfl rfl 0 rfl rfl hE hP hS (frs hS) rfl hl.1 rfl (Nat.le_of_ble_eq_true rfl) dX4_seenInChain_22 ⟨Nat.le_of_ble_eq_true rfl, Nat.le_of_ble_eq_true rfl⟩ (fun H locs hP _ _ hS => ?_)
          refine bzeq (tgt := 30) hx hb dX4_seenInChain_25 (by decide) (fun c3 => ?_) (fun c3 => ?_)
          · skip
            refine lv_aload_n hx hb dX4_seenInChain_30 rfl (lv_at hl 2 rfl) ?_
            refine gw4_slots S i4 hE hP (hts _ (List.mem_of_getElem? (i := 1) rfl)) dX4_seenInChain_31 ?_
            refine gw1_nexts S i1 hE hP (hts _ (List.mem_of_getElem? (i := 2) rfl)) dX4_seenInChain_34 ?_
            refine lv_iload_n hx hb dX4_seenInChain_37 rfl (lv_at hl 1 rfl) ?_
            refine lC_n S hE hP (f := c_n u) rfl (j := j) (by omega) rfl dX4_seenInChain_38 ?_
            refine lv_istore_n (lv' := [(3, .int (c_n u j)), (4, .int (nI i)), (0, .ref (g 0)), (1, .int (nI t)), (2, .int x)]) hx hb dX4_seenInChain_39 rfl hl (by decide) rfl (fun ls hl => ?_)
            refine lv_iinc (v := nI (i + 1)) (lv' := [(4, .int (nI (i + 1))), (3, .int (c_n u j)), (0, .ref (g 0)), (1, .int (nI t)), (2, .int x)]) hx hb dX4_seenInChain_40 hl (k := 1) rfl (nI_1 i) (by decide) rfl (fun ls hl => ?_)
            refine lv_goto (tgt := 5) hx hb dX4_seenInChain_43 (by decide) ?_
            exact ih5 (i + 1) (c_n u j) (by omega) (by rw [hr0, show 8 - i = (8 - (i + 1)) + 1 by omega]; exact sic_n hj c3) (by omega) _ _ hP hS ls (lv_sub hl [0, 1, 2, 3, 4] rfl)
          · skip
            refine lv_iload_n hx hb dX4_seenInChain_28 rfl (lv_at hl 1 rfl) ?_
            exact ei hx hb hr hlk hS hP rfl (by rw [hr0, show 8 - i = (8 - (i + 1)) + 1 by omega]; exact (sic_y hj c3).symm) (Nat.le_of_ble_eq_true rfl) (Nat.le_of_ble_eq_true rfl) dX4_seenInChain_29
  exact loop5 _ 0 x (by omega) rfl (Nat.lt_succ_self _) _ _ hP hS ls (lv_sub hl [0, 1, 2, 3, 4] rfl)
def rmX4_seenPlace : Room := { frames := 4, cells := 0, slots := 0, locals := 91 }
theorem hdX4_seenPlace : yX4_seenPlace.cls = RX4 ∧ yX4_seenPlace.cls ≠ "java/lang/invoke/MethodHandle" ∧ yX4_seenPlace.cls ≠ "java/lang/invoke/VarHandle" ∧ (parseMethodDescriptor yX4_seenPlace.desc).map (fun d => d.parameters.length) = some 2 := by decide +kernel
set_option maxHeartbeats 4000000 in
set_option maxRecDepth 100000 in
theorem kX4_seenPlace {l : Launch} {D : va_G} {K : Nat → ClassId} {L : Nat → Prop} {g : Nat → Nat} (hg : gd L g 29) (u : CU) (t k n : Nat) (ht : t < 60) (hk : k < 6) (hn : n ≤ 32) (hct : c_ct u k = nI n) : CI l yX4_seenPlace wsX4_seenPlace rmX4_seenPlace D K L [.ref (g 0), .int (nI t), .int (nI k)] (wC K g u) (wC K g u) (spl u t k n) := by
  refine CI.of (cc := cX4_seenPlace) (maxL := 5) (ret := (some .int)) (by decide +kernel) rfl (Nat.le_of_ble_eq_true rfl) ?_
  intro p e s m below meth c ls hen hP
  obtain ⟨hx, hb, hr, hts, hown, hlk, hml, hnm, hE, hl⟩ := hen
  have S : CallFix p m c cX4_seenPlace 5 s _ wsX4_seenPlace RX4 := ⟨hx, hb, hml, hown, hts⟩
  have hS : va_S (fr L s.heap.size) s.heap s.heap [] := va_S.rf
  have hl : lv_has ls 5 [(0, .ref (g 0)), (1, .int (nI t)), (2, .int (nI k))] := hl
  have i4 : ∀ w ∈ wsX40, w ∈ wsX4_seenPlace := fun _ h => List.mem_cons_of_mem _ (List.mem_append_left _ (List.mem_append_left _ (List.mem_append_left _ (List.mem_append_right _ h))))
  have i0 : ∀ w ∈ wsX00, w ∈ wsX4_seenPlace := fun _ h => List.mem_cons_of_mem _ (List.mem_append_left _ (List.mem_append_left _ (List.mem_append_right _ h)))
  have i1 : ∀ w ∈ wsX10, w ∈ wsX4_seenPlace := fun _ h => List.mem_cons_of_mem _ (List.mem_append_left _ (List.mem_append_right _ h))
  have i3 : ∀ w ∈ wsX30, w ∈ wsX4_seenPlace := fun _ h => List.mem_cons_of_mem _ (List.mem_append_right _ h)
  refine lv_aload_n hx hb dX4_seenPlace_0 rfl (lv_at hl 0 rfl) ?_
  refine gw4_index S i4 hE hP (hts _ (List.mem_of_getElem? (i := 1) rfl)) dX4_seenPlace_1 ?_
  refine gw0_counts S i0 hE hP (hts _ (List.mem_of_getElem? (i := 2) rfl)) dX4_seenPlace_4 ?_
  refine lv_iload_n hx hb dX4_seenPlace_7 rfl (lv_at hl 2 rfl) ?_
  refine lC_ct S hE hP (f := c_ct u) rfl (j := k) (by omega) rfl dX4_seenPlace_8 ?_
  refine tpi (y := nI n) hct ?_
  refine lv_iconst (v := 1) hx hb dX4_seenPlace_9 (by decide) ?_
  refine lv_isub hx hb dX4_seenPlace_10 ?_
  refine lv_istore_n (lv' := [(3, .int ((nI n) - 1)), (0, .ref (g 0)), (1, .int (nI t)), (2, .int (nI k))]) hx hb dX4_seenPlace_11 rfl hl (by decide) rfl (fun ls hl => ?_)
  have loop12 : ∀ (n12 : Nat) (i : Nat), (hi : i ≤ n) → (hr0 : spl u t k n = spl u t k i) → i < n12 → ∀ (H : Heap) (locs : List Loc), va_P D vwCl (wC K g u) H → va_S (fr L s.heap.size) s.heap H locs → ∀ (ls : Array Slot), lv_has ls 5 [(3, .int (nI i - 1)), (0, .ref (g 0)), (1, .int (nI t)), (2, .int (nI k))] → W p l e rmX4_seenPlace s m ([.ref (g 0), .int (nI t), .int (nI k)] : List Value).toArray below meth c H locs 0 0 (MQ below (va_Qi (fun (r9 : Int32) (_ : Unit) => r9 = spl u t k n) (fun _ t => va_P D vwCl (wC K g u) t.heap) (fr L s.heap.size)) ([.ref (g 0), .int (nI t), .int (nI k)] : List Value).toArray s rmX4_seenPlace.cells rmX4_seenPlace.slots (fr L s.heap.size)) (F0 m 12 ls []) := by
    intro n12
    induction n12 with
    | zero =>
      intro i hi hr0 hn12
      exact absurd hn12 (Nat.not_lt_zero _)
    | succ n12 ih12 =>
      intro i hi hr0 hn12 H locs hP hS ls hl
      refine lv_iload_n hx hb dX4_seenPlace_12 rfl (lv_at hl 0 rfl) ?_
      refine lv_if_lt (tgt := 49) hx hb dX4_seenPlace_13 (by decide) (fun c1 => ?_) (fun c1 => ?_)
      · skip
        have e : i = 0 := by
          rcases Nat.eq_zero_or_pos i with h0 | h0
          · exact h0
          · obtain ⟨j, rfl⟩ : ∃ j, i = j + 1 := ⟨i - 1, by omega⟩
            rw [nI_pred] at c1
            exact absurd c1 (nI_pos (by omega))
        refine lv_iconst (v := (-1)) hx hb dX4_seenPlace_49 (by decide) ?_
        exact ei hx hb hr hlk hS hP rfl (by rw [hr0, e]; rfl) (Nat.le_of_ble_eq_true rfl) (Nat.le_of_ble_eq_true rfl) dX4_seenPlace_50
      · skip
        obtain ⟨j, rfl⟩ : ∃ j, i = j + 1 := by
          rcases Nat.eq_zero_or_pos i with h0 | h0
          · subst h0; exact absurd (by decide) c1
          · exact ⟨i - 1, by omega⟩
        rw [nI_pred] at hl
        refine lv_aload_n hx hb dX4_seenPlace_16 rfl (lv_at hl 1 rfl) ?_
        refine lv_iload_n hx hb dX4_seenPlace_17 rfl (lv_at hl 2 rfl) ?_
        refine lv_aload_n hx hb dX4_seenPlace_18 rfl (lv_at hl 1 rfl) ?_
        refine gw4_index S i4 hE hP (hts _ (List.mem_of_getElem? (i := 1) rfl)) dX4_seenPlace_19 ?_
        refine gw0_places S i0 hE hP (hts _ (List.mem_of_getElem? (i := 3) rfl)) dX4_seenPlace_22 ?_
        refine lv_iload_n hx hb dX4_seenPlace_25 rfl (lv_at hl 3 rfl) ?_
        refine lC_places S hE hP (j := k) (by omega) rfl dX4_seenPlace_26 ?_
        refine lv_iload_n hx hb dX4_seenPlace_27 rfl (lv_at hl 0 rfl) ?_
        refine lC_pl S hE hP (k := k) (f := c_pl u k) (by omega) rfl (j := j) (by omega) rfl dX4_seenPlace_28 ?_
        refine kiV (As := [.int (nI t), .int (c_pl u k j)]) (rest := []) S (kX4_seenInChain hg u t (c_pl u k j) (by omega)) (cwV 2 hts gX4_seenPlace_X4_seenInChain rfl rfl rfl hdX4_seenInChain ⟨Nat.le_of_ble_eq_true rfl, Nat.le_of_ble_eq_true rfl⟩) rfl rfl 0 rfl rfl hE hP hS (frs hS) rfl hl.1 rfl (Nat.le_of_ble_eq_true rfl) dX4_seenPlace_29 ⟨Nat.le_of_ble_eq_true rfl, Nat.le_of_ble_eq_true rfl⟩ (fun H locs hP _ _ hS => ?_)
        refine lv_istore (lv' := [(4, .int (sic u t 8 (c_pl u k j))), (3, .int (nI j)), (0, .ref (g 0)), (1, .int (nI t)), (2, .int (nI k))]) hx hb dX4_seenPlace_32 hl (by decide) rfl (fun ls hl => ?_)
        refine lv_iload hx hb dX4_seenPlace_34 (lv_at hl 0 rfl) ?_
        refine lv_iconst (v := (-1)) hx hb dX4_seenPlace_36 (by decide) ?_
        refine lv_icmp_eq (tgt := 43) hx hb dX4_seenPlace_37 (by decide) (fun c2 => ?_) (fun c2 => ?_)
        · skip
          refine lv_iinc (v := nI j - 1) (lv' := [(3, .int (nI j - 1)), (4, .int (sic u t 8 (c_pl u k j))), (0, .ref (g 0)), (1, .int (nI t)), (2, .int (nI k))]) hx hb dX4_seenPlace_43 hl (k := 1) rfl (nI_dec j) (by decide) rfl (fun ls hl => ?_)
          refine lv_goto (tgt := 12) hx hb dX4_seenPlace_46 (by decide) ?_
          exact ih12 j (by omega) (by rw [hr0, spl]; exact if_pos c2) (by omega) _ _ hP hS ls (lv_sub hl [0, 2, 3, 4] rfl)
        · skip
          refine lv_iload hx hb dX4_seenPlace_40 (lv_at hl 0 rfl) ?_
          exact ei hx hb hr hlk hS hP rfl (by rw [hr0, spl]; exact (if_neg c2).symm) (Nat.le_of_ble_eq_true rfl) (Nat.le_of_ble_eq_true rfl) dX4_seenPlace_42
  exact loop12 _ n (by omega) rfl (Nat.lt_succ_self _) _ _ hP hS ls (lv_sub hl [0, 1, 2, 3] rfl)
def rmX4_placeForNew : Room := { frames := 2, cells := 0, slots := 0, locals := 44 }
theorem hdX4_placeForNew : yX4_placeForNew.cls = RX4 ∧ yX4_placeForNew.cls ≠ "java/lang/invoke/MethodHandle" ∧ yX4_placeForNew.cls ≠ "java/lang/invoke/VarHandle" ∧ (parseMethodDescriptor yX4_placeForNew.desc).map (fun d => d.parameters.length) = some 1 := by decide +kernel
set_option maxHeartbeats 4000000 in
set_option maxRecDepth 100000 in
theorem kX4_placeForNew {l : Launch} {D : va_G} {K : Nat → ClassId} {L : Nat → Prop} {g : Nat → Nat} (hg : gd L g 29) (u : CU) (x : Int32) : CI l yX4_placeForNew wsX4_placeForNew rmX4_placeForNew D K L [.ref (g 0), .int x] (wC K g u) (wC K g u) (pfn u x) := by
  refine CI.of (cc := cX4_placeForNew) (maxL := 3) (ret := (some .int)) (by decide +kernel) rfl (Nat.le_of_ble_eq_true rfl) ?_
  intro p e s m below meth c ls hen hP
  obtain ⟨hx, hb, hr, hts, hown, hlk, hml, hnm, hE, hl⟩ := hen
  have S : CallFix p m c cX4_placeForNew 3 s _ wsX4_placeForNew RX4 := ⟨hx, hb, hml, hown, hts⟩
  have hS : va_S (fr L s.heap.size) s.heap s.heap [] := va_S.rf
  have hl : lv_has ls 3 [(0, .ref (g 0)), (1, .int x)] := hl
  have i4 : ∀ w ∈ wsX40, w ∈ wsX4_placeForNew := fun _ h => List.mem_cons_of_mem _ (List.mem_append_left _ (List.mem_append_right _ h))
  have i1 : ∀ w ∈ wsX10, w ∈ wsX4_placeForNew := fun _ h => List.mem_cons_of_mem _ (List.mem_append_right _ h)
  refine lv_iload_n hx hb dX4_placeForNew_0 rfl (lv_at hl 1 rfl) ?_
  refine kiS (As := [.int x]) (rest := []) S (kX4_isPlace x) (va_cwS 1 hts gX4_placeForNew_X4_isPlace rfl rfl rfl hdX4_isPlace.2 ⟨Nat.le_of_ble_eq_true rfl, Nat.le_of_ble_eq_true rfl⟩) rfl rfl hE hP hS (frs hS) rfl hl.1 rfl (Nat.le_of_ble_eq_true rfl) dX4_placeForNew_1 ⟨Nat.le_of_ble_eq_true rfl, Nat.le_of_ble_eq_true rfl⟩ (fun H locs hP _ _ hS => ?_)
  refine bzeq (tgt := 31) hx hb dX4_placeForNew_4 (by decide) (fun c1 => ?_) (fun c1 => ?_)
  · skip
    have fin : lf (c_k u) 0 32 = pfn u x := (pfn_o c1).symm
    refine lv_aload_n hx hb dX4_placeForNew_31 rfl (lv_at hl 0 rfl) ?_
    refine gw4_slots S i4 hE hP (hts _ (List.mem_of_getElem? (i := 1) rfl)) dX4_placeForNew_32 ?_
    refine lv_iconst (v := 0) hx hb dX4_placeForNew_35 (by decide) ?_
    refine lv_bipush (v := 32) hx hb dX4_placeForNew_36 (by decide) ?_
    refine kiV (As := [.int 0, .int 32]) (rest := []) S (kX1_lowestFree hg u 0 32 (by omega)) (cwV 2 hts gX4_placeForNew_X1_lowestFree rfl rfl rfl hdX1_lowestFree ⟨Nat.le_of_ble_eq_true rfl, Nat.le_of_ble_eq_true rfl⟩) rfl rfl 2 rfl rfl hE hP hS (frs hS) rfl hl.1 rfl (Nat.le_of_ble_eq_true rfl) dX4_placeForNew_38 ⟨Nat.le_of_ble_eq_true rfl, Nat.le_of_ble_eq_true rfl⟩ (fun H locs hP _ _ hS => ?_)
    exact ei hx hb hr hlk hS hP rfl fin (Nat.le_of_ble_eq_true rfl) (Nat.le_of_ble_eq_true rfl) dX4_placeForNew_41
  · skip
    obtain ⟨j, hj, ej⟩ := pl_at c1
    subst ej
    refine lv_aload_n hx hb dX4_placeForNew_7 rfl (lv_at hl 0 rfl) ?_
    refine gw4_slots S i4 hE hP (hts _ (List.mem_of_getElem? (i := 1) rfl)) dX4_placeForNew_8 ?_
    refine lv_iload_n hx hb dX4_placeForNew_11 rfl (lv_at hl 1 rfl) ?_
    refine kiS (As := [.int (nI j)]) (rest := [.ref (g 2)]) S (kX4_pageOf j (by omega)) (va_cwS 1 hts gX4_placeForNew_X4_pageOf rfl rfl rfl hdX4_pageOf.2 ⟨Nat.le_of_ble_eq_true rfl, Nat.le_of_ble_eq_true rfl⟩) rfl rfl hE hP hS (frs hS) rfl hl.1 rfl (Nat.le_of_ble_eq_true rfl) dX4_placeForNew_12 ⟨Nat.le_of_ble_eq_true rfl, Nat.le_of_ble_eq_true rfl⟩ (fun H locs hP _ _ hS => ?_)
    refine kiS (As := [.int (nI (j / 8))]) (rest := [.ref (g 2)]) S (kX4_firstOf (j / 8)) (va_cwS 1 hts gX4_placeForNew_X4_firstOf rfl rfl rfl hdX4_firstOf.2 ⟨Nat.le_of_ble_eq_true rfl, Nat.le_of_ble_eq_true rfl⟩) rfl rfl hE hP hS (frs hS) rfl hl.1 rfl (Nat.le_of_ble_eq_true rfl) dX4_placeForNew_15 ⟨Nat.le_of_ble_eq_true rfl, Nat.le_of_ble_eq_true rfl⟩ (fun H locs hP _ _ hS => ?_)
    refine lv_bipush (v := 8) hx hb dX4_placeForNew_18 (by decide) ?_
    refine kiV (As := [.int (nI ((j / 8) * 8)), .int 8]) (rest := []) S (kX1_lowestFree hg u ((j / 8) * 8) 8 (by omega)) (cwV 2 hts gX4_placeForNew_X1_lowestFree rfl rfl rfl hdX1_lowestFree ⟨Nat.le_of_ble_eq_true rfl, Nat.le_of_ble_eq_true rfl⟩) rfl rfl 2 rfl rfl hE hP hS (frs hS) rfl hl.1 rfl (Nat.le_of_ble_eq_true rfl) dX4_placeForNew_20 ⟨Nat.le_of_ble_eq_true rfl, Nat.le_of_ble_eq_true rfl⟩ (fun H locs hP _ _ hS => ?_)
    refine lv_istore_n (lv' := [(2, .int (lf (c_k u) ((j / 8) * 8) 8)), (0, .ref (g 0)), (1, .int (nI j))]) hx hb dX4_placeForNew_23 rfl hl (by decide) rfl (fun ls hl => ?_)
    refine lv_iload_n hx hb dX4_placeForNew_24 rfl (lv_at hl 0 rfl) ?_
    refine lv_iconst (v := (-1)) hx hb dX4_placeForNew_25 (by decide) ?_
    refine lv_icmp_eq (tgt := 31) hx hb dX4_placeForNew_26 (by decide) (fun c2 => ?_) (fun c2 => ?_)
    · skip
      have fin : lf (c_k u) 0 32 = pfn u (nI j) := (pfn_n hj c2).symm
      refine lv_aload_n hx hb dX4_placeForNew_31 rfl (lv_at hl 1 rfl) ?_
      refine gw4_slots S i4 hE hP (hts _ (List.mem_of_getElem? (i := 1) rfl)) dX4_placeForNew_32 ?_
      refine lv_iconst (v := 0) hx hb dX4_placeForNew_35 (by decide) ?_
      refine lv_bipush (v := 32) hx hb dX4_placeForNew_36 (by decide) ?_
      refine kiV (As := [.int 0, .int 32]) (rest := []) S (kX1_lowestFree hg u 0 32 (by omega)) (cwV 2 hts gX4_placeForNew_X1_lowestFree rfl rfl rfl hdX1_lowestFree ⟨Nat.le_of_ble_eq_true rfl, Nat.le_of_ble_eq_true rfl⟩) rfl rfl 2 rfl rfl hE hP hS (frs hS) rfl hl.1 rfl (Nat.le_of_ble_eq_true rfl) dX4_placeForNew_38 ⟨Nat.le_of_ble_eq_true rfl, Nat.le_of_ble_eq_true rfl⟩ (fun H locs hP _ _ hS => ?_)
      exact ei hx hb hr hlk hS hP rfl fin (Nat.le_of_ble_eq_true rfl) (Nat.le_of_ble_eq_true rfl) dX4_placeForNew_41
    · skip
      refine lv_iload_n hx hb dX4_placeForNew_29 rfl (lv_at hl 0 rfl) ?_
      exact ei hx hb hr hlk hS hP rfl ((pfn_y hj c2).symm) (Nat.le_of_ble_eq_true rfl) (Nat.le_of_ble_eq_true rfl) dX4_placeForNew_30
def rmX4_putDeath : Room := { frames := 1, cells := 0, slots := 0, locals := 22 }
theorem hdX4_putDeath : yX4_putDeath.cls = RX4 ∧ yX4_putDeath.cls ≠ "java/lang/invoke/MethodHandle" ∧ yX4_putDeath.cls ≠ "java/lang/invoke/VarHandle" ∧ (parseMethodDescriptor yX4_putDeath.desc).map (fun d => d.parameters.length) = some 2 := by decide +kernel
set_option maxHeartbeats 4000000 in
set_option maxRecDepth 100000 in
theorem kX4_putDeath {l : Launch} {D : va_G} {K : Nat → ClassId} {L : Nat → Prop} {g : Nat → Nat} (hg : gd L g 29) (u : CU) (t q r n : Nat) (ht : t < 60) (hq : q < 32) (hr9 : r < n) (hn : n ≤ 512) (hrw : c_r u q = nI r) (htc : c_tc u = nI n) : CV l yX4_putDeath wsX4_putDeath rmX4_putDeath D K L [.ref (g 0), .int (nI t), .int (nI q)] (wC K g u) (wC K g (cpd u t q r)) := by
  refine CV.of (cc := cX4_putDeath) (maxL := 3) (ret := none) (by decide +kernel) rfl (Nat.le_of_ble_eq_true rfl) ?_
  intro p e s m below meth c ls hen hP
  obtain ⟨hx, hb, hr, hts, hown, hlk, hml, hnm, hE, hl⟩ := hen
  have S : CallFix p m c cX4_putDeath 3 s _ wsX4_putDeath RX4 := ⟨hx, hb, hml, hown, hts⟩
  have hS : va_S (fr L s.heap.size) s.heap s.heap [] := va_S.rf
  have hl : lv_has ls 3 [(0, .ref (g 0)), (1, .int (nI t)), (2, .int (nI q))] := hl
  have i4 : ∀ w ∈ wsX40, w ∈ wsX4_putDeath := fun _ h => List.mem_cons_of_mem _ (List.mem_append_left _ (List.mem_append_left _ (List.mem_append_left _ (List.mem_append_right _ h))))
  have i1 : ∀ w ∈ wsX10, w ∈ wsX4_putDeath := fun _ h => List.mem_cons_of_mem _ (List.mem_append_left _ (List.mem_append_left _ (List.mem_append_right _ h)))
  have i3 : ∀ w ∈ wsX30, w ∈ wsX4_putDeath := fun _ h => List.mem_cons_of_mem _ (List.mem_append_left _ (List.mem_append_right _ h))
  have i2 : ∀ w ∈ wsX20, w ∈ wsX4_putDeath := fun _ h => List.mem_cons_of_mem _ (List.mem_append_right _ h)
  refine lv_aload_n hx hb dX4_putDeath_0 rfl (lv_at hl 0 rfl) ?_
  refine gw4_slots S i4 hE hP (hts _ (List.mem_of_getElem? (i := 1) rfl)) dX4_putDeath_1 ?_
  refine gw1_deaths S i1 hE hP (hts _ (List.mem_of_getElem? (i := 2) rfl)) dX4_putDeath_4 ?_
  refine lv_iload_n hx hb dX4_putDeath_7 rfl (lv_at hl 2 rfl) ?_
  refine lv_iload_n hx hb dX4_putDeath_8 rfl (lv_at hl 1 rfl) ?_
  refine sC_d S hE hP hg hS (j := q) (by omega) rfl dX4_putDeath_9 (fun H locs hP hS => ?_)
  have hP : va_P D vwCl (wC K g (s_d u (upd (c_d u) q (nI t)))) H := hP
  refine lv_aload_n hx hb dX4_putDeath_10 rfl (lv_at hl 0 rfl) ?_
  refine gw4_slots S i4 hE hP (hts _ (List.mem_of_getElem? (i := 1) rfl)) dX4_putDeath_11 ?_
  refine gw1_deathStamps S i1 hE hP (hts _ (List.mem_of_getElem? (i := 3) rfl)) dX4_putDeath_14 ?_
  refine lv_iload_n hx hb dX4_putDeath_17 rfl (lv_at hl 2 rfl) ?_
  refine lv_aload_n hx hb dX4_putDeath_18 rfl (lv_at hl 0 rfl) ?_
  refine gw4_transactions S i4 hE hP (hts _ (List.mem_of_getElem? (i := 4) rfl)) dX4_putDeath_19 ?_
  refine gw3_stamps S i3 hE hP (hts _ (List.mem_of_getElem? (i := 5) rfl)) dX4_putDeath_22 ?_
  refine lv_iload_n hx hb dX4_putDeath_25 rfl (lv_at hl 1 rfl) ?_
  refine lC_sp S hE hP (f := c_sp u) rfl (j := t) (by omega) rfl dX4_putDeath_26 ?_
  refine sC_ds S hE hP hg hS (j := q) (by omega) rfl dX4_putDeath_27 (fun H locs hP hS => ?_)
  have hP : va_P D vwCl (wC K g (s_ds (s_d u (upd (c_d u) q (nI t))) (upd (c_ds u) q (c_sp u t)))) H := hP
  refine lv_aload_n hx hb dX4_putDeath_28 rfl (lv_at hl 0 rfl) ?_
  refine gw4_table S i4 hE hP (hts _ (List.mem_of_getElem? (i := 6) rfl)) dX4_putDeath_29 ?_
  refine lv_aload_n hx hb dX4_putDeath_32 rfl (lv_at hl 0 rfl) ?_
  refine gw4_slots S i4 hE hP (hts _ (List.mem_of_getElem? (i := 1) rfl)) dX4_putDeath_33 ?_
  refine gw1_rows S i1 hE hP (hts _ (List.mem_of_getElem? (i := 7) rfl)) dX4_putDeath_36 ?_
  refine lv_iload_n hx hb dX4_putDeath_39 rfl (lv_at hl 2 rfl) ?_
  refine lC_r S hE hP (f := c_r u) rfl (j := q) (by omega) rfl dX4_putDeath_40 ?_
  refine tpi (y := nI r) hrw ?_
  refine lv_iload_n hx hb dX4_putDeath_41 rfl (lv_at hl 1 rfl) ?_
  refine kvV (As := [.int (nI r), .int (nI t)]) (rest := []) S (kX2_putDeath hg (s_ds (s_d u (upd (c_d u) q (nI t))) (upd (c_ds u) q (c_sp u t))) r n (nI t) hr9 hn htc) (cwV 2 hts gX4_putDeath_X2_putDeath rfl rfl rfl hdX2_putDeath ⟨Nat.le_of_ble_eq_true rfl, Nat.le_of_ble_eq_true rfl⟩) rfl rfl 4 rfl rfl hE hP hS (frs hS) rfl hl.1 rfl (Nat.le_of_ble_eq_true rfl) dX4_putDeath_42 ⟨Nat.le_of_ble_eq_true rfl, Nat.le_of_ble_eq_true rfl⟩ (fun H locs hP _ _ hS => ?_)
  refine lv_aload_n hx hb dX4_putDeath_45 rfl (lv_at hl 0 rfl) ?_
  refine gw4_mapped S i4 hE hP (hts _ (List.mem_of_getElem? (i := 8) rfl)) dX4_putDeath_46 ?_
  refine lv_iload_n hx hb dX4_putDeath_49 rfl (lv_at hl 2 rfl) ?_
  refine kiS (As := [.int (nI q)]) (rest := [.ref (g 5)]) S (kX4_pageOf q (by omega)) (va_cwS 1 hts gX4_putDeath_X4_pageOf rfl rfl rfl hdX4_pageOf.2 ⟨Nat.le_of_ble_eq_true rfl, Nat.le_of_ble_eq_true rfl⟩) rfl rfl hE hP hS (frs hS) rfl hl.1 rfl (Nat.le_of_ble_eq_true rfl) dX4_putDeath_50 ⟨Nat.le_of_ble_eq_true rfl, Nat.le_of_ble_eq_true rfl⟩ (fun H locs hP _ _ hS => ?_)
  refine lv_iconst (v := 0) hx hb dX4_putDeath_53 (by decide) ?_
  refine sC_mp S hE hP rfl hg hS (j := (q / 8)) (by omega) rfl dX4_putDeath_54 (fun H locs hP hS => ?_)
  have hP : va_P D vwCl (wC K g (s_mp (s_td (s_ds (s_d u (upd (c_d u) q (nI t))) (upd (c_ds u) q (c_sp u t))) (upd (c_td (s_ds (s_d u (upd (c_d u) q (nI t))) (upd (c_ds u) q (c_sp u t)))) r (nI t))) (upd (c_mp (s_td (s_ds (s_d u (upd (c_d u) q (nI t))) (upd (c_ds u) q (c_sp u t))) (upd (c_td (s_ds (s_d u (upd (c_d u) q (nI t))) (upd (c_ds u) q (c_sp u t)))) r (nI t)))) (q / 8) 0))) H := hP
  exact e0 hx hb hr hlk hS hP rfl (Nat.le_of_ble_eq_true rfl) (Nat.le_of_ble_eq_true rfl) dX4_putDeath_55
def rmX4_putVersion : Room := { frames := 1, cells := 0, slots := 0, locals := 24 }
theorem hdX4_putVersion : yX4_putVersion.cls = RX4 ∧ yX4_putVersion.cls ≠ "java/lang/invoke/MethodHandle" ∧ yX4_putVersion.cls ≠ "java/lang/invoke/VarHandle" ∧ (parseMethodDescriptor yX4_putVersion.desc).map (fun d => d.parameters.length) = some 4 := by decide +kernel
set_option maxHeartbeats 4000000 in
set_option maxRecDepth 100000 in
theorem kX4_putVersion {l : Launch} {D : va_G} {K : Nat → ClassId} {L : Nat → Prop} {g : Nat → Nat} (hg : gd L g 29) (u : CU) (t : Nat) (k v : Int32) (q n : Nat) (ht : t < 60) (hq : q < 32) (hn : n < 512) (htc : c_tc u = nI n) : CV l yX4_putVersion wsX4_putVersion rmX4_putVersion D K L [.ref (g 0), .int (nI t), .int k, .int v, .int (nI q)] (wC K g u) (wC K g (cpv u t k v q n)) := by
  refine CV.of (cc := cX4_putVersion) (maxL := 5) (ret := none) (by decide +kernel) rfl (Nat.le_of_ble_eq_true rfl) ?_
  intro p e s m below meth c ls hen hP
  obtain ⟨hx, hb, hr, hts, hown, hlk, hml, hnm, hE, hl⟩ := hen
  have S : CallFix p m c cX4_putVersion 5 s _ wsX4_putVersion RX4 := ⟨hx, hb, hml, hown, hts⟩
  have hS : va_S (fr L s.heap.size) s.heap s.heap [] := va_S.rf
  have hl : lv_has ls 5 [(0, .ref (g 0)), (1, .int (nI t)), (2, .int k), (3, .int v), (4, .int (nI q))] := hl
  have i4 : ∀ w ∈ wsX40, w ∈ wsX4_putVersion := fun _ h => List.mem_cons_of_mem _ (List.mem_append_left _ (List.mem_append_left _ (List.mem_append_left _ (List.mem_append_right _ h))))
  have i1 : ∀ w ∈ wsX10, w ∈ wsX4_putVersion := fun _ h => List.mem_cons_of_mem _ (List.mem_append_left _ (List.mem_append_left _ (List.mem_append_right _ h)))
  have i3 : ∀ w ∈ wsX30, w ∈ wsX4_putVersion := fun _ h => List.mem_cons_of_mem _ (List.mem_append_left _ (List.mem_append_right _ h))
  have i2 : ∀ w ∈ wsX20, w ∈ wsX4_putVersion := fun _ h => List.mem_cons_of_mem _ (List.mem_append_right _ h)
  refine lv_aload_n hx hb dX4_putVersion_0 rfl (lv_at hl 0 rfl) ?_
  refine gw4_slots S i4 hE hP (hts _ (List.mem_of_getElem? (i := 1) rfl)) dX4_putVersion_1 ?_
  refine gw1_keys S i1 hE hP (hts _ (List.mem_of_getElem? (i := 2) rfl)) dX4_putVersion_4 ?_
  refine lv_iload hx hb dX4_putVersion_7 (lv_at hl 4 rfl) ?_
  refine lv_iload_n hx hb dX4_putVersion_9 rfl (lv_at hl 2 rfl) ?_
  refine sC_k S hE hP hg hS (j := q) (by omega) rfl dX4_putVersion_10 (fun H locs hP hS => ?_)
  have hP : va_P D vwCl (wC K g (s_k u (upd (c_k u) q k))) H := hP
  refine lv_aload_n hx hb dX4_putVersion_11 rfl (lv_at hl 0 rfl) ?_
  refine gw4_slots S i4 hE hP (hts _ (List.mem_of_getElem? (i := 1) rfl)) dX4_putVersion_12 ?_
  refine gw1_values S i1 hE hP (hts _ (List.mem_of_getElem? (i := 3) rfl)) dX4_putVersion_15 ?_
  refine lv_iload hx hb dX4_putVersion_18 (lv_at hl 4 rfl) ?_
  refine lv_iload_n hx hb dX4_putVersion_20 rfl (lv_at hl 3 rfl) ?_
  refine sC_v S hE hP hg hS (j := q) (by omega) rfl dX4_putVersion_21 (fun H locs hP hS => ?_)
  have hP : va_P D vwCl (wC K g (s_v (s_k u (upd (c_k u) q k)) (upd (c_v u) q v))) H := hP
  refine lv_aload_n hx hb dX4_putVersion_22 rfl (lv_at hl 0 rfl) ?_
  refine gw4_slots S i4 hE hP (hts _ (List.mem_of_getElem? (i := 1) rfl)) dX4_putVersion_23 ?_
  refine gw1_births S i1 hE hP (hts _ (List.mem_of_getElem? (i := 4) rfl)) dX4_putVersion_26 ?_
  refine lv_iload hx hb dX4_putVersion_29 (lv_at hl 4 rfl) ?_
  refine lv_iload_n hx hb dX4_putVersion_31 rfl (lv_at hl 1 rfl) ?_
  refine sC_b S hE hP hg hS (j := q) (by omega) rfl dX4_putVersion_32 (fun H locs hP hS => ?_)
  have hP : va_P D vwCl (wC K g (s_b (s_v (s_k u (upd (c_k u) q k)) (upd (c_v u) q v)) (upd (c_b u) q (nI t)))) H := hP
  refine lv_aload_n hx hb dX4_putVersion_33 rfl (lv_at hl 0 rfl) ?_
  refine gw4_slots S i4 hE hP (hts _ (List.mem_of_getElem? (i := 1) rfl)) dX4_putVersion_34 ?_
  refine gw1_birthStamps S i1 hE hP (hts _ (List.mem_of_getElem? (i := 5) rfl)) dX4_putVersion_37 ?_
  refine lv_iload hx hb dX4_putVersion_40 (lv_at hl 4 rfl) ?_
  refine lv_aload_n hx hb dX4_putVersion_42 rfl (lv_at hl 0 rfl) ?_
  refine gw4_transactions S i4 hE hP (hts _ (List.mem_of_getElem? (i := 6) rfl)) dX4_putVersion_43 ?_
  refine gw3_stamps S i3 hE hP (hts _ (List.mem_of_getElem? (i := 7) rfl)) dX4_putVersion_46 ?_
  refine lv_iload_n hx hb dX4_putVersion_49 rfl (lv_at hl 1 rfl) ?_
  refine lC_sp S hE hP (f := c_sp u) rfl (j := t) (by omega) rfl dX4_putVersion_50 ?_
  refine sC_bs S hE hP hg hS (j := q) (by omega) rfl dX4_putVersion_51 (fun H locs hP hS => ?_)
  have hP : va_P D vwCl (wC K g (s_bs (s_b (s_v (s_k u (upd (c_k u) q k)) (upd (c_v u) q v)) (upd (c_b u) q (nI t))) (upd (c_bs u) q (c_sp u t)))) H := hP
  refine lv_aload_n hx hb dX4_putVersion_52 rfl (lv_at hl 0 rfl) ?_
  refine gw4_slots S i4 hE hP (hts _ (List.mem_of_getElem? (i := 1) rfl)) dX4_putVersion_53 ?_
  refine gw1_rows S i1 hE hP (hts _ (List.mem_of_getElem? (i := 8) rfl)) dX4_putVersion_56 ?_
  refine lv_iload hx hb dX4_putVersion_59 (lv_at hl 4 rfl) ?_
  refine lv_aload_n hx hb dX4_putVersion_61 rfl (lv_at hl 0 rfl) ?_
  refine gw4_table S i4 hE hP (hts _ (List.mem_of_getElem? (i := 9) rfl)) dX4_putVersion_62 ?_
  refine lv_iload_n hx hb dX4_putVersion_65 rfl (lv_at hl 2 rfl) ?_
  refine lv_iload_n hx hb dX4_putVersion_66 rfl (lv_at hl 3 rfl) ?_
  refine lv_iload_n hx hb dX4_putVersion_67 rfl (lv_at hl 1 rfl) ?_
  refine kiV (As := [.int k, .int v, .int (nI t)]) (rest := [.int (nI q), .ref (g 16)]) S (kX2_add hg (s_bs (s_b (s_v (s_k u (upd (c_k u) q k)) (upd (c_v u) q v)) (upd (c_b u) q (nI t))) (upd (c_bs u) q (c_sp u t))) n k v (nI t) hn htc) (cwV 3 hts gX4_putVersion_X2_add rfl rfl rfl hdX2_add ⟨Nat.le_of_ble_eq_true rfl, Nat.le_of_ble_eq_true rfl⟩) rfl rfl 4 rfl rfl hE hP hS (frs hS) rfl hl.1 rfl (Nat.le_of_ble_eq_true rfl) dX4_putVersion_68 ⟨Nat.le_of_ble_eq_true rfl, Nat.le_of_ble_eq_true rfl⟩ (fun H locs hP _ _ hS => ?_)
  refine sC_r S hE hP hg hS (j := q) (by omega) rfl dX4_putVersion_71 (fun H locs hP hS => ?_)
  have hP : va_P D vwCl (wC K g (s_r (cta (s_bs (s_b (s_v (s_k u (upd (c_k u) q k)) (upd (c_v u) q v)) (upd (c_b u) q (nI t))) (upd (c_bs u) q (c_sp u t))) n k v (nI t)) (upd (c_r (cta (s_bs (s_b (s_v (s_k u (upd (c_k u) q k)) (upd (c_v u) q v)) (upd (c_b u) q (nI t))) (upd (c_bs u) q (c_sp u t))) n k v (nI t))) q (nI n)))) H := hP
  refine lv_aload_n hx hb dX4_putVersion_72 rfl (lv_at hl 0 rfl) ?_
  refine gw4_mapped S i4 hE hP (hts _ (List.mem_of_getElem? (i := 10) rfl)) dX4_putVersion_73 ?_
  refine lv_iload hx hb dX4_putVersion_76 (lv_at hl 4 rfl) ?_
  refine kiS (As := [.int (nI q)]) (rest := [.ref (g 5)]) S (kX4_pageOf q (by omega)) (va_cwS 1 hts gX4_putVersion_X4_pageOf rfl rfl rfl hdX4_pageOf.2 ⟨Nat.le_of_ble_eq_true rfl, Nat.le_of_ble_eq_true rfl⟩) rfl rfl hE hP hS (frs hS) rfl hl.1 rfl (Nat.le_of_ble_eq_true rfl) dX4_putVersion_78 ⟨Nat.le_of_ble_eq_true rfl, Nat.le_of_ble_eq_true rfl⟩ (fun H locs hP _ _ hS => ?_)
  refine lv_iconst (v := 0) hx hb dX4_putVersion_81 (by decide) ?_
  refine sC_mp S hE hP rfl hg hS (j := (q / 8)) (by omega) rfl dX4_putVersion_82 (fun H locs hP hS => ?_)
  have hP : va_P D vwCl (wC K g (s_mp (s_r (cta (s_bs (s_b (s_v (s_k u (upd (c_k u) q k)) (upd (c_v u) q v)) (upd (c_b u) q (nI t))) (upd (c_bs u) q (c_sp u t))) n k v (nI t)) (upd (c_r (cta (s_bs (s_b (s_v (s_k u (upd (c_k u) q k)) (upd (c_v u) q v)) (upd (c_b u) q (nI t))) (upd (c_bs u) q (c_sp u t))) n k v (nI t))) q (nI n))) (upd (c_mp (cta (s_bs (s_b (s_v (s_k u (upd (c_k u) q k)) (upd (c_v u) q v)) (upd (c_b u) q (nI t))) (upd (c_bs u) q (c_sp u t))) n k v (nI t))) (q / 8) 0))) H := hP
  exact e0 hx hb hr hlk hS hP rfl (Nat.le_of_ble_eq_true rfl) (Nat.le_of_ble_eq_true rfl) dX4_putVersion_83
def rmX4_canGo : Room := { frames := 2, cells := 0, slots := 0, locals := 43 }
theorem hdX4_canGo : yX4_canGo.cls = RX4 ∧ yX4_canGo.cls ≠ "java/lang/invoke/MethodHandle" ∧ yX4_canGo.cls ≠ "java/lang/invoke/VarHandle" ∧ (parseMethodDescriptor yX4_canGo.desc).map (fun d => d.parameters.length) = some 2 := by decide +kernel
set_option maxHeartbeats 4000000 in
set_option maxRecDepth 100000 in
theorem kX4_canGo {l : Launch} {D : va_G} {K : Nat → ClassId} {L : Nat → Prop} {g : Nat → Nat} (hg : gd L g 29) (u : CU) (q : Nat) (S9 : Int64) (hq : q < 32) : CI l yX4_canGo wsX4_canGo rmX4_canGo D K L [.ref (g 0), .int (nI q), .long S9] (wC K g u) (wC K g u) (fb (cgP u q S9)) := by
  refine CI.of (cc := cX4_canGo) (maxL := 4) (ret := (some .boolean)) (by decide +kernel) rfl (Nat.le_of_ble_eq_true rfl) ?_
  intro p e s m below meth c ls hen hP
  obtain ⟨hx, hb, hr, hts, hown, hlk, hml, hnm, hE, hl⟩ := hen
  have S : CallFix p m c cX4_canGo 4 s _ wsX4_canGo RX4 := ⟨hx, hb, hml, hown, hts⟩
  have hS : va_S (fr L s.heap.size) s.heap s.heap [] := va_S.rf
  have hl : lv_has ls 4 [(0, .ref (g 0)), (1, .int (nI q)), (2, .long S9)] := hl
  have i4 : ∀ w ∈ wsX40, w ∈ wsX4_canGo := fun _ h => List.mem_cons_of_mem _ (List.mem_append_left _ (List.mem_append_left _ (List.mem_append_right _ h)))
  have i1 : ∀ w ∈ wsX10, w ∈ wsX4_canGo := fun _ h => List.mem_cons_of_mem _ (List.mem_append_left _ (List.mem_append_right _ h))
  have i3 : ∀ w ∈ wsX30, w ∈ wsX4_canGo := fun _ h => List.mem_cons_of_mem _ (List.mem_append_right _ h)
  refine lv_aload_n hx hb dX4_canGo_0 rfl (lv_at hl 0 rfl) ?_
  refine gw4_slots S i4 hE hP (hts _ (List.mem_of_getElem? (i := 1) rfl)) dX4_canGo_1 ?_
  refine lv_iload_n hx hb dX4_canGo_4 rfl (lv_at hl 1 rfl) ?_
  refine kiV (As := [.int (nI q)]) (rest := []) S (kX1_isUsed hg u q (by omega)) (cwV 1 hts gX4_canGo_X1_isUsed rfl rfl rfl hdX1_isUsed ⟨Nat.le_of_ble_eq_true rfl, Nat.le_of_ble_eq_true rfl⟩) rfl rfl 2 rfl rfl hE hP hS (frs hS) rfl hl.1 rfl (Nat.le_of_ble_eq_true rfl) dX4_canGo_5 ⟨Nat.le_of_ble_eq_true rfl, Nat.le_of_ble_eq_true rfl⟩ (fun H locs hP _ _ hS => ?_)
  refine bzeq (tgt := 50) hx hb dX4_canGo_8 (by decide) (fun c1 => ?_) (fun c1 => ?_)
  · skip
    have no : ¬ cgP u q S9 := fun k => c1 k.1
    refine lv_iconst (v := 0) hx hb dX4_canGo_50 (by decide) ?_
    exact ez hx hb hr hlk hS hP rfl (by first | exact f_fb no | exact t_fb yes) rfl (Nat.le_of_ble_eq_true rfl) (Nat.le_of_ble_eq_true rfl) dX4_canGo_51
  · skip
    refine lv_aload_n hx hb dX4_canGo_11 rfl (lv_at hl 0 rfl) ?_
    refine gw4_transactions S i4 hE hP (hts _ (List.mem_of_getElem? (i := 2) rfl)) dX4_canGo_12 ?_
    refine lv_aload_n hx hb dX4_canGo_15 rfl (lv_at hl 0 rfl) ?_
    refine gw4_slots S i4 hE hP (hts _ (List.mem_of_getElem? (i := 1) rfl)) dX4_canGo_16 ?_
    refine gw1_births S i1 hE hP (hts _ (List.mem_of_getElem? (i := 3) rfl)) dX4_canGo_19 ?_
    refine lv_iload_n hx hb dX4_canGo_22 rfl (lv_at hl 1 rfl) ?_
    refine lC_b S hE hP (f := c_b u) rfl (j := q) (by omega) rfl dX4_canGo_23 ?_
    refine kiV (As := [.int (c_b u q)]) (rest := []) S (kX3_isTakenBack hg u (c_b u q)) (cwV 1 hts gX4_canGo_X3_isTakenBack rfl rfl rfl hdX3_isTakenBack ⟨Nat.le_of_ble_eq_true rfl, Nat.le_of_ble_eq_true rfl⟩) rfl rfl 1 rfl rfl hE hP hS (frs hS) rfl hl.1 rfl (Nat.le_of_ble_eq_true rfl) dX4_canGo_24 ⟨Nat.le_of_ble_eq_true rfl, Nat.le_of_ble_eq_true rfl⟩ (fun H locs hP _ _ hS => ?_)
    refine bzne (tgt := 46) hx hb dX4_canGo_27 (by decide) (fun c2 => ?_) (fun c2 => ?_)
    · skip
      have yes : cgP u q S9 := ⟨c1, Or.inl c2⟩
      refine lv_iconst (v := 1) hx hb dX4_canGo_46 (by decide) ?_
      refine lv_goto (tgt := 51) hx hb dX4_canGo_47 (by decide) ?_
      exact ez hx hb hr hlk hS hP rfl (by first | exact f_fb no | exact t_fb yes) rfl (Nat.le_of_ble_eq_true rfl) (Nat.le_of_ble_eq_true rfl) dX4_canGo_51
    · skip
      refine lv_lload_n hx hb dX4_canGo_30 rfl (lv_at hl 2 rfl) ?_
      refine lv_aload_n hx hb dX4_canGo_31 rfl (lv_at hl 0 rfl) ?_
      refine gw4_slots S i4 hE hP (hts _ (List.mem_of_getElem? (i := 1) rfl)) dX4_canGo_32 ?_
      refine gw1_deaths S i1 hE hP (hts _ (List.mem_of_getElem? (i := 4) rfl)) dX4_canGo_35 ?_
      refine lv_iload_n hx hb dX4_canGo_38 rfl (lv_at hl 1 rfl) ?_
      refine lC_d S hE hP (f := c_d u) rfl (j := q) (by omega) rfl dX4_canGo_39 ?_
      refine kiS (As := [.long S9, .int (c_d u q)]) (rest := []) S (kX3_has S9 (c_d u q)) (va_cwS 2 hts gX4_canGo_X3_has rfl rfl rfl hdX3_has.2 ⟨Nat.le_of_ble_eq_true rfl, Nat.le_of_ble_eq_true rfl⟩) rfl rfl hE hP hS (frs hS) rfl hl.1 rfl (Nat.le_of_ble_eq_true rfl) dX4_canGo_40 ⟨Nat.le_of_ble_eq_true rfl, Nat.le_of_ble_eq_true rfl⟩ (fun H locs hP _ _ hS => ?_)
      refine bzeq (tgt := 50) hx hb dX4_canGo_43 (by decide) (fun c3 => ?_) (fun c3 => ?_)
      · skip
        have no : ¬ cgP u q S9 := fun k => k.2.elim c2 c3
        refine lv_iconst (v := 0) hx hb dX4_canGo_50 (by decide) ?_
        exact ez hx hb hr hlk hS hP rfl (by first | exact f_fb no | exact t_fb yes) rfl (Nat.le_of_ble_eq_true rfl) (Nat.le_of_ble_eq_true rfl) dX4_canGo_51
      · skip
        have yes : cgP u q S9 := ⟨c1, Or.inr c3⟩
        refine lv_iconst (v := 1) hx hb dX4_canGo_46 (by decide) ?_
        refine lv_goto (tgt := 51) hx hb dX4_canGo_47 (by decide) ?_
        exact ez hx hb hr hlk hS hP rfl (by first | exact f_fb no | exact t_fb yes) rfl (Nat.le_of_ble_eq_true rfl) (Nat.le_of_ble_eq_true rfl) dX4_canGo_51
def rmX4_isSeenByAll : Room := { frames := 1, cells := 0, slots := 0, locals := 22 }
theorem hdX4_isSeenByAll : yX4_isSeenByAll.cls = RX4 ∧ yX4_isSeenByAll.cls ≠ "java/lang/invoke/MethodHandle" ∧ yX4_isSeenByAll.cls ≠ "java/lang/invoke/VarHandle" ∧ (parseMethodDescriptor yX4_isSeenByAll.desc).map (fun d => d.parameters.length) = some 2 := by decide +kernel
set_option maxHeartbeats 4000000 in
set_option maxRecDepth 100000 in
theorem kX4_isSeenByAll {l : Launch} {D : va_G} {K : Nat → ClassId} {L : Nat → Prop} {g : Nat → Nat} (hg : gd L g 29) (u : CU) (q : Nat) (S9 : Int64) (hq : q < 32) : CI l yX4_isSeenByAll wsX4_isSeenByAll rmX4_isSeenByAll D K L [.ref (g 0), .int (nI q), .long S9] (wC K g u) (wC K g u) (fb (sbP u q S9)) := by
  refine CI.of (cc := cX4_isSeenByAll) (maxL := 4) (ret := (some .boolean)) (by decide +kernel) rfl (Nat.le_of_ble_eq_true rfl) ?_
  intro p e s m below meth c ls hen hP
  obtain ⟨hx, hb, hr, hts, hown, hlk, hml, hnm, hE, hl⟩ := hen
  have S : CallFix p m c cX4_isSeenByAll 4 s _ wsX4_isSeenByAll RX4 := ⟨hx, hb, hml, hown, hts⟩
  have hS : va_S (fr L s.heap.size) s.heap s.heap [] := va_S.rf
  have hl : lv_has ls 4 [(0, .ref (g 0)), (1, .int (nI q)), (2, .long S9)] := hl
  have i4 : ∀ w ∈ wsX40, w ∈ wsX4_isSeenByAll := fun _ h => List.mem_cons_of_mem _ (List.mem_append_left _ (List.mem_append_right _ h))
  have i1 : ∀ w ∈ wsX10, w ∈ wsX4_isSeenByAll := fun _ h => List.mem_cons_of_mem _ (List.mem_append_right _ h)
  refine lv_aload_n hx hb dX4_isSeenByAll_0 rfl (lv_at hl 0 rfl) ?_
  refine gw4_slots S i4 hE hP (hts _ (List.mem_of_getElem? (i := 1) rfl)) dX4_isSeenByAll_1 ?_
  refine lv_iload_n hx hb dX4_isSeenByAll_4 rfl (lv_at hl 1 rfl) ?_
  refine kiV (As := [.int (nI q)]) (rest := []) S (kX1_hasDeath hg u q (by omega)) (cwV 1 hts gX4_isSeenByAll_X1_hasDeath rfl rfl rfl hdX1_hasDeath ⟨Nat.le_of_ble_eq_true rfl, Nat.le_of_ble_eq_true rfl⟩) rfl rfl 2 rfl rfl hE hP hS (frs hS) rfl hl.1 rfl (Nat.le_of_ble_eq_true rfl) dX4_isSeenByAll_5 ⟨Nat.le_of_ble_eq_true rfl, Nat.le_of_ble_eq_true rfl⟩ (fun H locs hP _ _ hS => ?_)
  refine bzne (tgt := 43) hx hb dX4_isSeenByAll_8 (by decide) (fun c1 => ?_) (fun c1 => ?_)
  · skip
    have no : ¬ sbP u q S9 := fun k => k.1 c1
    refine lv_iconst (v := 0) hx hb dX4_isSeenByAll_43 (by decide) ?_
    exact ez hx hb hr hlk hS hP rfl (by first | exact f_fb no | exact t_fb yes) rfl (Nat.le_of_ble_eq_true rfl) (Nat.le_of_ble_eq_true rfl) dX4_isSeenByAll_44
  · skip
    refine lv_aload_n hx hb dX4_isSeenByAll_11 rfl (lv_at hl 0 rfl) ?_
    refine gw4_slots S i4 hE hP (hts _ (List.mem_of_getElem? (i := 1) rfl)) dX4_isSeenByAll_12 ?_
    refine gw1_frozen S i1 hE hP (hts _ (List.mem_of_getElem? (i := 2) rfl)) dX4_isSeenByAll_15 ?_
    refine lv_iload_n hx hb dX4_isSeenByAll_18 rfl (lv_at hl 1 rfl) ?_
    refine lC_f S hE hP (f := c_f u) rfl (j := q) (by omega) rfl dX4_isSeenByAll_19 ?_
    refine lv_if_ne (tgt := 39) hx hb dX4_isSeenByAll_20 (by decide) (fun c2 => ?_) (fun c2 => ?_)
    · skip
      have yes : sbP u q S9 := ⟨c1, Or.inl c2⟩
      refine lv_iconst (v := 1) hx hb dX4_isSeenByAll_39 (by decide) ?_
      refine lv_goto (tgt := 44) hx hb dX4_isSeenByAll_40 (by decide) ?_
      exact ez hx hb hr hlk hS hP rfl (by first | exact f_fb no | exact t_fb yes) rfl (Nat.le_of_ble_eq_true rfl) (Nat.le_of_ble_eq_true rfl) dX4_isSeenByAll_44
    · skip
      refine lv_lload_n hx hb dX4_isSeenByAll_23 rfl (lv_at hl 2 rfl) ?_
      refine lv_aload_n hx hb dX4_isSeenByAll_24 rfl (lv_at hl 0 rfl) ?_
      refine gw4_slots S i4 hE hP (hts _ (List.mem_of_getElem? (i := 1) rfl)) dX4_isSeenByAll_25 ?_
      refine gw1_births S i1 hE hP (hts _ (List.mem_of_getElem? (i := 3) rfl)) dX4_isSeenByAll_28 ?_
      refine lv_iload_n hx hb dX4_isSeenByAll_31 rfl (lv_at hl 1 rfl) ?_
      refine lC_b S hE hP (f := c_b u) rfl (j := q) (by omega) rfl dX4_isSeenByAll_32 ?_
      refine kiS (As := [.long S9, .int (c_b u q)]) (rest := []) S (kX3_has S9 (c_b u q)) (va_cwS 2 hts gX4_isSeenByAll_X3_has rfl rfl rfl hdX3_has.2 ⟨Nat.le_of_ble_eq_true rfl, Nat.le_of_ble_eq_true rfl⟩) rfl rfl hE hP hS (frs hS) rfl hl.1 rfl (Nat.le_of_ble_eq_true rfl) dX4_isSeenByAll_33 ⟨Nat.le_of_ble_eq_true rfl, Nat.le_of_ble_eq_true rfl⟩ (fun H locs hP _ _ hS => ?_)
      refine bzeq (tgt := 43) hx hb dX4_isSeenByAll_36 (by decide) (fun c3 => ?_) (fun c3 => ?_)
      · skip
        have no : ¬ sbP u q S9 := fun k => k.2.elim (fun k => k c2) c3
        refine lv_iconst (v := 0) hx hb dX4_isSeenByAll_43 (by decide) ?_
        exact ez hx hb hr hlk hS hP rfl (by first | exact f_fb no | exact t_fb yes) rfl (Nat.le_of_ble_eq_true rfl) (Nat.le_of_ble_eq_true rfl) dX4_isSeenByAll_44
      · skip
        have yes : sbP u q S9 := ⟨c1, Or.inr c3⟩
        refine lv_iconst (v := 1) hx hb dX4_isSeenByAll_39 (by decide) ?_
        refine lv_goto (tgt := 44) hx hb dX4_isSeenByAll_40 (by decide) ?_
        exact ez hx hb hr hlk hS hP rfl (by first | exact f_fb no | exact t_fb yes) rfl (Nat.le_of_ble_eq_true rfl) (Nat.le_of_ble_eq_true rfl) dX4_isSeenByAll_44
def rmX4_takeOut : Room := { frames := 1, cells := 0, slots := 0, locals := 26 }
theorem hdX4_takeOut : yX4_takeOut.cls = RX4 ∧ yX4_takeOut.cls ≠ "java/lang/invoke/MethodHandle" ∧ yX4_takeOut.cls ≠ "java/lang/invoke/VarHandle" ∧ (parseMethodDescriptor yX4_takeOut.desc).map (fun d => d.parameters.length) = some 1 := by decide +kernel
set_option maxHeartbeats 4000000 in
set_option maxRecDepth 100000 in
theorem kX4_takeOut {l : Launch} {D : va_G} {K : Nat → ClassId} {L : Nat → Prop} {g : Nat → Nat} (hg : gd L g 29) (u : CU) (q kq n : Nat) (hq : q < 32) (hkq : kq < 6) (hn : n ≤ 32) (hk : c_k u q = nI kq) (hct : c_ct u kq = nI n) : CV l yX4_takeOut wsX4_takeOut rmX4_takeOut D K L [.ref (g 0), .int (nI q)] (wC K g u) (wC K g (cto u q kq n)) := by
  refine CV.of (cc := cX4_takeOut) (maxL := 3) (ret := none) (by decide +kernel) rfl (Nat.le_of_ble_eq_true rfl) ?_
  intro p e s m below meth c ls hen hP
  obtain ⟨hx, hb, hr, hts, hown, hlk, hml, hnm, hE, hl⟩ := hen
  have S : CallFix p m c cX4_takeOut 3 s _ wsX4_takeOut RX4 := ⟨hx, hb, hml, hown, hts⟩
  have hS : va_S (fr L s.heap.size) s.heap s.heap [] := va_S.rf
  have hl : lv_has ls 3 [(0, .ref (g 0)), (1, .int (nI q))] := hl
  have i4 : ∀ w ∈ wsX40, w ∈ wsX4_takeOut := fun _ h => List.mem_cons_of_mem _ (List.mem_append_left _ (List.mem_append_left _ (List.mem_append_right _ h)))
  have i1 : ∀ w ∈ wsX10, w ∈ wsX4_takeOut := fun _ h => List.mem_cons_of_mem _ (List.mem_append_left _ (List.mem_append_right _ h))
  have i0 : ∀ w ∈ wsX00, w ∈ wsX4_takeOut := fun _ h => List.mem_cons_of_mem _ (List.mem_append_right _ h)
  refine lv_aload_n hx hb dX4_takeOut_0 rfl (lv_at hl 0 rfl) ?_
  refine gw4_slots S i4 hE hP (hts _ (List.mem_of_getElem? (i := 1) rfl)) dX4_takeOut_1 ?_
  refine gw1_nexts S i1 hE hP (hts _ (List.mem_of_getElem? (i := 2) rfl)) dX4_takeOut_4 ?_
  refine lv_iload_n hx hb dX4_takeOut_7 rfl (lv_at hl 1 rfl) ?_
  refine lC_n S hE hP (f := c_n u) rfl (j := q) (by omega) rfl dX4_takeOut_8 ?_
  refine lv_istore_n (lv' := [(2, .int (c_n u q)), (0, .ref (g 0)), (1, .int (nI q))]) hx hb dX4_takeOut_9 rfl hl (by decide) rfl (fun ls hl => ?_)
  refine lv_aload_n hx hb dX4_takeOut_10 rfl (lv_at hl 1 rfl) ?_
  refine gw4_slots S i4 hE hP (hts _ (List.mem_of_getElem? (i := 1) rfl)) dX4_takeOut_11 ?_
  refine lv_iload_n hx hb dX4_takeOut_14 rfl (lv_at hl 2 rfl) ?_
  refine lv_iload_n hx hb dX4_takeOut_15 rfl (lv_at hl 0 rfl) ?_
  refine kvV (As := [.int (nI q), .int (c_n u q)]) (rest := []) S (kX1_bypass hg u (nI q) (c_n u q)) (cwV 2 hts gX4_takeOut_X1_bypass rfl rfl rfl hdX1_bypass ⟨Nat.le_of_ble_eq_true rfl, Nat.le_of_ble_eq_true rfl⟩) rfl rfl 2 rfl rfl hE hP hS (frs hS) rfl hl.1 rfl (Nat.le_of_ble_eq_true rfl) dX4_takeOut_16 ⟨Nat.le_of_ble_eq_true rfl, Nat.le_of_ble_eq_true rfl⟩ (fun H locs hP _ _ hS => ?_)
  refine lv_aload_n hx hb dX4_takeOut_19 rfl (lv_at hl 1 rfl) ?_
  refine gw4_index S i4 hE hP (hts _ (List.mem_of_getElem? (i := 3) rfl)) dX4_takeOut_20 ?_
  refine lv_aload_n hx hb dX4_takeOut_23 rfl (lv_at hl 1 rfl) ?_
  refine gw4_slots S i4 hE hP (hts _ (List.mem_of_getElem? (i := 1) rfl)) dX4_takeOut_24 ?_
  refine gw1_keys S i1 hE hP (hts _ (List.mem_of_getElem? (i := 4) rfl)) dX4_takeOut_27 ?_
  refine lv_iload_n hx hb dX4_takeOut_30 rfl (lv_at hl 2 rfl) ?_
  refine lC_k S hE hP (f := c_k (s_n u (rpl (c_n u) (nI q) (c_n u q) 32))) rfl (j := q) (by omega) rfl dX4_takeOut_31 ?_
  refine tpi (y := nI kq) hk ?_
  refine lv_iload_n hx hb dX4_takeOut_32 rfl (lv_at hl 2 rfl) ?_
  refine lv_iload_n hx hb dX4_takeOut_33 rfl (lv_at hl 0 rfl) ?_
  refine kvV (As := [.int (nI kq), .int (nI q), .int (c_n u q)]) (rest := []) S (kX0_move hg (s_n u (rpl (c_n u) (nI q) (c_n u q) 32)) kq n (nI q) (c_n u q) hkq hn hct) (cwV 3 hts gX4_takeOut_X0_move rfl rfl rfl hdX0_move ⟨Nat.le_of_ble_eq_true rfl, Nat.le_of_ble_eq_true rfl⟩) rfl rfl 3 rfl rfl hE hP hS (frs hS) rfl hl.1 rfl (Nat.le_of_ble_eq_true rfl) dX4_takeOut_34 ⟨Nat.le_of_ble_eq_true rfl, Nat.le_of_ble_eq_true rfl⟩ (fun H locs hP _ _ hS => ?_)
  refine lv_aload_n hx hb dX4_takeOut_37 rfl (lv_at hl 1 rfl) ?_
  refine gw4_slots S i4 hE hP (hts _ (List.mem_of_getElem? (i := 1) rfl)) dX4_takeOut_38 ?_
  refine lv_iload_n hx hb dX4_takeOut_41 rfl (lv_at hl 2 rfl) ?_
  refine kvV (As := [.int (nI q)]) (rest := []) S (kX1_empty hg (cim (s_n u (rpl (c_n u) (nI q) (c_n u q) 32)) kq n (nI q) (c_n u q)) q (by omega)) (cwV 1 hts gX4_takeOut_X1_empty rfl rfl rfl hdX1_empty ⟨Nat.le_of_ble_eq_true rfl, Nat.le_of_ble_eq_true rfl⟩) rfl rfl 2 rfl rfl hE hP hS (frs hS) rfl hl.1 rfl (Nat.le_of_ble_eq_true rfl) dX4_takeOut_42 ⟨Nat.le_of_ble_eq_true rfl, Nat.le_of_ble_eq_true rfl⟩ (fun H locs hP _ _ hS => ?_)
  exact e0 hx hb hr hlk hS hP rfl (Nat.le_of_ble_eq_true rfl) (Nat.le_of_ble_eq_true rfl) dX4_takeOut_45
def rmX4_freezeOldOnes : Room := { frames := 3, cells := 0, slots := 0, locals := 64 }
theorem hdX4_freezeOldOnes : yX4_freezeOldOnes.cls = RX4 ∧ yX4_freezeOldOnes.cls ≠ "java/lang/invoke/MethodHandle" ∧ yX4_freezeOldOnes.cls ≠ "java/lang/invoke/VarHandle" ∧ (parseMethodDescriptor yX4_freezeOldOnes.desc).map (fun d => d.parameters.length) = some 2 := by decide +kernel
set_option maxHeartbeats 4000000 in
set_option maxRecDepth 100000 in
theorem kX4_freezeOldOnes {l : Launch} {D : va_G} {K : Nat → ClassId} {L : Nat → Prop} {g : Nat → Nat} (hg : gd L g 29) (u : CU) (a : Nat) (S9 : Int64) (ha : a < 4) : CV l yX4_freezeOldOnes wsX4_freezeOldOnes rmX4_freezeOldOnes D K L [.ref (g 0), .int (nI a), .long S9] (wC K g u) (wC K g (s_f u (fzn u S9 (a * 8) (a * 8 + 8)))) := by
  refine CV.of (cc := cX4_freezeOldOnes) (maxL := 5) (ret := none) (by decide +kernel) rfl (Nat.le_of_ble_eq_true rfl) ?_
  intro p e s m below meth c ls hen hP
  obtain ⟨hx, hb, hr, hts, hown, hlk, hml, hnm, hE, hl⟩ := hen
  have S : CallFix p m c cX4_freezeOldOnes 5 s _ wsX4_freezeOldOnes RX4 := ⟨hx, hb, hml, hown, hts⟩
  have hS : va_S (fr L s.heap.size) s.heap s.heap [] := va_S.rf
  have hl : lv_has ls 5 [(0, .ref (g 0)), (1, .int (nI a)), (2, .long S9)] := hl
  have i4 : ∀ w ∈ wsX40, w ∈ wsX4_freezeOldOnes := fun _ h => List.mem_cons_of_mem _ (List.mem_append_left _ (List.mem_append_left _ (List.mem_append_right _ h)))
  have i1 : ∀ w ∈ wsX10, w ∈ wsX4_freezeOldOnes := fun _ h => List.mem_cons_of_mem _ (List.mem_append_left _ (List.mem_append_right _ h))
  have i3 : ∀ w ∈ wsX30, w ∈ wsX4_freezeOldOnes := fun _ h => List.mem_cons_of_mem _ (List.mem_append_right _ h)
  refine lv_iload_n hx hb dX4_freezeOldOnes_0 rfl (lv_at hl 1 rfl) ?_
  refine kiS (As := [.int (nI a)]) (rest := []) S (kX4_firstOf a) (va_cwS 1 hts gX4_freezeOldOnes_X4_firstOf rfl rfl rfl hdX4_firstOf.2 ⟨Nat.le_of_ble_eq_true rfl, Nat.le_of_ble_eq_true rfl⟩) rfl rfl hE hP hS (frs hS) rfl hl.1 rfl (Nat.le_of_ble_eq_true rfl) dX4_freezeOldOnes_1 ⟨Nat.le_of_ble_eq_true rfl, Nat.le_of_ble_eq_true rfl⟩ (fun H locs hP _ _ hS => ?_)
  refine lv_istore (lv' := [(4, .int (nI (a * 8))), (0, .ref (g 0)), (1, .int (nI a)), (2, .long S9)]) hx hb dX4_freezeOldOnes_4 hl (by decide) rfl (fun ls hl => ?_)
  have loop6 : ∀ (n6 : Nat) (i : Nat) (f : AI), (hi1 : a * 8 ≤ i) → (hi : i ≤ a * 8 + 8) → (hf : f = fzn u S9 (a * 8) i) → a * 8 + 8 - i < n6 → ∀ (H : Heap) (locs : List Loc), va_P D vwCl (wC K g (s_f u f)) H → va_S (fr L s.heap.size) s.heap H locs → ∀ (ls : Array Slot), lv_has ls 5 [(4, .int (nI i)), (0, .ref (g 0)), (1, .int (nI a)), (2, .long S9)] → W p l e rmX4_freezeOldOnes s m ([.ref (g 0), .int (nI a), .long S9] : List Value).toArray below meth c H locs 0 0 (MQ below (va_Qv (fun (_ : Unit) => True) (fun _ t => va_P D vwCl (wC K g (s_f u (fzn u S9 (a * 8) (a * 8 + 8)))) t.heap) (fr L s.heap.size)) ([.ref (g 0), .int (nI a), .long S9] : List Value).toArray s rmX4_freezeOldOnes.cells rmX4_freezeOldOnes.slots (fr L s.heap.size)) (F0 m 6 ls []) := by
    intro n6
    induction n6 with
    | zero =>
      intro i f hi1 hi hf hn6
      exact absurd hn6 (Nat.not_lt_zero _)
    | succ n6 ih6 =>
      intro i f hi1 hi hf hn6 H locs hP hS ls hl
      refine lv_iload hx hb dX4_freezeOldOnes_6 (lv_at hl 0 rfl) ?_
      refine lv_iload_n hx hb dX4_freezeOldOnes_8 rfl (lv_at hl 2 rfl) ?_
      refine kiS (As := [.int (nI a)]) (rest := [.int (nI i)]) S (kX4_firstOf a) (va_cwS 1 hts gX4_freezeOldOnes_X4_firstOf rfl rfl rfl hdX4_firstOf.2 ⟨Nat.le_of_ble_eq_true rfl, Nat.le_of_ble_eq_true rfl⟩) rfl rfl hE hP hS (frs hS) rfl hl.1 rfl (Nat.le_of_ble_eq_true rfl) dX4_freezeOldOnes_9 ⟨Nat.le_of_ble_eq_true rfl, Nat.le_of_ble_eq_true rfl⟩ (fun H locs hP _ _ hS => ?_)
      refine lv_bipush (v := 8) hx hb dX4_freezeOldOnes_12 (by decide) ?_
      refine lv_iadd hx hb dX4_freezeOldOnes_14 ?_
      refine tpi (y := nI (a * 8 + 8)) (nI_add (a * 8) 8) ?_
      refine lv_icmp_ge (tgt := 88) hx hb dX4_freezeOldOnes_15 (by decide) (fun c1 => ?_) (fun c1 => ?_)
      · skip
        have e : i = a * 8 + 8 := by have := nge_i (a := i) (b := a * 8 + 8) (by omega) (by omega) c1; omega
        exact e0 hx hb hr hlk hS hP (by rw [hf, e]) (Nat.le_of_ble_eq_true rfl) (Nat.le_of_ble_eq_true rfl) dX4_freezeOldOnes_88
      · skip
        have hlt : i < a * 8 + 8 := nlt_i (a := i) (b := a * 8 + 8) (by omega) (by omega) c1
        refine lv_aload_n hx hb dX4_freezeOldOnes_18 rfl (lv_at hl 1 rfl) ?_
        refine gw4_slots S i4 hE hP (hts _ (List.mem_of_getElem? (i := 1) rfl)) dX4_freezeOldOnes_19 ?_
        refine lv_iload hx hb dX4_freezeOldOnes_22 (lv_at hl 0 rfl) ?_
        refine kiV (As := [.int (nI i)]) (rest := []) S (kX1_isUsed hg (s_f u f) i (by omega)) (cwV 1 hts gX4_freezeOldOnes_X1_isUsed rfl rfl rfl hdX1_isUsed ⟨Nat.le_of_ble_eq_true rfl, Nat.le_of_ble_eq_true rfl⟩) rfl rfl 2 rfl rfl hE hP hS (frs hS) rfl hl.1 rfl (Nat.le_of_ble_eq_true rfl) dX4_freezeOldOnes_24 ⟨Nat.le_of_ble_eq_true rfl, Nat.le_of_ble_eq_true rfl⟩ (fun H locs hP _ _ hS => ?_)
        refine bzeq (tgt := 82) hx hb dX4_freezeOldOnes_27 (by decide) (fun c2 => ?_) (fun c2 => ?_)
        · skip
          have no : ¬ fzP u S9 i := fun k => c2 k.1
          refine lv_iinc (v := nI (i + 1)) (lv' := [(4, .int (nI (i + 1))), (0, .ref (g 0)), (1, .int (nI a)), (2, .long S9)]) hx hb dX4_freezeOldOnes_82 hl (k := 0) rfl (nI_1 i) (by decide) rfl (fun ls hl => ?_)
          refine lv_goto (tgt := 6) hx hb dX4_freezeOldOnes_85 (by decide) ?_
          exact ih6 (i + 1) f (by omega) (by omega) (by first | (rw [hf]; exact fzn_y hi1 yes) | (rw [hf]; exact fzn_n no)) (by omega) _ _ hP hS ls (lv_sub hl [0, 1, 2, 3] rfl)
        · skip
          have u1 : usP u i := c2
          refine lv_aload_n hx hb dX4_freezeOldOnes_30 rfl (lv_at hl 1 rfl) ?_
          refine gw4_transactions S i4 hE hP (hts _ (List.mem_of_getElem? (i := 2) rfl)) dX4_freezeOldOnes_31 ?_
          refine lv_aload_n hx hb dX4_freezeOldOnes_34 rfl (lv_at hl 1 rfl) ?_
          refine gw4_slots S i4 hE hP (hts _ (List.mem_of_getElem? (i := 1) rfl)) dX4_freezeOldOnes_35 ?_
          refine gw1_birthStamps S i1 hE hP (hts _ (List.mem_of_getElem? (i := 3) rfl)) dX4_freezeOldOnes_38 ?_
          refine lv_iload hx hb dX4_freezeOldOnes_41 (lv_at hl 0 rfl) ?_
          refine lC_bs S hE hP (f := c_bs u) rfl (j := i) (by omega) rfl dX4_freezeOldOnes_43 ?_
          refine kiV (As := [.int (c_bs u i)]) (rest := []) S (kX3_ageOf hg (s_f u f) (c_bs u i)) (cwV 1 hts gX4_freezeOldOnes_X3_ageOf rfl rfl rfl hdX3_ageOf ⟨Nat.le_of_ble_eq_true rfl, Nat.le_of_ble_eq_true rfl⟩) rfl rfl 1 rfl rfl hE hP hS (frs hS) rfl hl.1 rfl (Nat.le_of_ble_eq_true rfl) dX4_freezeOldOnes_44 ⟨Nat.le_of_ble_eq_true rfl, Nat.le_of_ble_eq_true rfl⟩ (fun H locs hP _ _ hS => ?_)
          refine lv_aload_n hx hb dX4_freezeOldOnes_47 rfl (lv_at hl 1 rfl) ?_
          refine gw4_freezingAge S i4 hE hP (f := c_fz u) rfl (hts _ (List.mem_of_getElem? (i := 4) rfl)) dX4_freezeOldOnes_48 ?_
          refine lv_icmp_lt (tgt := 82) hx hb dX4_freezeOldOnes_51 (by decide) (fun c3 => ?_) (fun c3 => ?_)
          · skip
            have no : ¬ fzP u S9 i := fun k => k.2.1 c3
            refine lv_iinc (v := nI (i + 1)) (lv' := [(4, .int (nI (i + 1))), (0, .ref (g 0)), (1, .int (nI a)), (2, .long S9)]) hx hb dX4_freezeOldOnes_82 hl (k := 0) rfl (nI_1 i) (by decide) rfl (fun ls hl => ?_)
            refine lv_goto (tgt := 6) hx hb dX4_freezeOldOnes_85 (by decide) ?_
            exact ih6 (i + 1) f (by omega) (by omega) (by first | (rw [hf]; exact fzn_y hi1 yes) | (rw [hf]; exact fzn_n no)) (by omega) _ _ hP hS ls (lv_sub hl [0, 1, 2, 3] rfl)
          · skip
            have u2 : ¬ fm (c_ns u - c_bs u i) < c_fz u := c3
            refine lv_lload_n hx hb dX4_freezeOldOnes_54 rfl (lv_at hl 3 rfl) ?_
            refine lv_aload_n hx hb dX4_freezeOldOnes_55 rfl (lv_at hl 1 rfl) ?_
            refine gw4_slots S i4 hE hP (hts _ (List.mem_of_getElem? (i := 1) rfl)) dX4_freezeOldOnes_56 ?_
            refine gw1_births S i1 hE hP (hts _ (List.mem_of_getElem? (i := 5) rfl)) dX4_freezeOldOnes_59 ?_
            refine lv_iload hx hb dX4_freezeOldOnes_62 (lv_at hl 0 rfl) ?_
            refine lC_b S hE hP (f := c_b u) rfl (j := i) (by omega) rfl dX4_freezeOldOnes_64 ?_
            refine kiS (As := [.long S9, .int (c_b u i)]) (rest := []) S (kX3_has S9 (c_b u i)) (va_cwS 2 hts gX4_freezeOldOnes_X3_has rfl rfl rfl hdX3_has.2 ⟨Nat.le_of_ble_eq_true rfl, Nat.le_of_ble_eq_true rfl⟩) rfl rfl hE hP hS (frs hS) rfl hl.1 rfl (Nat.le_of_ble_eq_true rfl) dX4_freezeOldOnes_65 ⟨Nat.le_of_ble_eq_true rfl, Nat.le_of_ble_eq_true rfl⟩ (fun H locs hP _ _ hS => ?_)
            refine bzeq (tgt := 82) hx hb dX4_freezeOldOnes_68 (by decide) (fun c4 => ?_) (fun c4 => ?_)
            · skip
              have no : ¬ fzP u S9 i := fun k => c4 k.2.2
              refine lv_iinc (v := nI (i + 1)) (lv' := [(4, .int (nI (i + 1))), (0, .ref (g 0)), (1, .int (nI a)), (2, .long S9)]) hx hb dX4_freezeOldOnes_82 hl (k := 0) rfl (nI_1 i) (by decide) rfl (fun ls hl => ?_)
              refine lv_goto (tgt := 6) hx hb dX4_freezeOldOnes_85 (by decide) ?_
              exact ih6 (i + 1) f (by omega) (by omega) (by first | (rw [hf]; exact fzn_y hi1 yes) | (rw [hf]; exact fzn_n no)) (by omega) _ _ hP hS ls (lv_sub hl [0, 1, 2, 3] rfl)
            · skip
              have yes : fzP u S9 i := ⟨u1, u2, c4⟩
              refine lv_aload_n hx hb dX4_freezeOldOnes_71 rfl (lv_at hl 1 rfl) ?_
              refine gw4_slots S i4 hE hP (hts _ (List.mem_of_getElem? (i := 1) rfl)) dX4_freezeOldOnes_72 ?_
              refine gw1_frozen S i1 hE hP (hts _ (List.mem_of_getElem? (i := 6) rfl)) dX4_freezeOldOnes_75 ?_
              refine lv_iload hx hb dX4_freezeOldOnes_78 (lv_at hl 0 rfl) ?_
              refine lv_iconst (v := 1) hx hb dX4_freezeOldOnes_80 (by decide) ?_
              refine sC_f S hE hP rfl hg hS (j := i) (by omega) rfl dX4_freezeOldOnes_81 (fun H locs hP hS => ?_)
              have hP : va_P D vwCl (wC K g (s_f (s_f u f) (upd f i 1))) H := hP
              refine lv_iinc (v := nI (i + 1)) (lv' := [(4, .int (nI (i + 1))), (0, .ref (g 0)), (1, .int (nI a)), (2, .long S9)]) hx hb dX4_freezeOldOnes_82 hl (k := 0) rfl (nI_1 i) (by decide) rfl (fun ls hl => ?_)
              refine lv_goto (tgt := 6) hx hb dX4_freezeOldOnes_85 (by decide) ?_
              exact ih6 (i + 1) (upd f i 1) (by omega) (by omega) (by first | (rw [hf]; exact fzn_y hi1 yes) | (rw [hf]; exact fzn_n no)) (by omega) _ _ hP hS ls (lv_sub hl [0, 1, 2, 3] rfl)
  exact loop6 _ (a * 8) (c_f u) (by omega) (by omega) fzn_0.symm (Nat.lt_succ_self _) _ _ hP hS ls (lv_sub hl [0, 1, 2, 3] rfl)
def rmX4_oldest : Room := { frames := 4, cells := 0, slots := 0, locals := 86 }
theorem hdX4_oldest : yX4_oldest.cls = RX4 ∧ yX4_oldest.cls ≠ "java/lang/invoke/MethodHandle" ∧ yX4_oldest.cls ≠ "java/lang/invoke/VarHandle" ∧ (parseMethodDescriptor yX4_oldest.desc).map (fun d => d.parameters.length) = some 0 := by decide +kernel
set_option maxHeartbeats 4000000 in
set_option maxRecDepth 100000 in
theorem kX4_oldest {l : Launch} {D : va_G} {K : Nat → ClassId} {L : Nat → Prop} {g : Nat → Nat} (hg : gd L g 29) (u : CU) (N : Nat) (hN : N ≤ 60) (hcn : c_cn u = nI N) : CI l yX4_oldest wsX4_oldest rmX4_oldest D K L [.ref (g 0)] (wC K g u) (wC K g u) (olg u N 32) := by
  refine CI.of (cc := cX4_oldest) (maxL := 3) (ret := (some .int)) (by decide +kernel) rfl (Nat.le_of_ble_eq_true rfl) ?_
  intro p e s m below meth c ls hen hP
  obtain ⟨hx, hb, hr, hts, hown, hlk, hml, hnm, hE, hl⟩ := hen
  have S : CallFix p m c cX4_oldest 3 s _ wsX4_oldest RX4 := ⟨hx, hb, hml, hown, hts⟩
  have hS : va_S (fr L s.heap.size) s.heap s.heap [] := va_S.rf
  have hl : lv_has ls 3 [(0, .ref (g 0))] := hl
  have i4 : ∀ w ∈ wsX40, w ∈ wsX4_oldest := fun _ h => List.mem_cons_of_mem _ (List.mem_append_left _ (List.mem_append_left _ (List.mem_append_right _ h)))
  have i1 : ∀ w ∈ wsX10, w ∈ wsX4_oldest := fun _ h => List.mem_cons_of_mem _ (List.mem_append_left _ (List.mem_append_right _ h))
  have i3 : ∀ w ∈ wsX30, w ∈ wsX4_oldest := fun _ h => List.mem_cons_of_mem _ (List.mem_append_right _ h)
  refine lv_aload_n hx hb dX4_oldest_0 rfl (lv_at hl 0 rfl) ?_
  refine gw4_transactions S i4 hE hP (hts _ (List.mem_of_getElem? (i := 1) rfl)) dX4_oldest_1 ?_
  refine kiV (As := []) (rest := []) S (kX3_oldestActiveAge hg u N (by omega) hcn) (cwV 0 hts gX4_oldest_X3_oldestActiveAge rfl rfl rfl hdX3_oldestActiveAge ⟨Nat.le_of_ble_eq_true rfl, Nat.le_of_ble_eq_true rfl⟩) rfl rfl 1 rfl rfl hE hP hS (frs hS) rfl hl.1 rfl (Nat.le_of_ble_eq_true rfl) dX4_oldest_4 ⟨Nat.le_of_ble_eq_true rfl, Nat.le_of_ble_eq_true rfl⟩ (fun H locs hP _ _ hS => ?_)
  refine lv_istore_n (lv' := [(1, .int (oaa u N)), (0, .ref (g 0))]) hx hb dX4_oldest_7 rfl hl (by decide) rfl (fun ls hl => ?_)
  refine lv_iconst (v := 0) hx hb dX4_oldest_8 (by decide) ?_
  refine lv_istore_n (lv' := [(2, .int 0), (1, .int (oaa u N)), (0, .ref (g 0))]) hx hb dX4_oldest_9 rfl hl (by decide) rfl (fun ls hl => ?_)
  have loop10 : ∀ (n10 : Nat) (i : Nat) (a : Int32), (hi : i ≤ 32) → (ha : a = olg u N i) → 32 - i < n10 → ∀ (H : Heap) (locs : List Loc), va_P D vwCl (wC K g u) H → va_S (fr L s.heap.size) s.heap H locs → ∀ (ls : Array Slot), lv_has ls 3 [(2, .int (nI i)), (1, .int a), (0, .ref (g 0))] → W p l e rmX4_oldest s m ([.ref (g 0)] : List Value).toArray below meth c H locs 0 0 (MQ below (va_Qi (fun (r9 : Int32) (_ : Unit) => r9 = olg u N 32) (fun _ t => va_P D vwCl (wC K g u) t.heap) (fr L s.heap.size)) ([.ref (g 0)] : List Value).toArray s rmX4_oldest.cells rmX4_oldest.slots (fr L s.heap.size)) (F0 m 10 ls []) := by
    intro n10
    induction n10 with
    | zero =>
      intro i a hi ha hn10
      exact absurd hn10 (Nat.not_lt_zero _)
    | succ n10 ih10 =>
      intro i a hi ha hn10 H locs hP hS ls hl
      refine lv_iload_n hx hb dX4_oldest_10 rfl (lv_at hl 0 rfl) ?_
      refine lv_bipush (v := 32) hx hb dX4_oldest_11 (by decide) ?_
      refine lv_icmp_ge (tgt := 98) hx hb dX4_oldest_13 (by decide) (fun c1 => ?_) (fun c1 => ?_)
      · skip
        have e : i = 32 := by have := nge_i (a := i) (b := 32) (by omega) (by omega) c1; omega
        refine lv_iload_n hx hb dX4_oldest_98 rfl (lv_at hl 1 rfl) ?_
        exact ei hx hb hr hlk hS hP rfl (by rw [ha, e]) (Nat.le_of_ble_eq_true rfl) (Nat.le_of_ble_eq_true rfl) dX4_oldest_99
      · skip
        have hlt : i < 32 := nlt_i (a := i) (b := 32) (by omega) (by omega) c1
        refine lv_aload_n hx hb dX4_oldest_16 rfl (lv_at hl 2 rfl) ?_
        refine gw4_slots S i4 hE hP (hts _ (List.mem_of_getElem? (i := 2) rfl)) dX4_oldest_17 ?_
        refine lv_iload_n hx hb dX4_oldest_20 rfl (lv_at hl 0 rfl) ?_
        refine kiV (As := [.int (nI i)]) (rest := []) S (kX1_isUsed hg u i (by omega)) (cwV 1 hts gX4_oldest_X1_isUsed rfl rfl rfl hdX1_isUsed ⟨Nat.le_of_ble_eq_true rfl, Nat.le_of_ble_eq_true rfl⟩) rfl rfl 2 rfl rfl hE hP hS (frs hS) rfl hl.1 rfl (Nat.le_of_ble_eq_true rfl) dX4_oldest_21 ⟨Nat.le_of_ble_eq_true rfl, Nat.le_of_ble_eq_true rfl⟩ (fun H locs hP _ _ hS => ?_)
        refine bzeq (tgt := 60) hx hb dX4_oldest_24 (by decide) (fun c2 => ?_) (fun c2 => ?_)
        · skip
          have hob : ∀ x, olb u i x = x := fun x => olb_n (fun k => c2 k.1)
          refine lv_aload_n hx hb dX4_oldest_60 rfl (lv_at hl 2 rfl) ?_
          refine gw4_slots S i4 hE hP (hts _ (List.mem_of_getElem? (i := 2) rfl)) dX4_oldest_61 ?_
          refine lv_iload_n hx hb dX4_oldest_64 rfl (lv_at hl 0 rfl) ?_
          refine kiV (As := [.int (nI i)]) (rest := []) S (kX1_hasDeath hg u i (by omega)) (cwV 1 hts gX4_oldest_X1_hasDeath rfl rfl rfl hdX1_hasDeath ⟨Nat.le_of_ble_eq_true rfl, Nat.le_of_ble_eq_true rfl⟩) rfl rfl 2 rfl rfl hE hP hS (frs hS) rfl hl.1 rfl (Nat.le_of_ble_eq_true rfl) dX4_oldest_65 ⟨Nat.le_of_ble_eq_true rfl, Nat.le_of_ble_eq_true rfl⟩ (fun H locs hP _ _ hS => ?_)
          refine bzeq (tgt := 92) hx hb dX4_oldest_68 (by decide) (fun c3 => ?_) (fun c3 => ?_)
          · skip
            refine lv_iinc (v := nI (i + 1)) (lv' := [(2, .int (nI (i + 1))), (1, .int a), (0, .ref (g 0))]) hx hb dX4_oldest_92 hl (k := 0) rfl (nI_1 i) (by decide) rfl (fun ls hl => ?_)
            refine lv_goto (tgt := 10) hx hb dX4_oldest_95 (by decide) ?_
            exact ih10 (i + 1) a (by omega) (by rw [ha, olg]; first | rw [old_y c3, hob] | rw [old_n c3, hob]) (by omega) _ _ hP hS ls (lv_sub hl [0, 1, 2] rfl)
          · skip
            refine lv_iload_n hx hb dX4_oldest_71 rfl (lv_at hl 1 rfl) ?_
            refine lv_aload_n hx hb dX4_oldest_72 rfl (lv_at hl 2 rfl) ?_
            refine gw4_transactions S i4 hE hP (hts _ (List.mem_of_getElem? (i := 1) rfl)) dX4_oldest_73 ?_
            refine lv_aload_n hx hb dX4_oldest_76 rfl (lv_at hl 2 rfl) ?_
            refine gw4_slots S i4 hE hP (hts _ (List.mem_of_getElem? (i := 2) rfl)) dX4_oldest_77 ?_
            refine gw1_deathStamps S i1 hE hP (hts _ (List.mem_of_getElem? (i := 9) rfl)) dX4_oldest_80 ?_
            refine lv_iload_n hx hb dX4_oldest_83 rfl (lv_at hl 0 rfl) ?_
            refine lC_ds S hE hP (f := c_ds u) rfl (j := i) (by omega) rfl dX4_oldest_84 ?_
            refine kiV (As := [.int (c_ds u i)]) (rest := [.int a]) S (kX3_ageOf hg u (c_ds u i)) (cwV 1 hts gX4_oldest_X3_ageOf rfl rfl rfl hdX3_ageOf ⟨Nat.le_of_ble_eq_true rfl, Nat.le_of_ble_eq_true rfl⟩) rfl rfl 1 rfl rfl hE hP hS (frs hS) rfl hl.1 rfl (Nat.le_of_ble_eq_true rfl) dX4_oldest_85 ⟨Nat.le_of_ble_eq_true rfl, Nat.le_of_ble_eq_true rfl⟩ (fun H locs hP _ _ hS => ?_)
            refine va_mmax hx hb (hml.trans hl.1.symm) hown (hts _ (List.mem_of_getElem? (i := 5) rfl)) (hts _ (List.mem_of_getElem? (i := 6) rfl)) (hts _ (List.mem_of_getElem? (i := 7) rfl)) (hts _ (List.mem_of_getElem? (i := 8) rfl)) (Nat.le_of_ble_eq_true rfl) (Nat.le_of_ble_eq_true rfl) (Nat.le_of_ble_eq_true rfl) (Nat.le_of_ble_eq_true rfl) dX4_oldest_88 ?_
            refine tpi (y := mx a (fm (c_ns u - (c_ds u i)))) rfl ?_
            refine lv_istore_n (lv' := [(1, .int (mx a (fm (c_ns u - (c_ds u i))))), (2, .int (nI i)), (0, .ref (g 0))]) hx hb dX4_oldest_91 rfl hl (by decide) rfl (fun ls hl => ?_)
            refine lv_iinc (v := nI (i + 1)) (lv' := [(2, .int (nI (i + 1))), (1, .int (mx a (fm (c_ns u - (c_ds u i))))), (0, .ref (g 0))]) hx hb dX4_oldest_92 hl (k := 1) rfl (nI_1 i) (by decide) rfl (fun ls hl => ?_)
            refine lv_goto (tgt := 10) hx hb dX4_oldest_95 (by decide) ?_
            exact ih10 (i + 1) (mx a (fm (c_ns u - (c_ds u i)))) (by omega) (by rw [ha, olg]; first | rw [old_y c3, hob] | rw [old_n c3, hob]) (by omega) _ _ hP hS ls (lv_sub hl [0, 1, 2] rfl)
        · skip
          refine lv_aload_n hx hb dX4_oldest_27 rfl (lv_at hl 2 rfl) ?_
          refine gw4_slots S i4 hE hP (hts _ (List.mem_of_getElem? (i := 2) rfl)) dX4_oldest_28 ?_
          refine gw1_frozen S i1 hE hP (hts _ (List.mem_of_getElem? (i := 3) rfl)) dX4_oldest_31 ?_
          refine lv_iload_n hx hb dX4_oldest_34 rfl (lv_at hl 0 rfl) ?_
          refine lC_f S hE hP (f := c_f u) rfl (j := i) (by omega) rfl dX4_oldest_35 ?_
          refine lv_if_ne (tgt := 60) hx hb dX4_oldest_36 (by decide) (fun c4 => ?_) (fun c4 => ?_)
          · skip
            have hob : ∀ x, olb u i x = x := fun x => olb_n (fun k => c4 k.2)
            refine lv_aload_n hx hb dX4_oldest_60 rfl (lv_at hl 2 rfl) ?_
            refine gw4_slots S i4 hE hP (hts _ (List.mem_of_getElem? (i := 2) rfl)) dX4_oldest_61 ?_
            refine lv_iload_n hx hb dX4_oldest_64 rfl (lv_at hl 0 rfl) ?_
            refine kiV (As := [.int (nI i)]) (rest := []) S (kX1_hasDeath hg u i (by omega)) (cwV 1 hts gX4_oldest_X1_hasDeath rfl rfl rfl hdX1_hasDeath ⟨Nat.le_of_ble_eq_true rfl, Nat.le_of_ble_eq_true rfl⟩) rfl rfl 2 rfl rfl hE hP hS (frs hS) rfl hl.1 rfl (Nat.le_of_ble_eq_true rfl) dX4_oldest_65 ⟨Nat.le_of_ble_eq_true rfl, Nat.le_of_ble_eq_true rfl⟩ (fun H locs hP _ _ hS => ?_)
            refine bzeq (tgt := 92) hx hb dX4_oldest_68 (by decide) (fun c5 => ?_) (fun c5 => ?_)
            · skip
              refine lv_iinc (v := nI (i + 1)) (lv' := [(2, .int (nI (i + 1))), (1, .int a), (0, .ref (g 0))]) hx hb dX4_oldest_92 hl (k := 0) rfl (nI_1 i) (by decide) rfl (fun ls hl => ?_)
              refine lv_goto (tgt := 10) hx hb dX4_oldest_95 (by decide) ?_
              exact ih10 (i + 1) a (by omega) (by rw [ha, olg]; first | rw [old_y c5, hob] | rw [old_n c5, hob]) (by omega) _ _ hP hS ls (lv_sub hl [0, 1, 2] rfl)
            · skip
              refine lv_iload_n hx hb dX4_oldest_71 rfl (lv_at hl 1 rfl) ?_
              refine lv_aload_n hx hb dX4_oldest_72 rfl (lv_at hl 2 rfl) ?_
              refine gw4_transactions S i4 hE hP (hts _ (List.mem_of_getElem? (i := 1) rfl)) dX4_oldest_73 ?_
              refine lv_aload_n hx hb dX4_oldest_76 rfl (lv_at hl 2 rfl) ?_
              refine gw4_slots S i4 hE hP (hts _ (List.mem_of_getElem? (i := 2) rfl)) dX4_oldest_77 ?_
              refine gw1_deathStamps S i1 hE hP (hts _ (List.mem_of_getElem? (i := 9) rfl)) dX4_oldest_80 ?_
              refine lv_iload_n hx hb dX4_oldest_83 rfl (lv_at hl 0 rfl) ?_
              refine lC_ds S hE hP (f := c_ds u) rfl (j := i) (by omega) rfl dX4_oldest_84 ?_
              refine kiV (As := [.int (c_ds u i)]) (rest := [.int a]) S (kX3_ageOf hg u (c_ds u i)) (cwV 1 hts gX4_oldest_X3_ageOf rfl rfl rfl hdX3_ageOf ⟨Nat.le_of_ble_eq_true rfl, Nat.le_of_ble_eq_true rfl⟩) rfl rfl 1 rfl rfl hE hP hS (frs hS) rfl hl.1 rfl (Nat.le_of_ble_eq_true rfl) dX4_oldest_85 ⟨Nat.le_of_ble_eq_true rfl, Nat.le_of_ble_eq_true rfl⟩ (fun H locs hP _ _ hS => ?_)
              refine va_mmax hx hb (hml.trans hl.1.symm) hown (hts _ (List.mem_of_getElem? (i := 5) rfl)) (hts _ (List.mem_of_getElem? (i := 6) rfl)) (hts _ (List.mem_of_getElem? (i := 7) rfl)) (hts _ (List.mem_of_getElem? (i := 8) rfl)) (Nat.le_of_ble_eq_true rfl) (Nat.le_of_ble_eq_true rfl) (Nat.le_of_ble_eq_true rfl) (Nat.le_of_ble_eq_true rfl) dX4_oldest_88 ?_
              refine tpi (y := mx a (fm (c_ns u - (c_ds u i)))) rfl ?_
              refine lv_istore_n (lv' := [(1, .int (mx a (fm (c_ns u - (c_ds u i))))), (2, .int (nI i)), (0, .ref (g 0))]) hx hb dX4_oldest_91 rfl hl (by decide) rfl (fun ls hl => ?_)
              refine lv_iinc (v := nI (i + 1)) (lv' := [(2, .int (nI (i + 1))), (1, .int (mx a (fm (c_ns u - (c_ds u i))))), (0, .ref (g 0))]) hx hb dX4_oldest_92 hl (k := 1) rfl (nI_1 i) (by decide) rfl (fun ls hl => ?_)
              refine lv_goto (tgt := 10) hx hb dX4_oldest_95 (by decide) ?_
              exact ih10 (i + 1) (mx a (fm (c_ns u - (c_ds u i)))) (by omega) (by rw [ha, olg]; first | rw [old_y c5, hob] | rw [old_n c5, hob]) (by omega) _ _ hP hS ls (lv_sub hl [0, 1, 2] rfl)
          · skip
            have hob : ∀ x, olb u i x = mx x (fm (c_ns u - c_bs u i)) := fun x => olb_y c2 c4
            refine lv_iload_n hx hb dX4_oldest_39 rfl (lv_at hl 1 rfl) ?_
            refine lv_aload_n hx hb dX4_oldest_40 rfl (lv_at hl 2 rfl) ?_
            refine gw4_transactions S i4 hE hP (hts _ (List.mem_of_getElem? (i := 1) rfl)) dX4_oldest_41 ?_
            refine lv_aload_n hx hb dX4_oldest_44 rfl (lv_at hl 2 rfl) ?_
            refine gw4_slots S i4 hE hP (hts _ (List.mem_of_getElem? (i := 2) rfl)) dX4_oldest_45 ?_
            refine gw1_birthStamps S i1 hE hP (hts _ (List.mem_of_getElem? (i := 4) rfl)) dX4_oldest_48 ?_
            refine lv_iload_n hx hb dX4_oldest_51 rfl (lv_at hl 0 rfl) ?_
            refine lC_bs S hE hP (f := c_bs u) rfl (j := i) (by omega) rfl dX4_oldest_52 ?_
            refine kiV (As := [.int (c_bs u i)]) (rest := [.int a]) S (kX3_ageOf hg u (c_bs u i)) (cwV 1 hts gX4_oldest_X3_ageOf rfl rfl rfl hdX3_ageOf ⟨Nat.le_of_ble_eq_true rfl, Nat.le_of_ble_eq_true rfl⟩) rfl rfl 1 rfl rfl hE hP hS (frs hS) rfl hl.1 rfl (Nat.le_of_ble_eq_true rfl) dX4_oldest_53 ⟨Nat.le_of_ble_eq_true rfl, Nat.le_of_ble_eq_true rfl⟩ (fun H locs hP _ _ hS => ?_)
            refine va_mmax hx hb (hml.trans hl.1.symm) hown (hts _ (List.mem_of_getElem? (i := 5) rfl)) (hts _ (List.mem_of_getElem? (i := 6) rfl)) (hts _ (List.mem_of_getElem? (i := 7) rfl)) (hts _ (List.mem_of_getElem? (i := 8) rfl)) (Nat.le_of_ble_eq_true rfl) (Nat.le_of_ble_eq_true rfl) (Nat.le_of_ble_eq_true rfl) (Nat.le_of_ble_eq_true rfl) dX4_oldest_56 ?_
            refine tpi (y := mx a (fm (c_ns u - (c_bs u i)))) rfl ?_
            refine lv_istore_n (lv' := [(1, .int (mx a (fm (c_ns u - (c_bs u i))))), (2, .int (nI i)), (0, .ref (g 0))]) hx hb dX4_oldest_59 rfl hl (by decide) rfl (fun ls hl => ?_)
            refine lv_aload_n hx hb dX4_oldest_60 rfl (lv_at hl 2 rfl) ?_
            refine gw4_slots S i4 hE hP (hts _ (List.mem_of_getElem? (i := 2) rfl)) dX4_oldest_61 ?_
            refine lv_iload_n hx hb dX4_oldest_64 rfl (lv_at hl 1 rfl) ?_
            refine kiV (As := [.int (nI i)]) (rest := []) S (kX1_hasDeath hg u i (by omega)) (cwV 1 hts gX4_oldest_X1_hasDeath rfl rfl rfl hdX1_hasDeath ⟨Nat.le_of_ble_eq_true rfl, Nat.le_of_ble_eq_true rfl⟩) rfl rfl 2 rfl rfl hE hP hS (frs hS) rfl hl.1 rfl (Nat.le_of_ble_eq_true rfl) dX4_oldest_65 ⟨Nat.le_of_ble_eq_true rfl, Nat.le_of_ble_eq_true rfl⟩ (fun H locs hP _ _ hS => ?_)
            refine bzeq (tgt := 92) hx hb dX4_oldest_68 (by decide) (fun c6 => ?_) (fun c6 => ?_)
            · skip
              refine lv_iinc (v := nI (i + 1)) (lv' := [(2, .int (nI (i + 1))), (1, .int (mx a (fm (c_ns u - (c_bs u i))))), (0, .ref (g 0))]) hx hb dX4_oldest_92 hl (k := 1) rfl (nI_1 i) (by decide) rfl (fun ls hl => ?_)
              refine lv_goto (tgt := 10) hx hb dX4_oldest_95 (by decide) ?_
              exact ih10 (i + 1) (mx a (fm (c_ns u - (c_bs u i)))) (by omega) (by rw [ha, olg]; first | rw [old_y c6, hob] | rw [old_n c6, hob]) (by omega) _ _ hP hS ls (lv_sub hl [0, 1, 2] rfl)
            · skip
              refine lv_iload_n hx hb dX4_oldest_71 rfl (lv_at hl 0 rfl) ?_
              refine lv_aload_n hx hb dX4_oldest_72 rfl (lv_at hl 2 rfl) ?_
              refine gw4_transactions S i4 hE hP (hts _ (List.mem_of_getElem? (i := 1) rfl)) dX4_oldest_73 ?_
              refine lv_aload_n hx hb dX4_oldest_76 rfl (lv_at hl 2 rfl) ?_
              refine gw4_slots S i4 hE hP (hts _ (List.mem_of_getElem? (i := 2) rfl)) dX4_oldest_77 ?_
              refine gw1_deathStamps S i1 hE hP (hts _ (List.mem_of_getElem? (i := 9) rfl)) dX4_oldest_80 ?_
              refine lv_iload_n hx hb dX4_oldest_83 rfl (lv_at hl 1 rfl) ?_
              refine lC_ds S hE hP (f := c_ds u) rfl (j := i) (by omega) rfl dX4_oldest_84 ?_
              refine kiV (As := [.int (c_ds u i)]) (rest := [.int (mx a (fm (c_ns u - (c_bs u i))))]) S (kX3_ageOf hg u (c_ds u i)) (cwV 1 hts gX4_oldest_X3_ageOf rfl rfl rfl hdX3_ageOf ⟨Nat.le_of_ble_eq_true rfl, Nat.le_of_ble_eq_true rfl⟩) rfl rfl 1 rfl rfl hE hP hS (frs hS) rfl hl.1 rfl (Nat.le_of_ble_eq_true rfl) dX4_oldest_85 ⟨Nat.le_of_ble_eq_true rfl, Nat.le_of_ble_eq_true rfl⟩ (fun H locs hP _ _ hS => ?_)
              refine va_mmax hx hb (hml.trans hl.1.symm) hown (hts _ (List.mem_of_getElem? (i := 5) rfl)) (hts _ (List.mem_of_getElem? (i := 6) rfl)) (hts _ (List.mem_of_getElem? (i := 7) rfl)) (hts _ (List.mem_of_getElem? (i := 8) rfl)) (Nat.le_of_ble_eq_true rfl) (Nat.le_of_ble_eq_true rfl) (Nat.le_of_ble_eq_true rfl) (Nat.le_of_ble_eq_true rfl) dX4_oldest_88 ?_
              refine tpi (y := mx (mx a (fm (c_ns u - (c_bs u i)))) (fm (c_ns u - (c_ds u i)))) rfl ?_
              refine lv_istore_n (lv' := [(1, .int (mx (mx a (fm (c_ns u - (c_bs u i)))) (fm (c_ns u - (c_ds u i))))), (2, .int (nI i)), (0, .ref (g 0))]) hx hb dX4_oldest_91 rfl hl (by decide) rfl (fun ls hl => ?_)
              refine lv_iinc (v := nI (i + 1)) (lv' := [(2, .int (nI (i + 1))), (1, .int (mx (mx a (fm (c_ns u - (c_bs u i)))) (fm (c_ns u - (c_ds u i))))), (0, .ref (g 0))]) hx hb dX4_oldest_92 hl (k := 1) rfl (nI_1 i) (by decide) rfl (fun ls hl => ?_)
              refine lv_goto (tgt := 10) hx hb dX4_oldest_95 (by decide) ?_
              exact ih10 (i + 1) (mx (mx a (fm (c_ns u - (c_bs u i)))) (fm (c_ns u - (c_ds u i)))) (by omega) (by rw [ha, olg]; first | rw [old_y c6, hob] | rw [old_n c6, hob]) (by omega) _ _ hP hS ls (lv_sub hl [0, 1, 2] rfl)
  exact loop10 _ 0 (oaa u N) (by omega) rfl (Nat.lt_succ_self _) _ _ hP hS ls (lv_sub hl [0, 1, 2] rfl)
def rmX4_checkNotRefused : Room := { frames := 6, cells := 1, slots := 6, locals := 90 }
theorem hdX4_checkNotRefused : yX4_checkNotRefused.cls = RX4 ∧ yX4_checkNotRefused.cls ≠ "java/lang/invoke/MethodHandle" ∧ yX4_checkNotRefused.cls ≠ "java/lang/invoke/VarHandle" ∧ (parseMethodDescriptor yX4_checkNotRefused.desc).map (fun d => d.parameters.length) = some 2 := by decide +kernel
set_option maxHeartbeats 4000000 in
set_option maxRecDepth 100000 in
theorem kX4_checkNotRefused {l : Launch} {D : va_G} {K : Nat → ClassId} {L : Nat → Prop} {g : Nat → Nat} (hg : gd L g 29) (hfl : l.stackTraces = false) (u : CU) (t k : Nat) (ht : t < 60) : XV l yX4_checkNotRefused wsX4_checkNotRefused rmX4_checkNotRefused D K L [.ref (g 0), .int (nI t), .int (nI k)] (wC K g u) (wC K g u) (ex (¬ rfP u t k) xIS) := by
  refine XV.of (cc := cX4_checkNotRefused) (maxL := 4) (ret := none) (by decide +kernel) rfl (Nat.le_of_ble_eq_true rfl) ?_
  intro p e s m below meth c ls hen hxt hP
  obtain ⟨hx, hb, hr, hts, hown, hlk, hml, hnm, hE, hl⟩ := hen
  have S : CallFix p m c cX4_checkNotRefused 4 s _ wsX4_checkNotRefused RX4 := ⟨hx, hb, hml, hown, hts⟩
  have hS : va_S (fr L s.heap.size) s.heap s.heap [] := va_S.rf
  have hl : lv_has ls 4 [(0, .ref (g 0)), (1, .int (nI t)), (2, .int (nI k))] := hl
  have i4 : ∀ w ∈ wsX40, w ∈ wsX4_checkNotRefused := fun _ h => List.mem_cons_of_mem _ (List.mem_append_left _ (List.mem_append_left _ (List.mem_append_left _ (List.mem_append_right _ h))))
  have i1 : ∀ w ∈ wsX10, w ∈ wsX4_checkNotRefused := fun _ h => List.mem_cons_of_mem _ (List.mem_append_left _ (List.mem_append_left _ (List.mem_append_right _ h)))
  have i3 : ∀ w ∈ wsX30, w ∈ wsX4_checkNotRefused := fun _ h => List.mem_cons_of_mem _ (List.mem_append_left _ (List.mem_append_right _ h))
  refine lv_iconst (v := 0) hx hb dX4_checkNotRefused_0 (by decide) ?_
  refine lv_istore_n (lv' := [(3, .int 0), (0, .ref (g 0)), (1, .int (nI t)), (2, .int (nI k))]) hx hb dX4_checkNotRefused_1 rfl hl (by decide) rfl (fun ls hl => ?_)
  have loop2 : ∀ (n2 : Nat) (i : Nat), (hi : i ≤ 32) → (hno : ∀ j, j < i → ¬ (c_k u j = nI k ∧ (rvP u t (c_b u j) ∨ rvP u t (c_d u j)))) → 32 - i < n2 → ∀ (H : Heap) (locs : List Loc), va_P D vwCl (wC K g u) H → va_S (fr L s.heap.size) s.heap H locs → ∀ (ls : Array Slot), lv_has ls 4 [(3, .int (nI i)), (0, .ref (g 0)), (1, .int (nI t)), (2, .int (nI k))] → W p l e rmX4_checkNotRefused s m ([.ref (g 0), .int (nI t), .int (nI k)] : List Value).toArray below meth c H locs 0 0 (vx_MQ below (va_Qv (fun (_ : Unit) => (ex (¬ rfP u t k) xIS) = none) (fun _ t => va_P D vwCl (wC K g u) t.heap) (fr L s.heap.size)) (xc D (wC K g u) (fr L s.heap.size) (ex (¬ rfP u t k) xIS)) ([.ref (g 0), .int (nI t), .int (nI k)] : List Value).toArray s rmX4_checkNotRefused.cells rmX4_checkNotRefused.slots (fr L s.heap.size)) (F0 m 2 ls []) := by
    intro n2
    induction n2 with
    | zero =>
      intro i hi hno hn2
      exact absurd hn2 (Nat.not_lt_zero _)
    | succ n2 ih2 =>
      intro i hi hno hn2 H locs hP hS ls hl
      refine lv_iload_n hx hb dX4_checkNotRefused_2 rfl (lv_at hl 0 rfl) ?_
      refine lv_bipush (v := 32) hx hb dX4_checkNotRefused_3 (by decide) ?_
      refine lv_icmp_ge (tgt := 77) hx hb dX4_checkNotRefused_5 (by decide) (fun c1 => ?_) (fun c1 => ?_)
      · skip
        have e : i = 32 := by have := nge_i (a := i) (b := 32) (by omega) (by omega) c1; omega
        exact xe0 hx hb hr hlk hS hP rfl (ex_t (fun z => by obtain ⟨j, hj, z⟩ := z; exact hno j (by omega) z)) (Nat.le_of_ble_eq_true rfl) (Nat.le_of_ble_eq_true rfl) dX4_checkNotRefused_77
      · skip
        have hlt : i < 32 := nlt_i (a := i) (b := 32) (by omega) (by omega) c1
        refine lv_aload_n hx hb dX4_checkNotRefused_8 rfl (lv_at hl 1 rfl) ?_
        refine gw4_slots S i4 hE hP (hts _ (List.mem_of_getElem? (i := 3) rfl)) dX4_checkNotRefused_9 ?_
        refine gw1_keys S i1 hE hP (hts _ (List.mem_of_getElem? (i := 4) rfl)) dX4_checkNotRefused_12 ?_
        refine lv_iload_n hx hb dX4_checkNotRefused_15 rfl (lv_at hl 0 rfl) ?_
        refine lC_k S hE hP (f := c_k u) rfl (j := i) (by omega) rfl dX4_checkNotRefused_16 ?_
        refine lv_iload_n hx hb dX4_checkNotRefused_17 rfl (lv_at hl 3 rfl) ?_
        refine lv_icmp_ne (tgt := 71) hx hb dX4_checkNotRefused_18 (by decide) (fun c2 => ?_) (fun c2 => ?_)
        · skip
          have no : ¬ (c_k u i = nI k ∧ (rvP u t (c_b u i) ∨ rvP u t (c_d u i))) := fun z => c2 z.1
          refine lv_iinc (v := nI (i + 1)) (lv' := [(3, .int (nI (i + 1))), (0, .ref (g 0)), (1, .int (nI t)), (2, .int (nI k))]) hx hb dX4_checkNotRefused_71 hl (k := 0) rfl (nI_1 i) (by decide) rfl (fun ls hl => ?_)
          refine lv_goto (tgt := 2) hx hb dX4_checkNotRefused_74 (by decide) ?_
          exact ih2 (i + 1) (by omega) (lt_s hno no) (by omega) _ _ hP hS ls (lv_sub hl [0, 1, 2, 3] rfl)
        · skip
          have hk1 : c_k u i = nI k := c2
          refine lv_aload_n hx hb dX4_checkNotRefused_21 rfl (lv_at hl 1 rfl) ?_
          refine gw4_transactions S i4 hE hP (hts _ (List.mem_of_getElem? (i := 5) rfl)) dX4_checkNotRefused_22 ?_
          refine lv_iload_n hx hb dX4_checkNotRefused_25 rfl (lv_at hl 2 rfl) ?_
          refine lv_aload_n hx hb dX4_checkNotRefused_26 rfl (lv_at hl 1 rfl) ?_
          refine gw4_slots S i4 hE hP (hts _ (List.mem_of_getElem? (i := 3) rfl)) dX4_checkNotRefused_27 ?_
          refine gw1_births S i1 hE hP (hts _ (List.mem_of_getElem? (i := 6) rfl)) dX4_checkNotRefused_30 ?_
          refine lv_iload_n hx hb dX4_checkNotRefused_33 rfl (lv_at hl 0 rfl) ?_
          refine lC_b S hE hP (f := c_b u) rfl (j := i) (by omega) rfl dX4_checkNotRefused_34 ?_
          refine kiV (As := [.int (nI t), .int (c_b u i)]) (rest := []) S (kX3_isRival hg u t (c_b u i) (by omega)) (cwV 2 hts gX4_checkNotRefused_X3_isRival rfl rfl rfl hdX3_isRival ⟨Nat.le_of_ble_eq_true rfl, Nat.le_of_ble_eq_true rfl⟩) rfl rfl 1 rfl rfl hE hP hS (frs hS) rfl hl.1 rfl (Nat.le_of_ble_eq_true rfl) dX4_checkNotRefused_35 ⟨Nat.le_of_ble_eq_true rfl, Nat.le_of_ble_eq_true rfl⟩ (fun H locs hP _ _ hS => ?_)
          refine bzne (tgt := 61) hx hb dX4_checkNotRefused_38 (by decide) (fun c3 => ?_) (fun c3 => ?_)
          · skip
            have yes : rfP u t k := ⟨i, hlt, hk1, Or.inl c3⟩
            exact xth (X := xIS) hx hb hfl hown hts (List.mem_of_getElem? (i := 0) rfl) (List.mem_of_getElem? (i := 9) rfl) ft_xIS (List.mem_of_getElem? (i := 1) rfl) (List.mem_of_getElem? (i := 2) rfl) (fun _ h => List.mem_cons_of_mem _ (List.mem_append_right _ h)) ng_xIS gd_xIS hE hS hP (ex_f (fun z => z yes)) (hl.1.trans hml.symm) dX4_checkNotRefused_61 dX4_checkNotRefused_64 (Or.inl ⟨dX4_checkNotRefused_65, dX4_checkNotRefused_67, dX4_checkNotRefused_70⟩) hxt (Nat.le_of_ble_eq_true rfl) (Nat.le_of_ble_eq_true rfl) (Nat.le_of_ble_eq_true rfl) (Nat.le_of_ble_eq_true rfl) hlk (Nat.le_of_ble_eq_true rfl) (Nat.le_of_ble_eq_true rfl)
          · skip
            have nb : ¬ rvP u t (c_b u i) := c3
            refine lv_aload_n hx hb dX4_checkNotRefused_41 rfl (lv_at hl 1 rfl) ?_
            refine gw4_transactions S i4 hE hP (hts _ (List.mem_of_getElem? (i := 5) rfl)) dX4_checkNotRefused_42 ?_
            refine lv_iload_n hx hb dX4_checkNotRefused_45 rfl (lv_at hl 2 rfl) ?_
            refine lv_aload_n hx hb dX4_checkNotRefused_46 rfl (lv_at hl 1 rfl) ?_
            refine gw4_slots S i4 hE hP (hts _ (List.mem_of_getElem? (i := 3) rfl)) dX4_checkNotRefused_47 ?_
            refine gw1_deaths S i1 hE hP (hts _ (List.mem_of_getElem? (i := 7) rfl)) dX4_checkNotRefused_50 ?_
            refine lv_iload_n hx hb dX4_checkNotRefused_53 rfl (lv_at hl 0 rfl) ?_
            refine lC_d S hE hP (f := c_d u) rfl (j := i) (by omega) rfl dX4_checkNotRefused_54 ?_
            refine kiV (As := [.int (nI t), .int (c_d u i)]) (rest := []) S (kX3_isRival hg u t (c_d u i) (by omega)) (cwV 2 hts gX4_checkNotRefused_X3_isRival rfl rfl rfl hdX3_isRival ⟨Nat.le_of_ble_eq_true rfl, Nat.le_of_ble_eq_true rfl⟩) rfl rfl 1 rfl rfl hE hP hS (frs hS) rfl hl.1 rfl (Nat.le_of_ble_eq_true rfl) dX4_checkNotRefused_55 ⟨Nat.le_of_ble_eq_true rfl, Nat.le_of_ble_eq_true rfl⟩ (fun H locs hP _ _ hS => ?_)
            refine bzeq (tgt := 71) hx hb dX4_checkNotRefused_58 (by decide) (fun c4 => ?_) (fun c4 => ?_)
            · skip
              have no : ¬ (c_k u i = nI k ∧ (rvP u t (c_b u i) ∨ rvP u t (c_d u i))) := fun z => z.2.elim nb c4
              refine lv_iinc (v := nI (i + 1)) (lv' := [(3, .int (nI (i + 1))), (0, .ref (g 0)), (1, .int (nI t)), (2, .int (nI k))]) hx hb dX4_checkNotRefused_71 hl (k := 0) rfl (nI_1 i) (by decide) rfl (fun ls hl => ?_)
              refine lv_goto (tgt := 2) hx hb dX4_checkNotRefused_74 (by decide) ?_
              exact ih2 (i + 1) (by omega) (lt_s hno no) (by omega) _ _ hP hS ls (lv_sub hl [0, 1, 2, 3] rfl)
            · skip
              have yes : rfP u t k := ⟨i, hlt, hk1, Or.inr c4⟩
              exact xth (X := xIS) hx hb hfl hown hts (List.mem_of_getElem? (i := 0) rfl) (List.mem_of_getElem? (i := 9) rfl) ft_xIS (List.mem_of_getElem? (i := 1) rfl) (List.mem_of_getElem? (i := 2) rfl) (fun _ h => List.mem_cons_of_mem _ (List.mem_append_right _ h)) ng_xIS gd_xIS hE hS hP (ex_f (fun z => z yes)) (hl.1.trans hml.symm) dX4_checkNotRefused_61 dX4_checkNotRefused_64 (Or.inl ⟨dX4_checkNotRefused_65, dX4_checkNotRefused_67, dX4_checkNotRefused_70⟩) hxt (Nat.le_of_ble_eq_true rfl) (Nat.le_of_ble_eq_true rfl) (Nat.le_of_ble_eq_true rfl) (Nat.le_of_ble_eq_true rfl) hlk (Nat.le_of_ble_eq_true rfl) (Nat.le_of_ble_eq_true rfl)
  exact loop2 _ 0 (by omega) (fun j h => absurd h (Nat.not_lt_zero _)) (Nat.lt_succ_self _) _ _ hP hS ls (lv_sub hl [0, 1, 2, 3] rfl)

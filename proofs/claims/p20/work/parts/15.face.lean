/-! ===== RowPages: the face ===== -/
theorem wb_at {u : CU} {N : Nat} {x : Int32} (hN : N ≤ 60) (hcn : c_cn u = nI N) (h : wbP u x) : ∃ t : Nat, t < N ∧ x = nI t := nI_rng (N := N) (by omega) h.1 (by rw [← hcn]; exact h.2)
theorem rng_at {x : Int32} {n : Nat} (hn : n < 2 ^ 31) (h : ¬ x < 0 ∧ x < nI n) : ∃ t : Nat, t < n ∧ x = nI t := nI_rng (N := n) hn h.1 (i_ltn h.2)
theorem ky_at {x : Int32} (h : kyP x) : ∃ t : Nat, t < 6 ∧ x = nI t := rng_at (n := 6) (by omega) h
theorem pg_at {x : Int32} (h : pgP x) : ∃ t : Nat, t < 4 ∧ x = nI t := rng_at (n := 4) (by omega) h
theorem sl_at {x : Int32} (h : slP x) : ∃ t : Nat, t < 8 ∧ x = nI t := rng_at (n := 8) (by omega) h
noncomputable def cen (u : CU) (t T : Nat) (q : Prop) : CU :=
  let u1 := cfi u t q
  @ite _ q (Classical.propDecidable q) u1 (s_td (s_d u1 (rpl (c_d u1) (nI t) (-1) 32)) (rpl (c_td u1) (nI t) (-1) T))
theorem cen_t {u : CU} {t T : Nat} {q : Prop} (h : q) : cen u t T q = cfi u t q := by unfold cen; exact if_pos h
theorem cen_f {u : CU} {t T : Nat} {q : Prop} (h : ¬ q) : cen u t T q = s_td (s_d (cfi u t q) (rpl (c_d (cfi u t q)) (nI t) (-1) 32)) (rpl (c_td (cfi u t q)) (nI t) (-1) T) := by unfold cen; exact if_neg h
theorem cfi_tc {u : CU} {t : Nat} {q : Prop} : c_tc (cfi u t q) = c_tc u := by
  by_cases h : q
  · rw [cfi_t h]; rfl
  · rw [cfi_f h]; rfl
def jmP (x : Int32) : Prop := ¬ x < 1 ∧ x ≤ 20
def joP (a x : Int32) : Prop := ¬ (0 < a ∧ ¬ a + x < 32)
def fzR (x : Int32) : Prop := ¬ x < 1 ∧ x ≤ 27
def ibP (x y : Int32) : Prop := ¬ x = y ∧ ¬ 32 ≤ fm (y - x)
noncomputable def sv (u : CU) (x y : Int32) : Int32 := spl u (nat x) (nat y) (nat (c_ct u (nat y)))
noncomputable def rdv (u : CU) (v : Int32) : Int32 := @ite _ (plP v) (Classical.propDecidable _) (c_v u (nat v)) (-1)
theorem rdv_y {u : CU} {q : Nat} (hq : q < 32) : rdv u (nI q) = c_v u q := by unfold rdv; rw [nat_nI (by omega)]; exact if_pos (pl_nI hq)
theorem rdv_n {u : CU} {v : Int32} (h : ¬ plP v) : rdv u v = -1 := by unfold rdv; exact if_neg h
def rwP (u : CU) (t k i : Nat) : Prop := c_tk u i = nI k ∧ knP u t (c_tb u i) ∧ ¬ knP u t (c_td u i)
/-- the value of the first row that a transaction sees, of n rows from i on -/
noncomputable def rpw (u : CU) (t k : Nat) : Nat → Nat → Int32
  | _, 0 => -1
  | i, n + 1 => @ite _ (rwP u t k i) (Classical.propDecidable _) (c_tv u i) (rpw u t k (i + 1) n)
theorem rpw_y {u : CU} {t k i n : Nat} (h : rwP u t k i) : rpw u t k i (n + 1) = c_tv u i := by rw [rpw]; exact if_pos h
theorem rpw_n {u : CU} {t k i n : Nat} (h : ¬ rwP u t k i) : rpw u t k i (n + 1) = rpw u t k (i + 1) n := by rw [rpw]; exact if_neg h
/-- counts are what they are -/
def ctP (u : CU) : Prop := ∀ k, k < 6 → nat (c_ct u k) ≤ 32 ∧ c_ct u k = nI (nat (c_ct u k))
/-- the first n places of a page cleaned -/
noncomputable def cln (u : CU) (S9 : Int64) (a : Nat) : Nat → CU × Nat
  | 0 => (u, 0)
  | n + 1 => @ite _ (cgP (cln u S9 a n).1 (a * 8 + n) S9) (Classical.propDecidable _) (cto (cln u S9 a n).1 (a * 8 + n) (nat (c_k (cln u S9 a n).1 (a * 8 + n))) (nat (c_ct (cln u S9 a n).1 (nat (c_k (cln u S9 a n).1 (a * 8 + n))))), (cln u S9 a n).2 + 1) (cln u S9 a n)
def okT (u : CU) (q : Nat) : Prop := nat (c_k u q) < 6 ∧ c_k u q = nI (nat (c_k u q)) ∧ nat (c_ct u (nat (c_k u q))) ≤ 32 ∧ c_ct u (nat (c_k u q)) = nI (nat (c_ct u (nat (c_k u q))))
theorem cln_y {u v : CU} {S9 : Int64} {a i m : Nat} (e : cln u S9 a i = (v, m)) (h : cgP v (a * 8 + i) S9) : cln u S9 a (i + 1) = (cto v (a * 8 + i) (nat (c_k v (a * 8 + i))) (nat (c_ct v (nat (c_k v (a * 8 + i))))), m + 1) := by
  rw [cln, e]; exact if_pos h
theorem cln_n {u v : CU} {S9 : Int64} {a i m : Nat} (e : cln u S9 a i = (v, m)) (h : ¬ cgP v (a * 8 + i) S9) : cln u S9 a (i + 1) = (v, m) := by
  rw [cln, e]; exact if_neg h
noncomputable def ccl (u : CU) (N a : Nat) : CU :=
  let v := (cln u (stl u N) a 8).1
  let v1 := s_f v (fzn v (stl u N) (a * 8) (a * 8 + 8))
  s_mp v1 (upd (c_mp v1) a (fb (whP v1 a (stl v1 N))))
theorem stl_cto {u : CU} {q k n N : Nat} : stl (cto u q k n) N = stl u N := by
  induction N with
  | zero => rfl
  | succ N ih => 
    by_cases h : hasP (c_ac u) (nI N)
    · have h2 : hasP (c_ac (cto u q k n)) (nI N) := h
      rw [stl_t h, stl_t h2, ih]; rfl
    · have h2 : ¬ hasP (c_ac (cto u q k n)) (nI N) := h
      rw [stl_f h, stl_f h2, ih]
theorem cln_cn {u : CU} {S9 : Int64} {a : Nat} : ∀ n, c_cn (cln u S9 a n).1 = c_cn u
  | 0 => rfl
  | n + 1 => by
    have ih := cln_cn (u := u) (S9 := S9) (a := a) n
    by_cases h : cgP (cln u S9 a n).1 (a * 8 + n) S9
    · rw [cln_y rfl h]; exact ih
    · rw [cln_n rfl h]; exact ih
/-- what slot answers of a used one -/
noncomputable def sl1 (u : CU) (q : Nat) : Int32 := @ite _ (c_f u q = 0) (Classical.propDecidable _) (c_k u q) (c_k u q + 10)
noncomputable def sl2 (u : CU) (q : Nat) (x : Int32) : Int32 := @ite _ (hdP u q) (Classical.propDecidable _) (x + 20) x
noncomputable def sl3 (u : CU) (q : Nat) (x : Int32) : Int32 := @ite _ (plP (c_n u q)) (Classical.propDecidable _) (x + 100 * (1 + nI (nat (c_n u q) % 8))) x
noncomputable def slv (u : CU) (q : Nat) : Int32 := @ite _ (usP u q) (Classical.propDecidable _) (sl3 u q (sl2 u q (sl1 u q))) (-1)
/-- how many of the first n slots of a page are used -/
noncomputable def ful (u : CU) (a : Nat) : Nat → Nat
  | 0 => 0
  | n + 1 => @ite _ (usP u (a * 8 + n)) (Classical.propDecidable _) (ful u a n + 1) (ful u a n)
theorem ful_y {u : CU} {a n : Nat} (h : usP u (a * 8 + n)) : ful u a (n + 1) = ful u a n + 1 := by rw [ful]; exact if_pos h
theorem ful_n {u : CU} {a n : Nat} (h : ¬ usP u (a * 8 + n)) : ful u a (n + 1) = ful u a n := by rw [ful]; exact if_neg h
theorem ful_le {u : CU} {a : Nat} : ∀ n, ful u a n ≤ n
  | 0 => Nat.le_refl _
  | n + 1 => by
    have ih := ful_le (u := u) (a := a) n
    by_cases h : usP u (a * 8 + n)
    · rw [ful_y h]; omega
    · rw [ful_n h]; omega
def fdv (n : Nat) : UInt32 := FP.fdiv (FP.i2f (nI n)) 1090519040
theorem fdv_all : ∀ n, n < 9 → vf_n32 (FP.fdiv (FP.i2f (nI n)) 1090519040) := by unfold vf_n32; decide +kernel
def rmX4_begin : Room := { frames := 6, cells := 1, slots := 6, locals := 108 }
theorem hdX4_begin : yX4_begin.cls = RX4 ∧ yX4_begin.cls ≠ "java/lang/invoke/MethodHandle" ∧ yX4_begin.cls ≠ "java/lang/invoke/VarHandle" ∧ (parseMethodDescriptor yX4_begin.desc).map (fun d => d.parameters.length) = some 0 := by decide +kernel
set_option maxHeartbeats 4000000 in
set_option maxRecDepth 100000 in
theorem kX4_begin {l : Launch} {D : va_G} {K : Nat → ClassId} {L : Nat → Prop} {g : Nat → Nat} (hg : gd L g 29) (hfl : l.stackTraces = false) (u : CU) (N : Nat) (hN : N ≤ 60) (hcn : c_cn u = nI N) : XI l yX4_begin wsX4_begin rmX4_begin D K L [.ref (g 0)] (wC K g u) (wC K g (cst u N)) (thn (ex (c_cn u < 60) xIS) (ex (olg u N 32 < 28) xIS)) (nI N) := by
  refine XI.of (cc := cX4_begin) (maxL := 1) (ret := (some .int)) (by decide +kernel) rfl (Nat.le_of_ble_eq_true rfl) ?_
  intro p e s m below meth c ls hen hxt hP
  obtain ⟨hx, hb, hr, hts, hown, hlk, hml, hnm, hE, hl⟩ := hen
  have S : CallFix p m c cX4_begin 1 s _ wsX4_begin RX4 := ⟨hx, hb, hml, hown, hts⟩
  have hS : va_S (fr L s.heap.size) s.heap s.heap [] := va_S.rf
  have hl : lv_has ls 1 [(0, .ref (g 0))] := hl
  have i4 : ∀ w ∈ wsX40, w ∈ wsX4_begin := fun _ h => List.mem_cons_of_mem _ (List.mem_append_left _ (List.mem_append_left _ (List.mem_append_left _ (List.mem_append_right _ h))))
  have i3 : ∀ w ∈ wsX30, w ∈ wsX4_begin := fun _ h => List.mem_cons_of_mem _ (List.mem_append_left _ (List.mem_append_left _ (List.mem_append_right _ h)))
  have i1 : ∀ w ∈ wsX10, w ∈ wsX4_begin := fun _ h => List.mem_cons_of_mem _ (List.mem_append_left _ (List.mem_append_right _ h))
  refine lv_aload_n hx hb dX4_begin_0 rfl (lv_at hl 0 rfl) ?_
  refine gw4_transactions S i4 hE hP (hts _ (List.mem_of_getElem? (i := 3) rfl)) dX4_begin_1 ?_
  refine kiV (As := []) (rest := []) S (kX3_areAllUsed hg u) (cwV 0 hts gX4_begin_X3_areAllUsed rfl rfl rfl hdX3_areAllUsed ⟨Nat.le_of_ble_eq_true rfl, Nat.le_of_ble_eq_true rfl⟩) rfl rfl 1 rfl rfl hE hP hS (frs hS) rfl hl.1 rfl (Nat.le_of_ble_eq_true rfl) dX4_begin_4 ⟨Nat.le_of_ble_eq_true rfl, Nat.le_of_ble_eq_true rfl⟩ (fun H locs hP _ _ hS => ?_)
  refine bzeq (tgt := 20) hx hb dX4_begin_7 (by decide) (fun c1 => ?_) (fun c1 => ?_)
  · skip
    have q1 : c_cn u < 60 := Classical.byContradiction c1
    have hN6 : N < 60 := nltI (a := N) (b := 60) (by omega) (by omega) (by rw [← hcn]; exact q1)
    refine lv_aload_n hx hb dX4_begin_20 rfl (lv_at hl 0 rfl) ?_
    refine kiV (As := []) (rest := []) S (kX4_oldest hg u N (by omega) hcn) (cwV 0 hts gX4_begin_X4_oldest rfl rfl rfl hdX4_oldest ⟨Nat.le_of_ble_eq_true rfl, Nat.le_of_ble_eq_true rfl⟩) rfl rfl 0 rfl rfl hE hP hS (frs hS) rfl hl.1 rfl (Nat.le_of_ble_eq_true rfl) dX4_begin_21 ⟨Nat.le_of_ble_eq_true rfl, Nat.le_of_ble_eq_true rfl⟩ (fun H locs hP _ _ hS => ?_)
    refine lv_bipush (v := 28) hx hb dX4_begin_24 (by decide) ?_
    refine lv_icmp_lt (tgt := 39) hx hb dX4_begin_26 (by decide) (fun c2 => ?_) (fun c2 => ?_)
    · skip
      refine lv_aload_n hx hb dX4_begin_39 rfl (lv_at hl 0 rfl) ?_
      refine gw4_transactions S i4 hE hP (hts _ (List.mem_of_getElem? (i := 3) rfl)) dX4_begin_40 ?_
      refine kiV (As := []) (rest := []) S (kX3_start hg u N (by omega) hcn) (cwV 0 hts gX4_begin_X3_start rfl rfl rfl hdX3_start ⟨Nat.le_of_ble_eq_true rfl, Nat.le_of_ble_eq_true rfl⟩) rfl rfl 1 rfl rfl hE hP hS (frs hS) rfl hl.1 rfl (Nat.le_of_ble_eq_true rfl) dX4_begin_43 ⟨Nat.le_of_ble_eq_true rfl, Nat.le_of_ble_eq_true rfl⟩ (fun H locs hP _ _ hS => ?_)
      exact xei hx hb hr hlk hS hP rfl (by simp only [thn, ex_t q1, ex_t c2]) (by rfl) (Nat.le_of_ble_eq_true rfl) (Nat.le_of_ble_eq_true rfl) dX4_begin_46
    · skip
      exact xth (X := xIS) hx hb hfl hown hts (List.mem_of_getElem? (i := 0) rfl) (List.mem_of_getElem? (i := 1) rfl) ft_xIS (List.mem_of_getElem? (i := 1) rfl) (List.mem_of_getElem? (i := 2) rfl) (fun _ h => List.mem_cons_of_mem _ (List.mem_append_right _ h)) ng_xIS gd_xIS hE hS hP (by simp only [thn, ex_t q1, ex_f c2]) (hl.1.trans hml.symm) dX4_begin_29 dX4_begin_32 (Or.inl ⟨dX4_begin_33, dX4_begin_35, dX4_begin_38⟩) hxt (Nat.le_of_ble_eq_true rfl) (Nat.le_of_ble_eq_true rfl) (Nat.le_of_ble_eq_true rfl) (Nat.le_of_ble_eq_true rfl) hlk (Nat.le_of_ble_eq_true rfl) (Nat.le_of_ble_eq_true rfl)
  · skip
    exact xth (X := xIS) hx hb hfl hown hts (List.mem_of_getElem? (i := 0) rfl) (List.mem_of_getElem? (i := 0) rfl) ft_xIS (List.mem_of_getElem? (i := 1) rfl) (List.mem_of_getElem? (i := 2) rfl) (fun _ h => List.mem_cons_of_mem _ (List.mem_append_right _ h)) ng_xIS gd_xIS hE hS hP (by simp only [thn, ex_f c1]) (hl.1.trans hml.symm) dX4_begin_10 dX4_begin_13 (Or.inl ⟨dX4_begin_14, dX4_begin_16, dX4_begin_19⟩) hxt (Nat.le_of_ble_eq_true rfl) (Nat.le_of_ble_eq_true rfl) (Nat.le_of_ble_eq_true rfl) (Nat.le_of_ble_eq_true rfl) hlk (Nat.le_of_ble_eq_true rfl) (Nat.le_of_ble_eq_true rfl)
def rmX4_end : Room := { frames := 7, cells := 2, slots := 12, locals := 111 }
theorem hdX4_end : yX4_end.cls = RX4 ∧ yX4_end.cls ≠ "java/lang/invoke/MethodHandle" ∧ yX4_end.cls ≠ "java/lang/invoke/VarHandle" ∧ (parseMethodDescriptor yX4_end.desc).map (fun d => d.parameters.length) = some 2 := by decide +kernel
set_option maxHeartbeats 4000000 in
set_option maxRecDepth 100000 in
theorem kX4_end {l : Launch} {D : va_G} {K : Nat → ClassId} {L : Nat → Prop} {g : Nat → Nat} (hg : gd L g 29) (hfl : l.stackTraces = false) (u : CU) (x : Int32) (q : Prop) (N : Nat) (hN : N ≤ 60) (hcn : c_cn u = nI N) (T : Nat) (hT : T ≤ 512) (htc : c_tc u = nI T) : XI l yX4_end wsX4_end rmX4_end D K L [.ref (g 0), .int x, .int (fb q)] (wC K g u) (wC K g (cen u (nat x) T q)) (thn (ex (wbP u x) xIO) (ex (hasP (c_ac u) x) xIS)) (bcn (c_ac (cfi u (nat x) q))) := by
  refine XI.of (cc := cX4_end) (maxL := 3) (ret := (some .int)) (by decide +kernel) rfl (Nat.le_of_ble_eq_true rfl) ?_
  intro p e s m below meth c ls hen hxt hP
  obtain ⟨hx, hb, hr, hts, hown, hlk, hml, hnm, hE, hl⟩ := hen
  have S : CallFix p m c cX4_end 3 s _ wsX4_end RX4 := ⟨hx, hb, hml, hown, hts⟩
  have hS : va_S (fr L s.heap.size) s.heap s.heap [] := va_S.rf
  have hl : lv_has ls 3 [(0, .ref (g 0)), (1, .int x), (2, .int (fb q))] := hl
  have i4 : ∀ w ∈ wsX40, w ∈ wsX4_end := fun _ h => List.mem_cons_of_mem _ (List.mem_append_left _ (List.mem_append_left _ (List.mem_append_left _ (List.mem_append_left _ (List.mem_append_left _ (List.mem_append_right _ h))))))
  have i3 : ∀ w ∈ wsX30, w ∈ wsX4_end := fun _ h => List.mem_cons_of_mem _ (List.mem_append_left _ (List.mem_append_left _ (List.mem_append_left _ (List.mem_append_left _ (List.mem_append_right _ h)))))
  have i1 : ∀ w ∈ wsX10, w ∈ wsX4_end := fun _ h => List.mem_cons_of_mem _ (List.mem_append_left _ (List.mem_append_left _ (List.mem_append_left _ (List.mem_append_right _ h))))
  have i2 : ∀ w ∈ wsX20, w ∈ wsX4_end := fun _ h => List.mem_cons_of_mem _ (List.mem_append_left _ (List.mem_append_left _ (List.mem_append_right _ h)))
  refine lv_aload_n hx hb dX4_end_0 rfl (lv_at hl 0 rfl) ?_
  refine lv_iload_n hx hb dX4_end_1 rfl (lv_at hl 1 rfl) ?_
  refine xvV (As := [.int x]) (rest := []) S (kX4_checkTransaction hg hfl u x) (cwV 1 hts gX4_end_X4_checkTransaction rfl rfl rfl hdX4_checkTransaction ⟨Nat.le_of_ble_eq_true rfl, Nat.le_of_ble_eq_true rfl⟩) 0 rfl rfl hE hP hS (frs hS) rfl hl.1 rfl (Nat.le_of_ble_eq_true rfl) dX4_end_2 ⟨Nat.le_of_ble_eq_true rfl, Nat.le_of_ble_eq_true rfl⟩ hxt hlk (Nat.le_of_ble_eq_true rfl) (Nat.le_of_ble_eq_true rfl) (fun X h => ⟨by simp only [thn, h], rfl⟩) (fun H locs n2 hP _ _ hS => ?_)
  obtain ⟨t, ht, et⟩ := wb_at hN hcn (ex_n n2)
  subst et
  refine lv_aload_n hx hb dX4_end_5 rfl (lv_at hl 0 rfl) ?_
  refine lv_iload_n hx hb dX4_end_6 rfl (lv_at hl 1 rfl) ?_
  refine xvV (As := [.int (nI t)]) (rest := []) S (kX4_checkActive hg hfl u (nI t)) (cwV 1 hts gX4_end_X4_checkActive rfl rfl rfl hdX4_checkActive ⟨Nat.le_of_ble_eq_true rfl, Nat.le_of_ble_eq_true rfl⟩) 0 rfl rfl hE hP hS (frs hS) rfl hl.1 rfl (Nat.le_of_ble_eq_true rfl) dX4_end_7 ⟨Nat.le_of_ble_eq_true rfl, Nat.le_of_ble_eq_true rfl⟩ hxt hlk (Nat.le_of_ble_eq_true rfl) (Nat.le_of_ble_eq_true rfl) (fun X h => ⟨by simp only [thn, n2, h], rfl⟩) (fun H locs n7 hP _ _ hS => ?_)
  refine lv_aload_n hx hb dX4_end_10 rfl (lv_at hl 0 rfl) ?_
  refine gw4_transactions S i4 hE hP (hts _ (List.mem_of_getElem? (i := 1) rfl)) dX4_end_11 ?_
  refine lv_iload_n hx hb dX4_end_14 rfl (lv_at hl 1 rfl) ?_
  refine lv_iload_n hx hb dX4_end_15 rfl (lv_at hl 2 rfl) ?_
  refine kvV (As := [.int (nI t), .int (fb q)]) (rest := []) S (kX3_finish hg u t q (by omega)) (cwV 2 hts gX4_end_X3_finish rfl rfl rfl hdX3_finish ⟨Nat.le_of_ble_eq_true rfl, Nat.le_of_ble_eq_true rfl⟩) rfl rfl 1 rfl rfl hE hP hS (frs hS) rfl hl.1 rfl (Nat.le_of_ble_eq_true rfl) dX4_end_16 ⟨Nat.le_of_ble_eq_true rfl, Nat.le_of_ble_eq_true rfl⟩ (fun H locs hP _ _ hS => ?_)
  refine lv_iload_n hx hb dX4_end_19 rfl (lv_at hl 2 rfl) ?_
  refine bzne (tgt := 39) hx hb dX4_end_20 (by decide) (fun c1 => ?_) (fun c1 => ?_)
  · skip
    refine lv_aload_n hx hb dX4_end_39 rfl (lv_at hl 0 rfl) ?_
    refine gw4_transactions S i4 hE hP (hts _ (List.mem_of_getElem? (i := 1) rfl)) dX4_end_40 ?_
    refine kiV (As := []) (rest := []) S (kX3_activeCount hg (cfi u t q)) (cwV 0 hts gX4_end_X3_activeCount rfl rfl rfl hdX3_activeCount ⟨Nat.le_of_ble_eq_true rfl, Nat.le_of_ble_eq_true rfl⟩) rfl rfl 1 rfl rfl hE hP hS (frs hS) rfl hl.1 rfl (Nat.le_of_ble_eq_true rfl) dX4_end_43 ⟨Nat.le_of_ble_eq_true rfl, Nat.le_of_ble_eq_true rfl⟩ (fun H locs hP _ _ hS => ?_)
    exact xei hx hb hr hlk hS hP (by rw [nat_nI (by omega)]; first | rw [cen_t c1] | (rw [cen_f c1]; rfl)) (by simp only [thn, n2, n7]) (by rw [nat_nI (by omega)] <;> rfl) (Nat.le_of_ble_eq_true rfl) (Nat.le_of_ble_eq_true rfl) dX4_end_46
  · skip
    refine lv_aload_n hx hb dX4_end_23 rfl (lv_at hl 0 rfl) ?_
    refine gw4_slots S i4 hE hP (hts _ (List.mem_of_getElem? (i := 2) rfl)) dX4_end_24 ?_
    refine lv_iload_n hx hb dX4_end_27 rfl (lv_at hl 1 rfl) ?_
    refine kvV (As := [.int (nI t)]) (rest := []) S (kX1_takeOffDeaths hg (cfi u t q) (nI t)) (cwV 1 hts gX4_end_X1_takeOffDeaths rfl rfl rfl hdX1_takeOffDeaths ⟨Nat.le_of_ble_eq_true rfl, Nat.le_of_ble_eq_true rfl⟩) rfl rfl 2 rfl rfl hE hP hS (frs hS) rfl hl.1 rfl (Nat.le_of_ble_eq_true rfl) dX4_end_28 ⟨Nat.le_of_ble_eq_true rfl, Nat.le_of_ble_eq_true rfl⟩ (fun H locs hP _ _ hS => ?_)
    refine lv_aload_n hx hb dX4_end_31 rfl (lv_at hl 0 rfl) ?_
    refine gw4_table S i4 hE hP (hts _ (List.mem_of_getElem? (i := 3) rfl)) dX4_end_32 ?_
    refine lv_iload_n hx hb dX4_end_35 rfl (lv_at hl 1 rfl) ?_
    refine kvV (As := [.int (nI t)]) (rest := []) S (kX2_takeOffDeaths hg (s_d (cfi u t q) (rpl (c_d (cfi u t q)) (nI t) (-1) 32)) (nI t) T hT (cfi_tc.trans htc)) (cwV 1 hts gX4_end_X2_takeOffDeaths rfl rfl rfl hdX2_takeOffDeaths ⟨Nat.le_of_ble_eq_true rfl, Nat.le_of_ble_eq_true rfl⟩) rfl rfl 4 rfl rfl hE hP hS (frs hS) rfl hl.1 rfl (Nat.le_of_ble_eq_true rfl) dX4_end_36 ⟨Nat.le_of_ble_eq_true rfl, Nat.le_of_ble_eq_true rfl⟩ (fun H locs hP _ _ hS => ?_)
    refine lv_aload_n hx hb dX4_end_39 rfl (lv_at hl 0 rfl) ?_
    refine gw4_transactions S i4 hE hP (hts _ (List.mem_of_getElem? (i := 1) rfl)) dX4_end_40 ?_
    refine kiV (As := []) (rest := []) S (kX3_activeCount hg (s_td (s_d (cfi u t q) (rpl (c_d (cfi u t q)) (nI t) (-1) 32)) (rpl (c_td (s_d (cfi u t q) (rpl (c_d (cfi u t q)) (nI t) (-1) 32))) (nI t) (-1) T))) (cwV 0 hts gX4_end_X3_activeCount rfl rfl rfl hdX3_activeCount ⟨Nat.le_of_ble_eq_true rfl, Nat.le_of_ble_eq_true rfl⟩) rfl rfl 1 rfl rfl hE hP hS (frs hS) rfl hl.1 rfl (Nat.le_of_ble_eq_true rfl) dX4_end_43 ⟨Nat.le_of_ble_eq_true rfl, Nat.le_of_ble_eq_true rfl⟩ (fun H locs hP _ _ hS => ?_)
    exact xei hx hb hr hlk hS hP (by rw [nat_nI (by omega)]; first | rw [cen_t c1] | (rw [cen_f c1]; rfl)) (by simp only [thn, n2, n7]) (by rw [nat_nI (by omega)] <;> rfl) (Nat.le_of_ble_eq_true rfl) (Nat.le_of_ble_eq_true rfl) dX4_end_46
def rmX4_jump : Room := { frames := 6, cells := 1, slots := 6, locals := 108 }
theorem hdX4_jump : yX4_jump.cls = RX4 ∧ yX4_jump.cls ≠ "java/lang/invoke/MethodHandle" ∧ yX4_jump.cls ≠ "java/lang/invoke/VarHandle" ∧ (parseMethodDescriptor yX4_jump.desc).map (fun d => d.parameters.length) = some 1 := by decide +kernel
set_option maxHeartbeats 4000000 in
set_option maxRecDepth 100000 in
theorem kX4_jump {l : Launch} {D : va_G} {K : Nat → ClassId} {L : Nat → Prop} {g : Nat → Nat} (hg : gd L g 29) (hfl : l.stackTraces = false) (u : CU) (x : Int32) (N : Nat) (hN : N ≤ 60) (hcn : c_cn u = nI N) : XI l yX4_jump wsX4_jump rmX4_jump D K L [.ref (g 0), .int x] (wC K g u) (wC K g (s_ns u (skn u x))) (thn (ex (jmP x) xIA) (ex (joP (olg u N 32) x) xIS)) (skn u x) := by
  refine XI.of (cc := cX4_jump) (maxL := 3) (ret := (some .int)) (by decide +kernel) rfl (Nat.le_of_ble_eq_true rfl) ?_
  intro p e s m below meth c ls hen hxt hP
  obtain ⟨hx, hb, hr, hts, hown, hlk, hml, hnm, hE, hl⟩ := hen
  have S : CallFix p m c cX4_jump 3 s _ wsX4_jump RX4 := ⟨hx, hb, hml, hown, hts⟩
  have hS : va_S (fr L s.heap.size) s.heap s.heap [] := va_S.rf
  have hl : lv_has ls 3 [(0, .ref (g 0)), (1, .int x)] := hl
  have i4 : ∀ w ∈ wsX40, w ∈ wsX4_jump := fun _ h => List.mem_cons_of_mem _ (List.mem_append_left _ (List.mem_append_left _ (List.mem_append_left _ (List.mem_append_left _ (List.mem_append_right _ h)))))
  have i1 : ∀ w ∈ wsX10, w ∈ wsX4_jump := fun _ h => List.mem_cons_of_mem _ (List.mem_append_left _ (List.mem_append_left _ (List.mem_append_left _ (List.mem_append_right _ h))))
  have i3 : ∀ w ∈ wsX30, w ∈ wsX4_jump := fun _ h => List.mem_cons_of_mem _ (List.mem_append_left _ (List.mem_append_left _ (List.mem_append_right _ h)))
  refine lv_iload_n hx hb dX4_jump_0 rfl (lv_at hl 1 rfl) ?_
  refine lv_iconst (v := 1) hx hb dX4_jump_1 (by decide) ?_
  refine lv_icmp_lt (tgt := 11) hx hb dX4_jump_2 (by decide) (fun c1 => ?_) (fun c1 => ?_)
  · skip
    have nj : ¬ jmP x := fun k => k.1 c1
    exact xth (X := xIA) hx hb hfl hown hts (List.mem_of_getElem? (i := 1) rfl) (List.mem_of_getElem? (i := 4) rfl) ft_xIA (List.mem_of_getElem? (i := 1) rfl) (List.mem_of_getElem? (i := 2) rfl) (fun _ h => List.mem_cons_of_mem _ (List.mem_append_left _ (List.mem_append_right _ h))) ng_xIA gd_xIA hE hS hP (by simp only [thn, ex_f nj]) (hl.1.trans hml.symm) dX4_jump_11 dX4_jump_14 (Or.inl ⟨dX4_jump_15, dX4_jump_17, dX4_jump_20⟩) hxt (Nat.le_of_ble_eq_true rfl) (Nat.le_of_ble_eq_true rfl) (Nat.le_of_ble_eq_true rfl) (Nat.le_of_ble_eq_true rfl) hlk (Nat.le_of_ble_eq_true rfl) (Nat.le_of_ble_eq_true rfl)
  · skip
    refine lv_iload_n hx hb dX4_jump_5 rfl (lv_at hl 1 rfl) ?_
    refine lv_bipush (v := 20) hx hb dX4_jump_6 (by decide) ?_
    refine lv_icmp_le (tgt := 21) hx hb dX4_jump_8 (by decide) (fun c2 => ?_) (fun c2 => ?_)
    · skip
      have yj : jmP x := ⟨c1, c2⟩
      refine lv_aload_n hx hb dX4_jump_21 rfl (lv_at hl 0 rfl) ?_
      refine kiV (As := []) (rest := []) S (kX4_oldest hg u N (by omega) hcn) (cwV 0 hts gX4_jump_X4_oldest rfl rfl rfl hdX4_oldest ⟨Nat.le_of_ble_eq_true rfl, Nat.le_of_ble_eq_true rfl⟩) rfl rfl 0 rfl rfl hE hP hS (frs hS) rfl hl.1 rfl (Nat.le_of_ble_eq_true rfl) dX4_jump_22 ⟨Nat.le_of_ble_eq_true rfl, Nat.le_of_ble_eq_true rfl⟩ (fun H locs hP _ _ hS => ?_)
      refine lv_istore_n (lv' := [(2, .int (olg u N 32)), (0, .ref (g 0)), (1, .int x)]) hx hb dX4_jump_25 rfl hl (by decide) rfl (fun ls hl => ?_)
      refine lv_iload_n hx hb dX4_jump_26 rfl (lv_at hl 0 rfl) ?_
      refine lv_if_le (tgt := 48) hx hb dX4_jump_27 (by decide) (fun c3 => ?_) (fun c3 => ?_)
      · skip
        have jo : joP (olg u N 32) x := fun k => absurd c3 (i_ltn k.1)
        refine lv_aload_n hx hb dX4_jump_48 rfl (lv_at hl 1 rfl) ?_
        refine gw4_transactions S i4 hE hP (hts _ (List.mem_of_getElem? (i := 5) rfl)) dX4_jump_49 ?_
        refine lv_iload_n hx hb dX4_jump_52 rfl (lv_at hl 2 rfl) ?_
        refine kiV (As := [.int x]) (rest := []) S (kX3_skip hg u x) (cwV 1 hts gX4_jump_X3_skip rfl rfl rfl hdX3_skip ⟨Nat.le_of_ble_eq_true rfl, Nat.le_of_ble_eq_true rfl⟩) rfl rfl 1 rfl rfl hE hP hS (frs hS) rfl hl.1 rfl (Nat.le_of_ble_eq_true rfl) dX4_jump_53 ⟨Nat.le_of_ble_eq_true rfl, Nat.le_of_ble_eq_true rfl⟩ (fun H locs hP _ _ hS => ?_)
        exact xei hx hb hr hlk hS hP rfl (by simp only [thn, ex_t yj, ex_t jo]) (by rfl) (Nat.le_of_ble_eq_true rfl) (Nat.le_of_ble_eq_true rfl) dX4_jump_56
      · skip
        have pa : 0 < olg u N 32 := i_nle c3
        refine lv_iload_n hx hb dX4_jump_30 rfl (lv_at hl 0 rfl) ?_
        refine lv_iload_n hx hb dX4_jump_31 rfl (lv_at hl 2 rfl) ?_
        refine lv_iadd hx hb dX4_jump_32 ?_
        refine lv_bipush (v := 32) hx hb dX4_jump_33 (by decide) ?_
        refine lv_icmp_lt (tgt := 48) hx hb dX4_jump_35 (by decide) (fun c4 => ?_) (fun c4 => ?_)
        · skip
          have jo : joP (olg u N 32) x := fun k => k.2 c4
          refine lv_aload_n hx hb dX4_jump_48 rfl (lv_at hl 1 rfl) ?_
          refine gw4_transactions S i4 hE hP (hts _ (List.mem_of_getElem? (i := 5) rfl)) dX4_jump_49 ?_
          refine lv_iload_n hx hb dX4_jump_52 rfl (lv_at hl 2 rfl) ?_
          refine kiV (As := [.int x]) (rest := []) S (kX3_skip hg u x) (cwV 1 hts gX4_jump_X3_skip rfl rfl rfl hdX3_skip ⟨Nat.le_of_ble_eq_true rfl, Nat.le_of_ble_eq_true rfl⟩) rfl rfl 1 rfl rfl hE hP hS (frs hS) rfl hl.1 rfl (Nat.le_of_ble_eq_true rfl) dX4_jump_53 ⟨Nat.le_of_ble_eq_true rfl, Nat.le_of_ble_eq_true rfl⟩ (fun H locs hP _ _ hS => ?_)
          exact xei hx hb hr hlk hS hP rfl (by simp only [thn, ex_t yj, ex_t jo]) (by rfl) (Nat.le_of_ble_eq_true rfl) (Nat.le_of_ble_eq_true rfl) dX4_jump_56
        · skip
          have nj2 : ¬ joP (olg u N 32) x := fun k => k ⟨pa, c4⟩
          exact xth (X := xIS) hx hb hfl hown hts (List.mem_of_getElem? (i := 0) rfl) (List.mem_of_getElem? (i := 5) rfl) ft_xIS (List.mem_of_getElem? (i := 3) rfl) (List.mem_of_getElem? (i := 4) rfl) (fun _ h => List.mem_cons_of_mem _ (List.mem_append_right _ h)) ng_xIS gd_xIS hE hS hP (by simp only [thn, ex_t yj, ex_f nj2]) (hl.1.trans hml.symm) dX4_jump_38 dX4_jump_41 (Or.inl ⟨dX4_jump_42, dX4_jump_44, dX4_jump_47⟩) hxt (Nat.le_of_ble_eq_true rfl) (Nat.le_of_ble_eq_true rfl) (Nat.le_of_ble_eq_true rfl) (Nat.le_of_ble_eq_true rfl) hlk (Nat.le_of_ble_eq_true rfl) (Nat.le_of_ble_eq_true rfl)
    · skip
      have nj : ¬ jmP x := fun k => c2 k.2
      exact xth (X := xIA) hx hb hfl hown hts (List.mem_of_getElem? (i := 1) rfl) (List.mem_of_getElem? (i := 4) rfl) ft_xIA (List.mem_of_getElem? (i := 1) rfl) (List.mem_of_getElem? (i := 2) rfl) (fun _ h => List.mem_cons_of_mem _ (List.mem_append_left _ (List.mem_append_right _ h))) ng_xIA gd_xIA hE hS hP (by simp only [thn, ex_f nj]) (hl.1.trans hml.symm) dX4_jump_11 dX4_jump_14 (Or.inl ⟨dX4_jump_15, dX4_jump_17, dX4_jump_20⟩) hxt (Nat.le_of_ble_eq_true rfl) (Nat.le_of_ble_eq_true rfl) (Nat.le_of_ble_eq_true rfl) (Nat.le_of_ble_eq_true rfl) hlk (Nat.le_of_ble_eq_true rfl) (Nat.le_of_ble_eq_true rfl)
def rmX4_isBefore : Room := { frames := 7, cells := 2, slots := 12, locals := 110 }
theorem hdX4_isBefore : yX4_isBefore.cls = RX4 ∧ yX4_isBefore.cls ≠ "java/lang/invoke/MethodHandle" ∧ yX4_isBefore.cls ≠ "java/lang/invoke/VarHandle" ∧ (parseMethodDescriptor yX4_isBefore.desc).map (fun d => d.parameters.length) = some 2 := by decide +kernel
set_option maxHeartbeats 4000000 in
set_option maxRecDepth 100000 in
theorem kX4_isBefore {l : Launch} {D : va_G} {K : Nat → ClassId} {L : Nat → Prop} {g : Nat → Nat} (hg : gd L g 29) (hfl : l.stackTraces = false) (u : CU) (x y : Int32) : XI l yX4_isBefore wsX4_isBefore rmX4_isBefore D K L [.ref (g 0), .int x, .int y] (wC K g u) (wC K g u) (thn (ex (stP x) xIA) (ex (stP y) xIA)) (fb (ibP x y)) := by
  refine XI.of (cc := cX4_isBefore) (maxL := 3) (ret := (some .boolean)) (by decide +kernel) rfl (Nat.le_of_ble_eq_true rfl) ?_
  intro p e s m below meth c ls hen hxt hP
  obtain ⟨hx, hb, hr, hts, hown, hlk, hml, hnm, hE, hl⟩ := hen
  have S : CallFix p m c cX4_isBefore 3 s _ wsX4_isBefore RX4 := ⟨hx, hb, hml, hown, hts⟩
  have hS : va_S (fr L s.heap.size) s.heap s.heap [] := va_S.rf
  have hl : lv_has ls 3 [(0, .ref (g 0)), (1, .int x), (2, .int y)] := hl
  refine lv_iload_n hx hb dX4_isBefore_0 rfl (lv_at hl 1 rfl) ?_
  refine xvS (As := [.int x]) (rest := []) S (kX4_checkStamp hfl x) (va_cwS 1 hts gX4_isBefore_X4_checkStamp rfl rfl rfl hdX4_checkStamp.2 ⟨Nat.le_of_ble_eq_true rfl, Nat.le_of_ble_eq_true rfl⟩) hE hP hS (frs hS) rfl hl.1 rfl (Nat.le_of_ble_eq_true rfl) dX4_isBefore_1 ⟨Nat.le_of_ble_eq_true rfl, Nat.le_of_ble_eq_true rfl⟩ hxt hlk (Nat.le_of_ble_eq_true rfl) (Nat.le_of_ble_eq_true rfl) (fun X h => ⟨by simp only [thn, h], rfl⟩) (fun H locs n1 hP _ _ hS => ?_)
  refine lv_iload_n hx hb dX4_isBefore_4 rfl (lv_at hl 2 rfl) ?_
  refine xvS (As := [.int y]) (rest := []) S (kX4_checkStamp hfl y) (va_cwS 1 hts gX4_isBefore_X4_checkStamp rfl rfl rfl hdX4_checkStamp.2 ⟨Nat.le_of_ble_eq_true rfl, Nat.le_of_ble_eq_true rfl⟩) hE hP hS (frs hS) rfl hl.1 rfl (Nat.le_of_ble_eq_true rfl) dX4_isBefore_5 ⟨Nat.le_of_ble_eq_true rfl, Nat.le_of_ble_eq_true rfl⟩ hxt hlk (Nat.le_of_ble_eq_true rfl) (Nat.le_of_ble_eq_true rfl) (fun X h => ⟨by simp only [thn, n1, h], rfl⟩) (fun H locs n5 hP _ _ hS => ?_)
  refine lv_iload_n hx hb dX4_isBefore_8 rfl (lv_at hl 1 rfl) ?_
  refine lv_iload_n hx hb dX4_isBefore_9 rfl (lv_at hl 2 rfl) ?_
  refine lv_icmp_eq (tgt := 27) hx hb dX4_isBefore_10 (by decide) (fun c1 => ?_) (fun c1 => ?_)
  · skip
    have no : ¬ ibP x y := fun k => k.1 c1
    refine lv_iconst (v := 0) hx hb dX4_isBefore_27 (by decide) ?_
    exact xez hx hb hr hlk hS hP rfl (by simp only [thn, n1, n5]) (by first | exact f_fb no | exact t_fb yes) rfl (Nat.le_of_ble_eq_true rfl) (Nat.le_of_ble_eq_true rfl) dX4_isBefore_28
  · skip
    have nq : ¬ x = y := c1
    refine lv_iload_n hx hb dX4_isBefore_13 rfl (lv_at hl 1 rfl) ?_
    refine lv_iload_n hx hb dX4_isBefore_14 rfl (lv_at hl 2 rfl) ?_
    refine kiS (As := [.int x, .int y]) (rest := []) S (kX4_distance x y) (va_cwS 2 hts gX4_isBefore_X4_distance rfl rfl rfl hdX4_distance.2 ⟨Nat.le_of_ble_eq_true rfl, Nat.le_of_ble_eq_true rfl⟩) rfl rfl hE hP hS (frs hS) rfl hl.1 rfl (Nat.le_of_ble_eq_true rfl) dX4_isBefore_15 ⟨Nat.le_of_ble_eq_true rfl, Nat.le_of_ble_eq_true rfl⟩ (fun H locs hP _ _ hS => ?_)
    refine lv_bipush (v := 32) hx hb dX4_isBefore_18 (by decide) ?_
    refine lv_icmp_ge (tgt := 27) hx hb dX4_isBefore_20 (by decide) (fun c2 => ?_) (fun c2 => ?_)
    · skip
      have no : ¬ ibP x y := fun k => k.2 c2
      refine lv_iconst (v := 0) hx hb dX4_isBefore_27 (by decide) ?_
      exact xez hx hb hr hlk hS hP rfl (by simp only [thn, n1, n5]) (by first | exact f_fb no | exact t_fb yes) rfl (Nat.le_of_ble_eq_true rfl) (Nat.le_of_ble_eq_true rfl) dX4_isBefore_28
    · skip
      have yes : ibP x y := ⟨nq, c2⟩
      refine lv_iconst (v := 1) hx hb dX4_isBefore_23 (by decide) ?_
      refine lv_goto (tgt := 28) hx hb dX4_isBefore_24 (by decide) ?_
      exact xez hx hb hr hlk hS hP rfl (by simp only [thn, n1, n5]) (by first | exact f_fb no | exact t_fb yes) rfl (Nat.le_of_ble_eq_true rfl) (Nat.le_of_ble_eq_true rfl) dX4_isBefore_28
def rmX4_read : Room := { frames := 7, cells := 3, slots := 18, locals := 115 }
theorem hdX4_read : yX4_read.cls = RX4 ∧ yX4_read.cls ≠ "java/lang/invoke/MethodHandle" ∧ yX4_read.cls ≠ "java/lang/invoke/VarHandle" ∧ (parseMethodDescriptor yX4_read.desc).map (fun d => d.parameters.length) = some 2 := by decide +kernel
set_option maxHeartbeats 4000000 in
set_option maxRecDepth 100000 in
theorem kX4_read {l : Launch} {D : va_G} {K : Nat → ClassId} {L : Nat → Prop} {g : Nat → Nat} (hg : gd L g 29) (hfl : l.stackTraces = false) (u : CU) (x y : Int32) (N : Nat) (hN : N ≤ 60) (hcn : c_cn u = nI N) (hct : ctP u) : XI l yX4_read wsX4_read rmX4_read D K L [.ref (g 0), .int x, .int y] (wC K g u) (wC K g u) (thn (ex (wbP u x) xIO) (thn (ex (kyP y) xIA) (ex (hasP (c_ac u) x) xIS))) (rdv u (sv u x y)) := by
  refine XI.of (cc := cX4_read) (maxL := 4) (ret := (some .int)) (by decide +kernel) rfl (Nat.le_of_ble_eq_true rfl) ?_
  intro p e s m below meth c ls hen hxt hP
  obtain ⟨hx, hb, hr, hts, hown, hlk, hml, hnm, hE, hl⟩ := hen
  have S : CallFix p m c cX4_read 4 s _ wsX4_read RX4 := ⟨hx, hb, hml, hown, hts⟩
  have hS : va_S (fr L s.heap.size) s.heap s.heap [] := va_S.rf
  have hl : lv_has ls 4 [(0, .ref (g 0)), (1, .int x), (2, .int y)] := hl
  have i4 : ∀ w ∈ wsX40, w ∈ wsX4_read := fun _ h => List.mem_cons_of_mem _ (List.mem_append_left _ (List.mem_append_left _ (List.mem_append_left _ (List.mem_append_left _ (List.mem_append_left _ (List.mem_append_left _ (List.mem_append_right _ h)))))))
  have i1 : ∀ w ∈ wsX10, w ∈ wsX4_read := fun _ h => List.mem_cons_of_mem _ (List.mem_append_left _ (List.mem_append_left _ (List.mem_append_left _ (List.mem_append_left _ (List.mem_append_left _ (List.mem_append_right _ h))))))
  have i3 : ∀ w ∈ wsX30, w ∈ wsX4_read := fun _ h => List.mem_cons_of_mem _ (List.mem_append_left _ (List.mem_append_left _ (List.mem_append_left _ (List.mem_append_left _ (List.mem_append_right _ h)))))
  have i0 : ∀ w ∈ wsX00, w ∈ wsX4_read := fun _ h => List.mem_cons_of_mem _ (List.mem_append_left _ (List.mem_append_left _ (List.mem_append_left _ (List.mem_append_right _ h))))
  refine lv_aload_n hx hb dX4_read_0 rfl (lv_at hl 0 rfl) ?_
  refine lv_iload_n hx hb dX4_read_1 rfl (lv_at hl 1 rfl) ?_
  refine xvV (As := [.int x]) (rest := []) S (kX4_checkTransaction hg hfl u x) (cwV 1 hts gX4_read_X4_checkTransaction rfl rfl rfl hdX4_checkTransaction ⟨Nat.le_of_ble_eq_true rfl, Nat.le_of_ble_eq_true rfl⟩) 0 rfl rfl hE hP hS (frs hS) rfl hl.1 rfl (Nat.le_of_ble_eq_true rfl) dX4_read_2 ⟨Nat.le_of_ble_eq_true rfl, Nat.le_of_ble_eq_true rfl⟩ hxt hlk (Nat.le_of_ble_eq_true rfl) (Nat.le_of_ble_eq_true rfl) (fun X h => ⟨by simp only [thn, h], rfl⟩) (fun H locs n2 hP _ _ hS => ?_)
  obtain ⟨t, ht, et⟩ := wb_at hN hcn (ex_n n2)
  subst et
  refine lv_iload_n hx hb dX4_read_5 rfl (lv_at hl 2 rfl) ?_
  refine xvS (As := [.int y]) (rest := []) S (kX4_checkKey hfl y) (va_cwS 1 hts gX4_read_X4_checkKey rfl rfl rfl hdX4_checkKey.2 ⟨Nat.le_of_ble_eq_true rfl, Nat.le_of_ble_eq_true rfl⟩) hE hP hS (frs hS) rfl hl.1 rfl (Nat.le_of_ble_eq_true rfl) dX4_read_6 ⟨Nat.le_of_ble_eq_true rfl, Nat.le_of_ble_eq_true rfl⟩ hxt hlk (Nat.le_of_ble_eq_true rfl) (Nat.le_of_ble_eq_true rfl) (fun X h => ⟨by simp only [thn, n2, h], rfl⟩) (fun H locs n6 hP _ _ hS => ?_)
  obtain ⟨k, hk, ek⟩ := ky_at (ex_n n6)
  subst ek
  refine lv_aload_n hx hb dX4_read_9 rfl (lv_at hl 0 rfl) ?_
  refine lv_iload_n hx hb dX4_read_10 rfl (lv_at hl 1 rfl) ?_
  refine xvV (As := [.int (nI t)]) (rest := []) S (kX4_checkActive hg hfl u (nI t)) (cwV 1 hts gX4_read_X4_checkActive rfl rfl rfl hdX4_checkActive ⟨Nat.le_of_ble_eq_true rfl, Nat.le_of_ble_eq_true rfl⟩) 0 rfl rfl hE hP hS (frs hS) rfl hl.1 rfl (Nat.le_of_ble_eq_true rfl) dX4_read_11 ⟨Nat.le_of_ble_eq_true rfl, Nat.le_of_ble_eq_true rfl⟩ hxt hlk (Nat.le_of_ble_eq_true rfl) (Nat.le_of_ble_eq_true rfl) (fun X h => ⟨by simp only [thn, n2, n6, h], rfl⟩) (fun H locs n11 hP _ _ hS => ?_)
  refine lv_aload_n hx hb dX4_read_14 rfl (lv_at hl 0 rfl) ?_
  refine lv_iload_n hx hb dX4_read_15 rfl (lv_at hl 1 rfl) ?_
  refine lv_iload_n hx hb dX4_read_16 rfl (lv_at hl 2 rfl) ?_
  refine kiV (As := [.int (nI t), .int (nI k)]) (rest := []) S (kX4_seenPlace hg u t k (nat (c_ct u k)) (by omega) hk (hct k hk).1 (hct k hk).2) (cwV 2 hts gX4_read_X4_seenPlace rfl rfl rfl hdX4_seenPlace ⟨Nat.le_of_ble_eq_true rfl, Nat.le_of_ble_eq_true rfl⟩) rfl rfl 0 rfl rfl hE hP hS (frs hS) rfl hl.1 rfl (Nat.le_of_ble_eq_true rfl) dX4_read_17 ⟨Nat.le_of_ble_eq_true rfl, Nat.le_of_ble_eq_true rfl⟩ (fun H locs hP _ _ hS => ?_)
  have hsv : sv u (nI t) (nI k) = spl u t k (nat (c_ct u k)) := by unfold sv; rw [nat_nI (by omega), nat_nI (by omega)]
  generalize spl u t k (nat (c_ct u k)) = v at hsv ⊢
  refine lv_istore_n (lv' := [(3, .int v), (0, .ref (g 0)), (1, .int (nI t)), (2, .int (nI k))]) hx hb dX4_read_20 rfl hl (by decide) rfl (fun ls hl => ?_)
  refine lv_iload_n hx hb dX4_read_21 rfl (lv_at hl 0 rfl) ?_
  refine kiS (As := [.int v]) (rest := []) S (kX4_isPlace v) (va_cwS 1 hts gX4_read_X4_isPlace rfl rfl rfl hdX4_isPlace.2 ⟨Nat.le_of_ble_eq_true rfl, Nat.le_of_ble_eq_true rfl⟩) rfl rfl hE hP hS (frs hS) rfl hl.1 rfl (Nat.le_of_ble_eq_true rfl) dX4_read_22 ⟨Nat.le_of_ble_eq_true rfl, Nat.le_of_ble_eq_true rfl⟩ (fun H locs hP _ _ hS => ?_)
  refine bzeq (tgt := 40) hx hb dX4_read_25 (by decide) (fun c1 => ?_) (fun c1 => ?_)
  · skip
    refine lv_iconst (v := (-1)) hx hb dX4_read_40 (by decide) ?_
    exact xei hx hb hr hlk hS hP rfl (by simp only [thn, n2, n6, n11]) (by rw [hsv]; first | exact (rdv_y hj).symm | exact (rdv_n c1).symm) (Nat.le_of_ble_eq_true rfl) (Nat.le_of_ble_eq_true rfl) dX4_read_41
  · skip
    obtain ⟨j, hj, ej⟩ := pl_at c1
    subst ej
    refine lv_aload_n hx hb dX4_read_28 rfl (lv_at hl 1 rfl) ?_
    refine gw4_slots S i4 hE hP (hts _ (List.mem_of_getElem? (i := 1) rfl)) dX4_read_29 ?_
    refine gw1_values S i1 hE hP (hts _ (List.mem_of_getElem? (i := 2) rfl)) dX4_read_32 ?_
    refine lv_iload_n hx hb dX4_read_35 rfl (lv_at hl 0 rfl) ?_
    refine lC_v S hE hP (f := c_v u) rfl (j := j) (by omega) rfl dX4_read_36 ?_
    refine lv_goto (tgt := 41) hx hb dX4_read_37 (by decide) ?_
    exact xei hx hb hr hlk hS hP rfl (by simp only [thn, n2, n6, n11]) (by rw [hsv]; first | exact (rdv_y hj).symm | exact (rdv_n c1).symm) (Nat.le_of_ble_eq_true rfl) (Nat.le_of_ble_eq_true rfl) dX4_read_41
def rmX4_readPlain : Room := { frames := 7, cells := 3, slots := 18, locals := 111 }
theorem hdX4_readPlain : yX4_readPlain.cls = RX4 ∧ yX4_readPlain.cls ≠ "java/lang/invoke/MethodHandle" ∧ yX4_readPlain.cls ≠ "java/lang/invoke/VarHandle" ∧ (parseMethodDescriptor yX4_readPlain.desc).map (fun d => d.parameters.length) = some 2 := by decide +kernel
set_option maxHeartbeats 4000000 in
set_option maxRecDepth 100000 in
theorem kX4_readPlain {l : Launch} {D : va_G} {K : Nat → ClassId} {L : Nat → Prop} {g : Nat → Nat} (hg : gd L g 29) (hfl : l.stackTraces = false) (u : CU) (x y : Int32) (N : Nat) (hN : N ≤ 60) (hcn : c_cn u = nI N) (T : Nat) (hT : T ≤ 512) (htc : c_tc u = nI T) : XI l yX4_readPlain wsX4_readPlain rmX4_readPlain D K L [.ref (g 0), .int x, .int y] (wC K g u) (wC K g u) (thn (ex (wbP u x) xIO) (thn (ex (kyP y) xIA) (ex (hasP (c_ac u) x) xIS))) (rpw u (nat x) (nat y) 0 T) := by
  refine XI.of (cc := cX4_readPlain) (maxL := 4) (ret := (some .int)) (by decide +kernel) rfl (Nat.le_of_ble_eq_true rfl) ?_
  intro p e s m below meth c ls hen hxt hP
  obtain ⟨hx, hb, hr, hts, hown, hlk, hml, hnm, hE, hl⟩ := hen
  have S : CallFix p m c cX4_readPlain 4 s _ wsX4_readPlain RX4 := ⟨hx, hb, hml, hown, hts⟩
  have hS : va_S (fr L s.heap.size) s.heap s.heap [] := va_S.rf
  have hl : lv_has ls 4 [(0, .ref (g 0)), (1, .int x), (2, .int y)] := hl
  have i4 : ∀ w ∈ wsX40, w ∈ wsX4_readPlain := fun _ h => List.mem_cons_of_mem _ (List.mem_append_left _ (List.mem_append_left _ (List.mem_append_left _ (List.mem_append_left _ (List.mem_append_left _ (List.mem_append_right _ h))))))
  have i2 : ∀ w ∈ wsX20, w ∈ wsX4_readPlain := fun _ h => List.mem_cons_of_mem _ (List.mem_append_left _ (List.mem_append_left _ (List.mem_append_left _ (List.mem_append_left _ (List.mem_append_right _ h)))))
  have i3 : ∀ w ∈ wsX30, w ∈ wsX4_readPlain := fun _ h => List.mem_cons_of_mem _ (List.mem_append_left _ (List.mem_append_left _ (List.mem_append_left _ (List.mem_append_right _ h))))
  refine lv_aload_n hx hb dX4_readPlain_0 rfl (lv_at hl 0 rfl) ?_
  refine lv_iload_n hx hb dX4_readPlain_1 rfl (lv_at hl 1 rfl) ?_
  refine xvV (As := [.int x]) (rest := []) S (kX4_checkTransaction hg hfl u x) (cwV 1 hts gX4_readPlain_X4_checkTransaction rfl rfl rfl hdX4_checkTransaction ⟨Nat.le_of_ble_eq_true rfl, Nat.le_of_ble_eq_true rfl⟩) 0 rfl rfl hE hP hS (frs hS) rfl hl.1 rfl (Nat.le_of_ble_eq_true rfl) dX4_readPlain_2 ⟨Nat.le_of_ble_eq_true rfl, Nat.le_of_ble_eq_true rfl⟩ hxt hlk (Nat.le_of_ble_eq_true rfl) (Nat.le_of_ble_eq_true rfl) (fun X h => ⟨by simp only [thn, h], rfl⟩) (fun H locs n2 hP _ _ hS => ?_)
  obtain ⟨t, ht, et⟩ := wb_at hN hcn (ex_n n2)
  subst et
  refine lv_iload_n hx hb dX4_readPlain_5 rfl (lv_at hl 2 rfl) ?_
  refine xvS (As := [.int y]) (rest := []) S (kX4_checkKey hfl y) (va_cwS 1 hts gX4_readPlain_X4_checkKey rfl rfl rfl hdX4_checkKey.2 ⟨Nat.le_of_ble_eq_true rfl, Nat.le_of_ble_eq_true rfl⟩) hE hP hS (frs hS) rfl hl.1 rfl (Nat.le_of_ble_eq_true rfl) dX4_readPlain_6 ⟨Nat.le_of_ble_eq_true rfl, Nat.le_of_ble_eq_true rfl⟩ hxt hlk (Nat.le_of_ble_eq_true rfl) (Nat.le_of_ble_eq_true rfl) (fun X h => ⟨by simp only [thn, n2, h], rfl⟩) (fun H locs n6 hP _ _ hS => ?_)
  obtain ⟨k, hk, ek⟩ := ky_at (ex_n n6)
  subst ek
  refine lv_aload_n hx hb dX4_readPlain_9 rfl (lv_at hl 0 rfl) ?_
  refine lv_iload_n hx hb dX4_readPlain_10 rfl (lv_at hl 1 rfl) ?_
  refine xvV (As := [.int (nI t)]) (rest := []) S (kX4_checkActive hg hfl u (nI t)) (cwV 1 hts gX4_readPlain_X4_checkActive rfl rfl rfl hdX4_checkActive ⟨Nat.le_of_ble_eq_true rfl, Nat.le_of_ble_eq_true rfl⟩) 0 rfl rfl hE hP hS (frs hS) rfl hl.1 rfl (Nat.le_of_ble_eq_true rfl) dX4_readPlain_11 ⟨Nat.le_of_ble_eq_true rfl, Nat.le_of_ble_eq_true rfl⟩ hxt hlk (Nat.le_of_ble_eq_true rfl) (Nat.le_of_ble_eq_true rfl) (fun X h => ⟨by simp only [thn, n2, n6, h], rfl⟩) (fun H locs n11 hP _ _ hS => ?_)
  have hr1 : rpw u (nat (nI t)) (nat (nI k)) 0 T = rpw u t k 0 T := by rw [nat_nI (by omega), nat_nI (by omega)]
  refine lv_iconst (v := 0) hx hb dX4_readPlain_14 (by decide) ?_
  refine lv_istore_n (lv' := [(3, .int 0), (0, .ref (g 0)), (1, .int (nI t)), (2, .int (nI k))]) hx hb dX4_readPlain_15 rfl hl (by decide) rfl (fun ls hl => ?_)
  have loop16 : ∀ (n16 : Nat) (i : Nat), (hi : i ≤ T) → (hr0 : rpw u t k 0 T = rpw u t k i (T - i)) → T - i < n16 → ∀ (H : Heap) (locs : List Loc), va_P D vwCl (wC K g u) H → va_S (fr L s.heap.size) s.heap H locs → ∀ (ls : Array Slot), lv_has ls 4 [(3, .int (nI i)), (0, .ref (g 0)), (1, .int (nI t)), (2, .int (nI k))] → W p l e rmX4_readPlain s m ([.ref (g 0), .int (nI t), .int (nI k)] : List Value).toArray below meth c H locs 3 18 (vx_MQ below (va_Qi (fun (r9 : Int32) (_ : Unit) => (thn (ex (wbP u (nI t)) xIO) (thn (ex (kyP (nI k)) xIA) (ex (hasP (c_ac u) (nI t)) xIS))) = none ∧ r9 = rpw u (nat (nI t)) (nat (nI k)) 0 T) (fun _ t => va_P D vwCl (wC K g u) t.heap) (fr L s.heap.size)) (xc D (wC K g u) (fr L s.heap.size) (thn (ex (wbP u (nI t)) xIO) (thn (ex (kyP (nI k)) xIA) (ex (hasP (c_ac u) (nI t)) xIS)))) ([.ref (g 0), .int (nI t), .int (nI k)] : List Value).toArray s rmX4_readPlain.cells rmX4_readPlain.slots (fr L s.heap.size)) (F0 m 16 ls []) := by
    intro n16
    induction n16 with
    | zero =>
      intro i hi hr0 hn16
      exact absurd hn16 (Nat.not_lt_zero _)
    | succ n16 ih16 =>
      intro i hi hr0 hn16 H locs hP hS ls hl
      refine lv_iload_n hx hb dX4_readPlain_16 rfl (lv_at hl 0 rfl) ?_
      refine lv_aload_n hx hb dX4_readPlain_17 rfl (lv_at hl 1 rfl) ?_
      refine gw4_table S i4 hE hP (hts _ (List.mem_of_getElem? (i := 1) rfl)) dX4_readPlain_18 ?_
      refine gw2_count S i2 hE hP (f := c_tc u) rfl (hts _ (List.mem_of_getElem? (i := 2) rfl)) dX4_readPlain_21 ?_
      refine tpi (y := nI T) htc ?_
      refine lv_icmp_ge (tgt := 96) hx hb dX4_readPlain_24 (by decide) (fun c1 => ?_) (fun c1 => ?_)
      · skip
        have e9 : i = T := by have := nge_i (a := i) (b := T) (by omega) (by omega) c1; omega
        refine lv_iconst (v := (-1)) hx hb dX4_readPlain_96 (by decide) ?_
        exact xei hx hb hr hlk hS hP rfl (by simp only [thn, n2, n6, n11]) (by rw [hr1, hr0, e9, Nat.sub_self]; rfl) (Nat.le_of_ble_eq_true rfl) (Nat.le_of_ble_eq_true rfl) dX4_readPlain_97
      · skip
        have hlt : i < T := nlt_i (a := i) (b := T) (by omega) (by omega) c1
        refine lv_aload_n hx hb dX4_readPlain_27 rfl (lv_at hl 1 rfl) ?_
        refine gw4_table S i4 hE hP (hts _ (List.mem_of_getElem? (i := 1) rfl)) dX4_readPlain_28 ?_
        refine gw2_keys S i2 hE hP (hts _ (List.mem_of_getElem? (i := 3) rfl)) dX4_readPlain_31 ?_
        refine lv_iload_n hx hb dX4_readPlain_34 rfl (lv_at hl 0 rfl) ?_
        refine lC_tk S hE hP (f := c_tk u) rfl (j := i) (by omega) rfl dX4_readPlain_35 ?_
        refine lv_iload_n hx hb dX4_readPlain_36 rfl (lv_at hl 3 rfl) ?_
        refine lv_icmp_ne (tgt := 90) hx hb dX4_readPlain_37 (by decide) (fun c2 => ?_) (fun c2 => ?_)
        · skip
          have no : ¬ rwP u t k i := fun z => c2 z.1
          refine lv_iinc (v := nI (i + 1)) (lv' := [(3, .int (nI (i + 1))), (0, .ref (g 0)), (1, .int (nI t)), (2, .int (nI k))]) hx hb dX4_readPlain_90 hl (k := 0) rfl (nI_1 i) (by decide) rfl (fun ls hl => ?_)
          refine lv_goto (tgt := 16) hx hb dX4_readPlain_93 (by decide) ?_
          exact ih16 (i + 1) (by omega) (by rw [hr0, show T - i = (T - (i + 1)) + 1 by omega]; exact rpw_n no) (by omega) _ _ hP hS ls (lv_sub hl [0, 1, 2, 3] rfl)
        · skip
          have z1 : c_tk u i = nI k := c2
          refine lv_aload_n hx hb dX4_readPlain_40 rfl (lv_at hl 1 rfl) ?_
          refine gw4_transactions S i4 hE hP (hts _ (List.mem_of_getElem? (i := 4) rfl)) dX4_readPlain_41 ?_
          refine lv_iload_n hx hb dX4_readPlain_44 rfl (lv_at hl 2 rfl) ?_
          refine lv_aload_n hx hb dX4_readPlain_45 rfl (lv_at hl 1 rfl) ?_
          refine gw4_table S i4 hE hP (hts _ (List.mem_of_getElem? (i := 1) rfl)) dX4_readPlain_46 ?_
          refine gw2_births S i2 hE hP (hts _ (List.mem_of_getElem? (i := 5) rfl)) dX4_readPlain_49 ?_
          refine lv_iload_n hx hb dX4_readPlain_52 rfl (lv_at hl 0 rfl) ?_
          refine lC_tb S hE hP (f := c_tb u) rfl (j := i) (by omega) rfl dX4_readPlain_53 ?_
          refine kiV (As := [.int (nI t), .int (c_tb u i)]) (rest := []) S (kX3_knows hg u t (c_tb u i) (by omega)) (cwV 2 hts gX4_readPlain_X3_knows rfl rfl rfl hdX3_knows ⟨Nat.le_of_ble_eq_true rfl, Nat.le_of_ble_eq_true rfl⟩) rfl rfl 1 rfl rfl hE hP hS (frs hS) rfl hl.1 rfl (Nat.le_of_ble_eq_true rfl) dX4_readPlain_54 ⟨Nat.le_of_ble_eq_true rfl, Nat.le_of_ble_eq_true rfl⟩ (fun H locs hP _ _ hS => ?_)
          refine bzeq (tgt := 90) hx hb dX4_readPlain_57 (by decide) (fun c3 => ?_) (fun c3 => ?_)
          · skip
            have no : ¬ rwP u t k i := fun z => c3 z.2.1
            refine lv_iinc (v := nI (i + 1)) (lv' := [(3, .int (nI (i + 1))), (0, .ref (g 0)), (1, .int (nI t)), (2, .int (nI k))]) hx hb dX4_readPlain_90 hl (k := 0) rfl (nI_1 i) (by decide) rfl (fun ls hl => ?_)
            refine lv_goto (tgt := 16) hx hb dX4_readPlain_93 (by decide) ?_
            exact ih16 (i + 1) (by omega) (by rw [hr0, show T - i = (T - (i + 1)) + 1 by omega]; exact rpw_n no) (by omega) _ _ hP hS ls (lv_sub hl [0, 1, 2, 3] rfl)
          · skip
            have z2 : knP u t (c_tb u i) := c3
            refine lv_aload_n hx hb dX4_readPlain_60 rfl (lv_at hl 1 rfl) ?_
            refine gw4_transactions S i4 hE hP (hts _ (List.mem_of_getElem? (i := 4) rfl)) dX4_readPlain_61 ?_
            refine lv_iload_n hx hb dX4_readPlain_64 rfl (lv_at hl 2 rfl) ?_
            refine lv_aload_n hx hb dX4_readPlain_65 rfl (lv_at hl 1 rfl) ?_
            refine gw4_table S i4 hE hP (hts _ (List.mem_of_getElem? (i := 1) rfl)) dX4_readPlain_66 ?_
            refine gw2_deaths S i2 hE hP (hts _ (List.mem_of_getElem? (i := 6) rfl)) dX4_readPlain_69 ?_
            refine lv_iload_n hx hb dX4_readPlain_72 rfl (lv_at hl 0 rfl) ?_
            refine lC_td S hE hP (f := c_td u) rfl (j := i) (by omega) rfl dX4_readPlain_73 ?_
            refine kiV (As := [.int (nI t), .int (c_td u i)]) (rest := []) S (kX3_knows hg u t (c_td u i) (by omega)) (cwV 2 hts gX4_readPlain_X3_knows rfl rfl rfl hdX3_knows ⟨Nat.le_of_ble_eq_true rfl, Nat.le_of_ble_eq_true rfl⟩) rfl rfl 1 rfl rfl hE hP hS (frs hS) rfl hl.1 rfl (Nat.le_of_ble_eq_true rfl) dX4_readPlain_74 ⟨Nat.le_of_ble_eq_true rfl, Nat.le_of_ble_eq_true rfl⟩ (fun H locs hP _ _ hS => ?_)
            refine bzne (tgt := 90) hx hb dX4_readPlain_77 (by decide) (fun c4 => ?_) (fun c4 => ?_)
            · skip
              have no : ¬ rwP u t k i := fun z => z.2.2 c4
              refine lv_iinc (v := nI (i + 1)) (lv' := [(3, .int (nI (i + 1))), (0, .ref (g 0)), (1, .int (nI t)), (2, .int (nI k))]) hx hb dX4_readPlain_90 hl (k := 0) rfl (nI_1 i) (by decide) rfl (fun ls hl => ?_)
              refine lv_goto (tgt := 16) hx hb dX4_readPlain_93 (by decide) ?_
              exact ih16 (i + 1) (by omega) (by rw [hr0, show T - i = (T - (i + 1)) + 1 by omega]; exact rpw_n no) (by omega) _ _ hP hS ls (lv_sub hl [0, 1, 2, 3] rfl)
            · skip
              have yes : rwP u t k i := ⟨z1, z2, c4⟩
              refine lv_aload_n hx hb dX4_readPlain_80 rfl (lv_at hl 1 rfl) ?_
              refine gw4_table S i4 hE hP (hts _ (List.mem_of_getElem? (i := 1) rfl)) dX4_readPlain_81 ?_
              refine gw2_values S i2 hE hP (hts _ (List.mem_of_getElem? (i := 7) rfl)) dX4_readPlain_84 ?_
              refine lv_iload_n hx hb dX4_readPlain_87 rfl (lv_at hl 0 rfl) ?_
              refine lC_tv S hE hP (f := c_tv u) rfl (j := i) (by omega) rfl dX4_readPlain_88 ?_
              exact xei hx hb hr hlk hS hP rfl (by simp only [thn, n2, n6, n11]) (by rw [hr1, hr0, show T - i = (T - (i + 1)) + 1 by omega]; exact (rpw_y yes).symm) (Nat.le_of_ble_eq_true rfl) (Nat.le_of_ble_eq_true rfl) dX4_readPlain_89
  exact loop16 _ 0 (by omega) rfl (Nat.lt_succ_self _) _ _ hP hS ls (lv_sub hl [0, 1, 2, 3] rfl)
def rmX4_setFreezing : Room := { frames := 6, cells := 1, slots := 6, locals := 90 }
theorem hdX4_setFreezing : yX4_setFreezing.cls = RX4 ∧ yX4_setFreezing.cls ≠ "java/lang/invoke/MethodHandle" ∧ yX4_setFreezing.cls ≠ "java/lang/invoke/VarHandle" ∧ (parseMethodDescriptor yX4_setFreezing.desc).map (fun d => d.parameters.length) = some 1 := by decide +kernel
set_option maxHeartbeats 4000000 in
set_option maxRecDepth 100000 in
theorem kX4_setFreezing {l : Launch} {D : va_G} {K : Nat → ClassId} {L : Nat → Prop} {g : Nat → Nat} (hg : gd L g 29) (hfl : l.stackTraces = false) (u : CU) (x : Int32) : XI l yX4_setFreezing wsX4_setFreezing rmX4_setFreezing D K L [.ref (g 0), .int x] (wC K g u) (wC K g (s_fz u x)) (ex (fzR x) xIA) (c_fz u) := by
  refine XI.of (cc := cX4_setFreezing) (maxL := 3) (ret := (some .int)) (by decide +kernel) rfl (Nat.le_of_ble_eq_true rfl) ?_
  intro p e s m below meth c ls hen hxt hP
  obtain ⟨hx, hb, hr, hts, hown, hlk, hml, hnm, hE, hl⟩ := hen
  have S : CallFix p m c cX4_setFreezing 3 s _ wsX4_setFreezing RX4 := ⟨hx, hb, hml, hown, hts⟩
  have hS : va_S (fr L s.heap.size) s.heap s.heap [] := va_S.rf
  have hl : lv_has ls 3 [(0, .ref (g 0)), (1, .int x)] := hl
  have i4 : ∀ w ∈ wsX40, w ∈ wsX4_setFreezing := fun _ h => List.mem_cons_of_mem _ (List.mem_append_left _ (List.mem_append_right _ h))
  refine lv_iload_n hx hb dX4_setFreezing_0 rfl (lv_at hl 1 rfl) ?_
  refine lv_iconst (v := 1) hx hb dX4_setFreezing_1 (by decide) ?_
  refine lv_icmp_lt (tgt := 11) hx hb dX4_setFreezing_2 (by decide) (fun c1 => ?_) (fun c1 => ?_)
  · skip
    have no : ¬ fzR x := fun k => k.1 c1
    exact xth (X := xIA) hx hb hfl hown hts (List.mem_of_getElem? (i := 1) rfl) (List.mem_of_getElem? (i := 12) rfl) ft_xIA (List.mem_of_getElem? (i := 1) rfl) (List.mem_of_getElem? (i := 2) rfl) (fun _ h => List.mem_cons_of_mem _ (List.mem_append_right _ h)) ng_xIA gd_xIA hE hS hP (ex_f no) (hl.1.trans hml.symm) dX4_setFreezing_11 dX4_setFreezing_14 (Or.inl ⟨dX4_setFreezing_15, dX4_setFreezing_17, dX4_setFreezing_20⟩) hxt (Nat.le_of_ble_eq_true rfl) (Nat.le_of_ble_eq_true rfl) (Nat.le_of_ble_eq_true rfl) (Nat.le_of_ble_eq_true rfl) hlk (Nat.le_of_ble_eq_true rfl) (Nat.le_of_ble_eq_true rfl)
  · skip
    refine lv_iload_n hx hb dX4_setFreezing_5 rfl (lv_at hl 1 rfl) ?_
    refine lv_bipush (v := 27) hx hb dX4_setFreezing_6 (by decide) ?_
    refine lv_icmp_le (tgt := 21) hx hb dX4_setFreezing_8 (by decide) (fun c2 => ?_) (fun c2 => ?_)
    · skip
      have yes : fzR x := ⟨c1, c2⟩
      refine lv_aload_n hx hb dX4_setFreezing_21 rfl (lv_at hl 0 rfl) ?_
      refine gw4_freezingAge S i4 hE hP (f := c_fz u) rfl (hts _ (List.mem_of_getElem? (i := 3) rfl)) dX4_setFreezing_22 ?_
      refine lv_istore_n (lv' := [(2, .int (c_fz u)), (0, .ref (g 0)), (1, .int x)]) hx hb dX4_setFreezing_25 rfl hl (by decide) rfl (fun ls hl => ?_)
      refine lv_aload_n hx hb dX4_setFreezing_26 rfl (lv_at hl 1 rfl) ?_
      refine lv_iload_n hx hb dX4_setFreezing_27 rfl (lv_at hl 2 rfl) ?_
      refine pw4_freezingAge S i4 hE hP hg hS (hts _ (List.mem_of_getElem? (i := 3) rfl)) dX4_setFreezing_28 (fun H locs hP hS => ?_)
      refine lv_iload_n hx hb dX4_setFreezing_31 rfl (lv_at hl 0 rfl) ?_
      exact xei hx hb hr hlk hS hP rfl (ex_t yes) (by rfl) (Nat.le_of_ble_eq_true rfl) (Nat.le_of_ble_eq_true rfl) dX4_setFreezing_32
    · skip
      have no : ¬ fzR x := fun k => c2 k.2
      exact xth (X := xIA) hx hb hfl hown hts (List.mem_of_getElem? (i := 1) rfl) (List.mem_of_getElem? (i := 12) rfl) ft_xIA (List.mem_of_getElem? (i := 1) rfl) (List.mem_of_getElem? (i := 2) rfl) (fun _ h => List.mem_cons_of_mem _ (List.mem_append_right _ h)) ng_xIA gd_xIA hE hS hP (ex_f no) (hl.1.trans hml.symm) dX4_setFreezing_11 dX4_setFreezing_14 (Or.inl ⟨dX4_setFreezing_15, dX4_setFreezing_17, dX4_setFreezing_20⟩) hxt (Nat.le_of_ble_eq_true rfl) (Nat.le_of_ble_eq_true rfl) (Nat.le_of_ble_eq_true rfl) (Nat.le_of_ble_eq_true rfl) hlk (Nat.le_of_ble_eq_true rfl) (Nat.le_of_ble_eq_true rfl)
def rmX4_isMapped : Room := { frames := 7, cells := 1, slots := 6, locals := 110 }
theorem hdX4_isMapped : yX4_isMapped.cls = RX4 ∧ yX4_isMapped.cls ≠ "java/lang/invoke/MethodHandle" ∧ yX4_isMapped.cls ≠ "java/lang/invoke/VarHandle" ∧ (parseMethodDescriptor yX4_isMapped.desc).map (fun d => d.parameters.length) = some 1 := by decide +kernel
set_option maxHeartbeats 4000000 in
set_option maxRecDepth 100000 in
theorem kX4_isMapped {l : Launch} {D : va_G} {K : Nat → ClassId} {L : Nat → Prop} {g : Nat → Nat} (hg : gd L g 29) (hfl : l.stackTraces = false) (u : CU) (x : Int32) (hmp : ∀ a, a < 4 → c_mp u a = 0 ∨ c_mp u a = 1) : XI l yX4_isMapped wsX4_isMapped rmX4_isMapped D K L [.ref (g 0), .int x] (wC K g u) (wC K g u) (ex (pgP x) xIA) (c_mp u (nat x)) := by
  refine XI.of (cc := cX4_isMapped) (maxL := 2) (ret := (some .boolean)) (by decide +kernel) rfl (Nat.le_of_ble_eq_true rfl) ?_
  intro p e s m below meth c ls hen hxt hP
  obtain ⟨hx, hb, hr, hts, hown, hlk, hml, hnm, hE, hl⟩ := hen
  have S : CallFix p m c cX4_isMapped 2 s _ wsX4_isMapped RX4 := ⟨hx, hb, hml, hown, hts⟩
  have hS : va_S (fr L s.heap.size) s.heap s.heap [] := va_S.rf
  have hl : lv_has ls 2 [(0, .ref (g 0)), (1, .int x)] := hl
  have i4 : ∀ w ∈ wsX40, w ∈ wsX4_isMapped := fun _ h => List.mem_cons_of_mem _ (List.mem_append_left _ (List.mem_append_right _ h))
  refine lv_iload_n hx hb dX4_isMapped_0 rfl (lv_at hl 1 rfl) ?_
  refine xvS (As := [.int x]) (rest := []) S (kX4_checkPage hfl x) (va_cwS 1 hts gX4_isMapped_X4_checkPage rfl rfl rfl hdX4_checkPage.2 ⟨Nat.le_of_ble_eq_true rfl, Nat.le_of_ble_eq_true rfl⟩) hE hP hS (frs hS) rfl hl.1 rfl (Nat.le_of_ble_eq_true rfl) dX4_isMapped_1 ⟨Nat.le_of_ble_eq_true rfl, Nat.le_of_ble_eq_true rfl⟩ hxt hlk (Nat.le_of_ble_eq_true rfl) (Nat.le_of_ble_eq_true rfl) (fun X h => ⟨by simp only [thn, h], rfl⟩) (fun H locs n1 hP _ _ hS => ?_)
  obtain ⟨a, ha, ea⟩ := pg_at (ex_n n1)
  subst ea
  refine lv_aload_n hx hb dX4_isMapped_4 rfl (lv_at hl 0 rfl) ?_
  refine gw4_mapped S i4 hE hP (hts _ (List.mem_of_getElem? (i := 1) rfl)) dX4_isMapped_5 ?_
  refine lv_iload_n hx hb dX4_isMapped_8 rfl (lv_at hl 1 rfl) ?_
  refine lC_mp S hE hP (f := c_mp u) rfl (j := a) (by omega) rfl dX4_isMapped_9 ?_
  exact xez hx hb hr hlk hS hP rfl n1 (by rw [nat_nI (by omega)]) (by rcases hmp a ha with h | h <;> rw [h] <;> rfl) (Nat.le_of_ble_eq_true rfl) (Nat.le_of_ble_eq_true rfl) dX4_isMapped_10
def rmX4_isWhole : Room := { frames := 7, cells := 1, slots := 6, locals := 110 }
theorem hdX4_isWhole : yX4_isWhole.cls = RX4 ∧ yX4_isWhole.cls ≠ "java/lang/invoke/MethodHandle" ∧ yX4_isWhole.cls ≠ "java/lang/invoke/VarHandle" ∧ (parseMethodDescriptor yX4_isWhole.desc).map (fun d => d.parameters.length) = some 1 := by decide +kernel
set_option maxHeartbeats 4000000 in
set_option maxRecDepth 100000 in
theorem kX4_isWhole {l : Launch} {D : va_G} {K : Nat → ClassId} {L : Nat → Prop} {g : Nat → Nat} (hg : gd L g 29) (hfl : l.stackTraces = false) (u : CU) (x : Int32) (N : Nat) (hN : N ≤ 60) (hcn : c_cn u = nI N) : XI l yX4_isWhole wsX4_isWhole rmX4_isWhole D K L [.ref (g 0), .int x] (wC K g u) (wC K g u) (ex (pgP x) xIA) (fb (whP u (nat x) (stl u N))) := by
  refine XI.of (cc := cX4_isWhole) (maxL := 5) (ret := (some .boolean)) (by decide +kernel) rfl (Nat.le_of_ble_eq_true rfl) ?_
  intro p e s m below meth c ls hen hxt hP
  obtain ⟨hx, hb, hr, hts, hown, hlk, hml, hnm, hE, hl⟩ := hen
  have S : CallFix p m c cX4_isWhole 5 s _ wsX4_isWhole RX4 := ⟨hx, hb, hml, hown, hts⟩
  have hS : va_S (fr L s.heap.size) s.heap s.heap [] := va_S.rf
  have hl : lv_has ls 5 [(0, .ref (g 0)), (1, .int x)] := hl
  have i4 : ∀ w ∈ wsX40, w ∈ wsX4_isWhole := fun _ h => List.mem_cons_of_mem _ (List.mem_append_left _ (List.mem_append_left _ (List.mem_append_left _ (List.mem_append_right _ h))))
  have i3 : ∀ w ∈ wsX30, w ∈ wsX4_isWhole := fun _ h => List.mem_cons_of_mem _ (List.mem_append_left _ (List.mem_append_left _ (List.mem_append_right _ h)))
  have i1 : ∀ w ∈ wsX10, w ∈ wsX4_isWhole := fun _ h => List.mem_cons_of_mem _ (List.mem_append_left _ (List.mem_append_right _ h))
  refine lv_iload_n hx hb dX4_isWhole_0 rfl (lv_at hl 1 rfl) ?_
  refine xvS (As := [.int x]) (rest := []) S (kX4_checkPage hfl x) (va_cwS 1 hts gX4_isWhole_X4_checkPage rfl rfl rfl hdX4_checkPage.2 ⟨Nat.le_of_ble_eq_true rfl, Nat.le_of_ble_eq_true rfl⟩) hE hP hS (frs hS) rfl hl.1 rfl (Nat.le_of_ble_eq_true rfl) dX4_isWhole_1 ⟨Nat.le_of_ble_eq_true rfl, Nat.le_of_ble_eq_true rfl⟩ hxt hlk (Nat.le_of_ble_eq_true rfl) (Nat.le_of_ble_eq_true rfl) (fun X h => ⟨by simp only [thn, h], rfl⟩) (fun H locs n1 hP _ _ hS => ?_)
  obtain ⟨a, ha, ea⟩ := pg_at (ex_n n1)
  subst ea
  have hna : nat (nI a) = a := nat_nI (by omega)
  refine lv_aload_n hx hb dX4_isWhole_4 rfl (lv_at hl 0 rfl) ?_
  refine gw4_transactions S i4 hE hP (hts _ (List.mem_of_getElem? (i := 1) rfl)) dX4_isWhole_5 ?_
  refine klV (As := []) (rest := []) S (kX3_settled hg u N (by omega) hcn) (cwV 0 hts gX4_isWhole_X3_settled rfl rfl rfl hdX3_settled ⟨Nat.le_of_ble_eq_true rfl, Nat.le_of_ble_eq_true rfl⟩) rfl rfl 1 rfl rfl hE hP hS (frs hS) rfl hl.1 rfl (Nat.le_of_ble_eq_true rfl) dX4_isWhole_8 ⟨Nat.le_of_ble_eq_true rfl, Nat.le_of_ble_eq_true rfl⟩ (fun H locs hP _ _ hS => ?_)
  refine lv_lstore_n (lv' := [(2, .long (stl u N)), (0, .ref (g 0)), (1, .int (nI a))]) hx hb dX4_isWhole_11 rfl hl (by decide) rfl (fun ls hl => ?_)
  refine lv_iload_n hx hb dX4_isWhole_12 rfl (lv_at hl 2 rfl) ?_
  refine kiS (As := [.int (nI a)]) (rest := []) S (kX4_firstOf a) (va_cwS 1 hts gX4_isWhole_X4_firstOf rfl rfl rfl hdX4_firstOf.2 ⟨Nat.le_of_ble_eq_true rfl, Nat.le_of_ble_eq_true rfl⟩) rfl rfl hE hP hS (frs hS) rfl hl.1 rfl (Nat.le_of_ble_eq_true rfl) dX4_isWhole_13 ⟨Nat.le_of_ble_eq_true rfl, Nat.le_of_ble_eq_true rfl⟩ (fun H locs hP _ _ hS => ?_)
  refine lv_istore (lv' := [(4, .int (nI (a * 8))), (2, .long (stl u N)), (0, .ref (g 0)), (1, .int (nI a))]) hx hb dX4_isWhole_16 hl (by decide) rfl (fun ls hl => ?_)
  have loop18 : ∀ (n18 : Nat) (i : Nat), (hi1 : a * 8 ≤ i) → (hi : i ≤ a * 8 + 8) → (hw : ∀ j, a * 8 ≤ j → j < i → usP u j → sbP u j (stl u N)) → a * 8 + 8 - i < n18 → ∀ (H : Heap) (locs : List Loc), va_P D vwCl (wC K g u) H → va_S (fr L s.heap.size) s.heap H locs → ∀ (ls : Array Slot), lv_has ls 5 [(4, .int (nI i)), (2, .long (stl u N)), (0, .ref (g 0)), (1, .int (nI a))] → W p l e rmX4_isWhole s m ([.ref (g 0), .int (nI a)] : List Value).toArray below meth c H locs 1 6 (vx_MQ below (va_Qi (fun (r9 : Int32) (_ : Unit) => (ex (pgP (nI a)) xIA) = none ∧ r9 = fb (whP u (nat (nI a)) (stl u N))) (fun _ t => va_P D vwCl (wC K g u) t.heap) (fr L s.heap.size)) (xc D (wC K g u) (fr L s.heap.size) (ex (pgP (nI a)) xIA)) ([.ref (g 0), .int (nI a)] : List Value).toArray s rmX4_isWhole.cells rmX4_isWhole.slots (fr L s.heap.size)) (F0 m 18 ls []) := by
    intro n18
    induction n18 with
    | zero =>
      intro i hi1 hi hw hn18
      exact absurd hn18 (Nat.not_lt_zero _)
    | succ n18 ih18 =>
      intro i hi1 hi hw hn18 H locs hP hS ls hl
      refine lv_iload hx hb dX4_isWhole_18 (lv_at hl 0 rfl) ?_
      refine lv_iload_n hx hb dX4_isWhole_20 rfl (lv_at hl 3 rfl) ?_
      refine kiS (As := [.int (nI a)]) (rest := [.int (nI i)]) S (kX4_firstOf a) (va_cwS 1 hts gX4_isWhole_X4_firstOf rfl rfl rfl hdX4_firstOf.2 ⟨Nat.le_of_ble_eq_true rfl, Nat.le_of_ble_eq_true rfl⟩) rfl rfl hE hP hS (frs hS) rfl hl.1 rfl (Nat.le_of_ble_eq_true rfl) dX4_isWhole_21 ⟨Nat.le_of_ble_eq_true rfl, Nat.le_of_ble_eq_true rfl⟩ (fun H locs hP _ _ hS => ?_)
      refine lv_bipush (v := 8) hx hb dX4_isWhole_24 (by decide) ?_
      refine lv_iadd hx hb dX4_isWhole_26 ?_
      refine tpi (y := nI (a * 8 + 8)) (nI_add (a * 8) 8) ?_
      refine lv_icmp_ge (tgt := 60) hx hb dX4_isWhole_27 (by decide) (fun c1 => ?_) (fun c1 => ?_)
      · skip
        have yes : whP u (nat (nI a)) (stl u N) := by rw [hna]; exact fun j h1 h2 h3 => hw j h1 (by have := nge_i (a := i) (b := a * 8 + 8) (by omega) (by omega) c1; omega) h3
        refine lv_iconst (v := 1) hx hb dX4_isWhole_60 (by decide) ?_
        exact xez hx hb hr hlk hS hP rfl n1 (by first | exact f_fb no | exact t_fb yes) rfl (Nat.le_of_ble_eq_true rfl) (Nat.le_of_ble_eq_true rfl) dX4_isWhole_61
      · skip
        have hlt : i < a * 8 + 8 := nlt_i (a := i) (b := a * 8 + 8) (by omega) (by omega) c1
        refine lv_aload_n hx hb dX4_isWhole_30 rfl (lv_at hl 2 rfl) ?_
        refine gw4_slots S i4 hE hP (hts _ (List.mem_of_getElem? (i := 2) rfl)) dX4_isWhole_31 ?_
        refine lv_iload hx hb dX4_isWhole_34 (lv_at hl 0 rfl) ?_
        refine kiV (As := [.int (nI i)]) (rest := []) S (kX1_isUsed hg u i (by omega)) (cwV 1 hts gX4_isWhole_X1_isUsed rfl rfl rfl hdX1_isUsed ⟨Nat.le_of_ble_eq_true rfl, Nat.le_of_ble_eq_true rfl⟩) rfl rfl 2 rfl rfl hE hP hS (frs hS) rfl hl.1 rfl (Nat.le_of_ble_eq_true rfl) dX4_isWhole_36 ⟨Nat.le_of_ble_eq_true rfl, Nat.le_of_ble_eq_true rfl⟩ (fun H locs hP _ _ hS => ?_)
        refine bzeq (tgt := 54) hx hb dX4_isWhole_39 (by decide) (fun c2 => ?_) (fun c2 => ?_)
        · skip
          have ok : usP u i → sbP u i (stl u N) := fun k => absurd k c2
          refine lv_iinc (v := nI (i + 1)) (lv' := [(4, .int (nI (i + 1))), (2, .long (stl u N)), (0, .ref (g 0)), (1, .int (nI a))]) hx hb dX4_isWhole_54 hl (k := 0) rfl (nI_1 i) (by decide) rfl (fun ls hl => ?_)
          refine lv_goto (tgt := 18) hx hb dX4_isWhole_57 (by decide) ?_
          exact ih18 (i + 1) (by omega) (by omega) (fun j h1 h2 h3 => by
                      by_cases ej : j = i
                      · subst ej; exact ok h3
                      · exact hw j h1 (by omega) h3) (by omega) _ _ hP hS ls (lv_sub hl [0, 1, 2, 3] rfl)
        · skip
          have us : usP u i := c2
          refine lv_aload_n hx hb dX4_isWhole_42 rfl (lv_at hl 2 rfl) ?_
          refine lv_iload hx hb dX4_isWhole_43 (lv_at hl 0 rfl) ?_
          refine lv_lload_n hx hb dX4_isWhole_45 rfl (lv_at hl 1 rfl) ?_
          refine kiV (As := [.int (nI i), .long (stl u N)]) (rest := []) S (kX4_isSeenByAll hg u i (stl u N) (by omega)) (cwV 2 hts gX4_isWhole_X4_isSeenByAll rfl rfl rfl hdX4_isSeenByAll ⟨Nat.le_of_ble_eq_true rfl, Nat.le_of_ble_eq_true rfl⟩) rfl rfl 0 rfl rfl hE hP hS (frs hS) rfl hl.1 rfl (Nat.le_of_ble_eq_true rfl) dX4_isWhole_46 ⟨Nat.le_of_ble_eq_true rfl, Nat.le_of_ble_eq_true rfl⟩ (fun H locs hP _ _ hS => ?_)
          refine bzne (tgt := 54) hx hb dX4_isWhole_49 (by decide) (fun c3 => ?_) (fun c3 => ?_)
          · skip
            have ok : usP u i → sbP u i (stl u N) := fun _ => c3
            refine lv_iinc (v := nI (i + 1)) (lv' := [(4, .int (nI (i + 1))), (2, .long (stl u N)), (0, .ref (g 0)), (1, .int (nI a))]) hx hb dX4_isWhole_54 hl (k := 0) rfl (nI_1 i) (by decide) rfl (fun ls hl => ?_)
            refine lv_goto (tgt := 18) hx hb dX4_isWhole_57 (by decide) ?_
            exact ih18 (i + 1) (by omega) (by omega) (fun j h1 h2 h3 => by
                      by_cases ej : j = i
                      · subst ej; exact ok h3
                      · exact hw j h1 (by omega) h3) (by omega) _ _ hP hS ls (lv_sub hl [0, 1, 2, 3] rfl)
          · skip
            have no : ¬ whP u (nat (nI a)) (stl u N) := by rw [hna]; exact fun k => c3 (k i hi1 hlt us)
            refine lv_iconst (v := 0) hx hb dX4_isWhole_52 (by decide) ?_
            exact xez hx hb hr hlk hS hP rfl n1 (by first | exact f_fb no | exact t_fb yes) rfl (Nat.le_of_ble_eq_true rfl) (Nat.le_of_ble_eq_true rfl) dX4_isWhole_53
  exact loop18 _ (a * 8) (by omega) (by omega) (fun j h1 h2 => absurd h2 (by omega)) (Nat.lt_succ_self _) _ _ hP hS ls (lv_sub hl [0, 1, 2, 3] rfl)
def rmX4_slot : Room := { frames := 7, cells := 2, slots := 12, locals := 110 }
theorem hdX4_slot : yX4_slot.cls = RX4 ∧ yX4_slot.cls ≠ "java/lang/invoke/MethodHandle" ∧ yX4_slot.cls ≠ "java/lang/invoke/VarHandle" ∧ (parseMethodDescriptor yX4_slot.desc).map (fun d => d.parameters.length) = some 2 := by decide +kernel
set_option maxHeartbeats 4000000 in
set_option maxRecDepth 100000 in
theorem kX4_slot {l : Launch} {D : va_G} {K : Nat → ClassId} {L : Nat → Prop} {g : Nat → Nat} (hg : gd L g 29) (hfl : l.stackTraces = false) (u : CU) (x y : Int32) : XI l yX4_slot wsX4_slot rmX4_slot D K L [.ref (g 0), .int x, .int y] (wC K g u) (wC K g u) (thn (ex (pgP x) xIA) (ex (slP y) xIA)) (slv u (nat x * 8 + nat y)) := by
  refine XI.of (cc := cX4_slot) (maxL := 5) (ret := (some .int)) (by decide +kernel) rfl (Nat.le_of_ble_eq_true rfl) ?_
  intro p e s m below meth c ls hen hxt hP
  obtain ⟨hx, hb, hr, hts, hown, hlk, hml, hnm, hE, hl⟩ := hen
  have S : CallFix p m c cX4_slot 5 s _ wsX4_slot RX4 := ⟨hx, hb, hml, hown, hts⟩
  have hS : va_S (fr L s.heap.size) s.heap s.heap [] := va_S.rf
  have hl : lv_has ls 5 [(0, .ref (g 0)), (1, .int x), (2, .int y)] := hl
  have i4 : ∀ w ∈ wsX40, w ∈ wsX4_slot := fun _ h => List.mem_cons_of_mem _ (List.mem_append_left _ (List.mem_append_left _ (List.mem_append_right _ h)))
  have i1 : ∀ w ∈ wsX10, w ∈ wsX4_slot := fun _ h => List.mem_cons_of_mem _ (List.mem_append_left _ (List.mem_append_right _ h))
  refine lv_iload_n hx hb dX4_slot_0 rfl (lv_at hl 1 rfl) ?_
  refine xvS (As := [.int x]) (rest := []) S (kX4_checkPage hfl x) (va_cwS 1 hts gX4_slot_X4_checkPage rfl rfl rfl hdX4_checkPage.2 ⟨Nat.le_of_ble_eq_true rfl, Nat.le_of_ble_eq_true rfl⟩) hE hP hS (frs hS) rfl hl.1 rfl (Nat.le_of_ble_eq_true rfl) dX4_slot_1 ⟨Nat.le_of_ble_eq_true rfl, Nat.le_of_ble_eq_true rfl⟩ hxt hlk (Nat.le_of_ble_eq_true rfl) (Nat.le_of_ble_eq_true rfl) (fun X h => ⟨by simp only [thn, h], rfl⟩) (fun H locs n1 hP _ _ hS => ?_)
  obtain ⟨a, ha, ea⟩ := pg_at (ex_n n1)
  subst ea
  refine lv_iload_n hx hb dX4_slot_4 rfl (lv_at hl 2 rfl) ?_
  refine xvS (As := [.int y]) (rest := []) S (kX4_checkSlot hfl y) (va_cwS 1 hts gX4_slot_X4_checkSlot rfl rfl rfl hdX4_checkSlot.2 ⟨Nat.le_of_ble_eq_true rfl, Nat.le_of_ble_eq_true rfl⟩) hE hP hS (frs hS) rfl hl.1 rfl (Nat.le_of_ble_eq_true rfl) dX4_slot_5 ⟨Nat.le_of_ble_eq_true rfl, Nat.le_of_ble_eq_true rfl⟩ hxt hlk (Nat.le_of_ble_eq_true rfl) (Nat.le_of_ble_eq_true rfl) (fun X h => ⟨by simp only [thn, n1, h], rfl⟩) (fun H locs n5 hP _ _ hS => ?_)
  obtain ⟨b, hb9, eb⟩ := sl_at (ex_n n5)
  subst eb
  have hq : a * 8 + b < 32 := by omega
  have hsl : slv u (nat (nI a) * 8 + nat (nI b)) = slv u (a * 8 + b) := by rw [nat_nI (by omega), nat_nI (by omega)]
  refine lv_iload_n hx hb dX4_slot_8 rfl (lv_at hl 1 rfl) ?_
  refine kiS (As := [.int (nI a)]) (rest := []) S (kX4_firstOf a) (va_cwS 1 hts gX4_slot_X4_firstOf rfl rfl rfl hdX4_firstOf.2 ⟨Nat.le_of_ble_eq_true rfl, Nat.le_of_ble_eq_true rfl⟩) rfl rfl hE hP hS (frs hS) rfl hl.1 rfl (Nat.le_of_ble_eq_true rfl) dX4_slot_9 ⟨Nat.le_of_ble_eq_true rfl, Nat.le_of_ble_eq_true rfl⟩ (fun H locs hP _ _ hS => ?_)
  refine lv_iload_n hx hb dX4_slot_12 rfl (lv_at hl 2 rfl) ?_
  refine lv_iadd hx hb dX4_slot_13 ?_
  refine tpi (y := nI (a * 8 + b)) (nI_add (a * 8) b) ?_
  refine lv_istore_n (lv' := [(3, .int (nI (a * 8 + b))), (0, .ref (g 0)), (1, .int (nI a)), (2, .int (nI b))]) hx hb dX4_slot_14 rfl hl (by decide) rfl (fun ls hl => ?_)
  refine lv_aload_n hx hb dX4_slot_15 rfl (lv_at hl 1 rfl) ?_
  refine gw4_slots S i4 hE hP (hts _ (List.mem_of_getElem? (i := 1) rfl)) dX4_slot_16 ?_
  refine lv_iload_n hx hb dX4_slot_19 rfl (lv_at hl 0 rfl) ?_
  refine kiV (As := [.int (nI (a * 8 + b))]) (rest := []) S (kX1_isUsed hg u (a * 8 + b) (by omega)) (cwV 1 hts gX4_slot_X1_isUsed rfl rfl rfl hdX1_isUsed ⟨Nat.le_of_ble_eq_true rfl, Nat.le_of_ble_eq_true rfl⟩) rfl rfl 2 rfl rfl hE hP hS (frs hS) rfl hl.1 rfl (Nat.le_of_ble_eq_true rfl) dX4_slot_20 ⟨Nat.le_of_ble_eq_true rfl, Nat.le_of_ble_eq_true rfl⟩ (fun H locs hP _ _ hS => ?_)
  refine bzne (tgt := 28) hx hb dX4_slot_23 (by decide) (fun c1 => ?_) (fun c1 => ?_)
  · skip
    have e0 : slv u (a * 8 + b) = sl3 u (a * 8 + b) (sl2 u (a * 8 + b) (sl1 u (a * 8 + b))) := by unfold slv; exact if_pos c1
    refine lv_aload_n hx hb dX4_slot_28 rfl (lv_at hl 1 rfl) ?_
    refine gw4_slots S i4 hE hP (hts _ (List.mem_of_getElem? (i := 1) rfl)) dX4_slot_29 ?_
    refine gw1_keys S i1 hE hP (hts _ (List.mem_of_getElem? (i := 2) rfl)) dX4_slot_32 ?_
    refine lv_iload_n hx hb dX4_slot_35 rfl (lv_at hl 0 rfl) ?_
    refine lC_k S hE hP (f := c_k u) rfl (j := (a * 8 + b)) (by omega) rfl dX4_slot_36 ?_
    refine lv_istore (lv' := [(4, .int (c_k u (a * 8 + b))), (3, .int (nI (a * 8 + b))), (0, .ref (g 0)), (1, .int (nI a)), (2, .int (nI b))]) hx hb dX4_slot_37 hl (by decide) rfl (fun ls hl => ?_)
    refine lv_aload_n hx hb dX4_slot_39 rfl (lv_at hl 2 rfl) ?_
    refine gw4_slots S i4 hE hP (hts _ (List.mem_of_getElem? (i := 1) rfl)) dX4_slot_40 ?_
    refine gw1_frozen S i1 hE hP (hts _ (List.mem_of_getElem? (i := 3) rfl)) dX4_slot_43 ?_
    refine lv_iload_n hx hb dX4_slot_46 rfl (lv_at hl 1 rfl) ?_
    refine lC_f S hE hP (f := c_f u) rfl (j := (a * 8 + b)) (by omega) rfl dX4_slot_47 ?_
    refine lv_if_eq (tgt := 54) hx hb dX4_slot_48 (by decide) (fun c2 => ?_) (fun c2 => ?_)
    · skip
      have e1 : sl1 u (a * 8 + b) = c_k u (a * 8 + b) := by unfold sl1; exact if_pos c2
      refine lv_aload_n hx hb dX4_slot_54 rfl (lv_at hl 2 rfl) ?_
      refine gw4_slots S i4 hE hP (hts _ (List.mem_of_getElem? (i := 1) rfl)) dX4_slot_55 ?_
      refine lv_iload_n hx hb dX4_slot_58 rfl (lv_at hl 1 rfl) ?_
      refine kiV (As := [.int (nI (a * 8 + b))]) (rest := []) S (kX1_hasDeath hg u (a * 8 + b) (by omega)) (cwV 1 hts gX4_slot_X1_hasDeath rfl rfl rfl hdX1_hasDeath ⟨Nat.le_of_ble_eq_true rfl, Nat.le_of_ble_eq_true rfl⟩) rfl rfl 2 rfl rfl hE hP hS (frs hS) rfl hl.1 rfl (Nat.le_of_ble_eq_true rfl) dX4_slot_59 ⟨Nat.le_of_ble_eq_true rfl, Nat.le_of_ble_eq_true rfl⟩ (fun H locs hP _ _ hS => ?_)
      refine bzeq (tgt := 68) hx hb dX4_slot_62 (by decide) (fun c3 => ?_) (fun c3 => ?_)
      · skip
        have e2 : ∀ z, sl2 u (a * 8 + b) z = z := fun z => by unfold sl2; exact if_neg c3
        refine lv_aload_n hx hb dX4_slot_68 rfl (lv_at hl 2 rfl) ?_
        refine gw4_slots S i4 hE hP (hts _ (List.mem_of_getElem? (i := 1) rfl)) dX4_slot_69 ?_
        refine gw1_nexts S i1 hE hP (hts _ (List.mem_of_getElem? (i := 4) rfl)) dX4_slot_72 ?_
        refine lv_iload_n hx hb dX4_slot_75 rfl (lv_at hl 1 rfl) ?_
        refine lC_n S hE hP (f := c_n u) rfl (j := (a * 8 + b)) (by omega) rfl dX4_slot_76 ?_
        refine kiS (As := [.int (c_n u (a * 8 + b))]) (rest := []) S (kX4_isPlace (c_n u (a * 8 + b))) (va_cwS 1 hts gX4_slot_X4_isPlace rfl rfl rfl hdX4_isPlace.2 ⟨Nat.le_of_ble_eq_true rfl, Nat.le_of_ble_eq_true rfl⟩) rfl rfl hE hP hS (frs hS) rfl hl.1 rfl (Nat.le_of_ble_eq_true rfl) dX4_slot_77 ⟨Nat.le_of_ble_eq_true rfl, Nat.le_of_ble_eq_true rfl⟩ (fun H locs hP _ _ hS => ?_)
        refine bzeq (tgt := 105) hx hb dX4_slot_80 (by decide) (fun c4 => ?_) (fun c4 => ?_)
        · skip
          have e3 : ∀ z, sl3 u (a * 8 + b) z = z := fun z => by unfold sl3; exact if_neg c4
          refine lv_iload hx hb dX4_slot_105 (lv_at hl 0 rfl) ?_
          exact xei hx hb hr hlk hS hP rfl (by simp only [thn, n1, n5]) (by rw [hsl, e0, e3, e2, e1]) (Nat.le_of_ble_eq_true rfl) (Nat.le_of_ble_eq_true rfl) dX4_slot_107
        · skip
          have e3 : ∀ z, sl3 u (a * 8 + b) z = z + 100 * (1 + nI (nat (c_n u (a * 8 + b)) % 8)) := fun z => by unfold sl3; exact if_pos c4
          obtain ⟨j, hj, ej⟩ := pl_at c4
          refine lv_iload hx hb dX4_slot_83 (lv_at hl 0 rfl) ?_
          refine lv_bipush (v := 100) hx hb dX4_slot_85 (by decide) ?_
          refine lv_iconst (v := 1) hx hb dX4_slot_87 (by decide) ?_
          refine lv_aload_n hx hb dX4_slot_88 rfl (lv_at hl 2 rfl) ?_
          refine gw4_slots S i4 hE hP (hts _ (List.mem_of_getElem? (i := 1) rfl)) dX4_slot_89 ?_
          refine gw1_nexts S i1 hE hP (hts _ (List.mem_of_getElem? (i := 4) rfl)) dX4_slot_92 ?_
          refine lv_iload_n hx hb dX4_slot_95 rfl (lv_at hl 1 rfl) ?_
          refine lC_n S hE hP (f := c_n u) rfl (j := (a * 8 + b)) (by omega) rfl dX4_slot_96 ?_
          refine tpi (y := nI j) ej ?_
          refine kiS (As := [.int (nI j)]) (rest := [.int 1, .int 100, .int (c_k u (a * 8 + b))]) S (kX4_slotOf j (by omega)) (va_cwS 1 hts gX4_slot_X4_slotOf rfl rfl rfl hdX4_slotOf.2 ⟨Nat.le_of_ble_eq_true rfl, Nat.le_of_ble_eq_true rfl⟩) rfl rfl hE hP hS (frs hS) rfl hl.1 rfl (Nat.le_of_ble_eq_true rfl) dX4_slot_97 ⟨Nat.le_of_ble_eq_true rfl, Nat.le_of_ble_eq_true rfl⟩ (fun H locs hP _ _ hS => ?_)
          refine lv_iadd hx hb dX4_slot_100 ?_
          refine lv_imul hx hb dX4_slot_101 ?_
          have ej2 : nat (c_n u (a * 8 + b)) = j := by rw [ej]; exact nat_nI (by omega)
          rw [ej2] at e3
          refine lv_iadd hx hb dX4_slot_102 ?_
          refine lv_istore (lv' := [(4, .int ((c_k u (a * 8 + b)) + (100 * (1 + (nI (j % 8)))))), (3, .int (nI (a * 8 + b))), (0, .ref (g 0)), (1, .int (nI a)), (2, .int (nI b))]) hx hb dX4_slot_103 hl (by decide) rfl (fun ls hl => ?_)
          refine lv_iload hx hb dX4_slot_105 (lv_at hl 0 rfl) ?_
          exact xei hx hb hr hlk hS hP rfl (by simp only [thn, n1, n5]) (by rw [hsl, e0, e3, e2, e1]) (Nat.le_of_ble_eq_true rfl) (Nat.le_of_ble_eq_true rfl) dX4_slot_107
      · skip
        have e2 : ∀ z, sl2 u (a * 8 + b) z = z + 20 := fun z => by unfold sl2; exact if_pos c3
        refine lv_iinc (v := c_k u (a * 8 + b) + 20) (lv' := [(4, .int (c_k u (a * 8 + b) + 20)), (3, .int (nI (a * 8 + b))), (0, .ref (g 0)), (1, .int (nI a)), (2, .int (nI b))]) hx hb dX4_slot_65 hl (k := 0) rfl rfl (by decide) rfl (fun ls hl => ?_)
        refine lv_aload_n hx hb dX4_slot_68 rfl (lv_at hl 2 rfl) ?_
        refine gw4_slots S i4 hE hP (hts _ (List.mem_of_getElem? (i := 1) rfl)) dX4_slot_69 ?_
        refine gw1_nexts S i1 hE hP (hts _ (List.mem_of_getElem? (i := 4) rfl)) dX4_slot_72 ?_
        refine lv_iload_n hx hb dX4_slot_75 rfl (lv_at hl 1 rfl) ?_
        refine lC_n S hE hP (f := c_n u) rfl (j := (a * 8 + b)) (by omega) rfl dX4_slot_76 ?_
        refine kiS (As := [.int (c_n u (a * 8 + b))]) (rest := []) S (kX4_isPlace (c_n u (a * 8 + b))) (va_cwS 1 hts gX4_slot_X4_isPlace rfl rfl rfl hdX4_isPlace.2 ⟨Nat.le_of_ble_eq_true rfl, Nat.le_of_ble_eq_true rfl⟩) rfl rfl hE hP hS (frs hS) rfl hl.1 rfl (Nat.le_of_ble_eq_true rfl) dX4_slot_77 ⟨Nat.le_of_ble_eq_true rfl, Nat.le_of_ble_eq_true rfl⟩ (fun H locs hP _ _ hS => ?_)
        refine bzeq (tgt := 105) hx hb dX4_slot_80 (by decide) (fun c5 => ?_) (fun c5 => ?_)
        · skip
          have e3 : ∀ z, sl3 u (a * 8 + b) z = z := fun z => by unfold sl3; exact if_neg c5
          refine lv_iload hx hb dX4_slot_105 (lv_at hl 0 rfl) ?_
          exact xei hx hb hr hlk hS hP rfl (by simp only [thn, n1, n5]) (by rw [hsl, e0, e3, e2, e1]) (Nat.le_of_ble_eq_true rfl) (Nat.le_of_ble_eq_true rfl) dX4_slot_107
        · skip
          have e3 : ∀ z, sl3 u (a * 8 + b) z = z + 100 * (1 + nI (nat (c_n u (a * 8 + b)) % 8)) := fun z => by unfold sl3; exact if_pos c5
          obtain ⟨j, hj, ej⟩ := pl_at c5
          refine lv_iload hx hb dX4_slot_83 (lv_at hl 0 rfl) ?_
          refine lv_bipush (v := 100) hx hb dX4_slot_85 (by decide) ?_
          refine lv_iconst (v := 1) hx hb dX4_slot_87 (by decide) ?_
          refine lv_aload_n hx hb dX4_slot_88 rfl (lv_at hl 2 rfl) ?_
          refine gw4_slots S i4 hE hP (hts _ (List.mem_of_getElem? (i := 1) rfl)) dX4_slot_89 ?_
          refine gw1_nexts S i1 hE hP (hts _ (List.mem_of_getElem? (i := 4) rfl)) dX4_slot_92 ?_
          refine lv_iload_n hx hb dX4_slot_95 rfl (lv_at hl 1 rfl) ?_
          refine lC_n S hE hP (f := c_n u) rfl (j := (a * 8 + b)) (by omega) rfl dX4_slot_96 ?_
          refine tpi (y := nI j) ej ?_
          refine kiS (As := [.int (nI j)]) (rest := [.int 1, .int 100, .int (c_k u (a * 8 + b) + 20)]) S (kX4_slotOf j (by omega)) (va_cwS 1 hts gX4_slot_X4_slotOf rfl rfl rfl hdX4_slotOf.2 ⟨Nat.le_of_ble_eq_true rfl, Nat.le_of_ble_eq_true rfl⟩) rfl rfl hE hP hS (frs hS) rfl hl.1 rfl (Nat.le_of_ble_eq_true rfl) dX4_slot_97 ⟨Nat.le_of_ble_eq_true rfl, Nat.le_of_ble_eq_true rfl⟩ (fun H locs hP _ _ hS => ?_)
          refine lv_iadd hx hb dX4_slot_100 ?_
          refine lv_imul hx hb dX4_slot_101 ?_
          have ej2 : nat (c_n u (a * 8 + b)) = j := by rw [ej]; exact nat_nI (by omega)
          rw [ej2] at e3
          refine lv_iadd hx hb dX4_slot_102 ?_
          refine lv_istore (lv' := [(4, .int ((c_k u (a * 8 + b) + 20) + (100 * (1 + (nI (j % 8)))))), (3, .int (nI (a * 8 + b))), (0, .ref (g 0)), (1, .int (nI a)), (2, .int (nI b))]) hx hb dX4_slot_103 hl (by decide) rfl (fun ls hl => ?_)
          refine lv_iload hx hb dX4_slot_105 (lv_at hl 0 rfl) ?_
          exact xei hx hb hr hlk hS hP rfl (by simp only [thn, n1, n5]) (by rw [hsl, e0, e3, e2, e1]) (Nat.le_of_ble_eq_true rfl) (Nat.le_of_ble_eq_true rfl) dX4_slot_107
    · skip
      have e1 : sl1 u (a * 8 + b) = c_k u (a * 8 + b) + 10 := by unfold sl1; exact if_neg c2
      refine lv_iinc (v := c_k u (a * 8 + b) + 10) (lv' := [(4, .int (c_k u (a * 8 + b) + 10)), (3, .int (nI (a * 8 + b))), (0, .ref (g 0)), (1, .int (nI a)), (2, .int (nI b))]) hx hb dX4_slot_51 hl (k := 0) rfl rfl (by decide) rfl (fun ls hl => ?_)
      refine lv_aload_n hx hb dX4_slot_54 rfl (lv_at hl 2 rfl) ?_
      refine gw4_slots S i4 hE hP (hts _ (List.mem_of_getElem? (i := 1) rfl)) dX4_slot_55 ?_
      refine lv_iload_n hx hb dX4_slot_58 rfl (lv_at hl 1 rfl) ?_
      refine kiV (As := [.int (nI (a * 8 + b))]) (rest := []) S (kX1_hasDeath hg u (a * 8 + b) (by omega)) (cwV 1 hts gX4_slot_X1_hasDeath rfl rfl rfl hdX1_hasDeath ⟨Nat.le_of_ble_eq_true rfl, Nat.le_of_ble_eq_true rfl⟩) rfl rfl 2 rfl rfl hE hP hS (frs hS) rfl hl.1 rfl (Nat.le_of_ble_eq_true rfl) dX4_slot_59 ⟨Nat.le_of_ble_eq_true rfl, Nat.le_of_ble_eq_true rfl⟩ (fun H locs hP _ _ hS => ?_)
      refine bzeq (tgt := 68) hx hb dX4_slot_62 (by decide) (fun c6 => ?_) (fun c6 => ?_)
      · skip
        have e2 : ∀ z, sl2 u (a * 8 + b) z = z := fun z => by unfold sl2; exact if_neg c6
        refine lv_aload_n hx hb dX4_slot_68 rfl (lv_at hl 2 rfl) ?_
        refine gw4_slots S i4 hE hP (hts _ (List.mem_of_getElem? (i := 1) rfl)) dX4_slot_69 ?_
        refine gw1_nexts S i1 hE hP (hts _ (List.mem_of_getElem? (i := 4) rfl)) dX4_slot_72 ?_
        refine lv_iload_n hx hb dX4_slot_75 rfl (lv_at hl 1 rfl) ?_
        refine lC_n S hE hP (f := c_n u) rfl (j := (a * 8 + b)) (by omega) rfl dX4_slot_76 ?_
        refine kiS (As := [.int (c_n u (a * 8 + b))]) (rest := []) S (kX4_isPlace (c_n u (a * 8 + b))) (va_cwS 1 hts gX4_slot_X4_isPlace rfl rfl rfl hdX4_isPlace.2 ⟨Nat.le_of_ble_eq_true rfl, Nat.le_of_ble_eq_true rfl⟩) rfl rfl hE hP hS (frs hS) rfl hl.1 rfl (Nat.le_of_ble_eq_true rfl) dX4_slot_77 ⟨Nat.le_of_ble_eq_true rfl, Nat.le_of_ble_eq_true rfl⟩ (fun H locs hP _ _ hS => ?_)
        refine bzeq (tgt := 105) hx hb dX4_slot_80 (by decide) (fun c7 => ?_) (fun c7 => ?_)
        · skip
          have e3 : ∀ z, sl3 u (a * 8 + b) z = z := fun z => by unfold sl3; exact if_neg c7
          refine lv_iload hx hb dX4_slot_105 (lv_at hl 0 rfl) ?_
          exact xei hx hb hr hlk hS hP rfl (by simp only [thn, n1, n5]) (by rw [hsl, e0, e3, e2, e1]) (Nat.le_of_ble_eq_true rfl) (Nat.le_of_ble_eq_true rfl) dX4_slot_107
        · skip
          have e3 : ∀ z, sl3 u (a * 8 + b) z = z + 100 * (1 + nI (nat (c_n u (a * 8 + b)) % 8)) := fun z => by unfold sl3; exact if_pos c7
          obtain ⟨j, hj, ej⟩ := pl_at c7
          refine lv_iload hx hb dX4_slot_83 (lv_at hl 0 rfl) ?_
          refine lv_bipush (v := 100) hx hb dX4_slot_85 (by decide) ?_
          refine lv_iconst (v := 1) hx hb dX4_slot_87 (by decide) ?_
          refine lv_aload_n hx hb dX4_slot_88 rfl (lv_at hl 2 rfl) ?_
          refine gw4_slots S i4 hE hP (hts _ (List.mem_of_getElem? (i := 1) rfl)) dX4_slot_89 ?_
          refine gw1_nexts S i1 hE hP (hts _ (List.mem_of_getElem? (i := 4) rfl)) dX4_slot_92 ?_
          refine lv_iload_n hx hb dX4_slot_95 rfl (lv_at hl 1 rfl) ?_
          refine lC_n S hE hP (f := c_n u) rfl (j := (a * 8 + b)) (by omega) rfl dX4_slot_96 ?_
          refine tpi (y := nI j) ej ?_
          refine kiS (As := [.int (nI j)]) (rest := [.int 1, .int 100, .int (c_k u (a * 8 + b) + 10)]) S (kX4_slotOf j (by omega)) (va_cwS 1 hts gX4_slot_X4_slotOf rfl rfl rfl hdX4_slotOf.2 ⟨Nat.le_of_ble_eq_true rfl, Nat.le_of_ble_eq_true rfl⟩) rfl rfl hE hP hS (frs hS) rfl hl.1 rfl (Nat.le_of_ble_eq_true rfl) dX4_slot_97 ⟨Nat.le_of_ble_eq_true rfl, Nat.le_of_ble_eq_true rfl⟩ (fun H locs hP _ _ hS => ?_)
          refine lv_iadd hx hb dX4_slot_100 ?_
          refine lv_imul hx hb dX4_slot_101 ?_
          have ej2 : nat (c_n u (a * 8 + b)) = j := by rw [ej]; exact nat_nI (by omega)
          rw [ej2] at e3
          refine lv_iadd hx hb dX4_slot_102 ?_
          refine lv_istore (lv' := [(4, .int ((c_k u (a * 8 + b) + 10) + (100 * (1 + (nI (j % 8)))))), (3, .int (nI (a * 8 + b))), (0, .ref (g 0)), (1, .int (nI a)), (2, .int (nI b))]) hx hb dX4_slot_103 hl (by decide) rfl (fun ls hl => ?_)
          refine lv_iload hx hb dX4_slot_105 (lv_at hl 0 rfl) ?_
          exact xei hx hb hr hlk hS hP rfl (by simp only [thn, n1, n5]) (by rw [hsl, e0, e3, e2, e1]) (Nat.le_of_ble_eq_true rfl) (Nat.le_of_ble_eq_true rfl) dX4_slot_107
      · skip
        have e2 : ∀ z, sl2 u (a * 8 + b) z = z + 20 := fun z => by unfold sl2; exact if_pos c6
        refine lv_iinc (v := c_k u (a * 8 + b) + 10 + 20) (lv' := [(4, .int (c_k u (a * 8 + b) + 10 + 20)), (3, .int (nI (a * 8 + b))), (0, .ref (g 0)), (1, .int (nI a)), (2, .int (nI b))]) hx hb dX4_slot_65 hl (k := 0) rfl rfl (by decide) rfl (fun ls hl => ?_)
        refine lv_aload_n hx hb dX4_slot_68 rfl (lv_at hl 2 rfl) ?_
        refine gw4_slots S i4 hE hP (hts _ (List.mem_of_getElem? (i := 1) rfl)) dX4_slot_69 ?_
        refine gw1_nexts S i1 hE hP (hts _ (List.mem_of_getElem? (i := 4) rfl)) dX4_slot_72 ?_
        refine lv_iload_n hx hb dX4_slot_75 rfl (lv_at hl 1 rfl) ?_
        refine lC_n S hE hP (f := c_n u) rfl (j := (a * 8 + b)) (by omega) rfl dX4_slot_76 ?_
        refine kiS (As := [.int (c_n u (a * 8 + b))]) (rest := []) S (kX4_isPlace (c_n u (a * 8 + b))) (va_cwS 1 hts gX4_slot_X4_isPlace rfl rfl rfl hdX4_isPlace.2 ⟨Nat.le_of_ble_eq_true rfl, Nat.le_of_ble_eq_true rfl⟩) rfl rfl hE hP hS (frs hS) rfl hl.1 rfl (Nat.le_of_ble_eq_true rfl) dX4_slot_77 ⟨Nat.le_of_ble_eq_true rfl, Nat.le_of_ble_eq_true rfl⟩ (fun H locs hP _ _ hS => ?_)
        refine bzeq (tgt := 105) hx hb dX4_slot_80 (by decide) (fun c8 => ?_) (fun c8 => ?_)
        · skip
          have e3 : ∀ z, sl3 u (a * 8 + b) z = z := fun z => by unfold sl3; exact if_neg c8
          refine lv_iload hx hb dX4_slot_105 (lv_at hl 0 rfl) ?_
          exact xei hx hb hr hlk hS hP rfl (by simp only [thn, n1, n5]) (by rw [hsl, e0, e3, e2, e1]) (Nat.le_of_ble_eq_true rfl) (Nat.le_of_ble_eq_true rfl) dX4_slot_107
        · skip
          have e3 : ∀ z, sl3 u (a * 8 + b) z = z + 100 * (1 + nI (nat (c_n u (a * 8 + b)) % 8)) := fun z => by unfold sl3; exact if_pos c8
          obtain ⟨j, hj, ej⟩ := pl_at c8
          refine lv_iload hx hb dX4_slot_83 (lv_at hl 0 rfl) ?_
          refine lv_bipush (v := 100) hx hb dX4_slot_85 (by decide) ?_
          refine lv_iconst (v := 1) hx hb dX4_slot_87 (by decide) ?_
          refine lv_aload_n hx hb dX4_slot_88 rfl (lv_at hl 2 rfl) ?_
          refine gw4_slots S i4 hE hP (hts _ (List.mem_of_getElem? (i := 1) rfl)) dX4_slot_89 ?_
          refine gw1_nexts S i1 hE hP (hts _ (List.mem_of_getElem? (i := 4) rfl)) dX4_slot_92 ?_
          refine lv_iload_n hx hb dX4_slot_95 rfl (lv_at hl 1 rfl) ?_
          refine lC_n S hE hP (f := c_n u) rfl (j := (a * 8 + b)) (by omega) rfl dX4_slot_96 ?_
          refine tpi (y := nI j) ej ?_
          refine kiS (As := [.int (nI j)]) (rest := [.int 1, .int 100, .int (c_k u (a * 8 + b) + 10 + 20)]) S (kX4_slotOf j (by omega)) (va_cwS 1 hts gX4_slot_X4_slotOf rfl rfl rfl hdX4_slotOf.2 ⟨Nat.le_of_ble_eq_true rfl, Nat.le_of_ble_eq_true rfl⟩) rfl rfl hE hP hS (frs hS) rfl hl.1 rfl (Nat.le_of_ble_eq_true rfl) dX4_slot_97 ⟨Nat.le_of_ble_eq_true rfl, Nat.le_of_ble_eq_true rfl⟩ (fun H locs hP _ _ hS => ?_)
          refine lv_iadd hx hb dX4_slot_100 ?_
          refine lv_imul hx hb dX4_slot_101 ?_
          have ej2 : nat (c_n u (a * 8 + b)) = j := by rw [ej]; exact nat_nI (by omega)
          rw [ej2] at e3
          refine lv_iadd hx hb dX4_slot_102 ?_
          refine lv_istore (lv' := [(4, .int ((c_k u (a * 8 + b) + 10 + 20) + (100 * (1 + (nI (j % 8)))))), (3, .int (nI (a * 8 + b))), (0, .ref (g 0)), (1, .int (nI a)), (2, .int (nI b))]) hx hb dX4_slot_103 hl (by decide) rfl (fun ls hl => ?_)
          refine lv_iload hx hb dX4_slot_105 (lv_at hl 0 rfl) ?_
          exact xei hx hb hr hlk hS hP rfl (by simp only [thn, n1, n5]) (by rw [hsl, e0, e3, e2, e1]) (Nat.le_of_ble_eq_true rfl) (Nat.le_of_ble_eq_true rfl) dX4_slot_107
  · skip
    have e0 : slv u (a * 8 + b) = -1 := by unfold slv; exact if_neg c1
    refine lv_iconst (v := (-1)) hx hb dX4_slot_26 (by decide) ?_
    exact xei hx hb hr hlk hS hP rfl (by simp only [thn, n1, n5]) (by rw [hsl, e0]) (Nat.le_of_ble_eq_true rfl) (Nat.le_of_ble_eq_true rfl) dX4_slot_27
def rmX4_entries : Room := { frames := 7, cells := 1, slots := 6, locals := 110 }
theorem hdX4_entries : yX4_entries.cls = RX4 ∧ yX4_entries.cls ≠ "java/lang/invoke/MethodHandle" ∧ yX4_entries.cls ≠ "java/lang/invoke/VarHandle" ∧ (parseMethodDescriptor yX4_entries.desc).map (fun d => d.parameters.length) = some 1 := by decide +kernel
set_option maxHeartbeats 4000000 in
set_option maxRecDepth 100000 in
theorem kX4_entries {l : Launch} {D : va_G} {K : Nat → ClassId} {L : Nat → Prop} {g : Nat → Nat} (hg : gd L g 29) (hfl : l.stackTraces = false) (u : CU) (x : Int32) : XI l yX4_entries wsX4_entries rmX4_entries D K L [.ref (g 0), .int x] (wC K g u) (wC K g u) (ex (kyP x) xIA) (c_ct u (nat x)) := by
  refine XI.of (cc := cX4_entries) (maxL := 2) (ret := (some .int)) (by decide +kernel) rfl (Nat.le_of_ble_eq_true rfl) ?_
  intro p e s m below meth c ls hen hxt hP
  obtain ⟨hx, hb, hr, hts, hown, hlk, hml, hnm, hE, hl⟩ := hen
  have S : CallFix p m c cX4_entries 2 s _ wsX4_entries RX4 := ⟨hx, hb, hml, hown, hts⟩
  have hS : va_S (fr L s.heap.size) s.heap s.heap [] := va_S.rf
  have hl : lv_has ls 2 [(0, .ref (g 0)), (1, .int x)] := hl
  have i4 : ∀ w ∈ wsX40, w ∈ wsX4_entries := fun _ h => List.mem_cons_of_mem _ (List.mem_append_left _ (List.mem_append_left _ (List.mem_append_right _ h)))
  have i0 : ∀ w ∈ wsX00, w ∈ wsX4_entries := fun _ h => List.mem_cons_of_mem _ (List.mem_append_left _ (List.mem_append_right _ h))
  refine lv_iload_n hx hb dX4_entries_0 rfl (lv_at hl 1 rfl) ?_
  refine xvS (As := [.int x]) (rest := []) S (kX4_checkKey hfl x) (va_cwS 1 hts gX4_entries_X4_checkKey rfl rfl rfl hdX4_checkKey.2 ⟨Nat.le_of_ble_eq_true rfl, Nat.le_of_ble_eq_true rfl⟩) hE hP hS (frs hS) rfl hl.1 rfl (Nat.le_of_ble_eq_true rfl) dX4_entries_1 ⟨Nat.le_of_ble_eq_true rfl, Nat.le_of_ble_eq_true rfl⟩ hxt hlk (Nat.le_of_ble_eq_true rfl) (Nat.le_of_ble_eq_true rfl) (fun X h => ⟨by simp only [thn, h], rfl⟩) (fun H locs n1 hP _ _ hS => ?_)
  obtain ⟨k, hk, ek⟩ := ky_at (ex_n n1)
  subst ek
  refine lv_aload_n hx hb dX4_entries_4 rfl (lv_at hl 0 rfl) ?_
  refine gw4_index S i4 hE hP (hts _ (List.mem_of_getElem? (i := 1) rfl)) dX4_entries_5 ?_
  refine gw0_counts S i0 hE hP (hts _ (List.mem_of_getElem? (i := 2) rfl)) dX4_entries_8 ?_
  refine lv_iload_n hx hb dX4_entries_11 rfl (lv_at hl 1 rfl) ?_
  refine lC_ct S hE hP (f := c_ct u) rfl (j := k) (by omega) rfl dX4_entries_12 ?_
  exact xei hx hb hr hlk hS hP rfl n1 (by rw [nat_nI (by omega)]) (Nat.le_of_ble_eq_true rfl) (Nat.le_of_ble_eq_true rfl) dX4_entries_13
def rmX4_fullness : Room := { frames := 7, cells := 1, slots := 6, locals := 110 }
theorem hdX4_fullness : yX4_fullness.cls = RX4 ∧ yX4_fullness.cls ≠ "java/lang/invoke/MethodHandle" ∧ yX4_fullness.cls ≠ "java/lang/invoke/VarHandle" ∧ (parseMethodDescriptor yX4_fullness.desc).map (fun d => d.parameters.length) = some 1 := by decide +kernel
set_option maxHeartbeats 4000000 in
set_option maxRecDepth 100000 in
theorem kX4_fullness {l : Launch} {D : va_G} {K : Nat → ClassId} {L : Nat → Prop} {g : Nat → Nat} (hg : gd L g 29) (hfl : l.stackTraces = false) (u : CU) (x : Int32) : XF l yX4_fullness wsX4_fullness rmX4_fullness D K L [.ref (g 0), .int x] (wC K g u) (wC K g u) (ex (pgP x) xIA) (fdv (ful u (nat x) 8)) := by
  refine XF.of (cc := cX4_fullness) (maxL := 4) (ret := (some .float)) (by decide +kernel) rfl (Nat.le_of_ble_eq_true rfl) ?_
  intro p e s m below meth c ls hen hxt hP
  obtain ⟨hx, hb, hr, hts, hown, hlk, hml, hnm, hE, hl⟩ := hen
  have S : CallFix p m c cX4_fullness 4 s _ wsX4_fullness RX4 := ⟨hx, hb, hml, hown, hts⟩
  have hS : va_S (fr L s.heap.size) s.heap s.heap [] := va_S.rf
  have hl : lv_has ls 4 [(0, .ref (g 0)), (1, .int x)] := hl
  have i4 : ∀ w ∈ wsX40, w ∈ wsX4_fullness := fun _ h => List.mem_cons_of_mem _ (List.mem_append_left _ (List.mem_append_left _ (List.mem_append_right _ h)))
  have i1 : ∀ w ∈ wsX10, w ∈ wsX4_fullness := fun _ h => List.mem_cons_of_mem _ (List.mem_append_left _ (List.mem_append_right _ h))
  refine lv_iload_n hx hb dX4_fullness_0 rfl (lv_at hl 1 rfl) ?_
  refine xvS (As := [.int x]) (rest := []) S (kX4_checkPage hfl x) (va_cwS 1 hts gX4_fullness_X4_checkPage rfl rfl rfl hdX4_checkPage.2 ⟨Nat.le_of_ble_eq_true rfl, Nat.le_of_ble_eq_true rfl⟩) hE hP hS (frs hS) rfl hl.1 rfl (Nat.le_of_ble_eq_true rfl) dX4_fullness_1 ⟨Nat.le_of_ble_eq_true rfl, Nat.le_of_ble_eq_true rfl⟩ hxt hlk (Nat.le_of_ble_eq_true rfl) (Nat.le_of_ble_eq_true rfl) (fun X h => ⟨by simp only [thn, h], rfl⟩) (fun H locs n1 hP _ _ hS => ?_)
  obtain ⟨a, ha, ea⟩ := pg_at (ex_n n1)
  subst ea
  have hna : nat (nI a) = a := nat_nI (by omega)
  refine lv_iconst (v := 0) hx hb dX4_fullness_4 (by decide) ?_
  refine lv_istore_n (lv' := [(2, .int 0), (0, .ref (g 0)), (1, .int (nI a))]) hx hb dX4_fullness_5 rfl hl (by decide) rfl (fun ls hl => ?_)
  refine lv_iload_n hx hb dX4_fullness_6 rfl (lv_at hl 2 rfl) ?_
  refine kiS (As := [.int (nI a)]) (rest := []) S (kX4_firstOf a) (va_cwS 1 hts gX4_fullness_X4_firstOf rfl rfl rfl hdX4_firstOf.2 ⟨Nat.le_of_ble_eq_true rfl, Nat.le_of_ble_eq_true rfl⟩) rfl rfl hE hP hS (frs hS) rfl hl.1 rfl (Nat.le_of_ble_eq_true rfl) dX4_fullness_7 ⟨Nat.le_of_ble_eq_true rfl, Nat.le_of_ble_eq_true rfl⟩ (fun H locs hP _ _ hS => ?_)
  refine lv_istore_n (lv' := [(3, .int (nI (a * 8))), (2, .int 0), (0, .ref (g 0)), (1, .int (nI a))]) hx hb dX4_fullness_10 rfl hl (by decide) rfl (fun ls hl => ?_)
  have loop11 : ∀ (n11 : Nat) (i : Nat) (d : Nat), (hi : i ≤ 8) → (hd : d = ful u a i) → 8 - i < n11 → ∀ (H : Heap) (locs : List Loc), va_P D vwCl (wC K g u) H → va_S (fr L s.heap.size) s.heap H locs → ∀ (ls : Array Slot), lv_has ls 4 [(3, .int (nI (a * 8 + i))), (2, .int (nI d)), (0, .ref (g 0)), (1, .int (nI a))] → W p l e rmX4_fullness s m ([.ref (g 0), .int (nI a)] : List Value).toArray below meth c H locs 1 6 (vx_MQ below (va_Qf (fun (r9 : UInt32) (_ : Unit) => (ex (pgP (nI a)) xIA) = none ∧ r9 = fdv (ful u (nat (nI a)) 8)) (fun _ t => va_P D vwCl (wC K g u) t.heap) (fr L s.heap.size)) (xc D (wC K g u) (fr L s.heap.size) (ex (pgP (nI a)) xIA)) ([.ref (g 0), .int (nI a)] : List Value).toArray s rmX4_fullness.cells rmX4_fullness.slots (fr L s.heap.size)) (F0 m 11 ls []) := by
    intro n11
    induction n11 with
    | zero =>
      intro i d hi hd hn11
      exact absurd hn11 (Nat.not_lt_zero _)
    | succ n11 ih11 =>
      intro i d hi hd hn11 H locs hP hS ls hl
      refine lv_iload_n hx hb dX4_fullness_11 rfl (lv_at hl 0 rfl) ?_
      refine lv_iload_n hx hb dX4_fullness_12 rfl (lv_at hl 3 rfl) ?_
      refine kiS (As := [.int (nI a)]) (rest := [.int (nI (a * 8 + i))]) S (kX4_firstOf a) (va_cwS 1 hts gX4_fullness_X4_firstOf rfl rfl rfl hdX4_firstOf.2 ⟨Nat.le_of_ble_eq_true rfl, Nat.le_of_ble_eq_true rfl⟩) rfl rfl hE hP hS (frs hS) rfl hl.1 rfl (Nat.le_of_ble_eq_true rfl) dX4_fullness_13 ⟨Nat.le_of_ble_eq_true rfl, Nat.le_of_ble_eq_true rfl⟩ (fun H locs hP _ _ hS => ?_)
      refine lv_bipush (v := 8) hx hb dX4_fullness_16 (by decide) ?_
      refine lv_iadd hx hb dX4_fullness_18 ?_
      refine tpi (y := nI (a * 8 + 8)) (nI_add (a * 8) 8) ?_
      refine lv_icmp_ge (tgt := 42) hx hb dX4_fullness_19 (by decide) (fun c1 => ?_) (fun c1 => ?_)
      · skip
        have e9 : i = 8 := by have := nge_i (a := a * 8 + i) (b := a * 8 + 8) (by omega) (by omega) c1; omega
        have hd8 : d < 9 := by have := ful_le (u := u) (a := a) i; omega
        refine lv_iload_n hx hb dX4_fullness_42 rfl (lv_at hl 1 rfl) ?_
        refine lv_i2f hx hb dX4_fullness_43 ?_
        refine lv_ldcf (v := 1090519040) hx hb hown (hts _ (List.mem_of_getElem? (i := 2) rfl)) dX4_fullness_44 ?_
        refine lv_fdiv hx hb dX4_fullness_46 (fdv_all d hd8) ?_
        exact xef hx hb hr hlk hS hP rfl n1 (by rw [hna, ← e9, ← hd]; rfl) (Nat.le_of_ble_eq_true rfl) (Nat.le_of_ble_eq_true rfl) dX4_fullness_47
      · skip
        have hlt : a * 8 + i < a * 8 + 8 := nlt_i (a := a * 8 + i) (b := a * 8 + 8) (by omega) (by omega) c1
        refine lv_aload_n hx hb dX4_fullness_22 rfl (lv_at hl 2 rfl) ?_
        refine gw4_slots S i4 hE hP (hts _ (List.mem_of_getElem? (i := 1) rfl)) dX4_fullness_23 ?_
        refine lv_iload_n hx hb dX4_fullness_26 rfl (lv_at hl 0 rfl) ?_
        refine kiV (As := [.int (nI (a * 8 + i))]) (rest := []) S (kX1_isUsed hg u (a * 8 + i) (by omega)) (cwV 1 hts gX4_fullness_X1_isUsed rfl rfl rfl hdX1_isUsed ⟨Nat.le_of_ble_eq_true rfl, Nat.le_of_ble_eq_true rfl⟩) rfl rfl 2 rfl rfl hE hP hS (frs hS) rfl hl.1 rfl (Nat.le_of_ble_eq_true rfl) dX4_fullness_27 ⟨Nat.le_of_ble_eq_true rfl, Nat.le_of_ble_eq_true rfl⟩ (fun H locs hP _ _ hS => ?_)
        refine bzeq (tgt := 36) hx hb dX4_fullness_30 (by decide) (fun c2 => ?_) (fun c2 => ?_)
        · skip
          refine lv_iinc (v := nI ((a * 8 + i) + 1)) (lv' := [(3, .int (nI ((a * 8 + i) + 1))), (2, .int (nI d)), (0, .ref (g 0)), (1, .int (nI a))]) hx hb dX4_fullness_36 hl (k := 0) rfl (nI_1 (a * 8 + i)) (by decide) rfl (fun ls hl => ?_)
          refine lv_goto (tgt := 11) hx hb dX4_fullness_39 (by decide) ?_
          exact ih11 (i + 1) d (by omega) (by first | (rw [ful_y c2, hd]; done) | (rw [ful_n c2, hd]; done)) (by omega) _ _ hP hS ls (lv_sub hl [0, 1, 2, 3] rfl)
        · skip
          refine lv_iinc (v := nI (d + 1)) (lv' := [(2, .int (nI (d + 1))), (3, .int (nI (a * 8 + i))), (0, .ref (g 0)), (1, .int (nI a))]) hx hb dX4_fullness_33 hl (k := 1) rfl (nI_1 d) (by decide) rfl (fun ls hl => ?_)
          refine lv_iinc (v := nI ((a * 8 + i) + 1)) (lv' := [(3, .int (nI ((a * 8 + i) + 1))), (2, .int (nI (d + 1))), (0, .ref (g 0)), (1, .int (nI a))]) hx hb dX4_fullness_36 hl (k := 1) rfl (nI_1 (a * 8 + i)) (by decide) rfl (fun ls hl => ?_)
          refine lv_goto (tgt := 11) hx hb dX4_fullness_39 (by decide) ?_
          exact ih11 (i + 1) (d + 1) (by omega) (by first | (rw [ful_y c2, hd]; done) | (rw [ful_n c2, hd]; done)) (by omega) _ _ hP hS ls (lv_sub hl [0, 1, 2, 3] rfl)
  exact loop11 _ 0 0 (by omega) rfl (Nat.lt_succ_self _) _ _ hP hS ls (lv_sub hl [0, 1, 2, 3] rfl)

/-! ===== RowPages: write, delete, clean ===== -/
theorem ex_imp {q r : Prop} {X : String} (h : q) : ex (q → r) X = ex r X := by
  have e : (q → r) = r := propext ⟨fun k => k h, fun k _ => k⟩
  rw [e]
noncomputable def wu1 (u : CU) (t : Nat) (v : Int32) : CU := @ite _ (plP v) (Classical.propDecidable _) (cpd u t (nat v) (nat (c_r u (nat v)))) u
theorem wu1_y {u : CU} {t j : Nat} (hj : j < 32) : wu1 u t (nI j) = cpd u t j (nat (c_r u j)) := by unfold wu1; rw [nat_nI (by omega)]; exact if_pos (pl_nI hj)
theorem wu1_n {u : CU} {t : Nat} {v : Int32} (h : ¬ plP v) : wu1 u t v = u := by unfold wu1; exact if_neg h
theorem ct_cpd {u : CU} {t q r : Nat} : c_ct (cpd u t q r) = c_ct u := by unfold cpd; rfl
theorem tc_cpd {u : CU} {t q r : Nat} : c_tc (cpd u t q r) = c_tc u := by unfold cpd; rfl
theorem ct_cpv {u : CU} {t q n : Nat} {k v : Int32} : c_ct (cpv u t k v q n) = c_ct u := by unfold cpv cta; rfl
def nxP (u : CU) (v : Int32) : Prop := plP v ∧ nat v / 8 = nat (pfn u v) / 8
noncomputable def wu3 (u u2 : CU) (k : Nat) (v : Int32) : CU := @ite _ (nxP u v) (Classical.propDecidable _) (s_n u2 (upd (c_n u2) (nat v) (pfn u v))) (cia u2 k (nat (c_ct u k)) (pfn u v))
noncomputable def cwr (u : CU) (t k T : Nat) (v z : Int32) : CU := wu3 u (cpv (wu1 u t v) t (nI k) z (nat (pfn u v)) T) k v
noncomputable def wrr (u : CU) (v : Int32) : Int32 := nI (1000 * (nat (pfn u v) / 8) + nat (pfn u v) % 8) + @ite _ (nxP u v) (Classical.propDecidable _) 100000 0
theorem cwr_y {u : CU} {t k T j w : Nat} {z : Int32} (hj : j < 32) (hp : pfn u (nI j) = nI w) (hw : w < 32) (e : j / 8 = w / 8) : cwr u t k T (nI j) z = s_n (cpv (cpd u t j (nat (c_r u j))) t (nI k) z w T) (upd (c_n (cpv (cpd u t j (nat (c_r u j))) t (nI k) z w T)) j (nI w)) := by
  unfold cwr wu3
  rw [wu1_y hj, hp, nat_nI (n := w) (by omega), nat_nI (n := j) (by omega)]
  refine if_pos ⟨pl_nI hj, ?_⟩
  rw [hp, nat_nI (n := w) (by omega), nat_nI (n := j) (by omega)]; exact e
theorem cwr_n {u : CU} {t k T j w : Nat} {z : Int32} (hj : j < 32) (hp : pfn u (nI j) = nI w) (hw : w < 32) (e : ¬ j / 8 = w / 8) : cwr u t k T (nI j) z = cia (cpv (cpd u t j (nat (c_r u j))) t (nI k) z w T) k (nat (c_ct u k)) (nI w) := by
  unfold cwr wu3
  rw [wu1_y hj, hp, nat_nI (n := w) (by omega)]
  refine if_neg (fun h => e ?_)
  have h2 := h.2
  rw [hp, nat_nI (n := w) (by omega), nat_nI (n := j) (by omega)] at h2; exact h2
theorem cwr_o {u : CU} {t k T w : Nat} {v z : Int32} (hv : ¬ plP v) (hp : pfn u v = nI w) (hw : w < 32) : cwr u t k T v z = cia (cpv u t (nI k) z w T) k (nat (c_ct u k)) (nI w) := by
  unfold cwr wu3
  rw [wu1_n hv, hp, nat_nI (n := w) (by omega)]
  exact if_neg (fun h => hv h.1)
theorem wrr_y {u : CU} {j w : Nat} (hj : j < 32) (hp : pfn u (nI j) = nI w) (hw : w < 32) (e : j / 8 = w / 8) : wrr u (nI j) = nI (1000 * (w / 8) + w % 8) + 100000 := by
  unfold wrr
  rw [hp, nat_nI (n := w) (by omega)]
  congr 1
  refine if_pos ⟨pl_nI hj, ?_⟩
  rw [hp, nat_nI (n := w) (by omega), nat_nI (n := j) (by omega)]; exact e
theorem wrr_n {u : CU} {j w : Nat} (hj : j < 32) (hp : pfn u (nI j) = nI w) (hw : w < 32) (e : ¬ j / 8 = w / 8) : wrr u (nI j) = nI (1000 * (w / 8) + w % 8) + 0 := by
  unfold wrr
  rw [hp, nat_nI (n := w) (by omega)]
  congr 1
  refine if_neg (fun h => e ?_)
  have h2 := h.2
  rw [hp, nat_nI (n := w) (by omega), nat_nI (n := j) (by omega)] at h2; exact h2
theorem wrr_o {u : CU} {v : Int32} {w : Nat} (hv : ¬ plP v) (hp : pfn u v = nI w) (hw : w < 32) : wrr u v = nI (1000 * (w / 8) + w % 8) + 0 := by
  unfold wrr
  rw [hp, nat_nI (n := w) (by omega)]
  congr 1
  exact if_neg (fun h => hv h.1)
def rmX4_delete : Room := { frames := 7, cells := 4, slots := 24, locals := 115 }
theorem hdX4_delete : yX4_delete.cls = RX4 ∧ yX4_delete.cls ≠ "java/lang/invoke/MethodHandle" ∧ yX4_delete.cls ≠ "java/lang/invoke/VarHandle" ∧ (parseMethodDescriptor yX4_delete.desc).map (fun d => d.parameters.length) = some 2 := by decide +kernel
set_option maxHeartbeats 4000000 in
set_option maxRecDepth 100000 in
theorem kX4_delete {l : Launch} {D : va_G} {K : Nat → ClassId} {L : Nat → Prop} {g : Nat → Nat} (hg : gd L g 29) (hfl : l.stackTraces = false) (u : CU) (x y : Int32) (N : Nat) (hN : N ≤ 60) (hcn : c_cn u = nI N) (hct : ctP u) (T : Nat) (hT : T < 512) (htc : c_tc u = nI T) (hrw : wbP u x → kyP y → ∀ q, q < 32 → sv u x y = nI q → nat (c_r u q) < T ∧ c_r u q = nI (nat (c_r u q))) : XI l yX4_delete wsX4_delete rmX4_delete D K L [.ref (g 0), .int x, .int y] (wC K g u) (wC K g (wu1 u (nat x) (sv u x y))) (thn (ex (wbP u x) xIO) (thn (ex (kyP y) xIA) (thn (ex (hasP (c_ac u) x) xIS) (ex (plP (sv u x y) → ¬ rfP u (nat x) (nat y)) xIS)))) (fb (plP (sv u x y))) := by
  refine XI.of (cc := cX4_delete) (maxL := 4) (ret := (some .boolean)) (by decide +kernel) rfl (Nat.le_of_ble_eq_true rfl) ?_
  intro p e s m below meth c ls hen hxt hP
  obtain ⟨hx, hb, hr, hts, hown, hlk, hml, hnm, hE, hl⟩ := hen
  have S : CallFix p m c cX4_delete 4 s _ wsX4_delete RX4 := ⟨hx, hb, hml, hown, hts⟩
  have hS : va_S (fr L s.heap.size) s.heap s.heap [] := va_S.rf
  have hl : lv_has ls 4 [(0, .ref (g 0)), (1, .int x), (2, .int y)] := hl
  have i4 : ∀ w ∈ wsX40, w ∈ wsX4_delete := fun _ h => List.mem_cons_of_mem _ (List.mem_append_left _ (List.mem_append_left _ (List.mem_append_left _ (List.mem_append_left _ (List.mem_append_left _ (List.mem_append_left _ (List.mem_append_left _ (List.mem_append_right _ h))))))))
  have i3 : ∀ w ∈ wsX30, w ∈ wsX4_delete := fun _ h => List.mem_cons_of_mem _ (List.mem_append_left _ (List.mem_append_left _ (List.mem_append_left _ (List.mem_append_left _ (List.mem_append_left _ (List.mem_append_left _ (List.mem_append_right _ h)))))))
  have i0 : ∀ w ∈ wsX00, w ∈ wsX4_delete := fun _ h => List.mem_cons_of_mem _ (List.mem_append_left _ (List.mem_append_left _ (List.mem_append_left _ (List.mem_append_left _ (List.mem_append_left _ (List.mem_append_right _ h))))))
  have i1 : ∀ w ∈ wsX10, w ∈ wsX4_delete := fun _ h => List.mem_cons_of_mem _ (List.mem_append_left _ (List.mem_append_left _ (List.mem_append_left _ (List.mem_append_left _ (List.mem_append_right _ h)))))
  have i2 : ∀ w ∈ wsX20, w ∈ wsX4_delete := fun _ h => List.mem_cons_of_mem _ (List.mem_append_left _ (List.mem_append_left _ (List.mem_append_left _ (List.mem_append_right _ h))))
  refine lv_aload_n hx hb dX4_delete_0 rfl (lv_at hl 0 rfl) ?_
  refine lv_iload_n hx hb dX4_delete_1 rfl (lv_at hl 1 rfl) ?_
  refine xvV (As := [.int x]) (rest := []) S (kX4_checkTransaction hg hfl u x) (cwV 1 hts gX4_delete_X4_checkTransaction rfl rfl rfl hdX4_checkTransaction ⟨Nat.le_of_ble_eq_true rfl, Nat.le_of_ble_eq_true rfl⟩) 0 rfl rfl hE hP hS (frs hS) rfl hl.1 rfl (Nat.le_of_ble_eq_true rfl) dX4_delete_2 ⟨Nat.le_of_ble_eq_true rfl, Nat.le_of_ble_eq_true rfl⟩ hxt hlk (Nat.le_of_ble_eq_true rfl) (Nat.le_of_ble_eq_true rfl) (fun X h => ⟨by simp only [thn, h], rfl⟩) (fun H locs n2 hP _ _ hS => ?_)
  obtain ⟨t, ht, et⟩ := wb_at hN hcn (ex_n n2)
  subst et
  have hnt : nat (nI t) = t := nat_nI (by omega)
  refine lv_iload_n hx hb dX4_delete_5 rfl (lv_at hl 2 rfl) ?_
  refine xvS (As := [.int y]) (rest := []) S (kX4_checkKey hfl y) (va_cwS 1 hts gX4_delete_X4_checkKey rfl rfl rfl hdX4_checkKey.2 ⟨Nat.le_of_ble_eq_true rfl, Nat.le_of_ble_eq_true rfl⟩) hE hP hS (frs hS) rfl hl.1 rfl (Nat.le_of_ble_eq_true rfl) dX4_delete_6 ⟨Nat.le_of_ble_eq_true rfl, Nat.le_of_ble_eq_true rfl⟩ hxt hlk (Nat.le_of_ble_eq_true rfl) (Nat.le_of_ble_eq_true rfl) (fun X h => ⟨by simp only [thn, n2, h], rfl⟩) (fun H locs n6 hP _ _ hS => ?_)
  obtain ⟨k, hk, ek⟩ := ky_at (ex_n n6)
  subst ek
  have hnk : nat (nI k) = k := nat_nI (by omega)
  refine lv_aload_n hx hb dX4_delete_9 rfl (lv_at hl 0 rfl) ?_
  refine lv_iload_n hx hb dX4_delete_10 rfl (lv_at hl 1 rfl) ?_
  refine xvV (As := [.int (nI t)]) (rest := []) S (kX4_checkActive hg hfl u (nI t)) (cwV 1 hts gX4_delete_X4_checkActive rfl rfl rfl hdX4_checkActive ⟨Nat.le_of_ble_eq_true rfl, Nat.le_of_ble_eq_true rfl⟩) 0 rfl rfl hE hP hS (frs hS) rfl hl.1 rfl (Nat.le_of_ble_eq_true rfl) dX4_delete_11 ⟨Nat.le_of_ble_eq_true rfl, Nat.le_of_ble_eq_true rfl⟩ hxt hlk (Nat.le_of_ble_eq_true rfl) (Nat.le_of_ble_eq_true rfl) (fun X h => ⟨by simp only [thn, n2, n6, h], rfl⟩) (fun H locs n11 hP _ _ hS => ?_)
  refine lv_aload_n hx hb dX4_delete_14 rfl (lv_at hl 0 rfl) ?_
  refine lv_iload_n hx hb dX4_delete_15 rfl (lv_at hl 1 rfl) ?_
  refine lv_iload_n hx hb dX4_delete_16 rfl (lv_at hl 2 rfl) ?_
  refine kiV (As := [.int (nI t), .int (nI k)]) (rest := []) S (kX4_seenPlace hg u t k (nat (c_ct u k)) (by omega) hk (hct k hk).1 (hct k hk).2) (cwV 2 hts gX4_delete_X4_seenPlace rfl rfl rfl hdX4_seenPlace ⟨Nat.le_of_ble_eq_true rfl, Nat.le_of_ble_eq_true rfl⟩) rfl rfl 0 rfl rfl hE hP hS (frs hS) rfl hl.1 rfl (Nat.le_of_ble_eq_true rfl) dX4_delete_17 ⟨Nat.le_of_ble_eq_true rfl, Nat.le_of_ble_eq_true rfl⟩ (fun H locs hP _ _ hS => ?_)
  have hsv : sv u (nI t) (nI k) = spl u t k (nat (c_ct u k)) := by unfold sv; rw [nat_nI (by omega), nat_nI (by omega)]
  generalize spl u t k (nat (c_ct u k)) = v at hsv ⊢
  refine lv_istore_n (lv' := [(3, .int v), (0, .ref (g 0)), (1, .int (nI t)), (2, .int (nI k))]) hx hb dX4_delete_20 rfl hl (by decide) rfl (fun ls hl => ?_)
  refine lv_iload_n hx hb dX4_delete_21 rfl (lv_at hl 0 rfl) ?_
  refine kiS (As := [.int v]) (rest := []) S (kX4_isPlace v) (va_cwS 1 hts gX4_delete_X4_isPlace rfl rfl rfl hdX4_isPlace.2 ⟨Nat.le_of_ble_eq_true rfl, Nat.le_of_ble_eq_true rfl⟩) rfl rfl hE hP hS (frs hS) rfl hl.1 rfl (Nat.le_of_ble_eq_true rfl) dX4_delete_22 ⟨Nat.le_of_ble_eq_true rfl, Nat.le_of_ble_eq_true rfl⟩ (fun H locs hP _ _ hS => ?_)
  refine bzne (tgt := 30) hx hb dX4_delete_25 (by decide) (fun c1 => ?_) (fun c1 => ?_)
  · skip
    obtain ⟨j, hj, ej⟩ := pl_at c1
    subst ej
    have rr := hrw (ex_n n2) (ex_n n6) j hj hsv
    refine lv_aload_n hx hb dX4_delete_30 rfl (lv_at hl 1 rfl) ?_
    refine lv_iload_n hx hb dX4_delete_31 rfl (lv_at hl 2 rfl) ?_
    refine lv_iload_n hx hb dX4_delete_32 rfl (lv_at hl 3 rfl) ?_
    refine xvV (As := [.int (nI t), .int (nI k)]) (rest := []) S (kX4_checkNotRefused hg hfl u t k (by omega)) (cwV 2 hts gX4_delete_X4_checkNotRefused rfl rfl rfl hdX4_checkNotRefused ⟨Nat.le_of_ble_eq_true rfl, Nat.le_of_ble_eq_true rfl⟩) 0 rfl rfl hE hP hS (frs hS) rfl hl.1 rfl (Nat.le_of_ble_eq_true rfl) dX4_delete_33 ⟨Nat.le_of_ble_eq_true rfl, Nat.le_of_ble_eq_true rfl⟩ hxt hlk (Nat.le_of_ble_eq_true rfl) (Nat.le_of_ble_eq_true rfl) (fun X h => ⟨by simp only [thn, n2, n6, n11, hnt, hnk, hsv, ex_imp (pl_nI hj), h], rfl⟩) (fun H locs n33 hP _ _ hS => ?_)
    refine lv_aload_n hx hb dX4_delete_36 rfl (lv_at hl 1 rfl) ?_
    refine lv_iload_n hx hb dX4_delete_37 rfl (lv_at hl 2 rfl) ?_
    refine lv_iload_n hx hb dX4_delete_38 rfl (lv_at hl 0 rfl) ?_
    refine kvV (As := [.int (nI t), .int (nI j)]) (rest := []) S (kX4_putDeath hg u t j (nat (c_r u j)) T (by omega) hj rr.1 (Nat.le_of_lt hT) rr.2 htc) (cwV 2 hts gX4_delete_X4_putDeath rfl rfl rfl hdX4_putDeath ⟨Nat.le_of_ble_eq_true rfl, Nat.le_of_ble_eq_true rfl⟩) rfl rfl 0 rfl rfl hE hP hS (frs hS) rfl hl.1 rfl (Nat.le_of_ble_eq_true rfl) dX4_delete_39 ⟨Nat.le_of_ble_eq_true rfl, Nat.le_of_ble_eq_true rfl⟩ (fun H locs hP _ _ hS => ?_)
    refine lv_iconst (v := 1) hx hb dX4_delete_42 (by decide) ?_
    exact xez hx hb hr hlk hS hP (by rw [hnt, hsv, wu1_y hj]) (by simp only [thn, n2, n6, n11, hnt, hnk, hsv, ex_imp (pl_nI hj), n33]) (by rw [hsv]; exact t_fb (pl_nI hj)) rfl (Nat.le_of_ble_eq_true rfl) (Nat.le_of_ble_eq_true rfl) dX4_delete_43
  · skip
    have np : ¬ plP v := c1
    refine lv_iconst (v := 0) hx hb dX4_delete_28 (by decide) ?_
    exact xez hx hb hr hlk hS hP (by rw [hnt, hsv, wu1_n np]) (by simp only [thn, n2, n6, n11]; exact ex_t (fun k => absurd (hsv ▸ k) np)) (by rw [hsv]; exact f_fb np) rfl (Nat.le_of_ble_eq_true rfl) (Nat.le_of_ble_eq_true rfl) dX4_delete_29
def rmX4_write : Room := { frames := 7, cells := 6, slots := 36, locals := 115 }
theorem hdX4_write : yX4_write.cls = RX4 ∧ yX4_write.cls ≠ "java/lang/invoke/MethodHandle" ∧ yX4_write.cls ≠ "java/lang/invoke/VarHandle" ∧ (parseMethodDescriptor yX4_write.desc).map (fun d => d.parameters.length) = some 3 := by decide +kernel
set_option maxHeartbeats 4000000 in
set_option maxRecDepth 100000 in
theorem kX4_write {l : Launch} {D : va_G} {K : Nat → ClassId} {L : Nat → Prop} {g : Nat → Nat} (hg : gd L g 29) (hfl : l.stackTraces = false) (u : CU) (x y z : Int32) (N : Nat) (hN : N ≤ 60) (hcn : c_cn u = nI N) (hct : ctP u) (T : Nat) (hT : T < 512) (htc : c_tc u = nI T) (hrw : wbP u x → kyP y → ∀ q, q < 32 → sv u x y = nI q → nat (c_r u q) < T ∧ c_r u q = nI (nat (c_r u q))) (hca : kyP y → plP (pfn u (sv u x y)) → nat (c_ct u (nat y)) < 32) : XI l yX4_write wsX4_write rmX4_write D K L [.ref (g 0), .int x, .int y, .int z] (wC K g u) (wC K g (cwr u (nat x) (nat y) T (sv u x y) z)) (thn (ex (wbP u x) xIO) (thn (ex (kyP y) xIA) (thn (ex (vaP z) xIA) (thn (ex (hasP (c_ac u) x) xIS) (thn (ex (¬ rfP u (nat x) (nat y)) xIS) (ex (plP (pfn u (sv u x y))) xIS)))))) (wrr u (sv u x y)) := by
  refine XI.of (cc := cX4_write) (maxL := 7) (ret := (some .int)) (by decide +kernel) rfl (Nat.le_of_ble_eq_true rfl) ?_
  intro p e s m below meth c ls hen hxt hP
  obtain ⟨hx, hb, hr, hts, hown, hlk, hml, hnm, hE, hl⟩ := hen
  have S : CallFix p m c cX4_write 7 s _ wsX4_write RX4 := ⟨hx, hb, hml, hown, hts⟩
  have hS : va_S (fr L s.heap.size) s.heap s.heap [] := va_S.rf
  have hl : lv_has ls 7 [(0, .ref (g 0)), (1, .int x), (2, .int y), (3, .int z)] := hl
  have i4 : ∀ w ∈ wsX40, w ∈ wsX4_write := fun _ h => List.mem_cons_of_mem _ (List.mem_append_left _ (List.mem_append_left _ (List.mem_append_left _ (List.mem_append_left _ (List.mem_append_left _ (List.mem_append_left _ (List.mem_append_left _ (List.mem_append_right _ h))))))))
  have i1 : ∀ w ∈ wsX10, w ∈ wsX4_write := fun _ h => List.mem_cons_of_mem _ (List.mem_append_left _ (List.mem_append_left _ (List.mem_append_left _ (List.mem_append_left _ (List.mem_append_left _ (List.mem_append_left _ (List.mem_append_right _ h)))))))
  have i3 : ∀ w ∈ wsX30, w ∈ wsX4_write := fun _ h => List.mem_cons_of_mem _ (List.mem_append_left _ (List.mem_append_left _ (List.mem_append_left _ (List.mem_append_left _ (List.mem_append_left _ (List.mem_append_right _ h))))))
  have i0 : ∀ w ∈ wsX00, w ∈ wsX4_write := fun _ h => List.mem_cons_of_mem _ (List.mem_append_left _ (List.mem_append_left _ (List.mem_append_left _ (List.mem_append_left _ (List.mem_append_right _ h)))))
  have i2 : ∀ w ∈ wsX20, w ∈ wsX4_write := fun _ h => List.mem_cons_of_mem _ (List.mem_append_left _ (List.mem_append_left _ (List.mem_append_left _ (List.mem_append_right _ h))))
  refine lv_aload_n hx hb dX4_write_0 rfl (lv_at hl 0 rfl) ?_
  refine lv_iload_n hx hb dX4_write_1 rfl (lv_at hl 1 rfl) ?_
  refine xvV (As := [.int x]) (rest := []) S (kX4_checkTransaction hg hfl u x) (cwV 1 hts gX4_write_X4_checkTransaction rfl rfl rfl hdX4_checkTransaction ⟨Nat.le_of_ble_eq_true rfl, Nat.le_of_ble_eq_true rfl⟩) 0 rfl rfl hE hP hS (frs hS) rfl hl.1 rfl (Nat.le_of_ble_eq_true rfl) dX4_write_2 ⟨Nat.le_of_ble_eq_true rfl, Nat.le_of_ble_eq_true rfl⟩ hxt hlk (Nat.le_of_ble_eq_true rfl) (Nat.le_of_ble_eq_true rfl) (fun X h => ⟨by simp only [thn, h], rfl⟩) (fun H locs n2 hP _ _ hS => ?_)
  obtain ⟨t, ht, et⟩ := wb_at hN hcn (ex_n n2)
  subst et
  have hnt : nat (nI t) = t := nat_nI (by omega)
  refine lv_iload_n hx hb dX4_write_5 rfl (lv_at hl 2 rfl) ?_
  refine xvS (As := [.int y]) (rest := []) S (kX4_checkKey hfl y) (va_cwS 1 hts gX4_write_X4_checkKey rfl rfl rfl hdX4_checkKey.2 ⟨Nat.le_of_ble_eq_true rfl, Nat.le_of_ble_eq_true rfl⟩) hE hP hS (frs hS) rfl hl.1 rfl (Nat.le_of_ble_eq_true rfl) dX4_write_6 ⟨Nat.le_of_ble_eq_true rfl, Nat.le_of_ble_eq_true rfl⟩ hxt hlk (Nat.le_of_ble_eq_true rfl) (Nat.le_of_ble_eq_true rfl) (fun X h => ⟨by simp only [thn, n2, h], rfl⟩) (fun H locs n6 hP _ _ hS => ?_)
  obtain ⟨k, hk, ek⟩ := ky_at (ex_n n6)
  subst ek
  have hnk : nat (nI k) = k := nat_nI (by omega)
  refine lv_iload_n hx hb dX4_write_9 rfl (lv_at hl 3 rfl) ?_
  refine xvS (As := [.int z]) (rest := []) S (kX4_checkValue hfl z) (va_cwS 1 hts gX4_write_X4_checkValue rfl rfl rfl hdX4_checkValue.2 ⟨Nat.le_of_ble_eq_true rfl, Nat.le_of_ble_eq_true rfl⟩) hE hP hS (frs hS) rfl hl.1 rfl (Nat.le_of_ble_eq_true rfl) dX4_write_10 ⟨Nat.le_of_ble_eq_true rfl, Nat.le_of_ble_eq_true rfl⟩ hxt hlk (Nat.le_of_ble_eq_true rfl) (Nat.le_of_ble_eq_true rfl) (fun X h => ⟨by simp only [thn, n2, n6, h], rfl⟩) (fun H locs n10 hP _ _ hS => ?_)
  refine lv_aload_n hx hb dX4_write_13 rfl (lv_at hl 0 rfl) ?_
  refine lv_iload_n hx hb dX4_write_14 rfl (lv_at hl 1 rfl) ?_
  refine xvV (As := [.int (nI t)]) (rest := []) S (kX4_checkActive hg hfl u (nI t)) (cwV 1 hts gX4_write_X4_checkActive rfl rfl rfl hdX4_checkActive ⟨Nat.le_of_ble_eq_true rfl, Nat.le_of_ble_eq_true rfl⟩) 0 rfl rfl hE hP hS (frs hS) rfl hl.1 rfl (Nat.le_of_ble_eq_true rfl) dX4_write_15 ⟨Nat.le_of_ble_eq_true rfl, Nat.le_of_ble_eq_true rfl⟩ hxt hlk (Nat.le_of_ble_eq_true rfl) (Nat.le_of_ble_eq_true rfl) (fun X h => ⟨by simp only [thn, n2, n6, n10, h], rfl⟩) (fun H locs n15 hP _ _ hS => ?_)
  refine lv_aload_n hx hb dX4_write_18 rfl (lv_at hl 0 rfl) ?_
  refine lv_iload_n hx hb dX4_write_19 rfl (lv_at hl 1 rfl) ?_
  refine lv_iload_n hx hb dX4_write_20 rfl (lv_at hl 2 rfl) ?_
  refine xvV (As := [.int (nI t), .int (nI k)]) (rest := []) S (kX4_checkNotRefused hg hfl u t k (by omega)) (cwV 2 hts gX4_write_X4_checkNotRefused rfl rfl rfl hdX4_checkNotRefused ⟨Nat.le_of_ble_eq_true rfl, Nat.le_of_ble_eq_true rfl⟩) 0 rfl rfl hE hP hS (frs hS) rfl hl.1 rfl (Nat.le_of_ble_eq_true rfl) dX4_write_21 ⟨Nat.le_of_ble_eq_true rfl, Nat.le_of_ble_eq_true rfl⟩ hxt hlk (Nat.le_of_ble_eq_true rfl) (Nat.le_of_ble_eq_true rfl) (fun X h => ⟨by simp only [thn, n2, n6, n10, n15, hnt, hnk, h], rfl⟩) (fun H locs n21 hP _ _ hS => ?_)
  refine lv_aload_n hx hb dX4_write_24 rfl (lv_at hl 0 rfl) ?_
  refine lv_iload_n hx hb dX4_write_25 rfl (lv_at hl 1 rfl) ?_
  refine lv_iload_n hx hb dX4_write_26 rfl (lv_at hl 2 rfl) ?_
  refine kiV (As := [.int (nI t), .int (nI k)]) (rest := []) S (kX4_seenPlace hg u t k (nat (c_ct u k)) (by omega) hk (hct k hk).1 (hct k hk).2) (cwV 2 hts gX4_write_X4_seenPlace rfl rfl rfl hdX4_seenPlace ⟨Nat.le_of_ble_eq_true rfl, Nat.le_of_ble_eq_true rfl⟩) rfl rfl 0 rfl rfl hE hP hS (frs hS) rfl hl.1 rfl (Nat.le_of_ble_eq_true rfl) dX4_write_27 ⟨Nat.le_of_ble_eq_true rfl, Nat.le_of_ble_eq_true rfl⟩ (fun H locs hP _ _ hS => ?_)
  have hsv : sv u (nI t) (nI k) = spl u t k (nat (c_ct u k)) := by unfold sv; rw [nat_nI (by omega), nat_nI (by omega)]
  generalize spl u t k (nat (c_ct u k)) = v at hsv ⊢
  refine lv_istore (lv' := [(4, .int v), (0, .ref (g 0)), (1, .int (nI t)), (2, .int (nI k)), (3, .int z)]) hx hb dX4_write_30 hl (by decide) rfl (fun ls hl => ?_)
  refine lv_aload_n hx hb dX4_write_32 rfl (lv_at hl 1 rfl) ?_
  refine lv_iload hx hb dX4_write_33 (lv_at hl 0 rfl) ?_
  refine kiV (As := [.int v]) (rest := []) S (kX4_placeForNew hg u v) (cwV 1 hts gX4_write_X4_placeForNew rfl rfl rfl hdX4_placeForNew ⟨Nat.le_of_ble_eq_true rfl, Nat.le_of_ble_eq_true rfl⟩) rfl rfl 0 rfl rfl hE hP hS (frs hS) rfl hl.1 rfl (Nat.le_of_ble_eq_true rfl) dX4_write_35 ⟨Nat.le_of_ble_eq_true rfl, Nat.le_of_ble_eq_true rfl⟩ (fun H locs hP _ _ hS => ?_)
  obtain ⟨f, hpf⟩ : ∃ f, pfn u v = f := ⟨_, rfl⟩
  rw [hpf]
  refine lv_istore (lv' := [(5, .int f), (4, .int v), (0, .ref (g 0)), (1, .int (nI t)), (2, .int (nI k)), (3, .int z)]) hx hb dX4_write_38 hl (by decide) rfl (fun ls hl => ?_)
  refine lv_iload hx hb dX4_write_40 (lv_at hl 0 rfl) ?_
  refine kiS (As := [.int f]) (rest := []) S (kX4_isPlace f) (va_cwS 1 hts gX4_write_X4_isPlace rfl rfl rfl hdX4_isPlace.2 ⟨Nat.le_of_ble_eq_true rfl, Nat.le_of_ble_eq_true rfl⟩) rfl rfl hE hP hS (frs hS) rfl hl.1 rfl (Nat.le_of_ble_eq_true rfl) dX4_write_42 ⟨Nat.le_of_ble_eq_true rfl, Nat.le_of_ble_eq_true rfl⟩ (fun H locs hP _ _ hS => ?_)
  refine bzne (tgt := 58) hx hb dX4_write_45 (by decide) (fun c1 => ?_) (fun c1 => ?_)
  · skip
    have hcq : nat (c_ct u k) < 32 := by have z9 := hca (ex_n n6); rw [hsv, hpf, hnk] at z9; exact z9 c1
    obtain ⟨w, hw, ew⟩ := pl_at c1
    subst ew
    refine lv_iload hx hb dX4_write_58 (lv_at hl 1 rfl) ?_
    refine kiS (As := [.int v]) (rest := []) S (kX4_isPlace v) (va_cwS 1 hts gX4_write_X4_isPlace rfl rfl rfl hdX4_isPlace.2 ⟨Nat.le_of_ble_eq_true rfl, Nat.le_of_ble_eq_true rfl⟩) rfl rfl hE hP hS (frs hS) rfl hl.1 rfl (Nat.le_of_ble_eq_true rfl) dX4_write_60 ⟨Nat.le_of_ble_eq_true rfl, Nat.le_of_ble_eq_true rfl⟩ (fun H locs hP _ _ hS => ?_)
    refine bzeq (tgt := 73) hx hb dX4_write_63 (by decide) (fun c2 => ?_) (fun c2 => ?_)
    · skip
      have np : ¬ plP v := c2
      have hty : c_tc u = nI T := htc
      refine lv_aload_n hx hb dX4_write_73 rfl (lv_at hl 2 rfl) ?_
      refine lv_iload_n hx hb dX4_write_74 rfl (lv_at hl 3 rfl) ?_
      refine lv_iload_n hx hb dX4_write_75 rfl (lv_at hl 4 rfl) ?_
      refine lv_iload_n hx hb dX4_write_76 rfl (lv_at hl 5 rfl) ?_
      refine lv_iload hx hb dX4_write_77 (lv_at hl 0 rfl) ?_
      refine kvV (As := [.int (nI t), .int (nI k), .int z, .int (nI w)]) (rest := []) S (kX4_putVersion hg u t (nI k) z w T (by omega) hw hT hty) (cwV 4 hts gX4_write_X4_putVersion rfl rfl rfl hdX4_putVersion ⟨Nat.le_of_ble_eq_true rfl, Nat.le_of_ble_eq_true rfl⟩) rfl rfl 0 rfl rfl hE hP hS (frs hS) rfl hl.1 rfl (Nat.le_of_ble_eq_true rfl) dX4_write_79 ⟨Nat.le_of_ble_eq_true rfl, Nat.le_of_ble_eq_true rfl⟩ (fun H locs hP _ _ hS => ?_)
      refine lv_iload hx hb dX4_write_82 (lv_at hl 1 rfl) ?_
      refine kiS (As := [.int v]) (rest := []) S (kX4_isPlace v) (va_cwS 1 hts gX4_write_X4_isPlace rfl rfl rfl hdX4_isPlace.2 ⟨Nat.le_of_ble_eq_true rfl, Nat.le_of_ble_eq_true rfl⟩) rfl rfl hE hP hS (frs hS) rfl hl.1 rfl (Nat.le_of_ble_eq_true rfl) dX4_write_84 ⟨Nat.le_of_ble_eq_true rfl, Nat.le_of_ble_eq_true rfl⟩ (fun H locs hP _ _ hS => ?_)
      refine bzeq (tgt := 107) hx hb dX4_write_87 (by decide) (fun c3 => ?_) (fun c3 => ?_)
      · skip
        refine lv_iconst (v := 0) hx hb dX4_write_107 (by decide) ?_
        refine lv_istore (lv' := [(6, .int 0), (5, .int (nI w)), (4, .int v), (0, .ref (g 0)), (1, .int (nI t)), (2, .int (nI k)), (3, .int z)]) hx hb dX4_write_108 hl (by decide) rfl (fun ls hl => ?_)
        refine lv_iload hx hb dX4_write_110 (lv_at hl 0 rfl) ?_
        refine lv_if_eq (tgt := 130) hx hb dX4_write_112 (by decide) (fun c4 => ?_) (fun c4 => ?_)
        · skip
          have hcx : c_ct (cpv u t (nI k) z w T) k = nI (nat (c_ct u k)) := (congrFun ct_cpv k).trans (hct k hk).2
          refine lv_aload_n hx hb dX4_write_130 rfl (lv_at hl 3 rfl) ?_
          refine gw4_index S i4 hE hP (hts _ (List.mem_of_getElem? (i := 5) rfl)) dX4_write_131 ?_
          refine lv_iload_n hx hb dX4_write_134 rfl (lv_at hl 5 rfl) ?_
          refine lv_iload hx hb dX4_write_135 (lv_at hl 1 rfl) ?_
          refine kvV (As := [.int (nI k), .int (nI w)]) (rest := []) S (kX0_add hg (cpv u t (nI k) z w T) k (nat (c_ct u k)) (nI w) hk hcq hcx) (cwV 2 hts gX4_write_X0_add rfl rfl rfl hdX0_add ⟨Nat.le_of_ble_eq_true rfl, Nat.le_of_ble_eq_true rfl⟩) rfl rfl 3 rfl rfl hE hP hS (frs hS) rfl hl.1 rfl (Nat.le_of_ble_eq_true rfl) dX4_write_137 ⟨Nat.le_of_ble_eq_true rfl, Nat.le_of_ble_eq_true rfl⟩ (fun H locs hP _ _ hS => ?_)
          refine lv_sipush (v := 1000) hx hb dX4_write_140 (by decide) ?_
          refine lv_iload hx hb dX4_write_143 (lv_at hl 1 rfl) ?_
          refine kiS (As := [.int (nI w)]) (rest := [.int 1000]) S (kX4_pageOf w (by omega)) (va_cwS 1 hts gX4_write_X4_pageOf rfl rfl rfl hdX4_pageOf.2 ⟨Nat.le_of_ble_eq_true rfl, Nat.le_of_ble_eq_true rfl⟩) rfl rfl hE hP hS (frs hS) rfl hl.1 rfl (Nat.le_of_ble_eq_true rfl) dX4_write_145 ⟨Nat.le_of_ble_eq_true rfl, Nat.le_of_ble_eq_true rfl⟩ (fun H locs hP _ _ hS => ?_)
          refine lv_imul hx hb dX4_write_148 ?_
          refine tpi (y := nI (1000 * (w / 8))) (pk_mul 1000 (w / 8)) ?_
          refine lv_iload hx hb dX4_write_149 (lv_at hl 1 rfl) ?_
          refine kiS (As := [.int (nI w)]) (rest := [.int (nI (1000 * (w / 8)))]) S (kX4_slotOf w (by omega)) (va_cwS 1 hts gX4_write_X4_slotOf rfl rfl rfl hdX4_slotOf.2 ⟨Nat.le_of_ble_eq_true rfl, Nat.le_of_ble_eq_true rfl⟩) rfl rfl hE hP hS (frs hS) rfl hl.1 rfl (Nat.le_of_ble_eq_true rfl) dX4_write_151 ⟨Nat.le_of_ble_eq_true rfl, Nat.le_of_ble_eq_true rfl⟩ (fun H locs hP _ _ hS => ?_)
          refine lv_iadd hx hb dX4_write_154 ?_
          refine tpi (y := nI (1000 * (w / 8) + w % 8)) (nI_add (1000 * (w / 8)) (w % 8)) ?_
          refine lv_iload hx hb dX4_write_155 (lv_at hl 0 rfl) ?_
          refine lv_if_eq (tgt := 165) hx hb dX4_write_157 (by decide) (fun c5 => ?_) (fun c5 => ?_)
          · skip
            refine lv_iconst (v := 0) hx hb dX4_write_165 (by decide) ?_
            refine lv_iadd hx hb dX4_write_166 ?_
            exact xei hx hb hr hlk hS hP (by rw [hnt, hnk, hsv]; first | rw [cwr_y hj hpf hw ey] | rw [cwr_n hj hpf hw en] | rw [cwr_o np hpf hw]) (by simp only [thn, n2, n6, n10, n15, hnt, hnk, n21, hsv, hpf]; exact ex_t (pl_nI hw)) (by rw [hsv]; first | rw [wrr_y hj hpf hw ey] | rw [wrr_n hj hpf hw en] | rw [wrr_o np hpf hw]) (Nat.le_of_ble_eq_true rfl) (Nat.le_of_ble_eq_true rfl) dX4_write_167
          · skip
            exact absurd c4 c5
        · skip
          exact (by first | exact absurd c4 (by decide) | exact absurd (by decide) c4)
      · skip
        exact absurd c3 c2
    · skip
      obtain ⟨j, hj, ej⟩ := pl_at c2
      subst ej
      have rr := hrw (ex_n n2) (ex_n n6) j hj hsv
      refine lv_aload_n hx hb dX4_write_66 rfl (lv_at hl 2 rfl) ?_
      refine lv_iload_n hx hb dX4_write_67 rfl (lv_at hl 3 rfl) ?_
      refine lv_iload hx hb dX4_write_68 (lv_at hl 1 rfl) ?_
      refine kvV (As := [.int (nI t), .int (nI j)]) (rest := []) S (kX4_putDeath hg u t j (nat (c_r u j)) T (by omega) hj rr.1 (Nat.le_of_lt hT) rr.2 htc) (cwV 2 hts gX4_write_X4_putDeath rfl rfl rfl hdX4_putDeath ⟨Nat.le_of_ble_eq_true rfl, Nat.le_of_ble_eq_true rfl⟩) rfl rfl 0 rfl rfl hE hP hS (frs hS) rfl hl.1 rfl (Nat.le_of_ble_eq_true rfl) dX4_write_70 ⟨Nat.le_of_ble_eq_true rfl, Nat.le_of_ble_eq_true rfl⟩ (fun H locs hP _ _ hS => ?_)
      have hty : c_tc (cpd u t j (nat (c_r u j))) = nI T := tc_cpd.trans htc
      refine lv_aload_n hx hb dX4_write_73 rfl (lv_at hl 2 rfl) ?_
      refine lv_iload_n hx hb dX4_write_74 rfl (lv_at hl 3 rfl) ?_
      refine lv_iload_n hx hb dX4_write_75 rfl (lv_at hl 4 rfl) ?_
      refine lv_iload_n hx hb dX4_write_76 rfl (lv_at hl 5 rfl) ?_
      refine lv_iload hx hb dX4_write_77 (lv_at hl 0 rfl) ?_
      refine kvV (As := [.int (nI t), .int (nI k), .int z, .int (nI w)]) (rest := []) S (kX4_putVersion hg (cpd u t j (nat (c_r u j))) t (nI k) z w T (by omega) hw hT hty) (cwV 4 hts gX4_write_X4_putVersion rfl rfl rfl hdX4_putVersion ⟨Nat.le_of_ble_eq_true rfl, Nat.le_of_ble_eq_true rfl⟩) rfl rfl 0 rfl rfl hE hP hS (frs hS) rfl hl.1 rfl (Nat.le_of_ble_eq_true rfl) dX4_write_79 ⟨Nat.le_of_ble_eq_true rfl, Nat.le_of_ble_eq_true rfl⟩ (fun H locs hP _ _ hS => ?_)
      refine lv_iload hx hb dX4_write_82 (lv_at hl 1 rfl) ?_
      refine kiS (As := [.int (nI j)]) (rest := []) S (kX4_isPlace (nI j)) (va_cwS 1 hts gX4_write_X4_isPlace rfl rfl rfl hdX4_isPlace.2 ⟨Nat.le_of_ble_eq_true rfl, Nat.le_of_ble_eq_true rfl⟩) rfl rfl hE hP hS (frs hS) rfl hl.1 rfl (Nat.le_of_ble_eq_true rfl) dX4_write_84 ⟨Nat.le_of_ble_eq_true rfl, Nat.le_of_ble_eq_true rfl⟩ (fun H locs hP _ _ hS => ?_)
      refine bzeq (tgt := 107) hx hb dX4_write_87 (by decide) (fun c6 => ?_) (fun c6 => ?_)
      · skip
        exact absurd c2 c6
      · skip
        refine lv_iload hx hb dX4_write_90 (lv_at hl 1 rfl) ?_
        refine kiS (As := [.int (nI j)]) (rest := []) S (kX4_pageOf j (by omega)) (va_cwS 1 hts gX4_write_X4_pageOf rfl rfl rfl hdX4_pageOf.2 ⟨Nat.le_of_ble_eq_true rfl, Nat.le_of_ble_eq_true rfl⟩) rfl rfl hE hP hS (frs hS) rfl hl.1 rfl (Nat.le_of_ble_eq_true rfl) dX4_write_92 ⟨Nat.le_of_ble_eq_true rfl, Nat.le_of_ble_eq_true rfl⟩ (fun H locs hP _ _ hS => ?_)
        refine lv_iload hx hb dX4_write_95 (lv_at hl 0 rfl) ?_
        refine kiS (As := [.int (nI w)]) (rest := [.int (nI (j / 8))]) S (kX4_pageOf w (by omega)) (va_cwS 1 hts gX4_write_X4_pageOf rfl rfl rfl hdX4_pageOf.2 ⟨Nat.le_of_ble_eq_true rfl, Nat.le_of_ble_eq_true rfl⟩) rfl rfl hE hP hS (frs hS) rfl hl.1 rfl (Nat.le_of_ble_eq_true rfl) dX4_write_97 ⟨Nat.le_of_ble_eq_true rfl, Nat.le_of_ble_eq_true rfl⟩ (fun H locs hP _ _ hS => ?_)
        refine lv_icmp_ne (tgt := 107) hx hb dX4_write_100 (by decide) (fun c7 => ?_) (fun c7 => ?_)
        · skip
          have en : ¬ j / 8 = w / 8 := fun k9 => c7 (congrArg nI k9)
          refine lv_iconst (v := 0) hx hb dX4_write_107 (by decide) ?_
          refine lv_istore (lv' := [(6, .int 0), (5, .int (nI w)), (4, .int (nI j)), (0, .ref (g 0)), (1, .int (nI t)), (2, .int (nI k)), (3, .int z)]) hx hb dX4_write_108 hl (by decide) rfl (fun ls hl => ?_)
          refine lv_iload hx hb dX4_write_110 (lv_at hl 0 rfl) ?_
          refine lv_if_eq (tgt := 130) hx hb dX4_write_112 (by decide) (fun c8 => ?_) (fun c8 => ?_)
          · skip
            have hcx : c_ct (cpv (cpd u t j (nat (c_r u j))) t (nI k) z w T) k = nI (nat (c_ct u k)) := (congrFun (ct_cpv.trans ct_cpd) k).trans (hct k hk).2
            refine lv_aload_n hx hb dX4_write_130 rfl (lv_at hl 3 rfl) ?_
            refine gw4_index S i4 hE hP (hts _ (List.mem_of_getElem? (i := 5) rfl)) dX4_write_131 ?_
            refine lv_iload_n hx hb dX4_write_134 rfl (lv_at hl 5 rfl) ?_
            refine lv_iload hx hb dX4_write_135 (lv_at hl 1 rfl) ?_
            refine kvV (As := [.int (nI k), .int (nI w)]) (rest := []) S (kX0_add hg (cpv (cpd u t j (nat (c_r u j))) t (nI k) z w T) k (nat (c_ct u k)) (nI w) hk hcq hcx) (cwV 2 hts gX4_write_X0_add rfl rfl rfl hdX0_add ⟨Nat.le_of_ble_eq_true rfl, Nat.le_of_ble_eq_true rfl⟩) rfl rfl 3 rfl rfl hE hP hS (frs hS) rfl hl.1 rfl (Nat.le_of_ble_eq_true rfl) dX4_write_137 ⟨Nat.le_of_ble_eq_true rfl, Nat.le_of_ble_eq_true rfl⟩ (fun H locs hP _ _ hS => ?_)
            refine lv_sipush (v := 1000) hx hb dX4_write_140 (by decide) ?_
            refine lv_iload hx hb dX4_write_143 (lv_at hl 1 rfl) ?_
            refine kiS (As := [.int (nI w)]) (rest := [.int 1000]) S (kX4_pageOf w (by omega)) (va_cwS 1 hts gX4_write_X4_pageOf rfl rfl rfl hdX4_pageOf.2 ⟨Nat.le_of_ble_eq_true rfl, Nat.le_of_ble_eq_true rfl⟩) rfl rfl hE hP hS (frs hS) rfl hl.1 rfl (Nat.le_of_ble_eq_true rfl) dX4_write_145 ⟨Nat.le_of_ble_eq_true rfl, Nat.le_of_ble_eq_true rfl⟩ (fun H locs hP _ _ hS => ?_)
            refine lv_imul hx hb dX4_write_148 ?_
            refine tpi (y := nI (1000 * (w / 8))) (pk_mul 1000 (w / 8)) ?_
            refine lv_iload hx hb dX4_write_149 (lv_at hl 1 rfl) ?_
            refine kiS (As := [.int (nI w)]) (rest := [.int (nI (1000 * (w / 8)))]) S (kX4_slotOf w (by omega)) (va_cwS 1 hts gX4_write_X4_slotOf rfl rfl rfl hdX4_slotOf.2 ⟨Nat.le_of_ble_eq_true rfl, Nat.le_of_ble_eq_true rfl⟩) rfl rfl hE hP hS (frs hS) rfl hl.1 rfl (Nat.le_of_ble_eq_true rfl) dX4_write_151 ⟨Nat.le_of_ble_eq_true rfl, Nat.le_of_ble_eq_true rfl⟩ (fun H locs hP _ _ hS => ?_)
            refine lv_iadd hx hb dX4_write_154 ?_
            refine tpi (y := nI (1000 * (w / 8) + w % 8)) (nI_add (1000 * (w / 8)) (w % 8)) ?_
            refine lv_iload hx hb dX4_write_155 (lv_at hl 0 rfl) ?_
            refine lv_if_eq (tgt := 165) hx hb dX4_write_157 (by decide) (fun c9 => ?_) (fun c9 => ?_)
            · skip
              refine lv_iconst (v := 0) hx hb dX4_write_165 (by decide) ?_
              refine lv_iadd hx hb dX4_write_166 ?_
              exact xei hx hb hr hlk hS hP (by rw [hnt, hnk, hsv]; first | rw [cwr_y hj hpf hw ey] | rw [cwr_n hj hpf hw en] | rw [cwr_o np hpf hw]) (by simp only [thn, n2, n6, n10, n15, hnt, hnk, n21, hsv, hpf]; exact ex_t (pl_nI hw)) (by rw [hsv]; first | rw [wrr_y hj hpf hw ey] | rw [wrr_n hj hpf hw en] | rw [wrr_o np hpf hw]) (Nat.le_of_ble_eq_true rfl) (Nat.le_of_ble_eq_true rfl) dX4_write_167
            · skip
              exact absurd c8 c9
          · skip
            exact (by first | exact absurd c8 (by decide) | exact absurd (by decide) c8)
        · skip
          have ey : j / 8 = w / 8 := (nI_eq (by omega) (by omega)).mp c7
          refine lv_iconst (v := 1) hx hb dX4_write_103 (by decide) ?_
          refine lv_goto (tgt := 108) hx hb dX4_write_104 (by decide) ?_
          refine lv_istore (lv' := [(6, .int 1), (5, .int (nI w)), (4, .int (nI j)), (0, .ref (g 0)), (1, .int (nI t)), (2, .int (nI k)), (3, .int z)]) hx hb dX4_write_108 hl (by decide) rfl (fun ls hl => ?_)
          refine lv_iload hx hb dX4_write_110 (lv_at hl 0 rfl) ?_
          refine lv_if_eq (tgt := 130) hx hb dX4_write_112 (by decide) (fun c10 => ?_) (fun c10 => ?_)
          · skip
            exact (by first | exact absurd c10 (by decide) | exact absurd (by decide) c10)
          · skip
            refine lv_aload_n hx hb dX4_write_115 rfl (lv_at hl 3 rfl) ?_
            refine gw4_slots S i4 hE hP (hts _ (List.mem_of_getElem? (i := 3) rfl)) dX4_write_116 ?_
            refine gw1_nexts S i1 hE hP (hts _ (List.mem_of_getElem? (i := 4) rfl)) dX4_write_119 ?_
            refine lv_iload hx hb dX4_write_122 (lv_at hl 2 rfl) ?_
            refine lv_iload hx hb dX4_write_124 (lv_at hl 1 rfl) ?_
            refine sC_n S hE hP hg hS (j := j) (by omega) rfl dX4_write_126 (fun H locs hP hS => ?_)
            have hP : va_P D vwCl (wC K g (s_n (cpv (cpd u t j (nat (c_r u j))) t (nI k) z w T) (upd (c_n (cpv (cpd u t j (nat (c_r u j))) t (nI k) z w T)) j (nI w)))) H := hP
            refine lv_goto (tgt := 140) hx hb dX4_write_127 (by decide) ?_
            refine lv_sipush (v := 1000) hx hb dX4_write_140 (by decide) ?_
            refine lv_iload hx hb dX4_write_143 (lv_at hl 1 rfl) ?_
            refine kiS (As := [.int (nI w)]) (rest := [.int 1000]) S (kX4_pageOf w (by omega)) (va_cwS 1 hts gX4_write_X4_pageOf rfl rfl rfl hdX4_pageOf.2 ⟨Nat.le_of_ble_eq_true rfl, Nat.le_of_ble_eq_true rfl⟩) rfl rfl hE hP hS (frs hS) rfl hl.1 rfl (Nat.le_of_ble_eq_true rfl) dX4_write_145 ⟨Nat.le_of_ble_eq_true rfl, Nat.le_of_ble_eq_true rfl⟩ (fun H locs hP _ _ hS => ?_)
            refine lv_imul hx hb dX4_write_148 ?_
            refine tpi (y := nI (1000 * (w / 8))) (pk_mul 1000 (w / 8)) ?_
            refine lv_iload hx hb dX4_write_149 (lv_at hl 1 rfl) ?_
            refine kiS (As := [.int (nI w)]) (rest := [.int (nI (1000 * (w / 8)))]) S (kX4_slotOf w (by omega)) (va_cwS 1 hts gX4_write_X4_slotOf rfl rfl rfl hdX4_slotOf.2 ⟨Nat.le_of_ble_eq_true rfl, Nat.le_of_ble_eq_true rfl⟩) rfl rfl hE hP hS (frs hS) rfl hl.1 rfl (Nat.le_of_ble_eq_true rfl) dX4_write_151 ⟨Nat.le_of_ble_eq_true rfl, Nat.le_of_ble_eq_true rfl⟩ (fun H locs hP _ _ hS => ?_)
            refine lv_iadd hx hb dX4_write_154 ?_
            refine tpi (y := nI (1000 * (w / 8) + w % 8)) (nI_add (1000 * (w / 8)) (w % 8)) ?_
            refine lv_iload hx hb dX4_write_155 (lv_at hl 0 rfl) ?_
            refine lv_if_eq (tgt := 165) hx hb dX4_write_157 (by decide) (fun c11 => ?_) (fun c11 => ?_)
            · skip
              exact absurd c11 c10
            · skip
              refine lv_ldc (v := 100000) hx hb hown (hts _ (List.mem_of_getElem? (i := 6) rfl)) dX4_write_160 ?_
              refine lv_goto (tgt := 166) hx hb dX4_write_162 (by decide) ?_
              refine lv_iadd hx hb dX4_write_166 ?_
              exact xei hx hb hr hlk hS hP (by rw [hnt, hnk, hsv]; first | rw [cwr_y hj hpf hw ey] | rw [cwr_n hj hpf hw en] | rw [cwr_o np hpf hw]) (by simp only [thn, n2, n6, n10, n15, hnt, hnk, n21, hsv, hpf]; exact ex_t (pl_nI hw)) (by rw [hsv]; first | rw [wrr_y hj hpf hw ey] | rw [wrr_n hj hpf hw en] | rw [wrr_o np hpf hw]) (Nat.le_of_ble_eq_true rfl) (Nat.le_of_ble_eq_true rfl) dX4_write_167
  · skip
    have nf : ¬ plP f := c1
    exact xth (X := xIS) hx hb hfl hown hts (List.mem_of_getElem? (i := 0) rfl) (List.mem_of_getElem? (i := 10) rfl) ft_xIS (List.mem_of_getElem? (i := 1) rfl) (List.mem_of_getElem? (i := 2) rfl) (fun _ h => List.mem_cons_of_mem _ (List.mem_append_left _ (List.mem_append_left _ (List.mem_append_right _ h)))) ng_xIS gd_xIS hE hS hP (by simp only [thn, n2, n6, n10, n15, hnt, hnk, n21, hsv, hpf]; exact ex_f nf) (hl.1.trans hml.symm) dX4_write_48 dX4_write_51 (Or.inl ⟨dX4_write_52, dX4_write_54, dX4_write_57⟩) hxt (Nat.le_of_ble_eq_true rfl) (Nat.le_of_ble_eq_true rfl) (Nat.le_of_ble_eq_true rfl) (Nat.le_of_ble_eq_true rfl) hlk (Nat.le_of_ble_eq_true rfl) (Nat.le_of_ble_eq_true rfl)
def rmX4_clean : Room := { frames := 8, cells := 2, slots := 12, locals := 134 }
theorem hdX4_clean : yX4_clean.cls = RX4 ∧ yX4_clean.cls ≠ "java/lang/invoke/MethodHandle" ∧ yX4_clean.cls ≠ "java/lang/invoke/VarHandle" ∧ (parseMethodDescriptor yX4_clean.desc).map (fun d => d.parameters.length) = some 1 := by decide +kernel
set_option maxHeartbeats 4000000 in
set_option maxRecDepth 100000 in
theorem kX4_clean {l : Launch} {D : va_G} {K : Nat → ClassId} {L : Nat → Prop} {g : Nat → Nat} (hg : gd L g 29) (hfl : l.stackTraces = false) (u : CU) (x : Int32) (N : Nat) (hN : N ≤ 60) (hcn : c_cn u = nI N) (hok : ∀ a i, a < 4 → i < 8 → cgP (cln u (stl u N) a i).1 (a * 8 + i) (stl u N) → okT (cln u (stl u N) a i).1 (a * 8 + i)) : XI l yX4_clean wsX4_clean rmX4_clean D K L [.ref (g 0), .int x] (wC K g u) (wC K g (ccl u N (nat x))) (ex (pgP x) xIA) (nI (cln u (stl u N) (nat x) 8).2) := by
  refine XI.of (cc := cX4_clean) (maxL := 6) (ret := (some .int)) (by decide +kernel) rfl (Nat.le_of_ble_eq_true rfl) ?_
  intro p e s m below meth c ls hen hxt hP
  obtain ⟨hx, hb, hr, hts, hown, hlk, hml, hnm, hE, hl⟩ := hen
  have S : CallFix p m c cX4_clean 6 s _ wsX4_clean RX4 := ⟨hx, hb, hml, hown, hts⟩
  have hS : va_S (fr L s.heap.size) s.heap s.heap [] := va_S.rf
  have hl : lv_has ls 6 [(0, .ref (g 0)), (1, .int x)] := hl
  have i4 : ∀ w ∈ wsX40, w ∈ wsX4_clean := fun _ h => List.mem_cons_of_mem _ (List.mem_append_left _ (List.mem_append_left _ (List.mem_append_left _ (List.mem_append_left _ (List.mem_append_right _ h)))))
  have i3 : ∀ w ∈ wsX30, w ∈ wsX4_clean := fun _ h => List.mem_cons_of_mem _ (List.mem_append_left _ (List.mem_append_left _ (List.mem_append_left _ (List.mem_append_right _ h))))
  have i1 : ∀ w ∈ wsX10, w ∈ wsX4_clean := fun _ h => List.mem_cons_of_mem _ (List.mem_append_left _ (List.mem_append_left _ (List.mem_append_right _ h)))
  have i0 : ∀ w ∈ wsX00, w ∈ wsX4_clean := fun _ h => List.mem_cons_of_mem _ (List.mem_append_left _ (List.mem_append_right _ h))
  refine lv_iload_n hx hb dX4_clean_0 rfl (lv_at hl 1 rfl) ?_
  refine xvS (As := [.int x]) (rest := []) S (kX4_checkPage hfl x) (va_cwS 1 hts gX4_clean_X4_checkPage rfl rfl rfl hdX4_checkPage.2 ⟨Nat.le_of_ble_eq_true rfl, Nat.le_of_ble_eq_true rfl⟩) hE hP hS (frs hS) rfl hl.1 rfl (Nat.le_of_ble_eq_true rfl) dX4_clean_1 ⟨Nat.le_of_ble_eq_true rfl, Nat.le_of_ble_eq_true rfl⟩ hxt hlk (Nat.le_of_ble_eq_true rfl) (Nat.le_of_ble_eq_true rfl) (fun X h => ⟨by simp only [thn, h], rfl⟩) (fun H locs n1 hP _ _ hS => ?_)
  obtain ⟨a, ha, ea⟩ := pg_at (ex_n n1)
  subst ea
  have hna : nat (nI a) = a := nat_nI (by omega)
  refine lv_aload_n hx hb dX4_clean_4 rfl (lv_at hl 0 rfl) ?_
  refine gw4_transactions S i4 hE hP (hts _ (List.mem_of_getElem? (i := 1) rfl)) dX4_clean_5 ?_
  refine klV (As := []) (rest := []) S (kX3_settled hg u N (by omega) hcn) (cwV 0 hts gX4_clean_X3_settled rfl rfl rfl hdX3_settled ⟨Nat.le_of_ble_eq_true rfl, Nat.le_of_ble_eq_true rfl⟩) rfl rfl 1 rfl rfl hE hP hS (frs hS) rfl hl.1 rfl (Nat.le_of_ble_eq_true rfl) dX4_clean_8 ⟨Nat.le_of_ble_eq_true rfl, Nat.le_of_ble_eq_true rfl⟩ (fun H locs hP _ _ hS => ?_)
  refine lv_lstore_n (lv' := [(2, .long (stl u N)), (0, .ref (g 0)), (1, .int (nI a))]) hx hb dX4_clean_11 rfl hl (by decide) rfl (fun ls hl => ?_)
  refine lv_iconst (v := 0) hx hb dX4_clean_12 (by decide) ?_
  refine lv_istore (lv' := [(4, .int 0), (2, .long (stl u N)), (0, .ref (g 0)), (1, .int (nI a))]) hx hb dX4_clean_13 hl (by decide) rfl (fun ls hl => ?_)
  refine lv_iload_n hx hb dX4_clean_15 rfl (lv_at hl 3 rfl) ?_
  refine kiS (As := [.int (nI a)]) (rest := []) S (kX4_firstOf a) (va_cwS 1 hts gX4_clean_X4_firstOf rfl rfl rfl hdX4_firstOf.2 ⟨Nat.le_of_ble_eq_true rfl, Nat.le_of_ble_eq_true rfl⟩) rfl rfl hE hP hS (frs hS) rfl hl.1 rfl (Nat.le_of_ble_eq_true rfl) dX4_clean_16 ⟨Nat.le_of_ble_eq_true rfl, Nat.le_of_ble_eq_true rfl⟩ (fun H locs hP _ _ hS => ?_)
  refine lv_istore (lv' := [(5, .int (nI (a * 8))), (4, .int 0), (2, .long (stl u N)), (0, .ref (g 0)), (1, .int (nI a))]) hx hb dX4_clean_19 hl (by decide) rfl (fun ls hl => ?_)
  have loop21 : ∀ (n21 : Nat) (i : Nat) (v : CU) (d : Nat), (hi : i ≤ 8) → (hv : cln u (stl u N) a i = (v, d)) → 8 - i < n21 → ∀ (H : Heap) (locs : List Loc), va_P D vwCl (wC K g v) H → va_S (fr L s.heap.size) s.heap H locs → ∀ (ls : Array Slot), lv_has ls 6 [(5, .int (nI (a * 8 + i))), (4, .int (nI d)), (2, .long (stl u N)), (0, .ref (g 0)), (1, .int (nI a))] → W p l e rmX4_clean s m ([.ref (g 0), .int (nI a)] : List Value).toArray below meth c H locs 1 6 (vx_MQ below (va_Qi (fun (r9 : Int32) (_ : Unit) => (ex (pgP (nI a)) xIA) = none ∧ r9 = nI (cln u (stl u N) (nat (nI a)) 8).2) (fun _ t => va_P D vwCl (wC K g (ccl u N (nat (nI a)))) t.heap) (fr L s.heap.size)) (xc D (wC K g u) (fr L s.heap.size) (ex (pgP (nI a)) xIA)) ([.ref (g 0), .int (nI a)] : List Value).toArray s rmX4_clean.cells rmX4_clean.slots (fr L s.heap.size)) (F0 m 21 ls []) := by
    intro n21
    induction n21 with
    | zero =>
      intro i v d hi hv hn21
      exact absurd hn21 (Nat.not_lt_zero _)
    | succ n21 ih21 =>
      intro i v d hi hv hn21 H locs hP hS ls hl
      refine lv_iload hx hb dX4_clean_21 (lv_at hl 0 rfl) ?_
      refine lv_iload_n hx hb dX4_clean_23 rfl (lv_at hl 4 rfl) ?_
      refine kiS (As := [.int (nI a)]) (rest := [.int (nI (a * 8 + i))]) S (kX4_firstOf a) (va_cwS 1 hts gX4_clean_X4_firstOf rfl rfl rfl hdX4_firstOf.2 ⟨Nat.le_of_ble_eq_true rfl, Nat.le_of_ble_eq_true rfl⟩) rfl rfl hE hP hS (frs hS) rfl hl.1 rfl (Nat.le_of_ble_eq_true rfl) dX4_clean_24 ⟨Nat.le_of_ble_eq_true rfl, Nat.le_of_ble_eq_true rfl⟩ (fun H locs hP _ _ hS => ?_)
      refine lv_bipush (v := 8) hx hb dX4_clean_27 (by decide) ?_
      refine lv_iadd hx hb dX4_clean_29 ?_
      refine tpi (y := nI (a * 8 + 8)) (nI_add (a * 8) 8) ?_
      refine lv_icmp_ge (tgt := 58) hx hb dX4_clean_30 (by decide) (fun c1 => ?_) (fun c1 => ?_)
      · skip
        have e9 : i = 8 := by have := nge_i (a := a * 8 + i) (b := a * 8 + 8) (by omega) (by omega) c1; omega
        subst e9
        have hcn9 : c_cn v = nI N := by have z9 := cln_cn (u := u) (S9 := stl u N) (a := a) 8; rw [hv] at z9; exact z9.trans hcn
        refine lv_aload_n hx hb dX4_clean_58 rfl (lv_at hl 3 rfl) ?_
        refine lv_iload_n hx hb dX4_clean_59 rfl (lv_at hl 4 rfl) ?_
        refine lv_lload_n hx hb dX4_clean_60 rfl (lv_at hl 2 rfl) ?_
        refine kvV (As := [.int (nI a), .long (stl u N)]) (rest := []) S (kX4_freezeOldOnes hg v a (stl u N) (by omega)) (cwV 2 hts gX4_clean_X4_freezeOldOnes rfl rfl rfl hdX4_freezeOldOnes ⟨Nat.le_of_ble_eq_true rfl, Nat.le_of_ble_eq_true rfl⟩) rfl rfl 0 rfl rfl hE hP hS (frs hS) rfl hl.1 rfl (Nat.le_of_ble_eq_true rfl) dX4_clean_61 ⟨Nat.le_of_ble_eq_true rfl, Nat.le_of_ble_eq_true rfl⟩ (fun H locs hP _ _ hS => ?_)
        refine lv_aload_n hx hb dX4_clean_64 rfl (lv_at hl 3 rfl) ?_
        refine gw4_mapped S i4 hE hP (hts _ (List.mem_of_getElem? (i := 2) rfl)) dX4_clean_65 ?_
        refine lv_iload_n hx hb dX4_clean_68 rfl (lv_at hl 4 rfl) ?_
        refine lv_aload_n hx hb dX4_clean_69 rfl (lv_at hl 3 rfl) ?_
        refine lv_iload_n hx hb dX4_clean_70 rfl (lv_at hl 4 rfl) ?_
        refine xiV (As := [.int (nI a)]) (rest := [.int (nI a), .ref (g 5)]) S (kX4_isWhole hg hfl (s_f v (fzn v (stl u N) (a * 8) (a * 8 + 8))) (nI a) N hN hcn9) (cwV 1 hts gX4_clean_X4_isWhole rfl rfl rfl hdX4_isWhole ⟨Nat.le_of_ble_eq_true rfl, Nat.le_of_ble_eq_true rfl⟩) 0 rfl rfl hE hP hS (frs hS) rfl hl.1 rfl (Nat.le_of_ble_eq_true rfl) dX4_clean_71 ⟨Nat.le_of_ble_eq_true rfl, Nat.le_of_ble_eq_true rfl⟩ hxt hlk (Nat.le_of_ble_eq_true rfl) (Nat.le_of_ble_eq_true rfl) (fun X h => by rw [n1] at h; cases h) (fun H locs n71 hP _ _ hS => ?_)
        refine sC_mp S hE hP fb_vp hg hS (j := a) (by omega) rfl dX4_clean_74 (fun H locs hP hS => ?_)
        have hP : va_P D vwCl (wC K g (s_mp (s_f v (fzn v (stl u N) (a * 8) (a * 8 + 8))) (upd (c_mp (s_f v (fzn v (stl u N) (a * 8) (a * 8 + 8)))) a (fb (whP (s_f v (fzn v (stl u N) (a * 8) (a * 8 + 8))) (nat (nI a)) (stl (s_f v (fzn v (stl u N) (a * 8) (a * 8 + 8))) N)))))) H := hP
        refine lv_iload hx hb dX4_clean_75 (lv_at hl 1 rfl) ?_
        exact xei hx hb hr hlk hS hP (by simp only [ccl, hv, hna]) n1 (by rw [hna, hv]) (Nat.le_of_ble_eq_true rfl) (Nat.le_of_ble_eq_true rfl) dX4_clean_77
      · skip
        have hlt : i < 8 := by have := nlt_i (a := a * 8 + i) (b := a * 8 + 8) (by omega) (by omega) c1; omega
        refine lv_aload_n hx hb dX4_clean_33 rfl (lv_at hl 3 rfl) ?_
        refine lv_iload hx hb dX4_clean_34 (lv_at hl 0 rfl) ?_
        refine lv_lload_n hx hb dX4_clean_36 rfl (lv_at hl 2 rfl) ?_
        refine kiV (As := [.int (nI (a * 8 + i)), .long (stl u N)]) (rest := []) S (kX4_canGo hg v (a * 8 + i) (stl u N) (by omega)) (cwV 2 hts gX4_clean_X4_canGo rfl rfl rfl hdX4_canGo ⟨Nat.le_of_ble_eq_true rfl, Nat.le_of_ble_eq_true rfl⟩) rfl rfl 0 rfl rfl hE hP hS (frs hS) rfl hl.1 rfl (Nat.le_of_ble_eq_true rfl) dX4_clean_37 ⟨Nat.le_of_ble_eq_true rfl, Nat.le_of_ble_eq_true rfl⟩ (fun H locs hP _ _ hS => ?_)
        refine bzeq (tgt := 52) hx hb dX4_clean_40 (by decide) (fun c2 => ?_) (fun c2 => ?_)
        · skip
          refine lv_iinc (v := nI ((a * 8 + i) + 1)) (lv' := [(5, .int (nI ((a * 8 + i) + 1))), (4, .int (nI d)), (2, .long (stl u N)), (0, .ref (g 0)), (1, .int (nI a))]) hx hb dX4_clean_52 hl (k := 0) rfl (nI_1 (a * 8 + i)) (by decide) rfl (fun ls hl => ?_)
          refine lv_goto (tgt := 21) hx hb dX4_clean_55 (by decide) ?_
          exact ih21 (i + 1) v d (by omega) (by first | exact cln_y hv c2 | exact cln_n hv c2) (by omega) _ _ hP hS ls (lv_sub hl [0, 1, 2, 3, 4] rfl)
        · skip
          have ok : okT v (a * 8 + i) := by have z9 := hok a i ha hlt; rw [hv] at z9; exact z9 c2
          refine lv_aload_n hx hb dX4_clean_43 rfl (lv_at hl 3 rfl) ?_
          refine lv_iload hx hb dX4_clean_44 (lv_at hl 0 rfl) ?_
          refine kvV (As := [.int (nI (a * 8 + i))]) (rest := []) S (kX4_takeOut hg v (a * 8 + i) (nat (c_k v (a * 8 + i))) (nat (c_ct v (nat (c_k v (a * 8 + i))))) (by omega) ok.1 ok.2.2.1 ok.2.1 ok.2.2.2) (cwV 1 hts gX4_clean_X4_takeOut rfl rfl rfl hdX4_takeOut ⟨Nat.le_of_ble_eq_true rfl, Nat.le_of_ble_eq_true rfl⟩) rfl rfl 0 rfl rfl hE hP hS (frs hS) rfl hl.1 rfl (Nat.le_of_ble_eq_true rfl) dX4_clean_46 ⟨Nat.le_of_ble_eq_true rfl, Nat.le_of_ble_eq_true rfl⟩ (fun H locs hP _ _ hS => ?_)
          refine lv_iinc (v := nI (d + 1)) (lv' := [(4, .int (nI (d + 1))), (5, .int (nI (a * 8 + i))), (2, .long (stl u N)), (0, .ref (g 0)), (1, .int (nI a))]) hx hb dX4_clean_49 hl (k := 1) rfl (nI_1 d) (by decide) rfl (fun ls hl => ?_)
          refine lv_iinc (v := nI ((a * 8 + i) + 1)) (lv' := [(5, .int (nI ((a * 8 + i) + 1))), (4, .int (nI (d + 1))), (2, .long (stl u N)), (0, .ref (g 0)), (1, .int (nI a))]) hx hb dX4_clean_52 hl (k := 1) rfl (nI_1 (a * 8 + i)) (by decide) rfl (fun ls hl => ?_)
          refine lv_goto (tgt := 21) hx hb dX4_clean_55 (by decide) ?_
          exact ih21 (i + 1) (cto v (a * 8 + i) (nat (c_k v (a * 8 + i))) (nat (c_ct v (nat (c_k v (a * 8 + i)))))) (d + 1) (by omega) (by first | exact cln_y hv c2 | exact cln_n hv c2) (by omega) _ _ hP hS ls (lv_sub hl [0, 1, 2, 3, 4] rfl)
  exact loop21 _ 0 u 0 (by omega) rfl (Nat.lt_succ_self _) _ _ hP hS ls (lv_sub hl [0, 1, 2, 3, 4] rfl)

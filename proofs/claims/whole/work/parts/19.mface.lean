/-! ===== RowPagesModel: the face ===== -/
theorem msn_thr {u : MU} {x : Int32} {t k : Nat} : ∀ n, msn (ms_thr u x) t k n = msn u t k n := by
  have hm : ∀ n y, mch (ms_thr u x) t n y = mch u t n y := by
    intro n
    induction n with
    | zero => intro y; rfl
    | succ n ih => intro y; rw [mch, mch, ih]; rfl
  intro n
  induction n with
  | zero => rfl
  | succ n ih => rw [msn, msn, hm, ih]; rfl
theorem ends_thr {u : MU} {x : Int32} : ∀ n y, ends u n y → ends (ms_thr u x) n y := by
  intro n
  induction n with
  | zero => exact fun y h => h
  | succ n ih => exact fun y h => h.elim Or.inl (fun h => Or.inr ⟨h.1, ih _ h.2⟩)
theorem mch_rng {u : MU} {t : Nat} : ∀ n y, ends u n y → rngO (mch u t n y) 32 := by
  intro n
  induction n with
  | zero => exact fun y _ => Or.inl rfl
  | succ n ih =>
    intro y h
    rcases h with h | ⟨h1, h2⟩
    · rw [h, mch_m]; exact Or.inl rfl
    · obtain ⟨j, hj, rfl⟩ := rng_o h1
      rw [nat_nI (by omega)] at h2
      by_cases hs : seM u t j
      · rw [mch_y hj hs]; exact Or.inr h1
      · rw [mch_n hj hs]; exact ih _ h2
def enM (u : MU) : Prop := ∀ k, k < 6 → ∀ i, i < nat (m_ec u k) → ends u 8 (m_en u (64 * k + i))
theorem msn_rng {u : MU} {t k : Nat} : ∀ n, (∀ i, i < n → ends u 8 (m_en u (64 * k + i))) → rngO (msn u t k n) 32 := by
  intro n
  induction n with
  | zero => exact fun _ => Or.inl rfl
  | succ n ih =>
    intro h
    rw [msn]
    by_cases hq : mch u t 8 (m_en u (64 * k + n)) = -1
    · rw [cif_t hq]; exact ih (fun i hi => h i (by omega))
    · rw [cif_f hq]; exact mch_rng 8 _ (h n (by omega))
theorem lfm_rng {f : AI} : ∀ n a, a + n ≤ 32 → rngO (lfm f a n) 32 := by
  intro n
  induction n with
  | zero => exact fun a _ => Or.inl rfl
  | succ n ih =>
    intro a h
    rw [lfm]
    by_cases hq : f a = 0
    · rw [if_pos hq]; exact Or.inr (rng_nI (by omega) (by omega))
    · rw [if_neg hq]; exact ih _ (by omega)
noncomputable def mvs (u : MU) (x y : Int32) : Int32 := msn u (nat x) (nat y) (nat (m_ec u (nat y)))
noncomputable def mrd (u : MU) (v : Int32) : Int32 := cif (v = -1) (-1) (m_v u (nat v))
/-- which of a reading method's exceptions -/
noncomputable def co3 (a b c : Prop) : Int32 := cif a (cif b (cif c 0 3) 2) 1
noncomputable def co2 (a b : Prop) : Int32 := cif a (cif b 0 2) 1
noncomputable def co1 (a : Prop) : Int32 := cif a 0 1
/-- the committed ones, out of the first n -/
noncomputable def cmo (u : MU) : Nat → Int64
  | 0 => 0
  | n + 1 => cmo u n ||| cif (m_sta u n = 1) (1 <<< ((nI n).toInt64 &&& 63)) 0
noncomputable def mbg (u : MU) (N : Nat) : MU :=
  let v := ms_thr u 0
  ms_cn (ms_ns (ms_st (ms_sta (ms_sn v (vp_updL (m_sn v) N (cmo v N))) (upd (m_sta v) N 0)) (upd (m_st v) N (m_ns v))) ((m_ns v + 1) - (m_ns v + 1) / 64 * 64)) (nI (N + 1))
def msk (u : MU) (x : Int32) : Int32 := (m_ns u + x) - (m_ns u + x) / 64 * 64
/-- the deaths that are x's taken off, among the first n -/
noncomputable def tkM (us f : AI) (q : Prop) (x : Int32) (n : Nat) : AI := fun j => cif (j < n ∧ ¬ q ∧ ¬ us j = 0 ∧ f j = x) (-1) (f j)
theorem tkM_0 {us f : AI} {q : Prop} {x : Int32} : tkM us f q x 0 = f := by
  funext j; unfold tkM; exact cif_f (fun k => absurd k.1 (Nat.not_lt_zero _))
theorem tkM_at {us f : AI} {q : Prop} {x : Int32} {i : Nat} : tkM us f q x i i = f i := by
  unfold tkM; exact cif_f (fun k => absurd k.1 (Nat.lt_irrefl _))
theorem tkM_y {us f : AI} {q : Prop} {x : Int32} {i : Nat} (h : ¬ q ∧ ¬ us i = 0 ∧ f i = x) : upd (tkM us f q x i) i (-1) = tkM us f q x (i + 1) := by
  funext j
  unfold upd tkM
  by_cases hj : j = i
  · rw [if_pos hj, hj]; exact (cif_t ⟨by omega, h⟩).symm
  · rw [if_neg hj]
    by_cases h2 : j < i ∧ ¬ q ∧ ¬ us j = 0 ∧ f j = x
    · rw [cif_t h2]; exact (cif_t ⟨by omega, h2.2⟩).symm
    · rw [cif_f h2]; exact (cif_f (fun k => h2 ⟨by omega, k.2⟩)).symm
theorem tkM_n {us f : AI} {q : Prop} {x : Int32} {i : Nat} (h : ¬ (¬ q ∧ ¬ us i = 0 ∧ f i = x)) : upd (tkM us f q x i) i (tkM us f q x i i) = tkM us f q x (i + 1) := by
  funext j
  rw [tkM_at]
  unfold upd tkM
  by_cases hj : j = i
  · rw [if_pos hj, hj]; exact (cif_f (fun k => h k.2)).symm
  · rw [if_neg hj]
    by_cases h2 : j < i ∧ ¬ q ∧ ¬ us j = 0 ∧ f j = x
    · rw [cif_t h2]; exact (cif_t ⟨by omega, h2.2⟩).symm
    · rw [cif_f h2]; exact (cif_f (fun k => h2 ⟨by omega, k.2⟩)).symm
/-- how many of the first n are active -/
noncomputable def acM (u : MU) : Nat → Nat
  | 0 => 0
  | n + 1 => acM u n + cif (m_sta u n = 0) 1 0
noncomputable def men (u : MU) (t : Nat) (q : Prop) : MU :=
  let v := ms_thr u 0
  let v1 := ms_sta v (upd (m_sta v) t (cif q 1 2))
  ms_d v1 (tkM (m_us v1) (m_d v1) q (nI t) 32)
def ibM (x y : Int32) : Prop := ¬ x = y ∧ ¬ 32 ≤ ((y - x) + 64) - ((y - x) + 64) / 64 * 64
theorem inP_i {x a b : Int32} (h : ¬ x < a ∧ ¬ b < x) : inP x a b := h
noncomputable def msl (u : MU) (q : Nat) : Int32 := cif (m_us u q = 0) (-1) (m_k u q + cif (m_fr u q = 0) 0 10 + cif (m_d u q = -1) 0 20 + cif (m_n u q = -1) 0 (100 * (nI (nat (m_n u q) % 8) + 1)))
noncomputable def fuM (u : MU) (a : Nat) : Nat → Nat
  | 0 => 0
  | n + 1 => fuM u a n + cif (m_us u (8 * a + n) = 0) 0 1
theorem fuM_le {u : MU} {a : Nat} : ∀ n, fuM u a n ≤ n
  | 0 => Nat.le_refl _
  | n + 1 => by
    have ih := fuM_le (u := u) (a := a) n
    by_cases h : m_us u (8 * a + n) = 0
    · rw [fuM, cif_t h]; omega
    · rw [fuM, cif_f h]; omega
def rmX5_thrown : Room := { frames := 0, cells := 0, slots := 0, locals := 0 }
theorem hdX5_thrown : yX5_thrown.cls = RX5 ∧ yX5_thrown.cls ≠ "java/lang/invoke/MethodHandle" ∧ yX5_thrown.cls ≠ "java/lang/invoke/VarHandle" ∧ (parseMethodDescriptor yX5_thrown.desc).map (fun d => d.parameters.length) = some 0 := by decide +kernel
set_option maxHeartbeats 4000000 in
set_option maxRecDepth 100000 in
theorem kX5_thrown {l : Launch} {D : va_G} {K : Nat → ClassId} {L : Nat → Prop} {g : Nat → Nat} (hg : gd L g 14) (u : MU) : CI l yX5_thrown wsX5_thrown rmX5_thrown D K L [.ref (g 0)] (wM K g u) (wM K g u) (m_thr u) := by
  refine CI.of (cc := cX5_thrown) (maxL := 1) (ret := (some .int)) (by decide +kernel) rfl (Nat.le_of_ble_eq_true rfl) ?_
  intro p e s m below meth c ls hen hP
  obtain ⟨hx, hb, hr, hts, hown, hlk, hml, hnm, hE, hl⟩ := hen
  have S : CallFix p m c cX5_thrown 1 s _ wsX5_thrown RX5 := ⟨hx, hb, hml, hown, hts⟩
  have hS : va_S (fr L s.heap.size) s.heap s.heap [] := va_S.rf
  have hl : lv_has ls 1 [(0, .ref (g 0))] := hl
  have i5 : ∀ w ∈ wsX50, w ∈ wsX5_thrown := fun _ h => List.mem_cons_of_mem _ (List.mem_append_right _ h)
  refine lv_aload_n hx hb dX5_thrown_0 rfl (lv_at hl 0 rfl) ?_
  refine gw5_thrown S i5 hE hP (f := m_thr u) rfl (hts _ (List.mem_of_getElem? (i := 1) rfl)) dX5_thrown_1 ?_
  exact ei hx hb hr hlk hS hP rfl (by rfl) (Nat.le_of_ble_eq_true rfl) (Nat.le_of_ble_eq_true rfl) dX5_thrown_4
def rmX5_oldest : Room := { frames := 2, cells := 0, slots := 0, locals := 45 }
theorem hdX5_oldest : yX5_oldest.cls = RX5 ∧ yX5_oldest.cls ≠ "java/lang/invoke/MethodHandle" ∧ yX5_oldest.cls ≠ "java/lang/invoke/VarHandle" ∧ (parseMethodDescriptor yX5_oldest.desc).map (fun d => d.parameters.length) = some 0 := by decide +kernel
set_option maxHeartbeats 4000000 in
set_option maxRecDepth 100000 in
theorem kX5_oldest {l : Launch} {D : va_G} {K : Nat → ClassId} {L : Nat → Prop} {g : Nat → Nat} (hg : gd L g 14) (u : MU) (N : Nat) (hN : N ≤ 60) (hcn : m_cn u = nI N) (hr9 : rM u) : CI l yX5_oldest wsX5_oldest rmX5_oldest D K L [.ref (g 0)] (wM K g u) (wM K g (ms_thr u 0)) (og2 (ms_thr u 0) N) := by
  refine CI.of (cc := cX5_oldest) (maxL := 1) (ret := (some .int)) (by decide +kernel) rfl (Nat.le_of_ble_eq_true rfl) ?_
  intro p e s m below meth c ls hen hP
  obtain ⟨hx, hb, hr, hts, hown, hlk, hml, hnm, hE, hl⟩ := hen
  have S : CallFix p m c cX5_oldest 1 s _ wsX5_oldest RX5 := ⟨hx, hb, hml, hown, hts⟩
  have hS : va_S (fr L s.heap.size) s.heap s.heap [] := va_S.rf
  have hl : lv_has ls 1 [(0, .ref (g 0))] := hl
  have i5 : ∀ w ∈ wsX50, w ∈ wsX5_oldest := fun _ h => List.mem_cons_of_mem _ (List.mem_append_right _ h)
  refine lv_aload_n hx hb dX5_oldest_0 rfl (lv_at hl 0 rfl) ?_
  refine lv_iconst (v := 0) hx hb dX5_oldest_1 (by decide) ?_
  refine pw5_thrown S i5 hE hP hg hS (hts _ (List.mem_of_getElem? (i := 1) rfl)) dX5_oldest_2 (fun H locs hP hS => ?_)
  refine lv_aload_n hx hb dX5_oldest_5 rfl (lv_at hl 0 rfl) ?_
  refine kiV (As := []) (rest := []) S (kX5_oldestNow hg (ms_thr u 0) N hN hcn hr9) (cwV 0 hts gX5_oldest_X5_oldestNow rfl rfl rfl hdX5_oldestNow ⟨Nat.le_of_ble_eq_true rfl, Nat.le_of_ble_eq_true rfl⟩) rfl rfl 0 rfl rfl hE hP hS (frs hS) rfl hl.1 rfl (Nat.le_of_ble_eq_true rfl) dX5_oldest_6 ⟨Nat.le_of_ble_eq_true rfl, Nat.le_of_ble_eq_true rfl⟩ (fun H locs hP _ _ hS => ?_)
  exact ei hx hb hr hlk hS hP rfl (by rfl) (Nat.le_of_ble_eq_true rfl) (Nat.le_of_ble_eq_true rfl) dX5_oldest_9
def rmX5_stamp : Room := { frames := 2, cells := 0, slots := 0, locals := 43 }
theorem hdX5_stamp : yX5_stamp.cls = RX5 ∧ yX5_stamp.cls ≠ "java/lang/invoke/MethodHandle" ∧ yX5_stamp.cls ≠ "java/lang/invoke/VarHandle" ∧ (parseMethodDescriptor yX5_stamp.desc).map (fun d => d.parameters.length) = some 1 := by decide +kernel
set_option maxHeartbeats 4000000 in
set_option maxRecDepth 100000 in
theorem kX5_stamp {l : Launch} {D : va_G} {K : Nat → ClassId} {L : Nat → Prop} {g : Nat → Nat} (hg : gd L g 14) (u : MU) (x : Int32) (N : Nat) (hN : N ≤ 60) (hcn : m_cn u = nI N) : CI l yX5_stamp wsX5_stamp rmX5_stamp D K L [.ref (g 0), .int x] (wM K g u) (wM K g (ms_thr u (co1 (trP u x)))) (cif (trP u x) (m_st u (nat x)) 0) := by
  refine CI.of (cc := cX5_stamp) (maxL := 2) (ret := (some .int)) (by decide +kernel) rfl (Nat.le_of_ble_eq_true rfl) ?_
  intro p e s m below meth c ls hen hP
  obtain ⟨hx, hb, hr, hts, hown, hlk, hml, hnm, hE, hl⟩ := hen
  have S : CallFix p m c cX5_stamp 2 s _ wsX5_stamp RX5 := ⟨hx, hb, hml, hown, hts⟩
  have hS : va_S (fr L s.heap.size) s.heap s.heap [] := va_S.rf
  have hl : lv_has ls 2 [(0, .ref (g 0)), (1, .int x)] := hl
  have i5 : ∀ w ∈ wsX50, w ∈ wsX5_stamp := fun _ h => List.mem_cons_of_mem _ (List.mem_append_right _ h)
  refine lv_aload_n hx hb dX5_stamp_0 rfl (lv_at hl 0 rfl) ?_
  refine lv_aload_n hx hb dX5_stamp_1 rfl (lv_at hl 0 rfl) ?_
  refine lv_iload_n hx hb dX5_stamp_2 rfl (lv_at hl 1 rfl) ?_
  refine kiV (As := [.int x]) (rest := [.ref (g 0)]) S (kX5_isTransaction hg u x) (cwV 1 hts gX5_stamp_X5_isTransaction rfl rfl rfl hdX5_isTransaction ⟨Nat.le_of_ble_eq_true rfl, Nat.le_of_ble_eq_true rfl⟩) rfl rfl 0 rfl rfl hE hP hS (frs hS) rfl hl.1 rfl (Nat.le_of_ble_eq_true rfl) dX5_stamp_3 ⟨Nat.le_of_ble_eq_true rfl, Nat.le_of_ble_eq_true rfl⟩ (fun H locs hP _ _ hS => ?_)
  refine bzeq (tgt := 13) hx hb dX5_stamp_6 (by decide) (fun c1 => ?_) (fun c1 => ?_)
  · skip
    refine lv_iconst (v := 1) hx hb dX5_stamp_13 (by decide) ?_
    refine kiV (As := [.int 1]) (rest := []) S (kX5_isFine hg u 1) (cwV 1 hts gX5_stamp_X5_isFine rfl rfl rfl hdX5_isFine ⟨Nat.le_of_ble_eq_true rfl, Nat.le_of_ble_eq_true rfl⟩) rfl rfl 0 rfl rfl hE hP hS (frs hS) rfl hl.1 rfl (Nat.le_of_ble_eq_true rfl) dX5_stamp_14 ⟨Nat.le_of_ble_eq_true rfl, Nat.le_of_ble_eq_true rfl⟩ (fun H locs hP _ _ hS => ?_)
    refine bzeq (tgt := 29) hx hb dX5_stamp_17 (by decide) (fun c2 => ?_) (fun c2 => ?_)
    · skip
      refine lv_iconst (v := 0) hx hb dX5_stamp_29 (by decide) ?_
      exact ei hx hb hr hlk hS hP (by first | rw [co1, cif_t c1] | rw [co1, cif_f c1]) (by first | (rw [hnt, cif_t c1]; rfl) | rw [cif_f c1]) (Nat.le_of_ble_eq_true rfl) (Nat.le_of_ble_eq_true rfl) dX5_stamp_30
    · skip
      exact (by first | exact absurd rfl c2 | exact absurd c2 (by decide))
  · skip
    obtain ⟨t, ht, et⟩ := tr_at (by omega) hcn c1
    subst et
    have hnt : nat (nI t) = t := nat_nI (by omega)
    refine lv_iconst (v := 0) hx hb dX5_stamp_9 (by decide) ?_
    refine lv_goto (tgt := 14) hx hb dX5_stamp_10 (by decide) ?_
    refine kiV (As := [.int 0]) (rest := []) S (kX5_isFine hg u 0) (cwV 1 hts gX5_stamp_X5_isFine rfl rfl rfl hdX5_isFine ⟨Nat.le_of_ble_eq_true rfl, Nat.le_of_ble_eq_true rfl⟩) rfl rfl 0 rfl rfl hE hP hS (frs hS) rfl hl.1 rfl (Nat.le_of_ble_eq_true rfl) dX5_stamp_14 ⟨Nat.le_of_ble_eq_true rfl, Nat.le_of_ble_eq_true rfl⟩ (fun H locs hP _ _ hS => ?_)
    refine bzeq (tgt := 29) hx hb dX5_stamp_17 (by decide) (fun c3 => ?_) (fun c3 => ?_)
    · skip
      exact (by first | exact absurd rfl c3 | exact absurd c3 (by decide))
    · skip
      refine lv_aload_n hx hb dX5_stamp_20 rfl (lv_at hl 0 rfl) ?_
      refine gw5_stamp S i5 hE hP (hts _ (List.mem_of_getElem? (i := 1) rfl)) dX5_stamp_21 ?_
      refine lv_iload_n hx hb dX5_stamp_24 rfl (lv_at hl 1 rfl) ?_
      refine lM_st S hE hP (f := m_st (ms_thr u 0)) rfl (j := t) (by omega) rfl dX5_stamp_25 ?_
      refine lv_goto (tgt := 30) hx hb dX5_stamp_26 (by decide) ?_
      exact ei hx hb hr hlk hS hP (by first | rw [co1, cif_t c1] | rw [co1, cif_f c1]) (by first | (rw [hnt, cif_t c1]; rfl) | rw [cif_f c1]) (Nat.le_of_ble_eq_true rfl) (Nat.le_of_ble_eq_true rfl) dX5_stamp_30
def rmX5_entries : Room := { frames := 2, cells := 0, slots := 0, locals := 42 }
theorem hdX5_entries : yX5_entries.cls = RX5 ∧ yX5_entries.cls ≠ "java/lang/invoke/MethodHandle" ∧ yX5_entries.cls ≠ "java/lang/invoke/VarHandle" ∧ (parseMethodDescriptor yX5_entries.desc).map (fun d => d.parameters.length) = some 1 := by decide +kernel
set_option maxHeartbeats 4000000 in
set_option maxRecDepth 100000 in
theorem kX5_entries {l : Launch} {D : va_G} {K : Nat → ClassId} {L : Nat → Prop} {g : Nat → Nat} (hg : gd L g 14) (u : MU) (x : Int32) : CI l yX5_entries wsX5_entries rmX5_entries D K L [.ref (g 0), .int x] (wM K g u) (wM K g (ms_thr u (co1 (inP x 0 5)))) (cif (inP x 0 5) (m_ec u (nat x)) 0) := by
  refine CI.of (cc := cX5_entries) (maxL := 2) (ret := (some .int)) (by decide +kernel) rfl (Nat.le_of_ble_eq_true rfl) ?_
  intro p e s m below meth c ls hen hP
  obtain ⟨hx, hb, hr, hts, hown, hlk, hml, hnm, hE, hl⟩ := hen
  have S : CallFix p m c cX5_entries 2 s _ wsX5_entries RX5 := ⟨hx, hb, hml, hown, hts⟩
  have hS : va_S (fr L s.heap.size) s.heap s.heap [] := va_S.rf
  have hl : lv_has ls 2 [(0, .ref (g 0)), (1, .int x)] := hl
  have i5 : ∀ w ∈ wsX50, w ∈ wsX5_entries := fun _ h => List.mem_cons_of_mem _ (List.mem_append_right _ h)
  refine lv_aload_n hx hb dX5_entries_0 rfl (lv_at hl 0 rfl) ?_
  refine lv_iload_n hx hb dX5_entries_1 rfl (lv_at hl 1 rfl) ?_
  refine kiS (As := [.int x]) (rest := [.ref (g 0)]) S (kX5_isKey x) (va_cwS 1 hts gX5_entries_X5_isKey rfl rfl rfl hdX5_isKey.2 ⟨Nat.le_of_ble_eq_true rfl, Nat.le_of_ble_eq_true rfl⟩) rfl rfl hE hP hS (frs hS) rfl hl.1 rfl (Nat.le_of_ble_eq_true rfl) dX5_entries_2 ⟨Nat.le_of_ble_eq_true rfl, Nat.le_of_ble_eq_true rfl⟩ (fun H locs hP _ _ hS => ?_)
  refine bzeq (tgt := 12) hx hb dX5_entries_5 (by decide) (fun c1 => ?_) (fun c1 => ?_)
  · skip
    refine lv_iconst (v := 1) hx hb dX5_entries_12 (by decide) ?_
    refine kiV (As := [.int 1]) (rest := []) S (kX5_isFine hg u 1) (cwV 1 hts gX5_entries_X5_isFine rfl rfl rfl hdX5_isFine ⟨Nat.le_of_ble_eq_true rfl, Nat.le_of_ble_eq_true rfl⟩) rfl rfl 0 rfl rfl hE hP hS (frs hS) rfl hl.1 rfl (Nat.le_of_ble_eq_true rfl) dX5_entries_13 ⟨Nat.le_of_ble_eq_true rfl, Nat.le_of_ble_eq_true rfl⟩ (fun H locs hP _ _ hS => ?_)
    refine bzeq (tgt := 28) hx hb dX5_entries_16 (by decide) (fun c2 => ?_) (fun c2 => ?_)
    · skip
      refine lv_iconst (v := 0) hx hb dX5_entries_28 (by decide) ?_
      exact ei hx hb hr hlk hS hP (by first | rw [co1, cif_t c1] | rw [co1, cif_f c1]) (by first | (rw [hnk, cif_t c1]; rfl) | rw [cif_f c1]) (Nat.le_of_ble_eq_true rfl) (Nat.le_of_ble_eq_true rfl) dX5_entries_29
    · skip
      exact (by first | exact absurd rfl c2 | exact absurd c2 (by decide))
  · skip
    obtain ⟨k, hk, ek⟩ := in_at (n := 5) (by omega) c1
    subst ek
    have hnk : nat (nI k) = k := nat_nI (by omega)
    refine lv_iconst (v := 0) hx hb dX5_entries_8 (by decide) ?_
    refine lv_goto (tgt := 13) hx hb dX5_entries_9 (by decide) ?_
    refine kiV (As := [.int 0]) (rest := []) S (kX5_isFine hg u 0) (cwV 1 hts gX5_entries_X5_isFine rfl rfl rfl hdX5_isFine ⟨Nat.le_of_ble_eq_true rfl, Nat.le_of_ble_eq_true rfl⟩) rfl rfl 0 rfl rfl hE hP hS (frs hS) rfl hl.1 rfl (Nat.le_of_ble_eq_true rfl) dX5_entries_13 ⟨Nat.le_of_ble_eq_true rfl, Nat.le_of_ble_eq_true rfl⟩ (fun H locs hP _ _ hS => ?_)
    refine bzeq (tgt := 28) hx hb dX5_entries_16 (by decide) (fun c3 => ?_) (fun c3 => ?_)
    · skip
      exact (by first | exact absurd rfl c3 | exact absurd c3 (by decide))
    · skip
      refine lv_aload_n hx hb dX5_entries_19 rfl (lv_at hl 0 rfl) ?_
      refine gw5_entries S i5 hE hP (hts _ (List.mem_of_getElem? (i := 1) rfl)) dX5_entries_20 ?_
      refine lv_iload_n hx hb dX5_entries_23 rfl (lv_at hl 1 rfl) ?_
      refine lM_ec S hE hP (f := m_ec (ms_thr u 0)) rfl (j := k) (by omega) rfl dX5_entries_24 ?_
      refine lv_goto (tgt := 29) hx hb dX5_entries_25 (by decide) ?_
      exact ei hx hb hr hlk hS hP (by first | rw [co1, cif_t c1] | rw [co1, cif_f c1]) (by first | (rw [hnk, cif_t c1]; rfl) | rw [cif_f c1]) (Nat.le_of_ble_eq_true rfl) (Nat.le_of_ble_eq_true rfl) dX5_entries_29
def rmX5_setFreezing : Room := { frames := 1, cells := 0, slots := 0, locals := 22 }
theorem hdX5_setFreezing : yX5_setFreezing.cls = RX5 ∧ yX5_setFreezing.cls ≠ "java/lang/invoke/MethodHandle" ∧ yX5_setFreezing.cls ≠ "java/lang/invoke/VarHandle" ∧ (parseMethodDescriptor yX5_setFreezing.desc).map (fun d => d.parameters.length) = some 1 := by decide +kernel
set_option maxHeartbeats 4000000 in
set_option maxRecDepth 100000 in
theorem kX5_setFreezing {l : Launch} {D : va_G} {K : Nat → ClassId} {L : Nat → Prop} {g : Nat → Nat} (hg : gd L g 14) (u : MU) (x : Int32) : CI l yX5_setFreezing wsX5_setFreezing rmX5_setFreezing D K L [.ref (g 0), .int x] (wM K g u) (wM K g (cif (inP x 1 27) (ms_fz (ms_thr u 0) x) (ms_thr u 1))) (cif (inP x 1 27) (m_fz u) 0) := by
  refine CI.of (cc := cX5_setFreezing) (maxL := 3) (ret := (some .int)) (by decide +kernel) rfl (Nat.le_of_ble_eq_true rfl) ?_
  intro p e s m below meth c ls hen hP
  obtain ⟨hx, hb, hr, hts, hown, hlk, hml, hnm, hE, hl⟩ := hen
  have S : CallFix p m c cX5_setFreezing 3 s _ wsX5_setFreezing RX5 := ⟨hx, hb, hml, hown, hts⟩
  have hS : va_S (fr L s.heap.size) s.heap s.heap [] := va_S.rf
  have hl : lv_has ls 3 [(0, .ref (g 0)), (1, .int x)] := hl
  have i5 : ∀ w ∈ wsX50, w ∈ wsX5_setFreezing := fun _ h => List.mem_cons_of_mem _ (List.mem_append_right _ h)
  refine lv_aload_n hx hb dX5_setFreezing_0 rfl (lv_at hl 0 rfl) ?_
  refine lv_iload_n hx hb dX5_setFreezing_1 rfl (lv_at hl 1 rfl) ?_
  refine lv_iconst (v := 1) hx hb dX5_setFreezing_2 (by decide) ?_
  refine lv_bipush (v := 27) hx hb dX5_setFreezing_3 (by decide) ?_
  refine kiS (As := [.int x, .int 1, .int 27]) (rest := [.ref (g 0)]) S (kX5_isIn x 1 27) (va_cwS 3 hts gX5_setFreezing_X5_isIn rfl rfl rfl hdX5_isIn.2 ⟨Nat.le_of_ble_eq_true rfl, Nat.le_of_ble_eq_true rfl⟩) rfl rfl hE hP hS (frs hS) rfl hl.1 rfl (Nat.le_of_ble_eq_true rfl) dX5_setFreezing_5 ⟨Nat.le_of_ble_eq_true rfl, Nat.le_of_ble_eq_true rfl⟩ (fun H locs hP _ _ hS => ?_)
  refine bzeq (tgt := 15) hx hb dX5_setFreezing_8 (by decide) (fun c1 => ?_) (fun c1 => ?_)
  · skip
    refine lv_iconst (v := 1) hx hb dX5_setFreezing_15 (by decide) ?_
    refine kiV (As := [.int 1]) (rest := []) S (kX5_isFine hg u 1) (cwV 1 hts gX5_setFreezing_X5_isFine rfl rfl rfl hdX5_isFine ⟨Nat.le_of_ble_eq_true rfl, Nat.le_of_ble_eq_true rfl⟩) rfl rfl 0 rfl rfl hE hP hS (frs hS) rfl hl.1 rfl (Nat.le_of_ble_eq_true rfl) dX5_setFreezing_16 ⟨Nat.le_of_ble_eq_true rfl, Nat.le_of_ble_eq_true rfl⟩ (fun H locs hP _ _ hS => ?_)
    refine bzne (tgt := 24) hx hb dX5_setFreezing_19 (by decide) (fun c2 => ?_) (fun c2 => ?_)
    · skip
      exact (by first | exact absurd rfl c2 | exact absurd c2 (by decide))
    · skip
      refine lv_iconst (v := 0) hx hb dX5_setFreezing_22 (by decide) ?_
      exact ei hx hb hr hlk hS hP (by first | rw [cif_t c1] | rw [cif_f c1]) (by first | (rw [cif_t c1]; rfl) | rw [cif_f c1]) (Nat.le_of_ble_eq_true rfl) (Nat.le_of_ble_eq_true rfl) dX5_setFreezing_23
  · skip
    refine lv_iconst (v := 0) hx hb dX5_setFreezing_11 (by decide) ?_
    refine lv_goto (tgt := 16) hx hb dX5_setFreezing_12 (by decide) ?_
    refine kiV (As := [.int 0]) (rest := []) S (kX5_isFine hg u 0) (cwV 1 hts gX5_setFreezing_X5_isFine rfl rfl rfl hdX5_isFine ⟨Nat.le_of_ble_eq_true rfl, Nat.le_of_ble_eq_true rfl⟩) rfl rfl 0 rfl rfl hE hP hS (frs hS) rfl hl.1 rfl (Nat.le_of_ble_eq_true rfl) dX5_setFreezing_16 ⟨Nat.le_of_ble_eq_true rfl, Nat.le_of_ble_eq_true rfl⟩ (fun H locs hP _ _ hS => ?_)
    refine bzne (tgt := 24) hx hb dX5_setFreezing_19 (by decide) (fun c3 => ?_) (fun c3 => ?_)
    · skip
      refine lv_aload_n hx hb dX5_setFreezing_24 rfl (lv_at hl 0 rfl) ?_
      refine gw5_freezing S i5 hE hP (f := m_fz (ms_thr u 0)) rfl (hts _ (List.mem_of_getElem? (i := 1) rfl)) dX5_setFreezing_25 ?_
      refine lv_istore_n (lv' := [(2, .int (m_fz (ms_thr u 0))), (0, .ref (g 0)), (1, .int x)]) hx hb dX5_setFreezing_28 rfl hl (by decide) rfl (fun ls hl => ?_)
      refine lv_aload_n hx hb dX5_setFreezing_29 rfl (lv_at hl 1 rfl) ?_
      refine lv_iload_n hx hb dX5_setFreezing_30 rfl (lv_at hl 2 rfl) ?_
      refine pw5_freezing S i5 hE hP hg hS (hts _ (List.mem_of_getElem? (i := 1) rfl)) dX5_setFreezing_31 (fun H locs hP hS => ?_)
      refine lv_iload_n hx hb dX5_setFreezing_34 rfl (lv_at hl 0 rfl) ?_
      exact ei hx hb hr hlk hS hP (by first | rw [cif_t c1] | rw [cif_f c1]) (by first | (rw [cif_t c1]; rfl) | rw [cif_f c1]) (Nat.le_of_ble_eq_true rfl) (Nat.le_of_ble_eq_true rfl) dX5_setFreezing_35
    · skip
      exact (by first | exact absurd rfl c3 | exact absurd c3 (by decide))
def rmX5_isMapped : Room := { frames := 2, cells := 0, slots := 0, locals := 42 }
theorem hdX5_isMapped : yX5_isMapped.cls = RX5 ∧ yX5_isMapped.cls ≠ "java/lang/invoke/MethodHandle" ∧ yX5_isMapped.cls ≠ "java/lang/invoke/VarHandle" ∧ (parseMethodDescriptor yX5_isMapped.desc).map (fun d => d.parameters.length) = some 1 := by decide +kernel
set_option maxHeartbeats 4000000 in
set_option maxRecDepth 100000 in
theorem kX5_isMapped {l : Launch} {D : va_G} {K : Nat → ClassId} {L : Nat → Prop} {g : Nat → Nat} (hg : gd L g 14) (u : MU) (x : Int32) : CI l yX5_isMapped wsX5_isMapped rmX5_isMapped D K L [.ref (g 0), .int x] (wM K g u) (wM K g (ms_thr u (co1 (inP x 0 3)))) (fb (inP x 0 3 ∧ ¬ m_mp u (nat x) = 0)) := by
  refine CI.of (cc := cX5_isMapped) (maxL := 2) (ret := (some .boolean)) (by decide +kernel) rfl (Nat.le_of_ble_eq_true rfl) ?_
  intro p e s m below meth c ls hen hP
  obtain ⟨hx, hb, hr, hts, hown, hlk, hml, hnm, hE, hl⟩ := hen
  have S : CallFix p m c cX5_isMapped 2 s _ wsX5_isMapped RX5 := ⟨hx, hb, hml, hown, hts⟩
  have hS : va_S (fr L s.heap.size) s.heap s.heap [] := va_S.rf
  have hl : lv_has ls 2 [(0, .ref (g 0)), (1, .int x)] := hl
  have i5 : ∀ w ∈ wsX50, w ∈ wsX5_isMapped := fun _ h => List.mem_cons_of_mem _ (List.mem_append_right _ h)
  refine lv_aload_n hx hb dX5_isMapped_0 rfl (lv_at hl 0 rfl) ?_
  refine lv_iload_n hx hb dX5_isMapped_1 rfl (lv_at hl 1 rfl) ?_
  refine kiS (As := [.int x]) (rest := [.ref (g 0)]) S (kX5_isPage x) (va_cwS 1 hts gX5_isMapped_X5_isPage rfl rfl rfl hdX5_isPage.2 ⟨Nat.le_of_ble_eq_true rfl, Nat.le_of_ble_eq_true rfl⟩) rfl rfl hE hP hS (frs hS) rfl hl.1 rfl (Nat.le_of_ble_eq_true rfl) dX5_isMapped_2 ⟨Nat.le_of_ble_eq_true rfl, Nat.le_of_ble_eq_true rfl⟩ (fun H locs hP _ _ hS => ?_)
  refine bzeq (tgt := 12) hx hb dX5_isMapped_5 (by decide) (fun c1 => ?_) (fun c1 => ?_)
  · skip
    have no : ¬ (inP x 0 3 ∧ ¬ m_mp u (nat x) = 0) := fun k => c1 k.1
    refine lv_iconst (v := 1) hx hb dX5_isMapped_12 (by decide) ?_
    refine kiV (As := [.int 1]) (rest := []) S (kX5_isFine hg u 1) (cwV 1 hts gX5_isMapped_X5_isFine rfl rfl rfl hdX5_isFine ⟨Nat.le_of_ble_eq_true rfl, Nat.le_of_ble_eq_true rfl⟩) rfl rfl 0 rfl rfl hE hP hS (frs hS) rfl hl.1 rfl (Nat.le_of_ble_eq_true rfl) dX5_isMapped_13 ⟨Nat.le_of_ble_eq_true rfl, Nat.le_of_ble_eq_true rfl⟩ (fun H locs hP _ _ hS => ?_)
    refine bzeq (tgt := 32) hx hb dX5_isMapped_16 (by decide) (fun c2 => ?_) (fun c2 => ?_)
    · skip
      refine lv_iconst (v := 0) hx hb dX5_isMapped_32 (by decide) ?_
      exact ez hx hb hr hlk hS hP (by first | rw [co1, cif_t c1] | rw [co1, cif_f c1]) (by first | exact f_fb no | exact t_fb yes) rfl (Nat.le_of_ble_eq_true rfl) (Nat.le_of_ble_eq_true rfl) dX5_isMapped_33
    · skip
      exact (by first | exact absurd rfl c2 | exact absurd c2 (by decide))
  · skip
    obtain ⟨a, ha, ea⟩ := in_at (n := 3) (by omega) c1
    subst ea
    have hna : nat (nI a) = a := nat_nI (by omega)
    refine lv_iconst (v := 0) hx hb dX5_isMapped_8 (by decide) ?_
    refine lv_goto (tgt := 13) hx hb dX5_isMapped_9 (by decide) ?_
    refine kiV (As := [.int 0]) (rest := []) S (kX5_isFine hg u 0) (cwV 1 hts gX5_isMapped_X5_isFine rfl rfl rfl hdX5_isFine ⟨Nat.le_of_ble_eq_true rfl, Nat.le_of_ble_eq_true rfl⟩) rfl rfl 0 rfl rfl hE hP hS (frs hS) rfl hl.1 rfl (Nat.le_of_ble_eq_true rfl) dX5_isMapped_13 ⟨Nat.le_of_ble_eq_true rfl, Nat.le_of_ble_eq_true rfl⟩ (fun H locs hP _ _ hS => ?_)
    refine bzeq (tgt := 32) hx hb dX5_isMapped_16 (by decide) (fun c3 => ?_) (fun c3 => ?_)
    · skip
      exact (by first | exact absurd rfl c3 | exact absurd c3 (by decide))
    · skip
      refine lv_aload_n hx hb dX5_isMapped_19 rfl (lv_at hl 0 rfl) ?_
      refine gw5_isMapped S i5 hE hP (hts _ (List.mem_of_getElem? (i := 1) rfl)) dX5_isMapped_20 ?_
      refine lv_iload_n hx hb dX5_isMapped_23 rfl (lv_at hl 1 rfl) ?_
      refine lM_mp S hE hP (f := m_mp (ms_thr u 0)) rfl (j := a) (by omega) rfl dX5_isMapped_24 ?_
      refine lv_if_eq (tgt := 32) hx hb dX5_isMapped_25 (by decide) (fun c4 => ?_) (fun c4 => ?_)
      · skip
        have no : ¬ (inP (nI a) 0 3 ∧ ¬ m_mp u (nat (nI a)) = 0) := fun k => k.2 (by rw [hna]; exact c4)
        refine lv_iconst (v := 0) hx hb dX5_isMapped_32 (by decide) ?_
        exact ez hx hb hr hlk hS hP (by first | rw [co1, cif_t c1] | rw [co1, cif_f c1]) (by first | exact f_fb no | exact t_fb yes) rfl (Nat.le_of_ble_eq_true rfl) (Nat.le_of_ble_eq_true rfl) dX5_isMapped_33
      · skip
        have yes : inP (nI a) 0 3 ∧ ¬ m_mp u (nat (nI a)) = 0 := ⟨c1, by rw [hna]; exact c4⟩
        refine lv_iconst (v := 1) hx hb dX5_isMapped_28 (by decide) ?_
        refine lv_goto (tgt := 33) hx hb dX5_isMapped_29 (by decide) ?_
        exact ez hx hb hr hlk hS hP (by first | rw [co1, cif_t c1] | rw [co1, cif_f c1]) (by first | exact f_fb no | exact t_fb yes) rfl (Nat.le_of_ble_eq_true rfl) (Nat.le_of_ble_eq_true rfl) dX5_isMapped_33
def rmX5_isWhole : Room := { frames := 3, cells := 0, slots := 0, locals := 68 }
theorem hdX5_isWhole : yX5_isWhole.cls = RX5 ∧ yX5_isWhole.cls ≠ "java/lang/invoke/MethodHandle" ∧ yX5_isWhole.cls ≠ "java/lang/invoke/VarHandle" ∧ (parseMethodDescriptor yX5_isWhole.desc).map (fun d => d.parameters.length) = some 1 := by decide +kernel
set_option maxHeartbeats 4000000 in
set_option maxRecDepth 100000 in
theorem kX5_isWhole {l : Launch} {D : va_G} {K : Nat → ClassId} {L : Nat → Prop} {g : Nat → Nat} (hg : gd L g 14) (u : MU) (x : Int32) (N : Nat) (hN : N ≤ 60) (hcn : m_cn u = nI N) (hr9 : rM u) : CI l yX5_isWhole wsX5_isWhole rmX5_isWhole D K L [.ref (g 0), .int x] (wM K g u) (wM K g (ms_thr u (co1 (inP x 0 3)))) (fb (inP x 0 3 ∧ whM u N (nat x) 8)) := by
  refine CI.of (cc := cX5_isWhole) (maxL := 2) (ret := (some .boolean)) (by decide +kernel) rfl (Nat.le_of_ble_eq_true rfl) ?_
  intro p e s m below meth c ls hen hP
  obtain ⟨hx, hb, hr, hts, hown, hlk, hml, hnm, hE, hl⟩ := hen
  have S : CallFix p m c cX5_isWhole 2 s _ wsX5_isWhole RX5 := ⟨hx, hb, hml, hown, hts⟩
  have hS : va_S (fr L s.heap.size) s.heap s.heap [] := va_S.rf
  have hl : lv_has ls 2 [(0, .ref (g 0)), (1, .int x)] := hl
  have i5 : ∀ w ∈ wsX50, w ∈ wsX5_isWhole := fun _ h => List.mem_cons_of_mem _ (List.mem_append_right _ h)
  refine lv_aload_n hx hb dX5_isWhole_0 rfl (lv_at hl 0 rfl) ?_
  refine lv_iload_n hx hb dX5_isWhole_1 rfl (lv_at hl 1 rfl) ?_
  refine kiS (As := [.int x]) (rest := [.ref (g 0)]) S (kX5_isPage x) (va_cwS 1 hts gX5_isWhole_X5_isPage rfl rfl rfl hdX5_isPage.2 ⟨Nat.le_of_ble_eq_true rfl, Nat.le_of_ble_eq_true rfl⟩) rfl rfl hE hP hS (frs hS) rfl hl.1 rfl (Nat.le_of_ble_eq_true rfl) dX5_isWhole_2 ⟨Nat.le_of_ble_eq_true rfl, Nat.le_of_ble_eq_true rfl⟩ (fun H locs hP _ _ hS => ?_)
  refine bzeq (tgt := 12) hx hb dX5_isWhole_5 (by decide) (fun c1 => ?_) (fun c1 => ?_)
  · skip
    have no : ¬ (inP x 0 3 ∧ whM u N (nat x) 8) := fun k => c1 k.1
    refine lv_iconst (v := 1) hx hb dX5_isWhole_12 (by decide) ?_
    refine kiV (As := [.int 1]) (rest := []) S (kX5_isFine hg u 1) (cwV 1 hts gX5_isWhole_X5_isFine rfl rfl rfl hdX5_isFine ⟨Nat.le_of_ble_eq_true rfl, Nat.le_of_ble_eq_true rfl⟩) rfl rfl 0 rfl rfl hE hP hS (frs hS) rfl hl.1 rfl (Nat.le_of_ble_eq_true rfl) dX5_isWhole_13 ⟨Nat.le_of_ble_eq_true rfl, Nat.le_of_ble_eq_true rfl⟩ (fun H locs hP _ _ hS => ?_)
    refine bzeq (tgt := 31) hx hb dX5_isWhole_16 (by decide) (fun c2 => ?_) (fun c2 => ?_)
    · skip
      refine lv_iconst (v := 0) hx hb dX5_isWhole_31 (by decide) ?_
      exact ez hx hb hr hlk hS hP (by first | rw [co1, cif_t c1] | rw [co1, cif_f c1]) (by first | exact f_fb no | exact t_fb yes) rfl (Nat.le_of_ble_eq_true rfl) (Nat.le_of_ble_eq_true rfl) dX5_isWhole_32
    · skip
      exact (by first | exact absurd rfl c2 | exact absurd c2 (by decide))
  · skip
    obtain ⟨a, ha, ea⟩ := in_at (n := 3) (by omega) c1
    subst ea
    have hna : nat (nI a) = a := nat_nI (by omega)
    refine lv_iconst (v := 0) hx hb dX5_isWhole_8 (by decide) ?_
    refine lv_goto (tgt := 13) hx hb dX5_isWhole_9 (by decide) ?_
    refine kiV (As := [.int 0]) (rest := []) S (kX5_isFine hg u 0) (cwV 1 hts gX5_isWhole_X5_isFine rfl rfl rfl hdX5_isFine ⟨Nat.le_of_ble_eq_true rfl, Nat.le_of_ble_eq_true rfl⟩) rfl rfl 0 rfl rfl hE hP hS (frs hS) rfl hl.1 rfl (Nat.le_of_ble_eq_true rfl) dX5_isWhole_13 ⟨Nat.le_of_ble_eq_true rfl, Nat.le_of_ble_eq_true rfl⟩ (fun H locs hP _ _ hS => ?_)
    refine bzeq (tgt := 31) hx hb dX5_isWhole_16 (by decide) (fun c3 => ?_) (fun c3 => ?_)
    · skip
      exact (by first | exact absurd rfl c3 | exact absurd c3 (by decide))
    · skip
      refine lv_aload_n hx hb dX5_isWhole_19 rfl (lv_at hl 0 rfl) ?_
      refine lv_iload_n hx hb dX5_isWhole_20 rfl (lv_at hl 1 rfl) ?_
      refine kiV (As := [.int (nI a)]) (rest := []) S (kX5_isWholeNow hg (ms_thr u 0) a (by omega) N hN hcn hr9) (cwV 1 hts gX5_isWhole_X5_isWholeNow rfl rfl rfl hdX5_isWholeNow ⟨Nat.le_of_ble_eq_true rfl, Nat.le_of_ble_eq_true rfl⟩) rfl rfl 0 rfl rfl hE hP hS (frs hS) rfl hl.1 rfl (Nat.le_of_ble_eq_true rfl) dX5_isWhole_21 ⟨Nat.le_of_ble_eq_true rfl, Nat.le_of_ble_eq_true rfl⟩ (fun H locs hP _ _ hS => ?_)
      refine bzeq (tgt := 31) hx hb dX5_isWhole_24 (by decide) (fun c4 => ?_) (fun c4 => ?_)
      · skip
        have no : ¬ (inP (nI a) 0 3 ∧ whM u N (nat (nI a)) 8) := fun k => c4 (by have k2 := k.2; rw [hna] at k2; exact k2)
        refine lv_iconst (v := 0) hx hb dX5_isWhole_31 (by decide) ?_
        exact ez hx hb hr hlk hS hP (by first | rw [co1, cif_t c1] | rw [co1, cif_f c1]) (by first | exact f_fb no | exact t_fb yes) rfl (Nat.le_of_ble_eq_true rfl) (Nat.le_of_ble_eq_true rfl) dX5_isWhole_32
      · skip
        have yes : inP (nI a) 0 3 ∧ whM u N (nat (nI a)) 8 := ⟨c1, by rw [hna]; exact c4⟩
        refine lv_iconst (v := 1) hx hb dX5_isWhole_27 (by decide) ?_
        refine lv_goto (tgt := 32) hx hb dX5_isWhole_28 (by decide) ?_
        exact ez hx hb hr hlk hS hP (by first | rw [co1, cif_t c1] | rw [co1, cif_f c1]) (by first | exact f_fb no | exact t_fb yes) rfl (Nat.le_of_ble_eq_true rfl) (Nat.le_of_ble_eq_true rfl) dX5_isWhole_32
def rmX5_jump : Room := { frames := 2, cells := 0, slots := 0, locals := 45 }
theorem hdX5_jump : yX5_jump.cls = RX5 ∧ yX5_jump.cls ≠ "java/lang/invoke/MethodHandle" ∧ yX5_jump.cls ≠ "java/lang/invoke/VarHandle" ∧ (parseMethodDescriptor yX5_jump.desc).map (fun d => d.parameters.length) = some 1 := by decide +kernel
set_option maxHeartbeats 4000000 in
set_option maxRecDepth 100000 in
theorem kX5_jump {l : Launch} {D : va_G} {K : Nat → ClassId} {L : Nat → Prop} {g : Nat → Nat} (hg : gd L g 14) (u : MU) (x : Int32) (N : Nat) (hN : N ≤ 60) (hcn : m_cn u = nI N) (hr9 : rM u) : CI l yX5_jump wsX5_jump rmX5_jump D K L [.ref (g 0), .int x] (wM K g u) (wM K g (cif (inP x 1 20) (cif (0 < og2 u N ∧ ¬ og2 u N + x < 32) (ms_thr u 2) (ms_ns (ms_thr u 0) (msk u x))) (ms_thr u 1))) (cif (inP x 1 20) (cif (0 < og2 u N ∧ ¬ og2 u N + x < 32) 0 (msk u x)) 0) := by
  refine CI.of (cc := cX5_jump) (maxL := 2) (ret := (some .int)) (by decide +kernel) rfl (Nat.le_of_ble_eq_true rfl) ?_
  intro p e s m below meth c ls hen hP
  obtain ⟨hx, hb, hr, hts, hown, hlk, hml, hnm, hE, hl⟩ := hen
  have S : CallFix p m c cX5_jump 2 s _ wsX5_jump RX5 := ⟨hx, hb, hml, hown, hts⟩
  have hS : va_S (fr L s.heap.size) s.heap s.heap [] := va_S.rf
  have hl : lv_has ls 2 [(0, .ref (g 0)), (1, .int x)] := hl
  have i5 : ∀ w ∈ wsX50, w ∈ wsX5_jump := fun _ h => List.mem_cons_of_mem _ (List.mem_append_right _ h)
  refine lv_aload_n hx hb dX5_jump_0 rfl (lv_at hl 0 rfl) ?_
  refine lv_iload_n hx hb dX5_jump_1 rfl (lv_at hl 1 rfl) ?_
  refine lv_iconst (v := 1) hx hb dX5_jump_2 (by decide) ?_
  refine lv_bipush (v := 20) hx hb dX5_jump_3 (by decide) ?_
  refine kiS (As := [.int x, .int 1, .int 20]) (rest := [.ref (g 0)]) S (kX5_isIn x 1 20) (va_cwS 3 hts gX5_jump_X5_isIn rfl rfl rfl hdX5_isIn.2 ⟨Nat.le_of_ble_eq_true rfl, Nat.le_of_ble_eq_true rfl⟩) rfl rfl hE hP hS (frs hS) rfl hl.1 rfl (Nat.le_of_ble_eq_true rfl) dX5_jump_5 ⟨Nat.le_of_ble_eq_true rfl, Nat.le_of_ble_eq_true rfl⟩ (fun H locs hP _ _ hS => ?_)
  refine bzne (tgt := 15) hx hb dX5_jump_8 (by decide) (fun c1 => ?_) (fun c1 => ?_)
  · skip
    refine lv_aload_n hx hb dX5_jump_15 rfl (lv_at hl 0 rfl) ?_
    refine kiV (As := []) (rest := [.ref (g 0)]) S (kX5_oldestNow hg u N hN hcn hr9) (cwV 0 hts gX5_jump_X5_oldestNow rfl rfl rfl hdX5_oldestNow ⟨Nat.le_of_ble_eq_true rfl, Nat.le_of_ble_eq_true rfl⟩) rfl rfl 0 rfl rfl hE hP hS (frs hS) rfl hl.1 rfl (Nat.le_of_ble_eq_true rfl) dX5_jump_16 ⟨Nat.le_of_ble_eq_true rfl, Nat.le_of_ble_eq_true rfl⟩ (fun H locs hP _ _ hS => ?_)
    refine lv_if_le (tgt := 37) hx hb dX5_jump_19 (by decide) (fun c2 => ?_) (fun c2 => ?_)
    · skip
      have nj : ¬ (0 < og2 u N ∧ ¬ og2 u N + x < 32) := fun k => absurd c2 (i_ltn k.1)
      refine lv_iconst (v := 0) hx hb dX5_jump_37 (by decide) ?_
      refine kiV (As := [.int 0]) (rest := []) S (kX5_isFine hg u 0) (cwV 1 hts gX5_jump_X5_isFine rfl rfl rfl hdX5_isFine ⟨Nat.le_of_ble_eq_true rfl, Nat.le_of_ble_eq_true rfl⟩) rfl rfl 0 rfl rfl hE hP hS (frs hS) rfl hl.1 rfl (Nat.le_of_ble_eq_true rfl) dX5_jump_38 ⟨Nat.le_of_ble_eq_true rfl, Nat.le_of_ble_eq_true rfl⟩ (fun H locs hP _ _ hS => ?_)
      refine bzne (tgt := 46) hx hb dX5_jump_41 (by decide) (fun c3 => ?_) (fun c3 => ?_)
      · skip
        refine lv_aload_n hx hb dX5_jump_46 rfl (lv_at hl 0 rfl) ?_
        refine lv_aload_n hx hb dX5_jump_47 rfl (lv_at hl 0 rfl) ?_
        refine gw5_nextStamp S i5 hE hP (f := m_ns (ms_thr u 0)) rfl (hts _ (List.mem_of_getElem? (i := 1) rfl)) dX5_jump_48 ?_
        refine lv_iload_n hx hb dX5_jump_51 rfl (lv_at hl 1 rfl) ?_
        refine lv_iadd hx hb dX5_jump_52 ?_
        refine lv_bipush (v := 64) hx hb dX5_jump_53 (by decide) ?_
        refine lv_irem hx hb dX5_jump_55 (by decide) ?_
        refine pw5_nextStamp S i5 hE hP hg hS (hts _ (List.mem_of_getElem? (i := 1) rfl)) dX5_jump_56 (fun H locs hP hS => ?_)
        refine lv_aload_n hx hb dX5_jump_59 rfl (lv_at hl 0 rfl) ?_
        refine gw5_nextStamp S i5 hE hP (f := ((m_ns (ms_thr u 0)) + x) - ((m_ns (ms_thr u 0)) + x) / 64 * 64) rfl (hts _ (List.mem_of_getElem? (i := 1) rfl)) dX5_jump_60 ?_
        exact ei hx hb hr hlk hS hP (by first | rw [cif_t c1, cif_t yj] | (rw [cif_t c1, cif_f nj]; rfl) | rw [cif_f c1]) (by first | rw [cif_t c1, cif_t yj] | (rw [cif_t c1, cif_f nj]; rfl) | rw [cif_f c1]) (Nat.le_of_ble_eq_true rfl) (Nat.le_of_ble_eq_true rfl) dX5_jump_63
      · skip
        exact (by first | exact absurd rfl c3 | exact absurd c3 (by decide))
    · skip
      have pa : 0 < og2 u N := i_nle c2
      refine lv_aload_n hx hb dX5_jump_22 rfl (lv_at hl 0 rfl) ?_
      refine kiV (As := []) (rest := [.ref (g 0)]) S (kX5_oldestNow hg u N hN hcn hr9) (cwV 0 hts gX5_jump_X5_oldestNow rfl rfl rfl hdX5_oldestNow ⟨Nat.le_of_ble_eq_true rfl, Nat.le_of_ble_eq_true rfl⟩) rfl rfl 0 rfl rfl hE hP hS (frs hS) rfl hl.1 rfl (Nat.le_of_ble_eq_true rfl) dX5_jump_23 ⟨Nat.le_of_ble_eq_true rfl, Nat.le_of_ble_eq_true rfl⟩ (fun H locs hP _ _ hS => ?_)
      refine lv_iload_n hx hb dX5_jump_26 rfl (lv_at hl 1 rfl) ?_
      refine lv_iadd hx hb dX5_jump_27 ?_
      refine lv_bipush (v := 32) hx hb dX5_jump_28 (by decide) ?_
      refine lv_icmp_lt (tgt := 37) hx hb dX5_jump_30 (by decide) (fun c4 => ?_) (fun c4 => ?_)
      · skip
        have nj : ¬ (0 < og2 u N ∧ ¬ og2 u N + x < 32) := fun k => k.2 c4
        refine lv_iconst (v := 0) hx hb dX5_jump_37 (by decide) ?_
        refine kiV (As := [.int 0]) (rest := []) S (kX5_isFine hg u 0) (cwV 1 hts gX5_jump_X5_isFine rfl rfl rfl hdX5_isFine ⟨Nat.le_of_ble_eq_true rfl, Nat.le_of_ble_eq_true rfl⟩) rfl rfl 0 rfl rfl hE hP hS (frs hS) rfl hl.1 rfl (Nat.le_of_ble_eq_true rfl) dX5_jump_38 ⟨Nat.le_of_ble_eq_true rfl, Nat.le_of_ble_eq_true rfl⟩ (fun H locs hP _ _ hS => ?_)
        refine bzne (tgt := 46) hx hb dX5_jump_41 (by decide) (fun c5 => ?_) (fun c5 => ?_)
        · skip
          refine lv_aload_n hx hb dX5_jump_46 rfl (lv_at hl 0 rfl) ?_
          refine lv_aload_n hx hb dX5_jump_47 rfl (lv_at hl 0 rfl) ?_
          refine gw5_nextStamp S i5 hE hP (f := m_ns (ms_thr u 0)) rfl (hts _ (List.mem_of_getElem? (i := 1) rfl)) dX5_jump_48 ?_
          refine lv_iload_n hx hb dX5_jump_51 rfl (lv_at hl 1 rfl) ?_
          refine lv_iadd hx hb dX5_jump_52 ?_
          refine lv_bipush (v := 64) hx hb dX5_jump_53 (by decide) ?_
          refine lv_irem hx hb dX5_jump_55 (by decide) ?_
          refine pw5_nextStamp S i5 hE hP hg hS (hts _ (List.mem_of_getElem? (i := 1) rfl)) dX5_jump_56 (fun H locs hP hS => ?_)
          refine lv_aload_n hx hb dX5_jump_59 rfl (lv_at hl 0 rfl) ?_
          refine gw5_nextStamp S i5 hE hP (f := ((m_ns (ms_thr u 0)) + x) - ((m_ns (ms_thr u 0)) + x) / 64 * 64) rfl (hts _ (List.mem_of_getElem? (i := 1) rfl)) dX5_jump_60 ?_
          exact ei hx hb hr hlk hS hP (by first | rw [cif_t c1, cif_t yj] | (rw [cif_t c1, cif_f nj]; rfl) | rw [cif_f c1]) (by first | rw [cif_t c1, cif_t yj] | (rw [cif_t c1, cif_f nj]; rfl) | rw [cif_f c1]) (Nat.le_of_ble_eq_true rfl) (Nat.le_of_ble_eq_true rfl) dX5_jump_63
        · skip
          exact (by first | exact absurd rfl c5 | exact absurd c5 (by decide))
      · skip
        have yj : 0 < og2 u N ∧ ¬ og2 u N + x < 32 := ⟨pa, c4⟩
        refine lv_iconst (v := 2) hx hb dX5_jump_33 (by decide) ?_
        refine lv_goto (tgt := 38) hx hb dX5_jump_34 (by decide) ?_
        refine kiV (As := [.int 2]) (rest := []) S (kX5_isFine hg u 2) (cwV 1 hts gX5_jump_X5_isFine rfl rfl rfl hdX5_isFine ⟨Nat.le_of_ble_eq_true rfl, Nat.le_of_ble_eq_true rfl⟩) rfl rfl 0 rfl rfl hE hP hS (frs hS) rfl hl.1 rfl (Nat.le_of_ble_eq_true rfl) dX5_jump_38 ⟨Nat.le_of_ble_eq_true rfl, Nat.le_of_ble_eq_true rfl⟩ (fun H locs hP _ _ hS => ?_)
        refine bzne (tgt := 46) hx hb dX5_jump_41 (by decide) (fun c6 => ?_) (fun c6 => ?_)
        · skip
          exact (by first | exact absurd rfl c6 | exact absurd c6 (by decide))
        · skip
          refine lv_iconst (v := 0) hx hb dX5_jump_44 (by decide) ?_
          exact ei hx hb hr hlk hS hP (by first | rw [cif_t c1, cif_t yj] | (rw [cif_t c1, cif_f nj]; rfl) | rw [cif_f c1]) (by first | rw [cif_t c1, cif_t yj] | (rw [cif_t c1, cif_f nj]; rfl) | rw [cif_f c1]) (Nat.le_of_ble_eq_true rfl) (Nat.le_of_ble_eq_true rfl) dX5_jump_45
  · skip
    refine lv_iconst (v := 1) hx hb dX5_jump_11 (by decide) ?_
    refine lv_goto (tgt := 38) hx hb dX5_jump_12 (by decide) ?_
    refine kiV (As := [.int 1]) (rest := []) S (kX5_isFine hg u 1) (cwV 1 hts gX5_jump_X5_isFine rfl rfl rfl hdX5_isFine ⟨Nat.le_of_ble_eq_true rfl, Nat.le_of_ble_eq_true rfl⟩) rfl rfl 0 rfl rfl hE hP hS (frs hS) rfl hl.1 rfl (Nat.le_of_ble_eq_true rfl) dX5_jump_38 ⟨Nat.le_of_ble_eq_true rfl, Nat.le_of_ble_eq_true rfl⟩ (fun H locs hP _ _ hS => ?_)
    refine bzne (tgt := 46) hx hb dX5_jump_41 (by decide) (fun c7 => ?_) (fun c7 => ?_)
    · skip
      exact (by first | exact absurd rfl c7 | exact absurd c7 (by decide))
    · skip
      refine lv_iconst (v := 0) hx hb dX5_jump_44 (by decide) ?_
      exact ei hx hb hr hlk hS hP (by first | rw [cif_t c1, cif_t yj] | (rw [cif_t c1, cif_f nj]; rfl) | rw [cif_f c1]) (by first | rw [cif_t c1, cif_t yj] | (rw [cif_t c1, cif_f nj]; rfl) | rw [cif_f c1]) (Nat.le_of_ble_eq_true rfl) (Nat.le_of_ble_eq_true rfl) dX5_jump_45
def rmX5_isBefore : Room := { frames := 1, cells := 0, slots := 0, locals := 22 }
theorem hdX5_isBefore : yX5_isBefore.cls = RX5 ∧ yX5_isBefore.cls ≠ "java/lang/invoke/MethodHandle" ∧ yX5_isBefore.cls ≠ "java/lang/invoke/VarHandle" ∧ (parseMethodDescriptor yX5_isBefore.desc).map (fun d => d.parameters.length) = some 2 := by decide +kernel
set_option maxHeartbeats 4000000 in
set_option maxRecDepth 100000 in
theorem kX5_isBefore {l : Launch} {D : va_G} {K : Nat → ClassId} {L : Nat → Prop} {g : Nat → Nat} (hg : gd L g 14) (u : MU) (x y : Int32) : CI l yX5_isBefore wsX5_isBefore rmX5_isBefore D K L [.ref (g 0), .int x, .int y] (wM K g u) (wM K g (ms_thr u (co1 (inP x 0 63 ∧ inP y 0 63)))) (fb ((inP x 0 63 ∧ inP y 0 63) ∧ ibM x y)) := by
  refine CI.of (cc := cX5_isBefore) (maxL := 4) (ret := (some .boolean)) (by decide +kernel) rfl (Nat.le_of_ble_eq_true rfl) ?_
  intro p e s m below meth c ls hen hP
  obtain ⟨hx, hb, hr, hts, hown, hlk, hml, hnm, hE, hl⟩ := hen
  have S : CallFix p m c cX5_isBefore 4 s _ wsX5_isBefore RX5 := ⟨hx, hb, hml, hown, hts⟩
  have hS : va_S (fr L s.heap.size) s.heap s.heap [] := va_S.rf
  have hl : lv_has ls 4 [(0, .ref (g 0)), (1, .int x), (2, .int y)] := hl
  have i5 : ∀ w ∈ wsX50, w ∈ wsX5_isBefore := fun _ h => List.mem_cons_of_mem _ (List.mem_append_right _ h)
  refine lv_iload_n hx hb dX5_isBefore_0 rfl (lv_at hl 1 rfl) ?_
  refine lv_iconst (v := 0) hx hb dX5_isBefore_1 (by decide) ?_
  refine lv_bipush (v := 63) hx hb dX5_isBefore_2 (by decide) ?_
  refine kiS (As := [.int x, .int 0, .int 63]) (rest := []) S (kX5_isIn x 0 63) (va_cwS 3 hts gX5_isBefore_X5_isIn rfl rfl rfl hdX5_isIn.2 ⟨Nat.le_of_ble_eq_true rfl, Nat.le_of_ble_eq_true rfl⟩) rfl rfl hE hP hS (frs hS) rfl hl.1 rfl (Nat.le_of_ble_eq_true rfl) dX5_isBefore_4 ⟨Nat.le_of_ble_eq_true rfl, Nat.le_of_ble_eq_true rfl⟩ (fun H locs hP _ _ hS => ?_)
  refine bzeq (tgt := 24) hx hb dX5_isBefore_7 (by decide) (fun c1 => ?_) (fun c1 => ?_)
  · skip
    have nin : ¬ (inP x 0 63 ∧ inP y 0 63) := fun k => c1 k.1
    have no : ¬ ((inP x 0 63 ∧ inP y 0 63) ∧ ibM x y) := fun k => nin k.1
    refine lv_iconst (v := 0) hx hb dX5_isBefore_24 (by decide) ?_
    refine lv_istore_n (lv' := [(3, .int 0), (0, .ref (g 0)), (1, .int x), (2, .int y)]) hx hb dX5_isBefore_25 rfl hl (by decide) rfl (fun ls hl => ?_)
    refine lv_aload_n hx hb dX5_isBefore_26 rfl (lv_at hl 1 rfl) ?_
    refine lv_iload_n hx hb dX5_isBefore_27 rfl (lv_at hl 0 rfl) ?_
    refine lv_if_eq (tgt := 35) hx hb dX5_isBefore_28 (by decide) (fun c2 => ?_) (fun c2 => ?_)
    · skip
      refine lv_iconst (v := 1) hx hb dX5_isBefore_35 (by decide) ?_
      refine kiV (As := [.int 1]) (rest := []) S (kX5_isFine hg u 1) (cwV 1 hts gX5_isBefore_X5_isFine rfl rfl rfl hdX5_isFine ⟨Nat.le_of_ble_eq_true rfl, Nat.le_of_ble_eq_true rfl⟩) rfl rfl 0 rfl rfl hE hP hS (frs hS) rfl hl.1 rfl (Nat.le_of_ble_eq_true rfl) dX5_isBefore_36 ⟨Nat.le_of_ble_eq_true rfl, Nat.le_of_ble_eq_true rfl⟩ (fun H locs hP _ _ hS => ?_)
      refine bzeq (tgt := 65) hx hb dX5_isBefore_39 (by decide) (fun c3 => ?_) (fun c3 => ?_)
      · skip
        refine lv_iconst (v := 0) hx hb dX5_isBefore_65 (by decide) ?_
        exact ez hx hb hr hlk hS hP (by first | rw [co1, cif_t yin] | rw [co1, cif_f nin]) (by first | exact f_fb no | exact t_fb yes) rfl (Nat.le_of_ble_eq_true rfl) (Nat.le_of_ble_eq_true rfl) dX5_isBefore_66
      · skip
        exact (by first | exact absurd rfl c3 | exact absurd c3 (by decide))
    · skip
      exact (by first | exact absurd c2 (by decide) | exact absurd (by decide) c2)
  · skip
    refine lv_iload_n hx hb dX5_isBefore_10 rfl (lv_at hl 2 rfl) ?_
    refine lv_iconst (v := 0) hx hb dX5_isBefore_11 (by decide) ?_
    refine lv_bipush (v := 63) hx hb dX5_isBefore_12 (by decide) ?_
    refine kiS (As := [.int y, .int 0, .int 63]) (rest := []) S (kX5_isIn y 0 63) (va_cwS 3 hts gX5_isBefore_X5_isIn rfl rfl rfl hdX5_isIn.2 ⟨Nat.le_of_ble_eq_true rfl, Nat.le_of_ble_eq_true rfl⟩) rfl rfl hE hP hS (frs hS) rfl hl.1 rfl (Nat.le_of_ble_eq_true rfl) dX5_isBefore_14 ⟨Nat.le_of_ble_eq_true rfl, Nat.le_of_ble_eq_true rfl⟩ (fun H locs hP _ _ hS => ?_)
    refine bzeq (tgt := 24) hx hb dX5_isBefore_17 (by decide) (fun c4 => ?_) (fun c4 => ?_)
    · skip
      have nin : ¬ (inP x 0 63 ∧ inP y 0 63) := fun k => c4 k.2
      have no : ¬ ((inP x 0 63 ∧ inP y 0 63) ∧ ibM x y) := fun k => nin k.1
      refine lv_iconst (v := 0) hx hb dX5_isBefore_24 (by decide) ?_
      refine lv_istore_n (lv' := [(3, .int 0), (0, .ref (g 0)), (1, .int x), (2, .int y)]) hx hb dX5_isBefore_25 rfl hl (by decide) rfl (fun ls hl => ?_)
      refine lv_aload_n hx hb dX5_isBefore_26 rfl (lv_at hl 1 rfl) ?_
      refine lv_iload_n hx hb dX5_isBefore_27 rfl (lv_at hl 0 rfl) ?_
      refine lv_if_eq (tgt := 35) hx hb dX5_isBefore_28 (by decide) (fun c5 => ?_) (fun c5 => ?_)
      · skip
        refine lv_iconst (v := 1) hx hb dX5_isBefore_35 (by decide) ?_
        refine kiV (As := [.int 1]) (rest := []) S (kX5_isFine hg u 1) (cwV 1 hts gX5_isBefore_X5_isFine rfl rfl rfl hdX5_isFine ⟨Nat.le_of_ble_eq_true rfl, Nat.le_of_ble_eq_true rfl⟩) rfl rfl 0 rfl rfl hE hP hS (frs hS) rfl hl.1 rfl (Nat.le_of_ble_eq_true rfl) dX5_isBefore_36 ⟨Nat.le_of_ble_eq_true rfl, Nat.le_of_ble_eq_true rfl⟩ (fun H locs hP _ _ hS => ?_)
        refine bzeq (tgt := 65) hx hb dX5_isBefore_39 (by decide) (fun c6 => ?_) (fun c6 => ?_)
        · skip
          refine lv_iconst (v := 0) hx hb dX5_isBefore_65 (by decide) ?_
          exact ez hx hb hr hlk hS hP (by first | rw [co1, cif_t yin] | rw [co1, cif_f nin]) (by first | exact f_fb no | exact t_fb yes) rfl (Nat.le_of_ble_eq_true rfl) (Nat.le_of_ble_eq_true rfl) dX5_isBefore_66
        · skip
          exact (by first | exact absurd rfl c6 | exact absurd c6 (by decide))
      · skip
        exact (by first | exact absurd c5 (by decide) | exact absurd (by decide) c5)
    · skip
      have yin : inP x 0 63 ∧ inP y 0 63 := ⟨c1, c4⟩
      refine lv_iconst (v := 1) hx hb dX5_isBefore_20 (by decide) ?_
      refine lv_goto (tgt := 25) hx hb dX5_isBefore_21 (by decide) ?_
      refine lv_istore_n (lv' := [(3, .int 1), (0, .ref (g 0)), (1, .int x), (2, .int y)]) hx hb dX5_isBefore_25 rfl hl (by decide) rfl (fun ls hl => ?_)
      refine lv_aload_n hx hb dX5_isBefore_26 rfl (lv_at hl 1 rfl) ?_
      refine lv_iload_n hx hb dX5_isBefore_27 rfl (lv_at hl 0 rfl) ?_
      refine lv_if_eq (tgt := 35) hx hb dX5_isBefore_28 (by decide) (fun c7 => ?_) (fun c7 => ?_)
      · skip
        exact (by first | exact absurd c7 (by decide) | exact absurd (by decide) c7)
      · skip
        refine lv_iconst (v := 0) hx hb dX5_isBefore_31 (by decide) ?_
        refine lv_goto (tgt := 36) hx hb dX5_isBefore_32 (by decide) ?_
        refine kiV (As := [.int 0]) (rest := []) S (kX5_isFine hg u 0) (cwV 1 hts gX5_isBefore_X5_isFine rfl rfl rfl hdX5_isFine ⟨Nat.le_of_ble_eq_true rfl, Nat.le_of_ble_eq_true rfl⟩) rfl rfl 0 rfl rfl hE hP hS (frs hS) rfl hl.1 rfl (Nat.le_of_ble_eq_true rfl) dX5_isBefore_36 ⟨Nat.le_of_ble_eq_true rfl, Nat.le_of_ble_eq_true rfl⟩ (fun H locs hP _ _ hS => ?_)
        refine bzeq (tgt := 65) hx hb dX5_isBefore_39 (by decide) (fun c8 => ?_) (fun c8 => ?_)
        · skip
          exact (by first | exact absurd rfl c8 | exact absurd c8 (by decide))
        · skip
          refine lv_iload_n hx hb dX5_isBefore_42 rfl (lv_at hl 2 rfl) ?_
          refine lv_iload_n hx hb dX5_isBefore_43 rfl (lv_at hl 3 rfl) ?_
          refine lv_icmp_eq (tgt := 65) hx hb dX5_isBefore_44 (by decide) (fun c9 => ?_) (fun c9 => ?_)
          · skip
            have no : ¬ ((inP x 0 63 ∧ inP y 0 63) ∧ ibM x y) := fun k => k.2.1 c9
            refine lv_iconst (v := 0) hx hb dX5_isBefore_65 (by decide) ?_
            exact ez hx hb hr hlk hS hP (by first | rw [co1, cif_t yin] | rw [co1, cif_f nin]) (by first | exact f_fb no | exact t_fb yes) rfl (Nat.le_of_ble_eq_true rfl) (Nat.le_of_ble_eq_true rfl) dX5_isBefore_66
          · skip
            have nq : ¬ x = y := c9
            refine lv_iload_n hx hb dX5_isBefore_47 rfl (lv_at hl 3 rfl) ?_
            refine lv_iload_n hx hb dX5_isBefore_48 rfl (lv_at hl 2 rfl) ?_
            refine lv_isub hx hb dX5_isBefore_49 ?_
            refine lv_bipush (v := 64) hx hb dX5_isBefore_50 (by decide) ?_
            refine lv_iadd hx hb dX5_isBefore_52 ?_
            refine lv_bipush (v := 64) hx hb dX5_isBefore_53 (by decide) ?_
            refine lv_irem hx hb dX5_isBefore_55 (by decide) ?_
            refine lv_bipush (v := 32) hx hb dX5_isBefore_56 (by decide) ?_
            refine lv_icmp_ge (tgt := 65) hx hb dX5_isBefore_58 (by decide) (fun c10 => ?_) (fun c10 => ?_)
            · skip
              have no : ¬ ((inP x 0 63 ∧ inP y 0 63) ∧ ibM x y) := fun k => k.2.2 c10
              refine lv_iconst (v := 0) hx hb dX5_isBefore_65 (by decide) ?_
              exact ez hx hb hr hlk hS hP (by first | rw [co1, cif_t yin] | rw [co1, cif_f nin]) (by first | exact f_fb no | exact t_fb yes) rfl (Nat.le_of_ble_eq_true rfl) (Nat.le_of_ble_eq_true rfl) dX5_isBefore_66
            · skip
              have yes : (inP x 0 63 ∧ inP y 0 63) ∧ ibM x y := ⟨yin, nq, c10⟩
              refine lv_iconst (v := 1) hx hb dX5_isBefore_61 (by decide) ?_
              refine lv_goto (tgt := 66) hx hb dX5_isBefore_62 (by decide) ?_
              exact ez hx hb hr hlk hS hP (by first | rw [co1, cif_t yin] | rw [co1, cif_f nin]) (by first | exact f_fb no | exact t_fb yes) rfl (Nat.le_of_ble_eq_true rfl) (Nat.le_of_ble_eq_true rfl) dX5_isBefore_66
def rmX5_begin : Room := { frames := 2, cells := 0, slots := 0, locals := 45 }
theorem hdX5_begin : yX5_begin.cls = RX5 ∧ yX5_begin.cls ≠ "java/lang/invoke/MethodHandle" ∧ yX5_begin.cls ≠ "java/lang/invoke/VarHandle" ∧ (parseMethodDescriptor yX5_begin.desc).map (fun d => d.parameters.length) = some 0 := by decide +kernel
set_option maxHeartbeats 4000000 in
set_option maxRecDepth 100000 in
theorem kX5_begin {l : Launch} {D : va_G} {K : Nat → ClassId} {L : Nat → Prop} {g : Nat → Nat} (hg : gd L g 14) (u : MU) (N : Nat) (hN : N ≤ 60) (hcn : m_cn u = nI N) (hr9 : rM u) : CI l yX5_begin wsX5_begin rmX5_begin D K L [.ref (g 0)] (wM K g u) (wM K g (cif (m_cn u = 60 ∨ ¬ og2 u N < 28) (ms_thr u 1) (mbg u N))) (cif (m_cn u = 60 ∨ ¬ og2 u N < 28) 0 (nI N)) := by
  refine CI.of (cc := cX5_begin) (maxL := 4) (ret := (some .int)) (by decide +kernel) rfl (Nat.le_of_ble_eq_true rfl) ?_
  intro p e s m below meth c ls hen hP
  obtain ⟨hx, hb, hr, hts, hown, hlk, hml, hnm, hE, hl⟩ := hen
  have S : CallFix p m c cX5_begin 4 s _ wsX5_begin RX5 := ⟨hx, hb, hml, hown, hts⟩
  have hS : va_S (fr L s.heap.size) s.heap s.heap [] := va_S.rf
  have hl : lv_has ls 4 [(0, .ref (g 0))] := hl
  have i5 : ∀ w ∈ wsX50, w ∈ wsX5_begin := fun _ h => List.mem_cons_of_mem _ (List.mem_append_right _ h)
  refine lv_aload_n hx hb dX5_begin_0 rfl (lv_at hl 0 rfl) ?_
  refine lv_aload_n hx hb dX5_begin_1 rfl (lv_at hl 0 rfl) ?_
  refine gw5_transactions S i5 hE hP (f := m_cn u) rfl (hts _ (List.mem_of_getElem? (i := 1) rfl)) dX5_begin_2 ?_
  refine tpi (y := nI N) hcn ?_
  refine lv_bipush (v := 60) hx hb dX5_begin_5 (by decide) ?_
  refine lv_icmp_eq (tgt := 19) hx hb dX5_begin_7 (by decide) (fun c1 => ?_) (fun c1 => ?_)
  · skip
    have yb : m_cn u = 60 ∨ ¬ og2 u N < 28 := Or.inl (hcn.trans c1)
    refine lv_iconst (v := 1) hx hb dX5_begin_19 (by decide) ?_
    refine lv_goto (tgt := 24) hx hb dX5_begin_20 (by decide) ?_
    refine kiV (As := [.int 1]) (rest := []) S (kX5_isFine hg u 1) (cwV 1 hts gX5_begin_X5_isFine rfl rfl rfl hdX5_isFine ⟨Nat.le_of_ble_eq_true rfl, Nat.le_of_ble_eq_true rfl⟩) rfl rfl 0 rfl rfl hE hP hS (frs hS) rfl hl.1 rfl (Nat.le_of_ble_eq_true rfl) dX5_begin_24 ⟨Nat.le_of_ble_eq_true rfl, Nat.le_of_ble_eq_true rfl⟩ (fun H locs hP _ _ hS => ?_)
    refine bzne (tgt := 32) hx hb dX5_begin_27 (by decide) (fun c2 => ?_) (fun c2 => ?_)
    · skip
      exact (by first | exact absurd rfl c2 | exact absurd c2 (by decide))
    · skip
      refine lv_iconst (v := 0) hx hb dX5_begin_30 (by decide) ?_
      exact ei hx hb hr hlk hS hP (by first | rw [cif_t yb] | (rw [cif_f nb, ha, e9]; rfl)) (by first | rw [cif_t yb] | rw [cif_f nb]) (Nat.le_of_ble_eq_true rfl) (Nat.le_of_ble_eq_true rfl) dX5_begin_31
  · skip
    have q1 : ¬ m_cn u = 60 := fun k => c1 (hcn.symm.trans k)
    have hN6 : N < 60 := by
      rcases Nat.lt_or_ge N 60 with h | h
      · exact h
      · exact absurd (by rw [show N = 60 by omega]; rfl) c1
    refine lv_aload_n hx hb dX5_begin_10 rfl (lv_at hl 0 rfl) ?_
    refine kiV (As := []) (rest := [.ref (g 0)]) S (kX5_oldestNow hg u N hN hcn hr9) (cwV 0 hts gX5_begin_X5_oldestNow rfl rfl rfl hdX5_oldestNow ⟨Nat.le_of_ble_eq_true rfl, Nat.le_of_ble_eq_true rfl⟩) rfl rfl 0 rfl rfl hE hP hS (frs hS) rfl hl.1 rfl (Nat.le_of_ble_eq_true rfl) dX5_begin_11 ⟨Nat.le_of_ble_eq_true rfl, Nat.le_of_ble_eq_true rfl⟩ (fun H locs hP _ _ hS => ?_)
    refine lv_bipush (v := 28) hx hb dX5_begin_14 (by decide) ?_
    refine lv_icmp_lt (tgt := 23) hx hb dX5_begin_16 (by decide) (fun c3 => ?_) (fun c3 => ?_)
    · skip
      have nb : ¬ (m_cn u = 60 ∨ ¬ og2 u N < 28) := fun k => k.elim q1 (fun k => k c3)
      refine lv_iconst (v := 0) hx hb dX5_begin_23 (by decide) ?_
      refine kiV (As := [.int 0]) (rest := []) S (kX5_isFine hg u 0) (cwV 1 hts gX5_begin_X5_isFine rfl rfl rfl hdX5_isFine ⟨Nat.le_of_ble_eq_true rfl, Nat.le_of_ble_eq_true rfl⟩) rfl rfl 0 rfl rfl hE hP hS (frs hS) rfl hl.1 rfl (Nat.le_of_ble_eq_true rfl) dX5_begin_24 ⟨Nat.le_of_ble_eq_true rfl, Nat.le_of_ble_eq_true rfl⟩ (fun H locs hP _ _ hS => ?_)
      refine bzne (tgt := 32) hx hb dX5_begin_27 (by decide) (fun c4 => ?_) (fun c4 => ?_)
      · skip
        refine lv_lconst (v := 0) hx hb dX5_begin_32 (by decide) ?_
        refine lv_lstore_n (lv' := [(1, .long 0), (0, .ref (g 0))]) hx hb dX5_begin_33 rfl hl (by decide) rfl (fun ls hl => ?_)
        refine lv_iconst (v := 0) hx hb dX5_begin_34 (by decide) ?_
        refine lv_istore_n (lv' := [(3, .int 0), (1, .long 0), (0, .ref (g 0))]) hx hb dX5_begin_35 rfl hl (by decide) rfl (fun ls hl => ?_)
        have loop36 : ∀ (n36 : Nat) (i : Nat) (a : Int64), (hi : i ≤ N) → (ha : a = cmo (ms_thr u 0) i) → N - i < n36 → ∀ (H : Heap) (locs : List Loc), va_P D vwCl (wM K g (ms_thr u 0)) H → va_S (fr L s.heap.size) s.heap H locs → ∀ (ls : Array Slot), lv_has ls 4 [(3, .int (nI i)), (1, .long a), (0, .ref (g 0))] → W p l e rmX5_begin s m ([.ref (g 0)] : List Value).toArray below meth c H locs 0 0 (MQ below (va_Qi (fun (r9 : Int32) (_ : Unit) => r9 = cif (m_cn u = 60 ∨ ¬ og2 u N < 28) 0 (nI N)) (fun _ t9 => va_P D vwCl (wM K g (cif (m_cn u = 60 ∨ ¬ og2 u N < 28) (ms_thr u 1) (mbg u N))) t9.heap) (fr L s.heap.size)) ([.ref (g 0)] : List Value).toArray s rmX5_begin.cells rmX5_begin.slots (fr L s.heap.size)) (F0 m 36 ls []) := by
          intro n36
          induction n36 with
          | zero =>
            intro i a hi ha hn36
            exact absurd hn36 (Nat.not_lt_zero _)
          | succ n36 ih36 =>
            intro i a hi ha hn36 H locs hP hS ls hl
            refine lv_iload_n hx hb dX5_begin_36 rfl (lv_at hl 0 rfl) ?_
            refine lv_aload_n hx hb dX5_begin_37 rfl (lv_at hl 2 rfl) ?_
            refine gw5_transactions S i5 hE hP (f := m_cn (ms_thr u 0)) rfl (hts _ (List.mem_of_getElem? (i := 1) rfl)) dX5_begin_38 ?_
            refine tpi (y := nI N) hcn ?_
            refine lv_icmp_ge (tgt := 70) hx hb dX5_begin_41 (by decide) (fun c5 => ?_) (fun c5 => ?_)
            · skip
              have e9 : i = N := by have := nge_i (a := i) (b := N) (by omega) (by omega) c5; omega
              refine lv_aload_n hx hb dX5_begin_70 rfl (lv_at hl 2 rfl) ?_
              refine gw5_snapshot S i5 hE hP (hts _ (List.mem_of_getElem? (i := 3) rfl)) dX5_begin_71 ?_
              refine lv_aload_n hx hb dX5_begin_74 rfl (lv_at hl 2 rfl) ?_
              refine gw5_transactions S i5 hE hP (f := m_cn (ms_thr u 0)) rfl (hts _ (List.mem_of_getElem? (i := 1) rfl)) dX5_begin_75 ?_
              refine tpi (y := nI N) hcn ?_
              refine lv_lload_n hx hb dX5_begin_78 rfl (lv_at hl 1 rfl) ?_
              refine sM_sn S hE hP hg hS (j := N) (by omega) rfl dX5_begin_79 (fun H locs hP hS => ?_)
              have hP : va_P D vwCl (wM K g (ms_sn (ms_thr u 0) (vp_updL (m_sn (ms_thr u 0)) N a))) H := hP
              refine lv_aload_n hx hb dX5_begin_80 rfl (lv_at hl 2 rfl) ?_
              refine gw5_state S i5 hE hP (hts _ (List.mem_of_getElem? (i := 2) rfl)) dX5_begin_81 ?_
              refine lv_aload_n hx hb dX5_begin_84 rfl (lv_at hl 2 rfl) ?_
              refine gw5_transactions S i5 hE hP (f := m_cn (ms_thr u 0)) rfl (hts _ (List.mem_of_getElem? (i := 1) rfl)) dX5_begin_85 ?_
              refine tpi (y := nI N) hcn ?_
              refine lv_iconst (v := 0) hx hb dX5_begin_88 (by decide) ?_
              refine sM_sta S hE hP hg hS (j := N) (by omega) rfl dX5_begin_89 (fun H locs hP hS => ?_)
              have hP : va_P D vwCl (wM K g (ms_sta (ms_sn (ms_thr u 0) (vp_updL (m_sn (ms_thr u 0)) N a)) (upd (m_sta (ms_thr u 0)) N 0))) H := hP
              refine lv_aload_n hx hb dX5_begin_90 rfl (lv_at hl 2 rfl) ?_
              refine gw5_stamp S i5 hE hP (hts _ (List.mem_of_getElem? (i := 4) rfl)) dX5_begin_91 ?_
              refine lv_aload_n hx hb dX5_begin_94 rfl (lv_at hl 2 rfl) ?_
              refine gw5_transactions S i5 hE hP (f := m_cn (ms_thr u 0)) rfl (hts _ (List.mem_of_getElem? (i := 1) rfl)) dX5_begin_95 ?_
              refine tpi (y := nI N) hcn ?_
              refine lv_aload_n hx hb dX5_begin_98 rfl (lv_at hl 2 rfl) ?_
              refine gw5_nextStamp S i5 hE hP (f := m_ns (ms_thr u 0)) rfl (hts _ (List.mem_of_getElem? (i := 5) rfl)) dX5_begin_99 ?_
              refine sM_st S hE hP hg hS (j := N) (by omega) rfl dX5_begin_102 (fun H locs hP hS => ?_)
              have hP : va_P D vwCl (wM K g (ms_st (ms_sta (ms_sn (ms_thr u 0) (vp_updL (m_sn (ms_thr u 0)) N a)) (upd (m_sta (ms_thr u 0)) N 0)) (upd (m_st (ms_thr u 0)) N (m_ns (ms_thr u 0))))) H := hP
              refine lv_aload_n hx hb dX5_begin_103 rfl (lv_at hl 2 rfl) ?_
              refine lv_aload_n hx hb dX5_begin_104 rfl (lv_at hl 2 rfl) ?_
              refine gw5_nextStamp S i5 hE hP (f := m_ns (ms_thr u 0)) rfl (hts _ (List.mem_of_getElem? (i := 5) rfl)) dX5_begin_105 ?_
              refine lv_iconst (v := 1) hx hb dX5_begin_108 (by decide) ?_
              refine lv_iadd hx hb dX5_begin_109 ?_
              refine lv_bipush (v := 64) hx hb dX5_begin_110 (by decide) ?_
              refine lv_irem hx hb dX5_begin_112 (by decide) ?_
              refine pw5_nextStamp S i5 hE hP hg hS (hts _ (List.mem_of_getElem? (i := 5) rfl)) dX5_begin_113 (fun H locs hP hS => ?_)
              refine lv_aload_n hx hb dX5_begin_116 rfl (lv_at hl 2 rfl) ?_
              refine lv_dup hx hb dX5_begin_117 rfl ?_
              refine gw5_transactions S i5 hE hP (f := m_cn (ms_thr u 0)) rfl (hts _ (List.mem_of_getElem? (i := 1) rfl)) dX5_begin_118 ?_
              refine tpi (y := nI N) hcn ?_
              refine lv_iconst (v := 1) hx hb dX5_begin_121 (by decide) ?_
              refine lv_iadd hx hb dX5_begin_122 ?_
              refine tpi (y := nI (N + 1)) (nI_1 N) ?_
              refine pw5_transactions S i5 hE hP hg hS (hts _ (List.mem_of_getElem? (i := 1) rfl)) dX5_begin_123 (fun H locs hP hS => ?_)
              refine lv_aload_n hx hb dX5_begin_126 rfl (lv_at hl 2 rfl) ?_
              refine gw5_transactions S i5 hE hP (f := nI (N + 1)) rfl (hts _ (List.mem_of_getElem? (i := 1) rfl)) dX5_begin_127 ?_
              refine lv_iconst (v := 1) hx hb dX5_begin_130 (by decide) ?_
              refine lv_isub hx hb dX5_begin_131 ?_
              refine tpi (y := nI N) (nI_pred N) ?_
              exact ei hx hb hr hlk hS hP (by first | rw [cif_t yb] | (rw [cif_f nb, ha, e9]; rfl)) (by first | rw [cif_t yb] | rw [cif_f nb]) (Nat.le_of_ble_eq_true rfl) (Nat.le_of_ble_eq_true rfl) dX5_begin_132
            · skip
              have hlt : i < N := nlt_i (a := i) (b := N) (by omega) (by omega) c5
              refine lv_lload_n hx hb dX5_begin_44 rfl (lv_at hl 1 rfl) ?_
              refine lv_aload_n hx hb dX5_begin_45 rfl (lv_at hl 2 rfl) ?_
              refine gw5_state S i5 hE hP (hts _ (List.mem_of_getElem? (i := 2) rfl)) dX5_begin_46 ?_
              refine lv_iload_n hx hb dX5_begin_49 rfl (lv_at hl 0 rfl) ?_
              refine lM_sta S hE hP (f := m_sta (ms_thr u 0)) rfl (j := i) (by omega) rfl dX5_begin_50 ?_
              refine lv_iconst (v := 1) hx hb dX5_begin_51 (by decide) ?_
              refine lv_icmp_ne (tgt := 61) hx hb dX5_begin_52 (by decide) (fun c6 => ?_) (fun c6 => ?_)
              · skip
                refine lv_lconst (v := 0) hx hb dX5_begin_61 (by decide) ?_
                refine tpl (y := cif (m_sta (ms_thr u 0) i = 1) (1 <<< ((nI i).toInt64 &&& 63)) 0) (by first | exact (cif_t c6).symm | exact (cif_f c6).symm) ?_
                refine lv_lor hx hb dX5_begin_62 ?_
                refine tpl (y := cmo (ms_thr u 0) (i + 1)) (by rw [ha]; rfl) ?_
                refine lv_lstore_n (lv' := [(1, .long (cmo (ms_thr u 0) (i + 1))), (3, .int (nI i)), (0, .ref (g 0))]) hx hb dX5_begin_63 rfl hl (by decide) rfl (fun ls hl => ?_)
                refine lv_iinc (v := nI (i + 1)) (lv' := [(3, .int (nI (i + 1))), (1, .long (cmo (ms_thr u 0) (i + 1))), (0, .ref (g 0))]) hx hb dX5_begin_64 hl (k := 1) rfl (nI_1 i) (by decide) rfl (fun ls hl => ?_)
                refine lv_goto (tgt := 36) hx hb dX5_begin_67 (by decide) ?_
                exact ih36 (i + 1) (cmo (ms_thr u 0) (i + 1)) (by omega) rfl (by omega) _ _ hP hS ls (lv_sub hl [0, 1, 2] rfl)
              · skip
                refine lv_lconst (v := 1) hx hb dX5_begin_55 (by decide) ?_
                refine lv_iload_n hx hb dX5_begin_56 rfl (lv_at hl 0 rfl) ?_
                refine lv_lshl hx hb dX5_begin_57 rfl ?_
                refine lv_goto (tgt := 62) hx hb dX5_begin_58 (by decide) ?_
                refine tpl (y := cif (m_sta (ms_thr u 0) i = 1) (1 <<< ((nI i).toInt64 &&& 63)) 0) (by first | exact (cif_t c6).symm | exact (cif_f c6).symm) ?_
                refine lv_lor hx hb dX5_begin_62 ?_
                refine tpl (y := cmo (ms_thr u 0) (i + 1)) (by rw [ha]; rfl) ?_
                refine lv_lstore_n (lv' := [(1, .long (cmo (ms_thr u 0) (i + 1))), (3, .int (nI i)), (0, .ref (g 0))]) hx hb dX5_begin_63 rfl hl (by decide) rfl (fun ls hl => ?_)
                refine lv_iinc (v := nI (i + 1)) (lv' := [(3, .int (nI (i + 1))), (1, .long (cmo (ms_thr u 0) (i + 1))), (0, .ref (g 0))]) hx hb dX5_begin_64 hl (k := 1) rfl (nI_1 i) (by decide) rfl (fun ls hl => ?_)
                refine lv_goto (tgt := 36) hx hb dX5_begin_67 (by decide) ?_
                exact ih36 (i + 1) (cmo (ms_thr u 0) (i + 1)) (by omega) rfl (by omega) _ _ hP hS ls (lv_sub hl [0, 1, 2] rfl)
        exact loop36 _ 0 0 (by omega) rfl (Nat.lt_succ_self _) _ _ hP hS ls (lv_sub hl [0, 1, 2] rfl)
      · skip
        exact (by first | exact absurd rfl c4 | exact absurd c4 (by decide))
    · skip
      have yb : m_cn u = 60 ∨ ¬ og2 u N < 28 := Or.inr c3
      refine lv_iconst (v := 1) hx hb dX5_begin_19 (by decide) ?_
      refine lv_goto (tgt := 24) hx hb dX5_begin_20 (by decide) ?_
      refine kiV (As := [.int 1]) (rest := []) S (kX5_isFine hg u 1) (cwV 1 hts gX5_begin_X5_isFine rfl rfl rfl hdX5_isFine ⟨Nat.le_of_ble_eq_true rfl, Nat.le_of_ble_eq_true rfl⟩) rfl rfl 0 rfl rfl hE hP hS (frs hS) rfl hl.1 rfl (Nat.le_of_ble_eq_true rfl) dX5_begin_24 ⟨Nat.le_of_ble_eq_true rfl, Nat.le_of_ble_eq_true rfl⟩ (fun H locs hP _ _ hS => ?_)
      refine bzne (tgt := 32) hx hb dX5_begin_27 (by decide) (fun c7 => ?_) (fun c7 => ?_)
      · skip
        exact (by first | exact absurd rfl c7 | exact absurd c7 (by decide))
      · skip
        refine lv_iconst (v := 0) hx hb dX5_begin_30 (by decide) ?_
        exact ei hx hb hr hlk hS hP (by first | rw [cif_t yb] | (rw [cif_f nb, ha, e9]; rfl)) (by first | rw [cif_t yb] | rw [cif_f nb]) (Nat.le_of_ble_eq_true rfl) (Nat.le_of_ble_eq_true rfl) dX5_begin_31
def rmX5_end : Room := { frames := 2, cells := 0, slots := 0, locals := 43 }
theorem hdX5_end : yX5_end.cls = RX5 ∧ yX5_end.cls ≠ "java/lang/invoke/MethodHandle" ∧ yX5_end.cls ≠ "java/lang/invoke/VarHandle" ∧ (parseMethodDescriptor yX5_end.desc).map (fun d => d.parameters.length) = some 2 := by decide +kernel
set_option maxHeartbeats 4000000 in
set_option maxRecDepth 100000 in
theorem kX5_end {l : Launch} {D : va_G} {K : Nat → ClassId} {L : Nat → Prop} {g : Nat → Nat} (hg : gd L g 14) (u : MU) (x : Int32) (q : Prop) (N : Nat) (hN : N ≤ 60) (hcn : m_cn u = nI N) : CI l yX5_end wsX5_end rmX5_end D K L [.ref (g 0), .int x, .int (fb q)] (wM K g u) (wM K g (cif (trP u x) (cif (m_sta u (nat x) = 0) (men u (nat x) q) (ms_thr u 2)) (ms_thr u 1))) (cif (trP u x ∧ m_sta u (nat x) = 0) (nI (acM (men u (nat x) q) N)) 0) := by
  refine CI.of (cc := cX5_end) (maxL := 6) (ret := (some .int)) (by decide +kernel) rfl (Nat.le_of_ble_eq_true rfl) ?_
  intro p e s m below meth c ls hen hP
  obtain ⟨hx, hb, hr, hts, hown, hlk, hml, hnm, hE, hl⟩ := hen
  have S : CallFix p m c cX5_end 6 s _ wsX5_end RX5 := ⟨hx, hb, hml, hown, hts⟩
  have hS : va_S (fr L s.heap.size) s.heap s.heap [] := va_S.rf
  have hl : lv_has ls 6 [(0, .ref (g 0)), (1, .int x), (2, .int (fb q))] := hl
  have i5 : ∀ w ∈ wsX50, w ∈ wsX5_end := fun _ h => List.mem_cons_of_mem _ (List.mem_append_right _ h)
  refine lv_aload_n hx hb dX5_end_0 rfl (lv_at hl 0 rfl) ?_
  refine lv_iload_n hx hb dX5_end_1 rfl (lv_at hl 1 rfl) ?_
  refine kiV (As := [.int x]) (rest := []) S (kX5_isTransaction hg u x) (cwV 1 hts gX5_end_X5_isTransaction rfl rfl rfl hdX5_isTransaction ⟨Nat.le_of_ble_eq_true rfl, Nat.le_of_ble_eq_true rfl⟩) rfl rfl 0 rfl rfl hE hP hS (frs hS) rfl hl.1 rfl (Nat.le_of_ble_eq_true rfl) dX5_end_2 ⟨Nat.le_of_ble_eq_true rfl, Nat.le_of_ble_eq_true rfl⟩ (fun H locs hP _ _ hS => ?_)
  refine lv_istore_n (lv' := [(3, .int (fb (trP u x))), (0, .ref (g 0)), (1, .int x), (2, .int (fb q))]) hx hb dX5_end_5 rfl hl (by decide) rfl (fun ls hl => ?_)
  refine lv_aload_n hx hb dX5_end_6 rfl (lv_at hl 1 rfl) ?_
  refine lv_iload_n hx hb dX5_end_7 rfl (lv_at hl 0 rfl) ?_
  refine bzne (tgt := 15) hx hb dX5_end_8 (by decide) (fun c1 => ?_) (fun c1 => ?_)
  · skip
    obtain ⟨t, ht, et⟩ := tr_at (by omega) hcn c1
    subst et
    have hnt : nat (nI t) = t := nat_nI (by omega)
    refine lv_aload_n hx hb dX5_end_15 rfl (lv_at hl 1 rfl) ?_
    refine lv_iload_n hx hb dX5_end_16 rfl (lv_at hl 2 rfl) ?_
    refine kiV (As := [.int (nI t)]) (rest := [.ref (g 0)]) S (kX5_isActive hg u t (by omega)) (cwV 1 hts gX5_end_X5_isActive rfl rfl rfl hdX5_isActive ⟨Nat.le_of_ble_eq_true rfl, Nat.le_of_ble_eq_true rfl⟩) rfl rfl 0 rfl rfl hE hP hS (frs hS) rfl hl.1 rfl (Nat.le_of_ble_eq_true rfl) dX5_end_17 ⟨Nat.le_of_ble_eq_true rfl, Nat.le_of_ble_eq_true rfl⟩ (fun H locs hP _ _ hS => ?_)
    refine bzne (tgt := 27) hx hb dX5_end_20 (by decide) (fun c2 => ?_) (fun c2 => ?_)
    · skip
      refine lv_iconst (v := 0) hx hb dX5_end_27 (by decide) ?_
      refine kiV (As := [.int 0]) (rest := []) S (kX5_isFine hg u 0) (cwV 1 hts gX5_end_X5_isFine rfl rfl rfl hdX5_isFine ⟨Nat.le_of_ble_eq_true rfl, Nat.le_of_ble_eq_true rfl⟩) rfl rfl 0 rfl rfl hE hP hS (frs hS) rfl hl.1 rfl (Nat.le_of_ble_eq_true rfl) dX5_end_28 ⟨Nat.le_of_ble_eq_true rfl, Nat.le_of_ble_eq_true rfl⟩ (fun H locs hP _ _ hS => ?_)
      refine bzne (tgt := 36) hx hb dX5_end_31 (by decide) (fun c3 => ?_) (fun c3 => ?_)
      · skip
        refine lv_aload_n hx hb dX5_end_36 rfl (lv_at hl 1 rfl) ?_
        refine gw5_state S i5 hE hP (hts _ (List.mem_of_getElem? (i := 1) rfl)) dX5_end_37 ?_
        refine lv_iload_n hx hb dX5_end_40 rfl (lv_at hl 2 rfl) ?_
        refine lv_iload_n hx hb dX5_end_41 rfl (lv_at hl 3 rfl) ?_
        refine bzeq (tgt := 49) hx hb dX5_end_42 (by decide) (fun c4 => ?_) (fun c4 => ?_)
        · skip
          refine lv_iconst (v := 2) hx hb dX5_end_49 (by decide) ?_
          refine tpi (y := cif q 1 2) (by first | exact (cif_t c4).symm | exact (cif_f c4).symm) ?_
          refine sM_sta S hE hP hg hS (j := t) (by omega) rfl dX5_end_50 (fun H locs hP hS => ?_)
          have hP : va_P D vwCl (wM K g (ms_sta (ms_thr u 0) (upd (m_sta (ms_thr u 0)) t (cif q 1 2)))) H := hP
          refine lv_iconst (v := 0) hx hb dX5_end_51 (by decide) ?_
          refine lv_istore (lv' := [(4, .int 0), (3, .int (fb (trP u (nI t)))), (0, .ref (g 0)), (1, .int (nI t)), (2, .int (fb q))]) hx hb dX5_end_52 hl (by decide) rfl (fun ls hl => ?_)
          have loop54 : ∀ (n54 : Nat) (i : Nat) (f : AI), (hi : i ≤ 32) → (hf : f = tkM (m_us u) (m_d u) q (nI t) i) → 32 - i < n54 → ∀ (H : Heap) (locs : List Loc), va_P D vwCl (wM K g (ms_d (ms_sta (ms_thr u 0) (upd (m_sta u) t (cif q 1 2))) f)) H → va_S (fr L s.heap.size) s.heap H locs → ∀ (ls : Array Slot), lv_has ls 6 [(4, .int (nI i)), (3, .int (fb (trP u (nI t)))), (0, .ref (g 0)), (1, .int (nI t)), (2, .int (fb q))] → W p l e rmX5_end s m ([.ref (g 0), .int (nI t), .int (fb q)] : List Value).toArray below meth c H locs 0 0 (MQ below (va_Qi (fun (r9 : Int32) (_ : Unit) => r9 = cif (trP u (nI t) ∧ m_sta u (nat (nI t)) = 0) (nI (acM (men u (nat (nI t)) q) N)) 0) (fun _ t9 => va_P D vwCl (wM K g (cif (trP u (nI t)) (cif (m_sta u (nat (nI t)) = 0) (men u (nat (nI t)) q) (ms_thr u 2)) (ms_thr u 1))) t9.heap) (fr L s.heap.size)) ([.ref (g 0), .int (nI t), .int (fb q)] : List Value).toArray s rmX5_end.cells rmX5_end.slots (fr L s.heap.size)) (F0 m 54 ls []) := by
            intro n54
            induction n54 with
            | zero =>
              intro i f hi hf hn54
              exact absurd hn54 (Nat.not_lt_zero _)
            | succ n54 ih54 =>
              intro i f hi hf hn54 H locs hP hS ls hl
              refine lv_iload hx hb dX5_end_54 (lv_at hl 0 rfl) ?_
              refine lv_bipush (v := 32) hx hb dX5_end_56 (by decide) ?_
              refine lv_icmp_ge (tgt := 110) hx hb dX5_end_58 (by decide) (fun c5 => ?_) (fun c5 => ?_)
              · skip
                have e9 : i = 32 := by have := nge_i (a := i) (b := 32) (by omega) (by omega) c5; omega
                refine lv_iconst (v := 0) hx hb dX5_end_110 (by decide) ?_
                refine lv_istore (lv' := [(4, .int 0), (3, .int (fb (trP u (nI t)))), (0, .ref (g 0)), (1, .int (nI t)), (2, .int (fb q))]) hx hb dX5_end_111 hl (by decide) rfl (fun ls hl => ?_)
                refine lv_iconst (v := 0) hx hb dX5_end_113 (by decide) ?_
                refine lv_istore (lv' := [(5, .int 0), (4, .int 0), (3, .int (fb (trP u (nI t)))), (0, .ref (g 0)), (1, .int (nI t)), (2, .int (fb q))]) hx hb dX5_end_114 hl (by decide) rfl (fun ls hl => ?_)
                have loop116 : ∀ (n116 : Nat) (j : Nat) (d : Nat), (hj : j ≤ N) → (hdd : d = acM (men u t q) j) → N - j < n116 → ∀ (H : Heap) (locs : List Loc), va_P D vwCl (wM K g (men u t q)) H → va_S (fr L s.heap.size) s.heap H locs → ∀ (ls : Array Slot), lv_has ls 6 [(5, .int (nI j)), (4, .int (nI d)), (3, .int (fb (trP u (nI t)))), (0, .ref (g 0)), (1, .int (nI t)), (2, .int (fb q))] → W p l e rmX5_end s m ([.ref (g 0), .int (nI t), .int (fb q)] : List Value).toArray below meth c H locs 0 0 (MQ below (va_Qi (fun (r9 : Int32) (_ : Unit) => r9 = cif (trP u (nI t) ∧ m_sta u (nat (nI t)) = 0) (nI (acM (men u (nat (nI t)) q) N)) 0) (fun _ t9 => va_P D vwCl (wM K g (cif (trP u (nI t)) (cif (m_sta u (nat (nI t)) = 0) (men u (nat (nI t)) q) (ms_thr u 2)) (ms_thr u 1))) t9.heap) (fr L s.heap.size)) ([.ref (g 0), .int (nI t), .int (fb q)] : List Value).toArray s rmX5_end.cells rmX5_end.slots (fr L s.heap.size)) (F0 m 116 ls []) := by
                  intro n116
                  induction n116 with
                  | zero =>
                    intro j d hj hdd hn116
                    exact absurd hn116 (Nat.not_lt_zero _)
                  | succ n116 ih116 =>
                    intro j d hj hdd hn116 H locs hP hS ls hl
                    refine lv_iload hx hb dX5_end_116 (lv_at hl 0 rfl) ?_
                    refine lv_aload_n hx hb dX5_end_118 rfl (lv_at hl 3 rfl) ?_
                    refine gw5_transactions S i5 hE hP (f := m_cn (men u t q)) rfl (hts _ (List.mem_of_getElem? (i := 4) rfl)) dX5_end_119 ?_
                    refine tpi (y := nI N) hcn ?_
                    refine lv_icmp_ge (tgt := 150) hx hb dX5_end_122 (by decide) (fun c6 => ?_) (fun c6 => ?_)
                    · skip
                      have e8 : j = N := by have := nge_i (a := j) (b := N) (by omega) (by omega) c6; omega
                      refine lv_iload hx hb dX5_end_150 (lv_at hl 1 rfl) ?_
                      exact ei hx hb hr hlk hS hP (by first | (rw [hnt, cif_t c1, cif_t c2]; done) | (rw [hnt, cif_t c1, cif_f c2]; done) | (rw [cif_f c1]; done)) (by first | (rw [hnt, cif_t ⟨c1, c2⟩, hdd, e8]; done) | (rw [hnt, cif_f (fun k => c2 k.2)]; done) | (rw [cif_f (fun k => c1 k.1)]; done)) (Nat.le_of_ble_eq_true rfl) (Nat.le_of_ble_eq_true rfl) dX5_end_152
                    · skip
                      have hlj : j < N := nlt_i (a := j) (b := N) (by omega) (by omega) c6
                      refine lv_iload hx hb dX5_end_125 (lv_at hl 1 rfl) ?_
                      refine lv_aload_n hx hb dX5_end_127 rfl (lv_at hl 3 rfl) ?_
                      refine lv_iload hx hb dX5_end_128 (lv_at hl 0 rfl) ?_
                      refine kiV (As := [.int (nI j)]) (rest := [.int (nI d)]) S (kX5_isActive hg (men u t q) j (by omega)) (cwV 1 hts gX5_end_X5_isActive rfl rfl rfl hdX5_isActive ⟨Nat.le_of_ble_eq_true rfl, Nat.le_of_ble_eq_true rfl⟩) rfl rfl 0 rfl rfl hE hP hS (frs hS) rfl hl.1 rfl (Nat.le_of_ble_eq_true rfl) dX5_end_130 ⟨Nat.le_of_ble_eq_true rfl, Nat.le_of_ble_eq_true rfl⟩ (fun H locs hP _ _ hS => ?_)
                      refine bzeq (tgt := 140) hx hb dX5_end_133 (by decide) (fun c7 => ?_) (fun c7 => ?_)
                      · skip
                        refine lv_iconst (v := 0) hx hb dX5_end_140 (by decide) ?_
                        refine tpi (y := nI (cif (m_sta (men u t q) j = 0) 1 0)) (by first | (rw [cif_t c7]; rfl) | (rw [cif_f c7]; rfl)) ?_
                        refine lv_iadd hx hb dX5_end_141 ?_
                        refine tpi (y := nI (acM (men u t q) (j + 1))) (by rw [hdd]; exact nI_add _ _) ?_
                        refine lv_istore (lv' := [(4, .int (nI (acM (men u t q) (j + 1)))), (5, .int (nI j)), (3, .int (fb (trP u (nI t)))), (0, .ref (g 0)), (1, .int (nI t)), (2, .int (fb q))]) hx hb dX5_end_142 hl (by decide) rfl (fun ls hl => ?_)
                        refine lv_iinc (v := nI (j + 1)) (lv' := [(5, .int (nI (j + 1))), (4, .int (nI (acM (men u t q) (j + 1)))), (3, .int (fb (trP u (nI t)))), (0, .ref (g 0)), (1, .int (nI t)), (2, .int (fb q))]) hx hb dX5_end_144 hl (k := 1) rfl (nI_1 j) (by decide) rfl (fun ls hl => ?_)
                        refine lv_goto (tgt := 116) hx hb dX5_end_147 (by decide) ?_
                        exact ih116 (j + 1) (acM (men u t q) (j + 1)) (by omega) rfl (by omega) _ _ hP hS ls (lv_sub hl [0, 1, 2, 3, 4, 5] rfl)
                      · skip
                        refine lv_iconst (v := 1) hx hb dX5_end_136 (by decide) ?_
                        refine lv_goto (tgt := 141) hx hb dX5_end_137 (by decide) ?_
                        refine tpi (y := nI (cif (m_sta (men u t q) j = 0) 1 0)) (by first | (rw [cif_t c7]; rfl) | (rw [cif_f c7]; rfl)) ?_
                        refine lv_iadd hx hb dX5_end_141 ?_
                        refine tpi (y := nI (acM (men u t q) (j + 1))) (by rw [hdd]; exact nI_add _ _) ?_
                        refine lv_istore (lv' := [(4, .int (nI (acM (men u t q) (j + 1)))), (5, .int (nI j)), (3, .int (fb (trP u (nI t)))), (0, .ref (g 0)), (1, .int (nI t)), (2, .int (fb q))]) hx hb dX5_end_142 hl (by decide) rfl (fun ls hl => ?_)
                        refine lv_iinc (v := nI (j + 1)) (lv' := [(5, .int (nI (j + 1))), (4, .int (nI (acM (men u t q) (j + 1)))), (3, .int (fb (trP u (nI t)))), (0, .ref (g 0)), (1, .int (nI t)), (2, .int (fb q))]) hx hb dX5_end_144 hl (k := 1) rfl (nI_1 j) (by decide) rfl (fun ls hl => ?_)
                        refine lv_goto (tgt := 116) hx hb dX5_end_147 (by decide) ?_
                        exact ih116 (j + 1) (acM (men u t q) (j + 1)) (by omega) rfl (by omega) _ _ hP hS ls (lv_sub hl [0, 1, 2, 3, 4, 5] rfl)
                exact loop116 _ 0 0 (by omega) rfl (Nat.lt_succ_self _) _ _ (by rw [show men u t q = ms_d (ms_sta (ms_thr u 0) (upd (m_sta u) t (cif q 1 2))) f by rw [hf, e9]; rfl]; exact hP) hS ls (lv_sub hl [0, 1, 2, 3, 4, 5] rfl)
              · skip
                have hlt : i < 32 := nlt_i (a := i) (b := 32) (by omega) (by omega) c5
                have hfi : f i = m_d u i := by rw [hf]; exact tkM_at
                refine lv_aload_n hx hb dX5_end_61 rfl (lv_at hl 2 rfl) ?_
                refine gw5_death S i5 hE hP (hts _ (List.mem_of_getElem? (i := 2) rfl)) dX5_end_62 ?_
                refine lv_iload hx hb dX5_end_65 (lv_at hl 0 rfl) ?_
                refine lv_iload_n hx hb dX5_end_67 rfl (lv_at hl 4 rfl) ?_
                refine bzne (tgt := 96) hx hb dX5_end_68 (by decide) (fun c8 => ?_) (fun c8 => ?_)
                · skip
                  have nt : ¬ (¬ q ∧ ¬ m_us u i = 0 ∧ m_d u i = nI t) := fun k => k.1 c8
                  refine lv_aload_n hx hb dX5_end_96 rfl (lv_at hl 2 rfl) ?_
                  refine gw5_death S i5 hE hP (hts _ (List.mem_of_getElem? (i := 2) rfl)) dX5_end_97 ?_
                  refine lv_iload hx hb dX5_end_100 (lv_at hl 0 rfl) ?_
                  refine lM_d S hE hP (f := f) rfl (j := i) (by omega) rfl dX5_end_102 ?_
                  refine sM_d S hE hP hg hS (j := i) (by omega) rfl dX5_end_103 (fun H locs hP hS => ?_)
                  have hP : va_P D vwCl (wM K g (ms_d (ms_d (ms_sta (ms_thr u 0) (upd (m_sta u) t (cif q 1 2))) f) (upd f i (f i)))) H := hP
                  refine lv_iinc (v := nI (i + 1)) (lv' := [(4, .int (nI (i + 1))), (3, .int (fb (trP u (nI t)))), (0, .ref (g 0)), (1, .int (nI t)), (2, .int (fb q))]) hx hb dX5_end_104 hl (k := 0) rfl (nI_1 i) (by decide) rfl (fun ls hl => ?_)
                  refine lv_goto (tgt := 54) hx hb dX5_end_107 (by decide) ?_
                  exact ih54 (i + 1) (upd f i (f i)) (by omega) (by first | (rw [hf]; exact tkM_y yt) | (rw [hf]; exact tkM_n nt)) (by omega) _ _ hP hS ls (lv_sub hl [0, 1, 2, 3, 4] rfl)
                · skip
                  have nq : ¬ q := c8
                  refine lv_aload_n hx hb dX5_end_71 rfl (lv_at hl 2 rfl) ?_
                  refine gw5_isUsed S i5 hE hP (hts _ (List.mem_of_getElem? (i := 3) rfl)) dX5_end_72 ?_
                  refine lv_iload hx hb dX5_end_75 (lv_at hl 0 rfl) ?_
                  refine lM_us S hE hP (f := m_us (ms_sta (ms_thr u 0) (upd (m_sta u) t (cif q 1 2)))) rfl (j := i) (by omega) rfl dX5_end_77 ?_
                  refine lv_if_eq (tgt := 96) hx hb dX5_end_78 (by decide) (fun c9 => ?_) (fun c9 => ?_)
                  · skip
                    have nt : ¬ (¬ q ∧ ¬ m_us u i = 0 ∧ m_d u i = nI t) := fun k => k.2.1 c9
                    refine lv_aload_n hx hb dX5_end_96 rfl (lv_at hl 2 rfl) ?_
                    refine gw5_death S i5 hE hP (hts _ (List.mem_of_getElem? (i := 2) rfl)) dX5_end_97 ?_
                    refine lv_iload hx hb dX5_end_100 (lv_at hl 0 rfl) ?_
                    refine lM_d S hE hP (f := f) rfl (j := i) (by omega) rfl dX5_end_102 ?_
                    refine sM_d S hE hP hg hS (j := i) (by omega) rfl dX5_end_103 (fun H locs hP hS => ?_)
                    have hP : va_P D vwCl (wM K g (ms_d (ms_d (ms_sta (ms_thr u 0) (upd (m_sta u) t (cif q 1 2))) f) (upd f i (f i)))) H := hP
                    refine lv_iinc (v := nI (i + 1)) (lv' := [(4, .int (nI (i + 1))), (3, .int (fb (trP u (nI t)))), (0, .ref (g 0)), (1, .int (nI t)), (2, .int (fb q))]) hx hb dX5_end_104 hl (k := 0) rfl (nI_1 i) (by decide) rfl (fun ls hl => ?_)
                    refine lv_goto (tgt := 54) hx hb dX5_end_107 (by decide) ?_
                    exact ih54 (i + 1) (upd f i (f i)) (by omega) (by first | (rw [hf]; exact tkM_y yt) | (rw [hf]; exact tkM_n nt)) (by omega) _ _ hP hS ls (lv_sub hl [0, 1, 2, 3, 4] rfl)
                  · skip
                    have us : ¬ m_us u i = 0 := c9
                    refine lv_aload_n hx hb dX5_end_81 rfl (lv_at hl 2 rfl) ?_
                    refine gw5_death S i5 hE hP (hts _ (List.mem_of_getElem? (i := 2) rfl)) dX5_end_82 ?_
                    refine lv_iload hx hb dX5_end_85 (lv_at hl 0 rfl) ?_
                    refine lM_d S hE hP (f := f) rfl (j := i) (by omega) rfl dX5_end_87 ?_
                    refine lv_iload_n hx hb dX5_end_88 rfl (lv_at hl 3 rfl) ?_
                    refine lv_icmp_ne (tgt := 96) hx hb dX5_end_89 (by decide) (fun c10 => ?_) (fun c10 => ?_)
                    · skip
                      have nt : ¬ (¬ q ∧ ¬ m_us u i = 0 ∧ m_d u i = nI t) := fun k => c10 (hfi.trans k.2.2)
                      refine lv_aload_n hx hb dX5_end_96 rfl (lv_at hl 2 rfl) ?_
                      refine gw5_death S i5 hE hP (hts _ (List.mem_of_getElem? (i := 2) rfl)) dX5_end_97 ?_
                      refine lv_iload hx hb dX5_end_100 (lv_at hl 0 rfl) ?_
                      refine lM_d S hE hP (f := f) rfl (j := i) (by omega) rfl dX5_end_102 ?_
                      refine sM_d S hE hP hg hS (j := i) (by omega) rfl dX5_end_103 (fun H locs hP hS => ?_)
                      have hP : va_P D vwCl (wM K g (ms_d (ms_d (ms_sta (ms_thr u 0) (upd (m_sta u) t (cif q 1 2))) f) (upd f i (f i)))) H := hP
                      refine lv_iinc (v := nI (i + 1)) (lv' := [(4, .int (nI (i + 1))), (3, .int (fb (trP u (nI t)))), (0, .ref (g 0)), (1, .int (nI t)), (2, .int (fb q))]) hx hb dX5_end_104 hl (k := 0) rfl (nI_1 i) (by decide) rfl (fun ls hl => ?_)
                      refine lv_goto (tgt := 54) hx hb dX5_end_107 (by decide) ?_
                      exact ih54 (i + 1) (upd f i (f i)) (by omega) (by first | (rw [hf]; exact tkM_y yt) | (rw [hf]; exact tkM_n nt)) (by omega) _ _ hP hS ls (lv_sub hl [0, 1, 2, 3, 4] rfl)
                    · skip
                      have yt : ¬ q ∧ ¬ m_us u i = 0 ∧ m_d u i = nI t := ⟨nq, us, hfi.symm.trans c10⟩
                      refine lv_iconst (v := (-1)) hx hb dX5_end_92 (by decide) ?_
                      refine lv_goto (tgt := 103) hx hb dX5_end_93 (by decide) ?_
                      refine sM_d S hE hP hg hS (j := i) (by omega) rfl dX5_end_103 (fun H locs hP hS => ?_)
                      have hP : va_P D vwCl (wM K g (ms_d (ms_d (ms_sta (ms_thr u 0) (upd (m_sta u) t (cif q 1 2))) f) (upd f i (-1)))) H := hP
                      refine lv_iinc (v := nI (i + 1)) (lv' := [(4, .int (nI (i + 1))), (3, .int (fb (trP u (nI t)))), (0, .ref (g 0)), (1, .int (nI t)), (2, .int (fb q))]) hx hb dX5_end_104 hl (k := 0) rfl (nI_1 i) (by decide) rfl (fun ls hl => ?_)
                      refine lv_goto (tgt := 54) hx hb dX5_end_107 (by decide) ?_
                      exact ih54 (i + 1) (upd f i (-1)) (by omega) (by first | (rw [hf]; exact tkM_y yt) | (rw [hf]; exact tkM_n nt)) (by omega) _ _ hP hS ls (lv_sub hl [0, 1, 2, 3, 4] rfl)
          exact loop54 _ 0 (m_d u) (by omega) tkM_0.symm (Nat.lt_succ_self _) _ _ hP hS ls (lv_sub hl [0, 1, 2, 3, 4] rfl)
        · skip
          refine lv_iconst (v := 1) hx hb dX5_end_45 (by decide) ?_
          refine lv_goto (tgt := 50) hx hb dX5_end_46 (by decide) ?_
          refine tpi (y := cif q 1 2) (by first | exact (cif_t c4).symm | exact (cif_f c4).symm) ?_
          refine sM_sta S hE hP hg hS (j := t) (by omega) rfl dX5_end_50 (fun H locs hP hS => ?_)
          have hP : va_P D vwCl (wM K g (ms_sta (ms_thr u 0) (upd (m_sta (ms_thr u 0)) t (cif q 1 2)))) H := hP
          refine lv_iconst (v := 0) hx hb dX5_end_51 (by decide) ?_
          refine lv_istore (lv' := [(4, .int 0), (3, .int (fb (trP u (nI t)))), (0, .ref (g 0)), (1, .int (nI t)), (2, .int (fb q))]) hx hb dX5_end_52 hl (by decide) rfl (fun ls hl => ?_)
          have loop54 : ∀ (n54 : Nat) (i : Nat) (f : AI), (hi : i ≤ 32) → (hf : f = tkM (m_us u) (m_d u) q (nI t) i) → 32 - i < n54 → ∀ (H : Heap) (locs : List Loc), va_P D vwCl (wM K g (ms_d (ms_sta (ms_thr u 0) (upd (m_sta u) t (cif q 1 2))) f)) H → va_S (fr L s.heap.size) s.heap H locs → ∀ (ls : Array Slot), lv_has ls 6 [(4, .int (nI i)), (3, .int (fb (trP u (nI t)))), (0, .ref (g 0)), (1, .int (nI t)), (2, .int (fb q))] → W p l e rmX5_end s m ([.ref (g 0), .int (nI t), .int (fb q)] : List Value).toArray below meth c H locs 0 0 (MQ below (va_Qi (fun (r9 : Int32) (_ : Unit) => r9 = cif (trP u (nI t) ∧ m_sta u (nat (nI t)) = 0) (nI (acM (men u (nat (nI t)) q) N)) 0) (fun _ t9 => va_P D vwCl (wM K g (cif (trP u (nI t)) (cif (m_sta u (nat (nI t)) = 0) (men u (nat (nI t)) q) (ms_thr u 2)) (ms_thr u 1))) t9.heap) (fr L s.heap.size)) ([.ref (g 0), .int (nI t), .int (fb q)] : List Value).toArray s rmX5_end.cells rmX5_end.slots (fr L s.heap.size)) (F0 m 54 ls []) := by
            intro n54
            induction n54 with
            | zero =>
              intro i f hi hf hn54
              exact absurd hn54 (Nat.not_lt_zero _)
            | succ n54 ih54 =>
              intro i f hi hf hn54 H locs hP hS ls hl
              refine lv_iload hx hb dX5_end_54 (lv_at hl 0 rfl) ?_
              refine lv_bipush (v := 32) hx hb dX5_end_56 (by decide) ?_
              refine lv_icmp_ge (tgt := 110) hx hb dX5_end_58 (by decide) (fun c11 => ?_) (fun c11 => ?_)
              · skip
                have e9 : i = 32 := by have := nge_i (a := i) (b := 32) (by omega) (by omega) c11; omega
                refine lv_iconst (v := 0) hx hb dX5_end_110 (by decide) ?_
                refine lv_istore (lv' := [(4, .int 0), (3, .int (fb (trP u (nI t)))), (0, .ref (g 0)), (1, .int (nI t)), (2, .int (fb q))]) hx hb dX5_end_111 hl (by decide) rfl (fun ls hl => ?_)
                refine lv_iconst (v := 0) hx hb dX5_end_113 (by decide) ?_
                refine lv_istore (lv' := [(5, .int 0), (4, .int 0), (3, .int (fb (trP u (nI t)))), (0, .ref (g 0)), (1, .int (nI t)), (2, .int (fb q))]) hx hb dX5_end_114 hl (by decide) rfl (fun ls hl => ?_)
                have loop116 : ∀ (n116 : Nat) (j : Nat) (d : Nat), (hj : j ≤ N) → (hdd : d = acM (men u t q) j) → N - j < n116 → ∀ (H : Heap) (locs : List Loc), va_P D vwCl (wM K g (men u t q)) H → va_S (fr L s.heap.size) s.heap H locs → ∀ (ls : Array Slot), lv_has ls 6 [(5, .int (nI j)), (4, .int (nI d)), (3, .int (fb (trP u (nI t)))), (0, .ref (g 0)), (1, .int (nI t)), (2, .int (fb q))] → W p l e rmX5_end s m ([.ref (g 0), .int (nI t), .int (fb q)] : List Value).toArray below meth c H locs 0 0 (MQ below (va_Qi (fun (r9 : Int32) (_ : Unit) => r9 = cif (trP u (nI t) ∧ m_sta u (nat (nI t)) = 0) (nI (acM (men u (nat (nI t)) q) N)) 0) (fun _ t9 => va_P D vwCl (wM K g (cif (trP u (nI t)) (cif (m_sta u (nat (nI t)) = 0) (men u (nat (nI t)) q) (ms_thr u 2)) (ms_thr u 1))) t9.heap) (fr L s.heap.size)) ([.ref (g 0), .int (nI t), .int (fb q)] : List Value).toArray s rmX5_end.cells rmX5_end.slots (fr L s.heap.size)) (F0 m 116 ls []) := by
                  intro n116
                  induction n116 with
                  | zero =>
                    intro j d hj hdd hn116
                    exact absurd hn116 (Nat.not_lt_zero _)
                  | succ n116 ih116 =>
                    intro j d hj hdd hn116 H locs hP hS ls hl
                    refine lv_iload hx hb dX5_end_116 (lv_at hl 0 rfl) ?_
                    refine lv_aload_n hx hb dX5_end_118 rfl (lv_at hl 3 rfl) ?_
                    refine gw5_transactions S i5 hE hP (f := m_cn (men u t q)) rfl (hts _ (List.mem_of_getElem? (i := 4) rfl)) dX5_end_119 ?_
                    refine tpi (y := nI N) hcn ?_
                    refine lv_icmp_ge (tgt := 150) hx hb dX5_end_122 (by decide) (fun c12 => ?_) (fun c12 => ?_)
                    · skip
                      have e8 : j = N := by have := nge_i (a := j) (b := N) (by omega) (by omega) c12; omega
                      refine lv_iload hx hb dX5_end_150 (lv_at hl 1 rfl) ?_
                      exact ei hx hb hr hlk hS hP (by first | (rw [hnt, cif_t c1, cif_t c2]; done) | (rw [hnt, cif_t c1, cif_f c2]; done) | (rw [cif_f c1]; done)) (by first | (rw [hnt, cif_t ⟨c1, c2⟩, hdd, e8]; done) | (rw [hnt, cif_f (fun k => c2 k.2)]; done) | (rw [cif_f (fun k => c1 k.1)]; done)) (Nat.le_of_ble_eq_true rfl) (Nat.le_of_ble_eq_true rfl) dX5_end_152
                    · skip
                      have hlj : j < N := nlt_i (a := j) (b := N) (by omega) (by omega) c12
                      refine lv_iload hx hb dX5_end_125 (lv_at hl 1 rfl) ?_
                      refine lv_aload_n hx hb dX5_end_127 rfl (lv_at hl 3 rfl) ?_
                      refine lv_iload hx hb dX5_end_128 (lv_at hl 0 rfl) ?_
                      refine kiV (As := [.int (nI j)]) (rest := [.int (nI d)]) S (kX5_isActive hg (men u t q) j (by omega)) (cwV 1 hts gX5_end_X5_isActive rfl rfl rfl hdX5_isActive ⟨Nat.le_of_ble_eq_true rfl, Nat.le_of_ble_eq_true rfl⟩) rfl rfl 0 rfl rfl hE hP hS (frs hS) rfl hl.1 rfl (Nat.le_of_ble_eq_true rfl) dX5_end_130 ⟨Nat.le_of_ble_eq_true rfl, Nat.le_of_ble_eq_true rfl⟩ (fun H locs hP _ _ hS => ?_)
                      refine bzeq (tgt := 140) hx hb dX5_end_133 (by decide) (fun c13 => ?_) (fun c13 => ?_)
                      · skip
                        refine lv_iconst (v := 0) hx hb dX5_end_140 (by decide) ?_
                        refine tpi (y := nI (cif (m_sta (men u t q) j = 0) 1 0)) (by first | (rw [cif_t c13]; rfl) | (rw [cif_f c13]; rfl)) ?_
                        refine lv_iadd hx hb dX5_end_141 ?_
                        refine tpi (y := nI (acM (men u t q) (j + 1))) (by rw [hdd]; exact nI_add _ _) ?_
                        refine lv_istore (lv' := [(4, .int (nI (acM (men u t q) (j + 1)))), (5, .int (nI j)), (3, .int (fb (trP u (nI t)))), (0, .ref (g 0)), (1, .int (nI t)), (2, .int (fb q))]) hx hb dX5_end_142 hl (by decide) rfl (fun ls hl => ?_)
                        refine lv_iinc (v := nI (j + 1)) (lv' := [(5, .int (nI (j + 1))), (4, .int (nI (acM (men u t q) (j + 1)))), (3, .int (fb (trP u (nI t)))), (0, .ref (g 0)), (1, .int (nI t)), (2, .int (fb q))]) hx hb dX5_end_144 hl (k := 1) rfl (nI_1 j) (by decide) rfl (fun ls hl => ?_)
                        refine lv_goto (tgt := 116) hx hb dX5_end_147 (by decide) ?_
                        exact ih116 (j + 1) (acM (men u t q) (j + 1)) (by omega) rfl (by omega) _ _ hP hS ls (lv_sub hl [0, 1, 2, 3, 4, 5] rfl)
                      · skip
                        refine lv_iconst (v := 1) hx hb dX5_end_136 (by decide) ?_
                        refine lv_goto (tgt := 141) hx hb dX5_end_137 (by decide) ?_
                        refine tpi (y := nI (cif (m_sta (men u t q) j = 0) 1 0)) (by first | (rw [cif_t c13]; rfl) | (rw [cif_f c13]; rfl)) ?_
                        refine lv_iadd hx hb dX5_end_141 ?_
                        refine tpi (y := nI (acM (men u t q) (j + 1))) (by rw [hdd]; exact nI_add _ _) ?_
                        refine lv_istore (lv' := [(4, .int (nI (acM (men u t q) (j + 1)))), (5, .int (nI j)), (3, .int (fb (trP u (nI t)))), (0, .ref (g 0)), (1, .int (nI t)), (2, .int (fb q))]) hx hb dX5_end_142 hl (by decide) rfl (fun ls hl => ?_)
                        refine lv_iinc (v := nI (j + 1)) (lv' := [(5, .int (nI (j + 1))), (4, .int (nI (acM (men u t q) (j + 1)))), (3, .int (fb (trP u (nI t)))), (0, .ref (g 0)), (1, .int (nI t)), (2, .int (fb q))]) hx hb dX5_end_144 hl (k := 1) rfl (nI_1 j) (by decide) rfl (fun ls hl => ?_)
                        refine lv_goto (tgt := 116) hx hb dX5_end_147 (by decide) ?_
                        exact ih116 (j + 1) (acM (men u t q) (j + 1)) (by omega) rfl (by omega) _ _ hP hS ls (lv_sub hl [0, 1, 2, 3, 4, 5] rfl)
                exact loop116 _ 0 0 (by omega) rfl (Nat.lt_succ_self _) _ _ (by rw [show men u t q = ms_d (ms_sta (ms_thr u 0) (upd (m_sta u) t (cif q 1 2))) f by rw [hf, e9]; rfl]; exact hP) hS ls (lv_sub hl [0, 1, 2, 3, 4, 5] rfl)
              · skip
                have hlt : i < 32 := nlt_i (a := i) (b := 32) (by omega) (by omega) c11
                have hfi : f i = m_d u i := by rw [hf]; exact tkM_at
                refine lv_aload_n hx hb dX5_end_61 rfl (lv_at hl 2 rfl) ?_
                refine gw5_death S i5 hE hP (hts _ (List.mem_of_getElem? (i := 2) rfl)) dX5_end_62 ?_
                refine lv_iload hx hb dX5_end_65 (lv_at hl 0 rfl) ?_
                refine lv_iload_n hx hb dX5_end_67 rfl (lv_at hl 4 rfl) ?_
                refine bzne (tgt := 96) hx hb dX5_end_68 (by decide) (fun c14 => ?_) (fun c14 => ?_)
                · skip
                  have nt : ¬ (¬ q ∧ ¬ m_us u i = 0 ∧ m_d u i = nI t) := fun k => k.1 c14
                  refine lv_aload_n hx hb dX5_end_96 rfl (lv_at hl 2 rfl) ?_
                  refine gw5_death S i5 hE hP (hts _ (List.mem_of_getElem? (i := 2) rfl)) dX5_end_97 ?_
                  refine lv_iload hx hb dX5_end_100 (lv_at hl 0 rfl) ?_
                  refine lM_d S hE hP (f := f) rfl (j := i) (by omega) rfl dX5_end_102 ?_
                  refine sM_d S hE hP hg hS (j := i) (by omega) rfl dX5_end_103 (fun H locs hP hS => ?_)
                  have hP : va_P D vwCl (wM K g (ms_d (ms_d (ms_sta (ms_thr u 0) (upd (m_sta u) t (cif q 1 2))) f) (upd f i (f i)))) H := hP
                  refine lv_iinc (v := nI (i + 1)) (lv' := [(4, .int (nI (i + 1))), (3, .int (fb (trP u (nI t)))), (0, .ref (g 0)), (1, .int (nI t)), (2, .int (fb q))]) hx hb dX5_end_104 hl (k := 0) rfl (nI_1 i) (by decide) rfl (fun ls hl => ?_)
                  refine lv_goto (tgt := 54) hx hb dX5_end_107 (by decide) ?_
                  exact ih54 (i + 1) (upd f i (f i)) (by omega) (by first | (rw [hf]; exact tkM_y yt) | (rw [hf]; exact tkM_n nt)) (by omega) _ _ hP hS ls (lv_sub hl [0, 1, 2, 3, 4] rfl)
                · skip
                  have nq : ¬ q := c14
                  refine lv_aload_n hx hb dX5_end_71 rfl (lv_at hl 2 rfl) ?_
                  refine gw5_isUsed S i5 hE hP (hts _ (List.mem_of_getElem? (i := 3) rfl)) dX5_end_72 ?_
                  refine lv_iload hx hb dX5_end_75 (lv_at hl 0 rfl) ?_
                  refine lM_us S hE hP (f := m_us (ms_sta (ms_thr u 0) (upd (m_sta u) t (cif q 1 2)))) rfl (j := i) (by omega) rfl dX5_end_77 ?_
                  refine lv_if_eq (tgt := 96) hx hb dX5_end_78 (by decide) (fun c15 => ?_) (fun c15 => ?_)
                  · skip
                    have nt : ¬ (¬ q ∧ ¬ m_us u i = 0 ∧ m_d u i = nI t) := fun k => k.2.1 c15
                    refine lv_aload_n hx hb dX5_end_96 rfl (lv_at hl 2 rfl) ?_
                    refine gw5_death S i5 hE hP (hts _ (List.mem_of_getElem? (i := 2) rfl)) dX5_end_97 ?_
                    refine lv_iload hx hb dX5_end_100 (lv_at hl 0 rfl) ?_
                    refine lM_d S hE hP (f := f) rfl (j := i) (by omega) rfl dX5_end_102 ?_
                    refine sM_d S hE hP hg hS (j := i) (by omega) rfl dX5_end_103 (fun H locs hP hS => ?_)
                    have hP : va_P D vwCl (wM K g (ms_d (ms_d (ms_sta (ms_thr u 0) (upd (m_sta u) t (cif q 1 2))) f) (upd f i (f i)))) H := hP
                    refine lv_iinc (v := nI (i + 1)) (lv' := [(4, .int (nI (i + 1))), (3, .int (fb (trP u (nI t)))), (0, .ref (g 0)), (1, .int (nI t)), (2, .int (fb q))]) hx hb dX5_end_104 hl (k := 0) rfl (nI_1 i) (by decide) rfl (fun ls hl => ?_)
                    refine lv_goto (tgt := 54) hx hb dX5_end_107 (by decide) ?_
                    exact ih54 (i + 1) (upd f i (f i)) (by omega) (by first | (rw [hf]; exact tkM_y yt) | (rw [hf]; exact tkM_n nt)) (by omega) _ _ hP hS ls (lv_sub hl [0, 1, 2, 3, 4] rfl)
                  · skip
                    have us : ¬ m_us u i = 0 := c15
                    refine lv_aload_n hx hb dX5_end_81 rfl (lv_at hl 2 rfl) ?_
                    refine gw5_death S i5 hE hP (hts _ (List.mem_of_getElem? (i := 2) rfl)) dX5_end_82 ?_
                    refine lv_iload hx hb dX5_end_85 (lv_at hl 0 rfl) ?_
                    refine lM_d S hE hP (f := f) rfl (j := i) (by omega) rfl dX5_end_87 ?_
                    refine lv_iload_n hx hb dX5_end_88 rfl (lv_at hl 3 rfl) ?_
                    refine lv_icmp_ne (tgt := 96) hx hb dX5_end_89 (by decide) (fun c16 => ?_) (fun c16 => ?_)
                    · skip
                      have nt : ¬ (¬ q ∧ ¬ m_us u i = 0 ∧ m_d u i = nI t) := fun k => c16 (hfi.trans k.2.2)
                      refine lv_aload_n hx hb dX5_end_96 rfl (lv_at hl 2 rfl) ?_
                      refine gw5_death S i5 hE hP (hts _ (List.mem_of_getElem? (i := 2) rfl)) dX5_end_97 ?_
                      refine lv_iload hx hb dX5_end_100 (lv_at hl 0 rfl) ?_
                      refine lM_d S hE hP (f := f) rfl (j := i) (by omega) rfl dX5_end_102 ?_
                      refine sM_d S hE hP hg hS (j := i) (by omega) rfl dX5_end_103 (fun H locs hP hS => ?_)
                      have hP : va_P D vwCl (wM K g (ms_d (ms_d (ms_sta (ms_thr u 0) (upd (m_sta u) t (cif q 1 2))) f) (upd f i (f i)))) H := hP
                      refine lv_iinc (v := nI (i + 1)) (lv' := [(4, .int (nI (i + 1))), (3, .int (fb (trP u (nI t)))), (0, .ref (g 0)), (1, .int (nI t)), (2, .int (fb q))]) hx hb dX5_end_104 hl (k := 0) rfl (nI_1 i) (by decide) rfl (fun ls hl => ?_)
                      refine lv_goto (tgt := 54) hx hb dX5_end_107 (by decide) ?_
                      exact ih54 (i + 1) (upd f i (f i)) (by omega) (by first | (rw [hf]; exact tkM_y yt) | (rw [hf]; exact tkM_n nt)) (by omega) _ _ hP hS ls (lv_sub hl [0, 1, 2, 3, 4] rfl)
                    · skip
                      have yt : ¬ q ∧ ¬ m_us u i = 0 ∧ m_d u i = nI t := ⟨nq, us, hfi.symm.trans c16⟩
                      refine lv_iconst (v := (-1)) hx hb dX5_end_92 (by decide) ?_
                      refine lv_goto (tgt := 103) hx hb dX5_end_93 (by decide) ?_
                      refine sM_d S hE hP hg hS (j := i) (by omega) rfl dX5_end_103 (fun H locs hP hS => ?_)
                      have hP : va_P D vwCl (wM K g (ms_d (ms_d (ms_sta (ms_thr u 0) (upd (m_sta u) t (cif q 1 2))) f) (upd f i (-1)))) H := hP
                      refine lv_iinc (v := nI (i + 1)) (lv' := [(4, .int (nI (i + 1))), (3, .int (fb (trP u (nI t)))), (0, .ref (g 0)), (1, .int (nI t)), (2, .int (fb q))]) hx hb dX5_end_104 hl (k := 0) rfl (nI_1 i) (by decide) rfl (fun ls hl => ?_)
                      refine lv_goto (tgt := 54) hx hb dX5_end_107 (by decide) ?_
                      exact ih54 (i + 1) (upd f i (-1)) (by omega) (by first | (rw [hf]; exact tkM_y yt) | (rw [hf]; exact tkM_n nt)) (by omega) _ _ hP hS ls (lv_sub hl [0, 1, 2, 3, 4] rfl)
          exact loop54 _ 0 (m_d u) (by omega) tkM_0.symm (Nat.lt_succ_self _) _ _ hP hS ls (lv_sub hl [0, 1, 2, 3, 4] rfl)
      · skip
        exact (by first | exact absurd rfl c3 | exact absurd c3 (by decide))
    · skip
      refine lv_iconst (v := 2) hx hb dX5_end_23 (by decide) ?_
      refine lv_goto (tgt := 28) hx hb dX5_end_24 (by decide) ?_
      refine kiV (As := [.int 2]) (rest := []) S (kX5_isFine hg u 2) (cwV 1 hts gX5_end_X5_isFine rfl rfl rfl hdX5_isFine ⟨Nat.le_of_ble_eq_true rfl, Nat.le_of_ble_eq_true rfl⟩) rfl rfl 0 rfl rfl hE hP hS (frs hS) rfl hl.1 rfl (Nat.le_of_ble_eq_true rfl) dX5_end_28 ⟨Nat.le_of_ble_eq_true rfl, Nat.le_of_ble_eq_true rfl⟩ (fun H locs hP _ _ hS => ?_)
      refine bzne (tgt := 36) hx hb dX5_end_31 (by decide) (fun c17 => ?_) (fun c17 => ?_)
      · skip
        exact (by first | exact absurd rfl c17 | exact absurd c17 (by decide))
      · skip
        refine lv_iconst (v := 0) hx hb dX5_end_34 (by decide) ?_
        exact ei hx hb hr hlk hS hP (by first | (rw [hnt, cif_t c1, cif_t c2]; done) | (rw [hnt, cif_t c1, cif_f c2]; done) | (rw [cif_f c1]; done)) (by first | (rw [hnt, cif_t ⟨c1, c2⟩, hdd, e8]; done) | (rw [hnt, cif_f (fun k => c2 k.2)]; done) | (rw [cif_f (fun k => c1 k.1)]; done)) (Nat.le_of_ble_eq_true rfl) (Nat.le_of_ble_eq_true rfl) dX5_end_35
  · skip
    refine lv_iconst (v := 1) hx hb dX5_end_11 (by decide) ?_
    refine lv_goto (tgt := 28) hx hb dX5_end_12 (by decide) ?_
    refine kiV (As := [.int 1]) (rest := []) S (kX5_isFine hg u 1) (cwV 1 hts gX5_end_X5_isFine rfl rfl rfl hdX5_isFine ⟨Nat.le_of_ble_eq_true rfl, Nat.le_of_ble_eq_true rfl⟩) rfl rfl 0 rfl rfl hE hP hS (frs hS) rfl hl.1 rfl (Nat.le_of_ble_eq_true rfl) dX5_end_28 ⟨Nat.le_of_ble_eq_true rfl, Nat.le_of_ble_eq_true rfl⟩ (fun H locs hP _ _ hS => ?_)
    refine bzne (tgt := 36) hx hb dX5_end_31 (by decide) (fun c18 => ?_) (fun c18 => ?_)
    · skip
      exact (by first | exact absurd rfl c18 | exact absurd c18 (by decide))
    · skip
      refine lv_iconst (v := 0) hx hb dX5_end_34 (by decide) ?_
      exact ei hx hb hr hlk hS hP (by first | (rw [hnt, cif_t c1, cif_t c2]; done) | (rw [hnt, cif_t c1, cif_f c2]; done) | (rw [cif_f c1]; done)) (by first | (rw [hnt, cif_t ⟨c1, c2⟩, hdd, e8]; done) | (rw [hnt, cif_f (fun k => c2 k.2)]; done) | (rw [cif_f (fun k => c1 k.1)]; done)) (Nat.le_of_ble_eq_true rfl) (Nat.le_of_ble_eq_true rfl) dX5_end_35
def rmX5_readNow : Room := { frames := 4, cells := 0, slots := 0, locals := 90 }
theorem hdX5_readNow : yX5_readNow.cls = RX5 ∧ yX5_readNow.cls ≠ "java/lang/invoke/MethodHandle" ∧ yX5_readNow.cls ≠ "java/lang/invoke/VarHandle" ∧ (parseMethodDescriptor yX5_readNow.desc).map (fun d => d.parameters.length) = some 2 := by decide +kernel
set_option maxHeartbeats 4000000 in
set_option maxRecDepth 100000 in
theorem kX5_readNow {l : Launch} {D : va_G} {K : Nat → ClassId} {L : Nat → Prop} {g : Nat → Nat} (hg : gd L g 14) (u : MU) (x y : Int32) (N : Nat) (hN : N ≤ 60) (hcn : m_cn u = nI N) (hr9 : rM u) (hen : enM u) : CI l yX5_readNow wsX5_readNow rmX5_readNow D K L [.ref (g 0), .int x, .int y] (wM K g u) (wM K g (ms_thr u (co3 (trP u x) (inP y 0 5) (m_sta u (nat x) = 0)))) (cif (trP u x ∧ inP y 0 5 ∧ m_sta u (nat x) = 0) (mrd u (mvs u x y)) 0) := by
  refine CI.of (cc := cX5_readNow) (maxL := 5) (ret := (some .int)) (by decide +kernel) rfl (Nat.le_of_ble_eq_true rfl) ?_
  intro p e s m below meth c ls hen hP
  obtain ⟨hx, hb, hr, hts, hown, hlk, hml, hnm, hE, hl⟩ := hen
  have S : CallFix p m c cX5_readNow 5 s _ wsX5_readNow RX5 := ⟨hx, hb, hml, hown, hts⟩
  have hS : va_S (fr L s.heap.size) s.heap s.heap [] := va_S.rf
  have hl : lv_has ls 5 [(0, .ref (g 0)), (1, .int x), (2, .int y)] := hl
  have i5 : ∀ w ∈ wsX50, w ∈ wsX5_readNow := fun _ h => List.mem_cons_of_mem _ (List.mem_append_right _ h)
  refine lv_aload_n hx hb dX5_readNow_0 rfl (lv_at hl 0 rfl) ?_
  refine lv_iload_n hx hb dX5_readNow_1 rfl (lv_at hl 1 rfl) ?_
  refine kiV (As := [.int x]) (rest := []) S (kX5_isTransaction hg u x) (cwV 1 hts gX5_readNow_X5_isTransaction rfl rfl rfl hdX5_isTransaction ⟨Nat.le_of_ble_eq_true rfl, Nat.le_of_ble_eq_true rfl⟩) rfl rfl 0 rfl rfl hE hP hS (frs hS) rfl hl.1 rfl (Nat.le_of_ble_eq_true rfl) dX5_readNow_2 ⟨Nat.le_of_ble_eq_true rfl, Nat.le_of_ble_eq_true rfl⟩ (fun H locs hP _ _ hS => ?_)
  refine lv_istore_n (lv' := [(3, .int (fb (trP u x))), (0, .ref (g 0)), (1, .int x), (2, .int y)]) hx hb dX5_readNow_5 rfl hl (by decide) rfl (fun ls hl => ?_)
  refine lv_aload_n hx hb dX5_readNow_6 rfl (lv_at hl 1 rfl) ?_
  refine lv_iload_n hx hb dX5_readNow_7 rfl (lv_at hl 0 rfl) ?_
  refine bzne (tgt := 15) hx hb dX5_readNow_8 (by decide) (fun c1 => ?_) (fun c1 => ?_)
  · skip
    obtain ⟨t, ht, et⟩ := tr_at (by omega) hcn c1
    subst et
    have hnt : nat (nI t) = t := nat_nI (by omega)
    refine lv_iload_n hx hb dX5_readNow_15 rfl (lv_at hl 3 rfl) ?_
    refine kiS (As := [.int y]) (rest := [.ref (g 0)]) S (kX5_isKey y) (va_cwS 1 hts gX5_readNow_X5_isKey rfl rfl rfl hdX5_isKey.2 ⟨Nat.le_of_ble_eq_true rfl, Nat.le_of_ble_eq_true rfl⟩) rfl rfl hE hP hS (frs hS) rfl hl.1 rfl (Nat.le_of_ble_eq_true rfl) dX5_readNow_16 ⟨Nat.le_of_ble_eq_true rfl, Nat.le_of_ble_eq_true rfl⟩ (fun H locs hP _ _ hS => ?_)
    refine bzne (tgt := 26) hx hb dX5_readNow_19 (by decide) (fun c2 => ?_) (fun c2 => ?_)
    · skip
      obtain ⟨k, hk, ek⟩ := in_at (n := 5) (by omega) c2
      subst ek
      have hnk : nat (nI k) = k := nat_nI (by omega)
      refine lv_aload_n hx hb dX5_readNow_26 rfl (lv_at hl 1 rfl) ?_
      refine lv_iload_n hx hb dX5_readNow_27 rfl (lv_at hl 2 rfl) ?_
      refine kiV (As := [.int (nI t)]) (rest := [.ref (g 0)]) S (kX5_isActive hg u t (by omega)) (cwV 1 hts gX5_readNow_X5_isActive rfl rfl rfl hdX5_isActive ⟨Nat.le_of_ble_eq_true rfl, Nat.le_of_ble_eq_true rfl⟩) rfl rfl 0 rfl rfl hE hP hS (frs hS) rfl hl.1 rfl (Nat.le_of_ble_eq_true rfl) dX5_readNow_28 ⟨Nat.le_of_ble_eq_true rfl, Nat.le_of_ble_eq_true rfl⟩ (fun H locs hP _ _ hS => ?_)
      refine bzne (tgt := 38) hx hb dX5_readNow_31 (by decide) (fun c3 => ?_) (fun c3 => ?_)
      · skip
        refine lv_iconst (v := 0) hx hb dX5_readNow_38 (by decide) ?_
        refine kiV (As := [.int 0]) (rest := []) S (kX5_isFine hg u 0) (cwV 1 hts gX5_readNow_X5_isFine rfl rfl rfl hdX5_isFine ⟨Nat.le_of_ble_eq_true rfl, Nat.le_of_ble_eq_true rfl⟩) rfl rfl 0 rfl rfl hE hP hS (frs hS) rfl hl.1 rfl (Nat.le_of_ble_eq_true rfl) dX5_readNow_39 ⟨Nat.le_of_ble_eq_true rfl, Nat.le_of_ble_eq_true rfl⟩ (fun H locs hP _ _ hS => ?_)
        refine bzne (tgt := 47) hx hb dX5_readNow_42 (by decide) (fun c4 => ?_) (fun c4 => ?_)
        · skip
          refine lv_aload_n hx hb dX5_readNow_47 rfl (lv_at hl 1 rfl) ?_
          refine lv_iload_n hx hb dX5_readNow_48 rfl (lv_at hl 2 rfl) ?_
          refine lv_iload_n hx hb dX5_readNow_49 rfl (lv_at hl 3 rfl) ?_
          refine kiV (As := [.int (nI t), .int (nI k)]) (rest := []) S (kX5_seen hg (ms_thr u 0) t k (nat (m_ec u k)) (by omega) (by omega) hr9 (by have := (hr9.2.2 k (by omega)).1.2; omega) (hr9.2.2 k (by omega)).1.1 (fun i hi => ends_thr 8 _ (hen k (by omega) i hi))) (cwV 2 hts gX5_readNow_X5_seen rfl rfl rfl hdX5_seen ⟨Nat.le_of_ble_eq_true rfl, Nat.le_of_ble_eq_true rfl⟩) rfl rfl 0 rfl rfl hE hP hS (frs hS) rfl hl.1 rfl (Nat.le_of_ble_eq_true rfl) dX5_readNow_50 ⟨Nat.le_of_ble_eq_true rfl, Nat.le_of_ble_eq_true rfl⟩ (fun H locs hP _ _ hS => ?_)
          have hsv : mvs u (nI t) (nI k) = msn (ms_thr u 0) t k (nat (m_ec u k)) := by unfold mvs; rw [hnt, hnk, msn_thr]
          have hvr : rngO (msn (ms_thr u 0) t k (nat (m_ec u k))) 32 := by rw [msn_thr]; exact msn_rng _ (hen k (by omega))
          generalize msn (ms_thr u 0) t k (nat (m_ec u k)) = v at hsv hvr ⊢
          refine lv_istore (lv' := [(4, .int v), (3, .int (fb (trP u (nI t)))), (0, .ref (g 0)), (1, .int (nI t)), (2, .int (nI k))]) hx hb dX5_readNow_53 hl (by decide) rfl (fun ls hl => ?_)
          refine lv_iload hx hb dX5_readNow_55 (lv_at hl 0 rfl) ?_
          refine lv_iconst (v := (-1)) hx hb dX5_readNow_57 (by decide) ?_
          refine lv_icmp_ne (tgt := 65) hx hb dX5_readNow_58 (by decide) (fun c5 => ?_) (fun c5 => ?_)
          · skip
            have vn : ¬ v = -1 := c5
            obtain ⟨j, hj, ej⟩ := rng_o (rO hvr c5)
            subst ej
            have hnj : nat (nI j) = j := nat_nI (by omega)
            refine lv_aload_n hx hb dX5_readNow_65 rfl (lv_at hl 2 rfl) ?_
            refine gw5_value S i5 hE hP (hts _ (List.mem_of_getElem? (i := 1) rfl)) dX5_readNow_66 ?_
            refine lv_iload hx hb dX5_readNow_69 (lv_at hl 0 rfl) ?_
            refine lM_v S hE hP (f := m_v (ms_thr u 0)) rfl (j := j) (by omega) rfl dX5_readNow_71 ?_
            exact ei hx hb hr hlk hS hP (by first | (rw [co3, hnt, cif_t c1, cif_t c2, cif_t c3]; done) | (rw [co3, hnt, cif_t c1, cif_t c2, cif_f c3]; done) | (rw [co3, cif_t c1, cif_f c2]; done) | (rw [co3, cif_f c1]; done)) (by first | (rw [hnt, cif_t ⟨c1, c2, c3⟩, hsv, v1]; exact (cif_t rfl).symm) | (rw [hnt, cif_t ⟨c1, c2, c3⟩, hsv, mrd, cif_f vn, hnj]; rfl) | (rw [hnt, cif_f (fun z => c3 z.2.2)]; done) | (rw [hnt, cif_f (fun z => c2 z.2.1)]; done) | (rw [cif_f (fun z => c1 z.1)]; done)) (Nat.le_of_ble_eq_true rfl) (Nat.le_of_ble_eq_true rfl) dX5_readNow_72
          · skip
            have v1 : v = -1 := c5
            refine lv_iconst (v := (-1)) hx hb dX5_readNow_61 (by decide) ?_
            refine lv_goto (tgt := 72) hx hb dX5_readNow_62 (by decide) ?_
            exact ei hx hb hr hlk hS hP (by first | (rw [co3, hnt, cif_t c1, cif_t c2, cif_t c3]; done) | (rw [co3, hnt, cif_t c1, cif_t c2, cif_f c3]; done) | (rw [co3, cif_t c1, cif_f c2]; done) | (rw [co3, cif_f c1]; done)) (by first | (rw [hnt, cif_t ⟨c1, c2, c3⟩, hsv, v1]; exact (cif_t rfl).symm) | (rw [hnt, cif_t ⟨c1, c2, c3⟩, hsv, mrd, cif_f vn, hnj]; rfl) | (rw [hnt, cif_f (fun z => c3 z.2.2)]; done) | (rw [hnt, cif_f (fun z => c2 z.2.1)]; done) | (rw [cif_f (fun z => c1 z.1)]; done)) (Nat.le_of_ble_eq_true rfl) (Nat.le_of_ble_eq_true rfl) dX5_readNow_72
        · skip
          exact (by first | exact absurd rfl c4 | exact absurd c4 (by decide))
      · skip
        refine lv_iconst (v := 3) hx hb dX5_readNow_34 (by decide) ?_
        refine lv_goto (tgt := 39) hx hb dX5_readNow_35 (by decide) ?_
        refine kiV (As := [.int 3]) (rest := []) S (kX5_isFine hg u 3) (cwV 1 hts gX5_readNow_X5_isFine rfl rfl rfl hdX5_isFine ⟨Nat.le_of_ble_eq_true rfl, Nat.le_of_ble_eq_true rfl⟩) rfl rfl 0 rfl rfl hE hP hS (frs hS) rfl hl.1 rfl (Nat.le_of_ble_eq_true rfl) dX5_readNow_39 ⟨Nat.le_of_ble_eq_true rfl, Nat.le_of_ble_eq_true rfl⟩ (fun H locs hP _ _ hS => ?_)
        refine bzne (tgt := 47) hx hb dX5_readNow_42 (by decide) (fun c6 => ?_) (fun c6 => ?_)
        · skip
          exact (by first | exact absurd rfl c6 | exact absurd c6 (by decide))
        · skip
          refine lv_iconst (v := 0) hx hb dX5_readNow_45 (by decide) ?_
          exact ei hx hb hr hlk hS hP (by first | (rw [co3, hnt, cif_t c1, cif_t c2, cif_t c3]; done) | (rw [co3, hnt, cif_t c1, cif_t c2, cif_f c3]; done) | (rw [co3, cif_t c1, cif_f c2]; done) | (rw [co3, cif_f c1]; done)) (by first | (rw [hnt, cif_t ⟨c1, c2, c3⟩, hsv, v1]; exact (cif_t rfl).symm) | (rw [hnt, cif_t ⟨c1, c2, c3⟩, hsv, mrd, cif_f vn, hnj]; rfl) | (rw [hnt, cif_f (fun z => c3 z.2.2)]; done) | (rw [hnt, cif_f (fun z => c2 z.2.1)]; done) | (rw [cif_f (fun z => c1 z.1)]; done)) (Nat.le_of_ble_eq_true rfl) (Nat.le_of_ble_eq_true rfl) dX5_readNow_46
    · skip
      refine lv_iconst (v := 2) hx hb dX5_readNow_22 (by decide) ?_
      refine lv_goto (tgt := 39) hx hb dX5_readNow_23 (by decide) ?_
      refine kiV (As := [.int 2]) (rest := []) S (kX5_isFine hg u 2) (cwV 1 hts gX5_readNow_X5_isFine rfl rfl rfl hdX5_isFine ⟨Nat.le_of_ble_eq_true rfl, Nat.le_of_ble_eq_true rfl⟩) rfl rfl 0 rfl rfl hE hP hS (frs hS) rfl hl.1 rfl (Nat.le_of_ble_eq_true rfl) dX5_readNow_39 ⟨Nat.le_of_ble_eq_true rfl, Nat.le_of_ble_eq_true rfl⟩ (fun H locs hP _ _ hS => ?_)
      refine bzne (tgt := 47) hx hb dX5_readNow_42 (by decide) (fun c7 => ?_) (fun c7 => ?_)
      · skip
        exact (by first | exact absurd rfl c7 | exact absurd c7 (by decide))
      · skip
        refine lv_iconst (v := 0) hx hb dX5_readNow_45 (by decide) ?_
        exact ei hx hb hr hlk hS hP (by first | (rw [co3, hnt, cif_t c1, cif_t c2, cif_t c3]; done) | (rw [co3, hnt, cif_t c1, cif_t c2, cif_f c3]; done) | (rw [co3, cif_t c1, cif_f c2]; done) | (rw [co3, cif_f c1]; done)) (by first | (rw [hnt, cif_t ⟨c1, c2, c3⟩, hsv, v1]; exact (cif_t rfl).symm) | (rw [hnt, cif_t ⟨c1, c2, c3⟩, hsv, mrd, cif_f vn, hnj]; rfl) | (rw [hnt, cif_f (fun z => c3 z.2.2)]; done) | (rw [hnt, cif_f (fun z => c2 z.2.1)]; done) | (rw [cif_f (fun z => c1 z.1)]; done)) (Nat.le_of_ble_eq_true rfl) (Nat.le_of_ble_eq_true rfl) dX5_readNow_46
  · skip
    refine lv_iconst (v := 1) hx hb dX5_readNow_11 (by decide) ?_
    refine lv_goto (tgt := 39) hx hb dX5_readNow_12 (by decide) ?_
    refine kiV (As := [.int 1]) (rest := []) S (kX5_isFine hg u 1) (cwV 1 hts gX5_readNow_X5_isFine rfl rfl rfl hdX5_isFine ⟨Nat.le_of_ble_eq_true rfl, Nat.le_of_ble_eq_true rfl⟩) rfl rfl 0 rfl rfl hE hP hS (frs hS) rfl hl.1 rfl (Nat.le_of_ble_eq_true rfl) dX5_readNow_39 ⟨Nat.le_of_ble_eq_true rfl, Nat.le_of_ble_eq_true rfl⟩ (fun H locs hP _ _ hS => ?_)
    refine bzne (tgt := 47) hx hb dX5_readNow_42 (by decide) (fun c8 => ?_) (fun c8 => ?_)
    · skip
      exact (by first | exact absurd rfl c8 | exact absurd c8 (by decide))
    · skip
      refine lv_iconst (v := 0) hx hb dX5_readNow_45 (by decide) ?_
      exact ei hx hb hr hlk hS hP (by first | (rw [co3, hnt, cif_t c1, cif_t c2, cif_t c3]; done) | (rw [co3, hnt, cif_t c1, cif_t c2, cif_f c3]; done) | (rw [co3, cif_t c1, cif_f c2]; done) | (rw [co3, cif_f c1]; done)) (by first | (rw [hnt, cif_t ⟨c1, c2, c3⟩, hsv, v1]; exact (cif_t rfl).symm) | (rw [hnt, cif_t ⟨c1, c2, c3⟩, hsv, mrd, cif_f vn, hnj]; rfl) | (rw [hnt, cif_f (fun z => c3 z.2.2)]; done) | (rw [hnt, cif_f (fun z => c2 z.2.1)]; done) | (rw [cif_f (fun z => c1 z.1)]; done)) (Nat.le_of_ble_eq_true rfl) (Nat.le_of_ble_eq_true rfl) dX5_readNow_46
def rmX5_read : Room := { frames := 5, cells := 0, slots := 0, locals := 114 }
theorem hdX5_read : yX5_read.cls = RX5 ∧ yX5_read.cls ≠ "java/lang/invoke/MethodHandle" ∧ yX5_read.cls ≠ "java/lang/invoke/VarHandle" ∧ (parseMethodDescriptor yX5_read.desc).map (fun d => d.parameters.length) = some 2 := by decide +kernel
set_option maxHeartbeats 4000000 in
set_option maxRecDepth 100000 in
theorem kX5_read {l : Launch} {D : va_G} {K : Nat → ClassId} {L : Nat → Prop} {g : Nat → Nat} (hg : gd L g 14) (u : MU) (x y : Int32) (N : Nat) (hN : N ≤ 60) (hcn : m_cn u = nI N) (hr9 : rM u) (hen : enM u) : CI l yX5_read wsX5_read rmX5_read D K L [.ref (g 0), .int x, .int y] (wM K g u) (wM K g (ms_thr u (co3 (trP u x) (inP y 0 5) (m_sta u (nat x) = 0)))) (cif (trP u x ∧ inP y 0 5 ∧ m_sta u (nat x) = 0) (mrd u (mvs u x y)) 0) := by
  refine CI.of (cc := cX5_read) (maxL := 3) (ret := (some .int)) (by decide +kernel) rfl (Nat.le_of_ble_eq_true rfl) ?_
  intro p e s m below meth c ls hen hP
  obtain ⟨hx, hb, hr, hts, hown, hlk, hml, hnm, hE, hl⟩ := hen
  have S : CallFix p m c cX5_read 3 s _ wsX5_read RX5 := ⟨hx, hb, hml, hown, hts⟩
  have hS : va_S (fr L s.heap.size) s.heap s.heap [] := va_S.rf
  have hl : lv_has ls 3 [(0, .ref (g 0)), (1, .int x), (2, .int y)] := hl
  have i5 : ∀ w ∈ wsX50, w ∈ wsX5_read := fun _ h => List.mem_cons_of_mem _ (List.mem_append_right _ h)
  refine lv_aload_n hx hb dX5_read_0 rfl (lv_at hl 0 rfl) ?_
  refine lv_iload_n hx hb dX5_read_1 rfl (lv_at hl 1 rfl) ?_
  refine lv_iload_n hx hb dX5_read_2 rfl (lv_at hl 2 rfl) ?_
  refine kiV (As := [.int x, .int y]) (rest := []) S (kX5_readNow hg u x y N hN hcn hr9 hen) (cwV 2 hts gX5_read_X5_readNow rfl rfl rfl hdX5_readNow ⟨Nat.le_of_ble_eq_true rfl, Nat.le_of_ble_eq_true rfl⟩) rfl rfl 0 rfl rfl hE hP hS (frs hS) rfl hl.1 rfl (Nat.le_of_ble_eq_true rfl) dX5_read_3 ⟨Nat.le_of_ble_eq_true rfl, Nat.le_of_ble_eq_true rfl⟩ (fun H locs hP _ _ hS => ?_)
  exact ei hx hb hr hlk hS hP rfl (by rfl) (Nat.le_of_ble_eq_true rfl) (Nat.le_of_ble_eq_true rfl) dX5_read_6
def rmX5_readPlain : Room := { frames := 5, cells := 0, slots := 0, locals := 114 }
theorem hdX5_readPlain : yX5_readPlain.cls = RX5 ∧ yX5_readPlain.cls ≠ "java/lang/invoke/MethodHandle" ∧ yX5_readPlain.cls ≠ "java/lang/invoke/VarHandle" ∧ (parseMethodDescriptor yX5_readPlain.desc).map (fun d => d.parameters.length) = some 2 := by decide +kernel
set_option maxHeartbeats 4000000 in
set_option maxRecDepth 100000 in
theorem kX5_readPlain {l : Launch} {D : va_G} {K : Nat → ClassId} {L : Nat → Prop} {g : Nat → Nat} (hg : gd L g 14) (u : MU) (x y : Int32) (N : Nat) (hN : N ≤ 60) (hcn : m_cn u = nI N) (hr9 : rM u) (hen : enM u) : CI l yX5_readPlain wsX5_readPlain rmX5_readPlain D K L [.ref (g 0), .int x, .int y] (wM K g u) (wM K g (ms_thr u (co3 (trP u x) (inP y 0 5) (m_sta u (nat x) = 0)))) (cif (trP u x ∧ inP y 0 5 ∧ m_sta u (nat x) = 0) (mrd u (mvs u x y)) 0) := by
  refine CI.of (cc := cX5_readPlain) (maxL := 3) (ret := (some .int)) (by decide +kernel) rfl (Nat.le_of_ble_eq_true rfl) ?_
  intro p e s m below meth c ls hen hP
  obtain ⟨hx, hb, hr, hts, hown, hlk, hml, hnm, hE, hl⟩ := hen
  have S : CallFix p m c cX5_readPlain 3 s _ wsX5_readPlain RX5 := ⟨hx, hb, hml, hown, hts⟩
  have hS : va_S (fr L s.heap.size) s.heap s.heap [] := va_S.rf
  have hl : lv_has ls 3 [(0, .ref (g 0)), (1, .int x), (2, .int y)] := hl
  have i5 : ∀ w ∈ wsX50, w ∈ wsX5_readPlain := fun _ h => List.mem_cons_of_mem _ (List.mem_append_right _ h)
  refine lv_aload_n hx hb dX5_readPlain_0 rfl (lv_at hl 0 rfl) ?_
  refine lv_iload_n hx hb dX5_readPlain_1 rfl (lv_at hl 1 rfl) ?_
  refine lv_iload_n hx hb dX5_readPlain_2 rfl (lv_at hl 2 rfl) ?_
  refine kiV (As := [.int x, .int y]) (rest := []) S (kX5_readNow hg u x y N hN hcn hr9 hen) (cwV 2 hts gX5_readPlain_X5_readNow rfl rfl rfl hdX5_readNow ⟨Nat.le_of_ble_eq_true rfl, Nat.le_of_ble_eq_true rfl⟩) rfl rfl 0 rfl rfl hE hP hS (frs hS) rfl hl.1 rfl (Nat.le_of_ble_eq_true rfl) dX5_readPlain_3 ⟨Nat.le_of_ble_eq_true rfl, Nat.le_of_ble_eq_true rfl⟩ (fun H locs hP _ _ hS => ?_)
  exact ei hx hb hr hlk hS hP rfl (by rfl) (Nat.le_of_ble_eq_true rfl) (Nat.le_of_ble_eq_true rfl) dX5_readPlain_6

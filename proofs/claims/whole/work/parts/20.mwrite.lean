/-! ===== RowPagesModel: write, delete, clean, slot, fullness ===== -/
/-- may it be written -/
def wcP (u : MU) (t k : Nat) : Prop := m_sta u t = 0 ∧ ¬ lfm (m_us u) 0 32 = -1 ∧ ¬ rfM u t k 32
noncomputable def mnr (u : MU) (o : Int32) : Int32 := cif (o = -1) (-1) (lfm (m_us u) (nat o / 8 * 8) 8)
noncomputable def mpl (u : MU) (o : Int32) : Int32 := cif (mnr u o = -1) (lfm (m_us u) 0 32) (mnr u o)
noncomputable def mw1 (u : MU) (t q : Nat) (k z o : Int32) : MU := cif (o = -1) (mpu (ms_thr u 0) t q k z) (mdi (mpu (ms_thr u 0) t q k z) t (nat o))
noncomputable def mw2 (u : MU) (t k : Nat) (z o : Int32) : MU :=
  let q := nat (mpl u o)
  let v := mw1 u t q (nI k) z o
  cif (mnr u o = -1) (ms_ec (ms_en v (upd (m_en v) (64 * k + nat (m_ec v k)) (nI q))) (upd (m_ec v) k (nI (nat (m_ec v k) + 1)))) (ms_n v (upd (m_n v) (nat o) (nI q)))
noncomputable def mwr (u : MU) (o : Int32) : Int32 := nI (1000 * (nat (mpl u o) / 8) + nat (mpl u o) % 8) + cif (mnr u o = -1) 0 100000
theorem mnr_o {u : MU} : mnr u (-1) = -1 := cif_t rfl
theorem mnr_j {u : MU} {j : Nat} (hj : j < 32) : mnr u (nI j) = lfm (m_us u) (j / 8 * 8) 8 := by
  unfold mnr; rw [cif_f (nI_m1 j (by omega)), nat_nI (by omega)]
theorem mpl_f {u : MU} {o : Int32} {q : Nat} (h : mnr u o = -1) (h2 : lfm (m_us u) 0 32 = nI q) : mpl u o = nI q := by
  unfold mpl; rw [cif_t h, h2]
theorem mpl_n {u : MU} {o : Int32} {q : Nat} (hq : q < 32) (h : mnr u o = nI q) : mpl u o = nI q := by
  unfold mpl; rw [h, cif_f (nI_m1 q (by omega))]
theorem mw1_o {u : MU} {t q : Nat} {k z : Int32} : mw1 u t q k z (-1) = mpu (ms_thr u 0) t q k z := cif_t rfl
theorem mw1_j {u : MU} {t q j : Nat} {k z : Int32} (hj : j < 32) : mw1 u t q k z (nI j) = mdi (mpu (ms_thr u 0) t q k z) t j := by
  unfold mw1; rw [cif_f (nI_m1 j (by omega)), nat_nI (by omega)]
theorem mw2_e {u v : MU} {t k q n : Nat} {z o : Int32} (hq : q < 32) (h1 : mnr u o = -1) (h2 : mpl u o = nI q) (h3 : mw1 u t q (nI k) z o = v) (h4 : m_ec v k = nI n) (hn : n < 64) :
    mw2 u t k z o = ms_ec (ms_en v (upd (m_en v) (64 * k + n) (nI q))) (upd (m_ec v) k (nI (n + 1))) := by
  unfold mw2; rw [cif_t h1, h2, nat_nI (by omega), h3, h4, nat_nI (by omega)]
theorem mw2_n {u v : MU} {t k q j : Nat} {z : Int32} (hq : q < 32) (hj : j < 32) (h1 : mnr u (nI j) = nI q) (h2 : mpl u (nI j) = nI q) (h3 : mw1 u t q (nI k) z (nI j) = v) :
    mw2 u t k z (nI j) = ms_n v (upd (m_n v) j (nI q)) := by
  unfold mw2; rw [cif_f (by rw [h1]; exact nI_m1 q (by omega)), h2, nat_nI (by omega), h3, nat_nI (by omega)]
theorem mwr_e {u : MU} {q : Nat} {o : Int32} (hq : q < 32) (h1 : mnr u o = -1) (h2 : mpl u o = nI q) : mwr u o = nI (1000 * (q / 8) + q % 8) + 0 := by
  unfold mwr; rw [cif_t h1, h2, nat_nI (by omega)]
theorem mwr_n {u : MU} {q : Nat} {o : Int32} (hq : q < 32) (h1 : mnr u o = nI q) (h2 : mpl u o = nI q) : mwr u o = nI (1000 * (q / 8) + q % 8) + 100000 := by
  unfold mwr; rw [cif_f (by rw [h1]; exact nI_m1 q (by omega)), h2, nat_nI (by omega)]
def wrP (u : MU) (x y z : Int32) : Prop := trP u x ∧ (inP y 0 5 ∧ inP z 0 9999) ∧ wcP u (nat x) (nat y)
def deP (u : MU) (x y o : Int32) : Prop := trP u x ∧ inP y 0 5 ∧ (m_sta u (nat x) = 0 ∧ ¬ (¬ o = -1 ∧ rfM u (nat x) (nat y) 32))
/-- the going of what can go, in the first n places of a page; and how many went -/
noncomputable def clM (u : MU) (N a : Nat) : Nat → MU × Nat
  | 0 => (u, 0)
  | n + 1 => cif (cgM (clM u N a n).1 (8 * a + n) N) (mlv (clM u N a n).1 (8 * a + n) (nat (m_k (clM u N a n).1 (8 * a + n))) (nat (m_ec (clM u N a n).1 (nat (m_k (clM u N a n).1 (8 * a + n))))), (clM u N a n).2 + 1) (clM u N a n)
theorem clM_y {u v : MU} {N a n d : Nat} (h : clM u N a n = (v, d)) (hc : cgM v (8 * a + n) N) : clM u N a (n + 1) = (mlv v (8 * a + n) (nat (m_k v (8 * a + n))) (nat (m_ec v (nat (m_k v (8 * a + n))))), d + 1) := by
  rw [clM, h]; exact cif_t hc
theorem clM_n {u v : MU} {N a n d : Nat} (h : clM u N a n = (v, d)) (hc : ¬ cgM v (8 * a + n) N) : clM u N a (n + 1) = (v, d) := by
  rw [clM, h]; exact cif_f hc
theorem mlv_cn {u : MU} {q k n : Nat} : m_cn (mlv u q k n) = m_cn u := rfl
theorem clM_cn {u : MU} {N a : Nat} : ∀ n, m_cn (clM u N a n).1 = m_cn u := by
  intro n
  induction n with
  | zero => rfl
  | succ n ih =>
    by_cases h : cgM (clM u N a n).1 (8 * a + n) N
    · rw [clM, cif_t h]; exact ih
    · rw [clM, cif_f h]; exact ih
/-- is it to be frozen -/
def fzM (v : MU) (N j : Nat) : Prop := ¬ m_fr v j = 0 ∨ (¬ m_us v j = 0 ∧ ¬ ag v (nat (m_b v j)) < m_fz v ∧ paP v (nat (m_b v j)) N)
noncomputable def frM (v : MU) (N a : Nat) : Nat → AI
  | 0 => m_fr v
  | n + 1 => upd (frM v N a n) (8 * a + n) (fb (fzM v N (8 * a + n)))
theorem frM_at {v : MU} {N a : Nat} : ∀ n j, 8 * a + n ≤ j → frM v N a n j = m_fr v j := by
  intro n
  induction n with
  | zero => exact fun _ _ => rfl
  | succ n ih =>
    intro j hj
    rw [frM]; unfold upd; rw [if_neg (by omega)]; exact ih j (by omega)
noncomputable def mcl (u : MU) (N a : Nat) : MU :=
  let v := (clM (ms_thr u 0) N a 8).1
  let w := ms_fr v (frM v N a 8)
  ms_mp w (upd (m_mp w) a (fb (whM w N a 8)))
theorem rM_fr {u : MU} {f : AI} (h : rM u) : rM (ms_fr u f) := h
def rmX5_slot : Room := { frames := 2, cells := 0, slots := 0, locals := 42 }
theorem hdX5_slot : yX5_slot.cls = RX5 ∧ yX5_slot.cls ≠ "java/lang/invoke/MethodHandle" ∧ yX5_slot.cls ≠ "java/lang/invoke/VarHandle" ∧ (parseMethodDescriptor yX5_slot.desc).map (fun d => d.parameters.length) = some 2 := by decide +kernel
set_option maxHeartbeats 4000000 in
set_option maxRecDepth 100000 in
theorem kX5_slot {l : Launch} {D : va_G} {K : Nat → ClassId} {L : Nat → Prop} {g : Nat → Nat} (hg : gd L g 14) (u : MU) (x y : Int32) (hr9 : rM u) : CI l yX5_slot wsX5_slot rmX5_slot D K L [.ref (g 0), .int x, .int y] (wM K g u) (wM K g (ms_thr u (co1 (inP x 0 3 ∧ inP y 0 7)))) (cif (inP x 0 3 ∧ inP y 0 7) (msl u (8 * nat x + nat y)) 0) := by
  refine CI.of (cc := cX5_slot) (maxL := 4) (ret := (some .int)) (by decide +kernel) rfl (Nat.le_of_ble_eq_true rfl) ?_
  intro p e s m below meth c ls hen hP
  obtain ⟨hx, hb, hr, hts, hown, hlk, hml, hnm, hE, hl⟩ := hen
  have S : CallFix p m c cX5_slot 4 s _ wsX5_slot RX5 := ⟨hx, hb, hml, hown, hts⟩
  have hS : va_S (fr L s.heap.size) s.heap s.heap [] := va_S.rf
  have hl : lv_has ls 4 [(0, .ref (g 0)), (1, .int x), (2, .int y)] := hl
  have i5 : ∀ w ∈ wsX50, w ∈ wsX5_slot := fun _ h => List.mem_cons_of_mem _ (List.mem_append_right _ h)
  refine lv_aload_n hx hb dX5_slot_0 rfl (lv_at hl 0 rfl) ?_
  refine lv_iload_n hx hb dX5_slot_1 rfl (lv_at hl 1 rfl) ?_
  refine kiS (As := [.int x]) (rest := [.ref (g 0)]) S (kX5_isPage x) (va_cwS 1 hts gX5_slot_X5_isPage rfl rfl rfl hdX5_isPage.2 ⟨Nat.le_of_ble_eq_true rfl, Nat.le_of_ble_eq_true rfl⟩) rfl rfl hE hP hS (frs hS) rfl hl.1 rfl (Nat.le_of_ble_eq_true rfl) dX5_slot_2 ⟨Nat.le_of_ble_eq_true rfl, Nat.le_of_ble_eq_true rfl⟩ (fun H locs hP _ _ hS => ?_)
  refine bzeq (tgt := 22) hx hb dX5_slot_5 (by decide) (fun c1 => ?_) (fun c1 => ?_)
  · skip
    have no : ¬ (inP x 0 3 ∧ inP y 0 7) := fun k => c1 k.1
    refine lv_iconst (v := 1) hx hb dX5_slot_22 (by decide) ?_
    refine kiV (As := [.int 1]) (rest := []) S (kX5_isFine hg u 1) (cwV 1 hts gX5_slot_X5_isFine rfl rfl rfl hdX5_isFine ⟨Nat.le_of_ble_eq_true rfl, Nat.le_of_ble_eq_true rfl⟩) rfl rfl 0 rfl rfl hE hP hS (frs hS) rfl hl.1 rfl (Nat.le_of_ble_eq_true rfl) dX5_slot_23 ⟨Nat.le_of_ble_eq_true rfl, Nat.le_of_ble_eq_true rfl⟩ (fun H locs hP _ _ hS => ?_)
    refine bzne (tgt := 31) hx hb dX5_slot_26 (by decide) (fun c2 => ?_) (fun c2 => ?_)
    · skip
      exact (by first | exact absurd rfl c2 | exact absurd c2 (by decide))
    · skip
      refine lv_iconst (v := 0) hx hb dX5_slot_29 (by decide) ?_
      exact ei hx hb hr hlk hS hP (by first | rw [co1, cif_t yes] | rw [co1, cif_f no]) ((cif_f no).symm) (Nat.le_of_ble_eq_true rfl) (Nat.le_of_ble_eq_true rfl) dX5_slot_30
  · skip
    obtain ⟨a, ha, ea⟩ := in_at (n := 3) (by omega) c1
    subst ea
    have hna : nat (nI a) = a := nat_nI (by omega)
    refine lv_iload_n hx hb dX5_slot_8 rfl (lv_at hl 2 rfl) ?_
    refine lv_iconst (v := 0) hx hb dX5_slot_9 (by decide) ?_
    refine lv_bipush (v := 7) hx hb dX5_slot_10 (by decide) ?_
    refine kiS (As := [.int y, .int 0, .int 7]) (rest := [.ref (g 0)]) S (kX5_isIn y 0 7) (va_cwS 3 hts gX5_slot_X5_isIn rfl rfl rfl hdX5_isIn.2 ⟨Nat.le_of_ble_eq_true rfl, Nat.le_of_ble_eq_true rfl⟩) rfl rfl hE hP hS (frs hS) rfl hl.1 rfl (Nat.le_of_ble_eq_true rfl) dX5_slot_12 ⟨Nat.le_of_ble_eq_true rfl, Nat.le_of_ble_eq_true rfl⟩ (fun H locs hP _ _ hS => ?_)
    refine bzeq (tgt := 22) hx hb dX5_slot_15 (by decide) (fun c3 => ?_) (fun c3 => ?_)
    · skip
      have no : ¬ (inP (nI a) 0 3 ∧ inP y 0 7) := fun k => c3 k.2
      refine lv_iconst (v := 1) hx hb dX5_slot_22 (by decide) ?_
      refine kiV (As := [.int 1]) (rest := []) S (kX5_isFine hg u 1) (cwV 1 hts gX5_slot_X5_isFine rfl rfl rfl hdX5_isFine ⟨Nat.le_of_ble_eq_true rfl, Nat.le_of_ble_eq_true rfl⟩) rfl rfl 0 rfl rfl hE hP hS (frs hS) rfl hl.1 rfl (Nat.le_of_ble_eq_true rfl) dX5_slot_23 ⟨Nat.le_of_ble_eq_true rfl, Nat.le_of_ble_eq_true rfl⟩ (fun H locs hP _ _ hS => ?_)
      refine bzne (tgt := 31) hx hb dX5_slot_26 (by decide) (fun c4 => ?_) (fun c4 => ?_)
      · skip
        exact (by first | exact absurd rfl c4 | exact absurd c4 (by decide))
      · skip
        refine lv_iconst (v := 0) hx hb dX5_slot_29 (by decide) ?_
        exact ei hx hb hr hlk hS hP (by first | rw [co1, cif_t yes] | rw [co1, cif_f no]) ((cif_f no).symm) (Nat.le_of_ble_eq_true rfl) (Nat.le_of_ble_eq_true rfl) dX5_slot_30
    · skip
      have yes : inP (nI a) 0 3 ∧ inP y 0 7 := ⟨c1, c3⟩
      obtain ⟨b0, hb0, eb0⟩ := in_at (n := 7) (by omega) c3
      subst eb0
      have hnb0 : nat (nI b0) = b0 := nat_nI (by omega)
      refine lv_iconst (v := 0) hx hb dX5_slot_18 (by decide) ?_
      refine lv_goto (tgt := 23) hx hb dX5_slot_19 (by decide) ?_
      refine kiV (As := [.int 0]) (rest := []) S (kX5_isFine hg u 0) (cwV 1 hts gX5_slot_X5_isFine rfl rfl rfl hdX5_isFine ⟨Nat.le_of_ble_eq_true rfl, Nat.le_of_ble_eq_true rfl⟩) rfl rfl 0 rfl rfl hE hP hS (frs hS) rfl hl.1 rfl (Nat.le_of_ble_eq_true rfl) dX5_slot_23 ⟨Nat.le_of_ble_eq_true rfl, Nat.le_of_ble_eq_true rfl⟩ (fun H locs hP _ _ hS => ?_)
      refine bzne (tgt := 31) hx hb dX5_slot_26 (by decide) (fun c5 => ?_) (fun c5 => ?_)
      · skip
        refine lv_bipush (v := 8) hx hb dX5_slot_31 (by decide) ?_
        refine lv_iload_n hx hb dX5_slot_33 rfl (lv_at hl 1 rfl) ?_
        refine lv_imul hx hb dX5_slot_34 ?_
        refine tpi (y := nI (8 * a)) (pk_mul 8 a) ?_
        refine lv_iload_n hx hb dX5_slot_35 rfl (lv_at hl 2 rfl) ?_
        refine lv_iadd hx hb dX5_slot_36 ?_
        refine tpi (y := nI (8 * a + b0)) (nI_add (8 * a) b0) ?_
        refine lv_istore_n (lv' := [(3, .int (nI (8 * a + b0))), (0, .ref (g 0)), (1, .int (nI a)), (2, .int (nI b0))]) hx hb dX5_slot_37 rfl hl (by decide) rfl (fun ls hl => ?_)
        refine lv_aload_n hx hb dX5_slot_38 rfl (lv_at hl 1 rfl) ?_
        refine gw5_isUsed S i5 hE hP (hts _ (List.mem_of_getElem? (i := 1) rfl)) dX5_slot_39 ?_
        refine lv_iload_n hx hb dX5_slot_42 rfl (lv_at hl 0 rfl) ?_
        refine lM_us S hE hP (f := m_us (ms_thr u 0)) rfl (j := (8 * a + b0)) (by omega) rfl dX5_slot_43 ?_
        refine lv_if_ne (tgt := 49) hx hb dX5_slot_44 (by decide) (fun c6 => ?_) (fun c6 => ?_)
        · skip
          have us : ¬ m_us u (8 * a + b0) = 0 := c6
          refine lv_aload_n hx hb dX5_slot_49 rfl (lv_at hl 1 rfl) ?_
          refine gw5_key S i5 hE hP (hts _ (List.mem_of_getElem? (i := 2) rfl)) dX5_slot_50 ?_
          refine lv_iload_n hx hb dX5_slot_53 rfl (lv_at hl 0 rfl) ?_
          refine lM_k S hE hP (f := m_k (ms_thr u 0)) rfl (j := (8 * a + b0)) (by omega) rfl dX5_slot_54 ?_
          refine lv_aload_n hx hb dX5_slot_55 rfl (lv_at hl 1 rfl) ?_
          refine gw5_isFrozen S i5 hE hP (hts _ (List.mem_of_getElem? (i := 3) rfl)) dX5_slot_56 ?_
          refine lv_iload_n hx hb dX5_slot_59 rfl (lv_at hl 0 rfl) ?_
          refine lM_fr S hE hP (f := m_fr (ms_thr u 0)) rfl (j := (8 * a + b0)) (by omega) rfl dX5_slot_60 ?_
          refine lv_if_eq (tgt := 69) hx hb dX5_slot_61 (by decide) (fun c7 => ?_) (fun c7 => ?_)
          · skip
            refine lv_iconst (v := 0) hx hb dX5_slot_69 (by decide) ?_
            refine tpi (y := cif (m_fr u (8 * a + b0) = 0) 0 10) (by first | exact (cif_t c7).symm | exact (cif_f c7).symm) ?_
            refine lv_iadd hx hb dX5_slot_70 ?_
            refine lv_aload_n hx hb dX5_slot_71 rfl (lv_at hl 1 rfl) ?_
            refine gw5_death S i5 hE hP (hts _ (List.mem_of_getElem? (i := 4) rfl)) dX5_slot_72 ?_
            refine lv_iload_n hx hb dX5_slot_75 rfl (lv_at hl 0 rfl) ?_
            refine lM_d S hE hP (f := m_d (ms_thr u 0)) rfl (j := (8 * a + b0)) (by omega) rfl dX5_slot_76 ?_
            refine lv_iconst (v := (-1)) hx hb dX5_slot_77 (by decide) ?_
            refine lv_icmp_eq (tgt := 86) hx hb dX5_slot_78 (by decide) (fun c8 => ?_) (fun c8 => ?_)
            · skip
              refine lv_iconst (v := 0) hx hb dX5_slot_86 (by decide) ?_
              refine tpi (y := cif (m_d u (8 * a + b0) = -1) 0 20) (by first | exact (cif_t c8).symm | exact (cif_f c8).symm) ?_
              refine lv_iadd hx hb dX5_slot_87 ?_
              refine lv_aload_n hx hb dX5_slot_88 rfl (lv_at hl 1 rfl) ?_
              refine gw5_next S i5 hE hP (hts _ (List.mem_of_getElem? (i := 5) rfl)) dX5_slot_89 ?_
              refine lv_iload_n hx hb dX5_slot_92 rfl (lv_at hl 0 rfl) ?_
              refine lM_n S hE hP (f := m_n (ms_thr u 0)) rfl (j := (8 * a + b0)) (by omega) rfl dX5_slot_93 ?_
              refine lv_iconst (v := (-1)) hx hb dX5_slot_94 (by decide) ?_
              refine lv_icmp_eq (tgt := 115) hx hb dX5_slot_95 (by decide) (fun c9 => ?_) (fun c9 => ?_)
              · skip
                refine lv_iconst (v := 0) hx hb dX5_slot_115 (by decide) ?_
                refine tpi (y := cif (m_n u (8 * a + b0) = -1) 0 (100 * (nI (nat (m_n u (8 * a + b0)) % 8) + 1))) (by first | exact (cif_t c9).symm | (rw [cif_f (show ¬ m_n u (8 * a + b0) = -1 from c9), ej2]; done)) ?_
                refine lv_iadd hx hb dX5_slot_116 ?_
                exact ei hx hb hr hlk hS hP (by first | rw [co1, cif_t yes] | rw [co1, cif_f no]) (by rw [cif_t yes, hna, hnb0]; exact (cif_f us).symm) (Nat.le_of_ble_eq_true rfl) (Nat.le_of_ble_eq_true rfl) dX5_slot_117
              · skip
                obtain ⟨j, hj, ej⟩ := rng_o (rO (hr9.2.1 (8 * a + b0) (by omega)).2.2.1 c9)
                have ej2 : nat (m_n u (8 * a + b0)) = j := by rw [ej]; exact nat_nI (by omega)
                refine lv_bipush (v := 100) hx hb dX5_slot_98 (by decide) ?_
                refine lv_aload_n hx hb dX5_slot_100 rfl (lv_at hl 1 rfl) ?_
                refine gw5_next S i5 hE hP (hts _ (List.mem_of_getElem? (i := 5) rfl)) dX5_slot_101 ?_
                refine lv_iload_n hx hb dX5_slot_104 rfl (lv_at hl 0 rfl) ?_
                refine lM_n S hE hP (f := m_n (ms_thr u 0)) rfl (j := (8 * a + b0)) (by omega) rfl dX5_slot_105 ?_
                refine tpi (y := nI j) ej ?_
                refine lv_bipush (v := 8) hx hb dX5_slot_106 (by decide) ?_
                refine lv_irem hx hb dX5_slot_108 (by decide) ?_
                refine tpi (y := nI (j % 8)) (pk_rem8 (by omega)) ?_
                refine lv_iconst (v := 1) hx hb dX5_slot_109 (by decide) ?_
                refine lv_iadd hx hb dX5_slot_110 ?_
                refine lv_imul hx hb dX5_slot_111 ?_
                refine lv_goto (tgt := 116) hx hb dX5_slot_112 (by decide) ?_
                refine tpi (y := cif (m_n u (8 * a + b0) = -1) 0 (100 * (nI (nat (m_n u (8 * a + b0)) % 8) + 1))) (by first | exact (cif_t c9).symm | (rw [cif_f (show ¬ m_n u (8 * a + b0) = -1 from c9), ej2]; done)) ?_
                refine lv_iadd hx hb dX5_slot_116 ?_
                exact ei hx hb hr hlk hS hP (by first | rw [co1, cif_t yes] | rw [co1, cif_f no]) (by rw [cif_t yes, hna, hnb0]; exact (cif_f us).symm) (Nat.le_of_ble_eq_true rfl) (Nat.le_of_ble_eq_true rfl) dX5_slot_117
            · skip
              refine lv_bipush (v := 20) hx hb dX5_slot_81 (by decide) ?_
              refine lv_goto (tgt := 87) hx hb dX5_slot_83 (by decide) ?_
              refine tpi (y := cif (m_d u (8 * a + b0) = -1) 0 20) (by first | exact (cif_t c8).symm | exact (cif_f c8).symm) ?_
              refine lv_iadd hx hb dX5_slot_87 ?_
              refine lv_aload_n hx hb dX5_slot_88 rfl (lv_at hl 1 rfl) ?_
              refine gw5_next S i5 hE hP (hts _ (List.mem_of_getElem? (i := 5) rfl)) dX5_slot_89 ?_
              refine lv_iload_n hx hb dX5_slot_92 rfl (lv_at hl 0 rfl) ?_
              refine lM_n S hE hP (f := m_n (ms_thr u 0)) rfl (j := (8 * a + b0)) (by omega) rfl dX5_slot_93 ?_
              refine lv_iconst (v := (-1)) hx hb dX5_slot_94 (by decide) ?_
              refine lv_icmp_eq (tgt := 115) hx hb dX5_slot_95 (by decide) (fun c10 => ?_) (fun c10 => ?_)
              · skip
                refine lv_iconst (v := 0) hx hb dX5_slot_115 (by decide) ?_
                refine tpi (y := cif (m_n u (8 * a + b0) = -1) 0 (100 * (nI (nat (m_n u (8 * a + b0)) % 8) + 1))) (by first | exact (cif_t c10).symm | (rw [cif_f (show ¬ m_n u (8 * a + b0) = -1 from c10), ej2]; done)) ?_
                refine lv_iadd hx hb dX5_slot_116 ?_
                exact ei hx hb hr hlk hS hP (by first | rw [co1, cif_t yes] | rw [co1, cif_f no]) (by rw [cif_t yes, hna, hnb0]; exact (cif_f us).symm) (Nat.le_of_ble_eq_true rfl) (Nat.le_of_ble_eq_true rfl) dX5_slot_117
              · skip
                obtain ⟨j, hj, ej⟩ := rng_o (rO (hr9.2.1 (8 * a + b0) (by omega)).2.2.1 c10)
                have ej2 : nat (m_n u (8 * a + b0)) = j := by rw [ej]; exact nat_nI (by omega)
                refine lv_bipush (v := 100) hx hb dX5_slot_98 (by decide) ?_
                refine lv_aload_n hx hb dX5_slot_100 rfl (lv_at hl 1 rfl) ?_
                refine gw5_next S i5 hE hP (hts _ (List.mem_of_getElem? (i := 5) rfl)) dX5_slot_101 ?_
                refine lv_iload_n hx hb dX5_slot_104 rfl (lv_at hl 0 rfl) ?_
                refine lM_n S hE hP (f := m_n (ms_thr u 0)) rfl (j := (8 * a + b0)) (by omega) rfl dX5_slot_105 ?_
                refine tpi (y := nI j) ej ?_
                refine lv_bipush (v := 8) hx hb dX5_slot_106 (by decide) ?_
                refine lv_irem hx hb dX5_slot_108 (by decide) ?_
                refine tpi (y := nI (j % 8)) (pk_rem8 (by omega)) ?_
                refine lv_iconst (v := 1) hx hb dX5_slot_109 (by decide) ?_
                refine lv_iadd hx hb dX5_slot_110 ?_
                refine lv_imul hx hb dX5_slot_111 ?_
                refine lv_goto (tgt := 116) hx hb dX5_slot_112 (by decide) ?_
                refine tpi (y := cif (m_n u (8 * a + b0) = -1) 0 (100 * (nI (nat (m_n u (8 * a + b0)) % 8) + 1))) (by first | exact (cif_t c10).symm | (rw [cif_f (show ¬ m_n u (8 * a + b0) = -1 from c10), ej2]; done)) ?_
                refine lv_iadd hx hb dX5_slot_116 ?_
                exact ei hx hb hr hlk hS hP (by first | rw [co1, cif_t yes] | rw [co1, cif_f no]) (by rw [cif_t yes, hna, hnb0]; exact (cif_f us).symm) (Nat.le_of_ble_eq_true rfl) (Nat.le_of_ble_eq_true rfl) dX5_slot_117
          · skip
            refine lv_bipush (v := 10) hx hb dX5_slot_64 (by decide) ?_
            refine lv_goto (tgt := 70) hx hb dX5_slot_66 (by decide) ?_
            refine tpi (y := cif (m_fr u (8 * a + b0) = 0) 0 10) (by first | exact (cif_t c7).symm | exact (cif_f c7).symm) ?_
            refine lv_iadd hx hb dX5_slot_70 ?_
            refine lv_aload_n hx hb dX5_slot_71 rfl (lv_at hl 1 rfl) ?_
            refine gw5_death S i5 hE hP (hts _ (List.mem_of_getElem? (i := 4) rfl)) dX5_slot_72 ?_
            refine lv_iload_n hx hb dX5_slot_75 rfl (lv_at hl 0 rfl) ?_
            refine lM_d S hE hP (f := m_d (ms_thr u 0)) rfl (j := (8 * a + b0)) (by omega) rfl dX5_slot_76 ?_
            refine lv_iconst (v := (-1)) hx hb dX5_slot_77 (by decide) ?_
            refine lv_icmp_eq (tgt := 86) hx hb dX5_slot_78 (by decide) (fun c11 => ?_) (fun c11 => ?_)
            · skip
              refine lv_iconst (v := 0) hx hb dX5_slot_86 (by decide) ?_
              refine tpi (y := cif (m_d u (8 * a + b0) = -1) 0 20) (by first | exact (cif_t c11).symm | exact (cif_f c11).symm) ?_
              refine lv_iadd hx hb dX5_slot_87 ?_
              refine lv_aload_n hx hb dX5_slot_88 rfl (lv_at hl 1 rfl) ?_
              refine gw5_next S i5 hE hP (hts _ (List.mem_of_getElem? (i := 5) rfl)) dX5_slot_89 ?_
              refine lv_iload_n hx hb dX5_slot_92 rfl (lv_at hl 0 rfl) ?_
              refine lM_n S hE hP (f := m_n (ms_thr u 0)) rfl (j := (8 * a + b0)) (by omega) rfl dX5_slot_93 ?_
              refine lv_iconst (v := (-1)) hx hb dX5_slot_94 (by decide) ?_
              refine lv_icmp_eq (tgt := 115) hx hb dX5_slot_95 (by decide) (fun c12 => ?_) (fun c12 => ?_)
              · skip
                refine lv_iconst (v := 0) hx hb dX5_slot_115 (by decide) ?_
                refine tpi (y := cif (m_n u (8 * a + b0) = -1) 0 (100 * (nI (nat (m_n u (8 * a + b0)) % 8) + 1))) (by first | exact (cif_t c12).symm | (rw [cif_f (show ¬ m_n u (8 * a + b0) = -1 from c12), ej2]; done)) ?_
                refine lv_iadd hx hb dX5_slot_116 ?_
                exact ei hx hb hr hlk hS hP (by first | rw [co1, cif_t yes] | rw [co1, cif_f no]) (by rw [cif_t yes, hna, hnb0]; exact (cif_f us).symm) (Nat.le_of_ble_eq_true rfl) (Nat.le_of_ble_eq_true rfl) dX5_slot_117
              · skip
                obtain ⟨j, hj, ej⟩ := rng_o (rO (hr9.2.1 (8 * a + b0) (by omega)).2.2.1 c12)
                have ej2 : nat (m_n u (8 * a + b0)) = j := by rw [ej]; exact nat_nI (by omega)
                refine lv_bipush (v := 100) hx hb dX5_slot_98 (by decide) ?_
                refine lv_aload_n hx hb dX5_slot_100 rfl (lv_at hl 1 rfl) ?_
                refine gw5_next S i5 hE hP (hts _ (List.mem_of_getElem? (i := 5) rfl)) dX5_slot_101 ?_
                refine lv_iload_n hx hb dX5_slot_104 rfl (lv_at hl 0 rfl) ?_
                refine lM_n S hE hP (f := m_n (ms_thr u 0)) rfl (j := (8 * a + b0)) (by omega) rfl dX5_slot_105 ?_
                refine tpi (y := nI j) ej ?_
                refine lv_bipush (v := 8) hx hb dX5_slot_106 (by decide) ?_
                refine lv_irem hx hb dX5_slot_108 (by decide) ?_
                refine tpi (y := nI (j % 8)) (pk_rem8 (by omega)) ?_
                refine lv_iconst (v := 1) hx hb dX5_slot_109 (by decide) ?_
                refine lv_iadd hx hb dX5_slot_110 ?_
                refine lv_imul hx hb dX5_slot_111 ?_
                refine lv_goto (tgt := 116) hx hb dX5_slot_112 (by decide) ?_
                refine tpi (y := cif (m_n u (8 * a + b0) = -1) 0 (100 * (nI (nat (m_n u (8 * a + b0)) % 8) + 1))) (by first | exact (cif_t c12).symm | (rw [cif_f (show ¬ m_n u (8 * a + b0) = -1 from c12), ej2]; done)) ?_
                refine lv_iadd hx hb dX5_slot_116 ?_
                exact ei hx hb hr hlk hS hP (by first | rw [co1, cif_t yes] | rw [co1, cif_f no]) (by rw [cif_t yes, hna, hnb0]; exact (cif_f us).symm) (Nat.le_of_ble_eq_true rfl) (Nat.le_of_ble_eq_true rfl) dX5_slot_117
            · skip
              refine lv_bipush (v := 20) hx hb dX5_slot_81 (by decide) ?_
              refine lv_goto (tgt := 87) hx hb dX5_slot_83 (by decide) ?_
              refine tpi (y := cif (m_d u (8 * a + b0) = -1) 0 20) (by first | exact (cif_t c11).symm | exact (cif_f c11).symm) ?_
              refine lv_iadd hx hb dX5_slot_87 ?_
              refine lv_aload_n hx hb dX5_slot_88 rfl (lv_at hl 1 rfl) ?_
              refine gw5_next S i5 hE hP (hts _ (List.mem_of_getElem? (i := 5) rfl)) dX5_slot_89 ?_
              refine lv_iload_n hx hb dX5_slot_92 rfl (lv_at hl 0 rfl) ?_
              refine lM_n S hE hP (f := m_n (ms_thr u 0)) rfl (j := (8 * a + b0)) (by omega) rfl dX5_slot_93 ?_
              refine lv_iconst (v := (-1)) hx hb dX5_slot_94 (by decide) ?_
              refine lv_icmp_eq (tgt := 115) hx hb dX5_slot_95 (by decide) (fun c13 => ?_) (fun c13 => ?_)
              · skip
                refine lv_iconst (v := 0) hx hb dX5_slot_115 (by decide) ?_
                refine tpi (y := cif (m_n u (8 * a + b0) = -1) 0 (100 * (nI (nat (m_n u (8 * a + b0)) % 8) + 1))) (by first | exact (cif_t c13).symm | (rw [cif_f (show ¬ m_n u (8 * a + b0) = -1 from c13), ej2]; done)) ?_
                refine lv_iadd hx hb dX5_slot_116 ?_
                exact ei hx hb hr hlk hS hP (by first | rw [co1, cif_t yes] | rw [co1, cif_f no]) (by rw [cif_t yes, hna, hnb0]; exact (cif_f us).symm) (Nat.le_of_ble_eq_true rfl) (Nat.le_of_ble_eq_true rfl) dX5_slot_117
              · skip
                obtain ⟨j, hj, ej⟩ := rng_o (rO (hr9.2.1 (8 * a + b0) (by omega)).2.2.1 c13)
                have ej2 : nat (m_n u (8 * a + b0)) = j := by rw [ej]; exact nat_nI (by omega)
                refine lv_bipush (v := 100) hx hb dX5_slot_98 (by decide) ?_
                refine lv_aload_n hx hb dX5_slot_100 rfl (lv_at hl 1 rfl) ?_
                refine gw5_next S i5 hE hP (hts _ (List.mem_of_getElem? (i := 5) rfl)) dX5_slot_101 ?_
                refine lv_iload_n hx hb dX5_slot_104 rfl (lv_at hl 0 rfl) ?_
                refine lM_n S hE hP (f := m_n (ms_thr u 0)) rfl (j := (8 * a + b0)) (by omega) rfl dX5_slot_105 ?_
                refine tpi (y := nI j) ej ?_
                refine lv_bipush (v := 8) hx hb dX5_slot_106 (by decide) ?_
                refine lv_irem hx hb dX5_slot_108 (by decide) ?_
                refine tpi (y := nI (j % 8)) (pk_rem8 (by omega)) ?_
                refine lv_iconst (v := 1) hx hb dX5_slot_109 (by decide) ?_
                refine lv_iadd hx hb dX5_slot_110 ?_
                refine lv_imul hx hb dX5_slot_111 ?_
                refine lv_goto (tgt := 116) hx hb dX5_slot_112 (by decide) ?_
                refine tpi (y := cif (m_n u (8 * a + b0) = -1) 0 (100 * (nI (nat (m_n u (8 * a + b0)) % 8) + 1))) (by first | exact (cif_t c13).symm | (rw [cif_f (show ¬ m_n u (8 * a + b0) = -1 from c13), ej2]; done)) ?_
                refine lv_iadd hx hb dX5_slot_116 ?_
                exact ei hx hb hr hlk hS hP (by first | rw [co1, cif_t yes] | rw [co1, cif_f no]) (by rw [cif_t yes, hna, hnb0]; exact (cif_f us).symm) (Nat.le_of_ble_eq_true rfl) (Nat.le_of_ble_eq_true rfl) dX5_slot_117
        · skip
          have nu : m_us u (8 * a + b0) = 0 := c6
          refine lv_iconst (v := (-1)) hx hb dX5_slot_47 (by decide) ?_
          exact ei hx hb hr hlk hS hP (by first | rw [co1, cif_t yes] | rw [co1, cif_f no]) (by rw [cif_t yes, hna, hnb0]; exact (cif_t nu).symm) (Nat.le_of_ble_eq_true rfl) (Nat.le_of_ble_eq_true rfl) dX5_slot_48
      · skip
        exact (by first | exact absurd rfl c5 | exact absurd c5 (by decide))
def rmX5_fullness : Room := { frames := 2, cells := 0, slots := 0, locals := 42 }
theorem hdX5_fullness : yX5_fullness.cls = RX5 ∧ yX5_fullness.cls ≠ "java/lang/invoke/MethodHandle" ∧ yX5_fullness.cls ≠ "java/lang/invoke/VarHandle" ∧ (parseMethodDescriptor yX5_fullness.desc).map (fun d => d.parameters.length) = some 1 := by decide +kernel
set_option maxHeartbeats 4000000 in
set_option maxRecDepth 100000 in
theorem kX5_fullness {l : Launch} {D : va_G} {K : Nat → ClassId} {L : Nat → Prop} {g : Nat → Nat} (hg : gd L g 14) (u : MU) (x : Int32) : CF l yX5_fullness wsX5_fullness rmX5_fullness D K L [.ref (g 0), .int x] (wM K g u) (wM K g (ms_thr u (co1 (inP x 0 3)))) (cif (inP x 0 3) (fdv (fuM u (nat x) 8)) FP.fconst0) := by
  refine CF.of (cc := cX5_fullness) (maxL := 4) (ret := (some .float)) (by decide +kernel) rfl (Nat.le_of_ble_eq_true rfl) ?_
  intro p e s m below meth c ls hen hP
  obtain ⟨hx, hb, hr, hts, hown, hlk, hml, hnm, hE, hl⟩ := hen
  have S : CallFix p m c cX5_fullness 4 s _ wsX5_fullness RX5 := ⟨hx, hb, hml, hown, hts⟩
  have hS : va_S (fr L s.heap.size) s.heap s.heap [] := va_S.rf
  have hl : lv_has ls 4 [(0, .ref (g 0)), (1, .int x)] := hl
  have i5 : ∀ w ∈ wsX50, w ∈ wsX5_fullness := fun _ h => List.mem_cons_of_mem _ (List.mem_append_right _ h)
  refine lv_aload_n hx hb dX5_fullness_0 rfl (lv_at hl 0 rfl) ?_
  refine lv_iload_n hx hb dX5_fullness_1 rfl (lv_at hl 1 rfl) ?_
  refine kiS (As := [.int x]) (rest := [.ref (g 0)]) S (kX5_isPage x) (va_cwS 1 hts gX5_fullness_X5_isPage rfl rfl rfl hdX5_isPage.2 ⟨Nat.le_of_ble_eq_true rfl, Nat.le_of_ble_eq_true rfl⟩) rfl rfl hE hP hS (frs hS) rfl hl.1 rfl (Nat.le_of_ble_eq_true rfl) dX5_fullness_2 ⟨Nat.le_of_ble_eq_true rfl, Nat.le_of_ble_eq_true rfl⟩ (fun H locs hP _ _ hS => ?_)
  refine bzeq (tgt := 12) hx hb dX5_fullness_5 (by decide) (fun c1 => ?_) (fun c1 => ?_)
  · skip
    refine lv_iconst (v := 1) hx hb dX5_fullness_12 (by decide) ?_
    refine kiV (As := [.int 1]) (rest := []) S (kX5_isFine hg u 1) (cwV 1 hts gX5_fullness_X5_isFine rfl rfl rfl hdX5_isFine ⟨Nat.le_of_ble_eq_true rfl, Nat.le_of_ble_eq_true rfl⟩) rfl rfl 0 rfl rfl hE hP hS (frs hS) rfl hl.1 rfl (Nat.le_of_ble_eq_true rfl) dX5_fullness_13 ⟨Nat.le_of_ble_eq_true rfl, Nat.le_of_ble_eq_true rfl⟩ (fun H locs hP _ _ hS => ?_)
    refine bzne (tgt := 21) hx hb dX5_fullness_16 (by decide) (fun c2 => ?_) (fun c2 => ?_)
    · skip
      exact (by first | exact absurd rfl c2 | exact absurd c2 (by decide))
    · skip
      refine lv_fconst0 hx hb dX5_fullness_19 ?_
      exact ef hx hb hr hlk hS hP (by first | rw [co1, cif_t c1] | rw [co1, cif_f c1]) ((cif_f c1).symm) (Nat.le_of_ble_eq_true rfl) (Nat.le_of_ble_eq_true rfl) dX5_fullness_20
  · skip
    obtain ⟨a, ha, ea⟩ := in_at (n := 3) (by omega) c1
    subst ea
    have hna : nat (nI a) = a := nat_nI (by omega)
    refine lv_iconst (v := 0) hx hb dX5_fullness_8 (by decide) ?_
    refine lv_goto (tgt := 13) hx hb dX5_fullness_9 (by decide) ?_
    refine kiV (As := [.int 0]) (rest := []) S (kX5_isFine hg u 0) (cwV 1 hts gX5_fullness_X5_isFine rfl rfl rfl hdX5_isFine ⟨Nat.le_of_ble_eq_true rfl, Nat.le_of_ble_eq_true rfl⟩) rfl rfl 0 rfl rfl hE hP hS (frs hS) rfl hl.1 rfl (Nat.le_of_ble_eq_true rfl) dX5_fullness_13 ⟨Nat.le_of_ble_eq_true rfl, Nat.le_of_ble_eq_true rfl⟩ (fun H locs hP _ _ hS => ?_)
    refine bzne (tgt := 21) hx hb dX5_fullness_16 (by decide) (fun c3 => ?_) (fun c3 => ?_)
    · skip
      refine lv_iconst (v := 0) hx hb dX5_fullness_21 (by decide) ?_
      refine lv_istore_n (lv' := [(2, .int 0), (0, .ref (g 0)), (1, .int (nI a))]) hx hb dX5_fullness_22 rfl hl (by decide) rfl (fun ls hl => ?_)
      refine lv_bipush (v := 8) hx hb dX5_fullness_23 (by decide) ?_
      refine lv_iload_n hx hb dX5_fullness_25 rfl (lv_at hl 2 rfl) ?_
      refine lv_imul hx hb dX5_fullness_26 ?_
      refine tpi (y := nI (8 * a)) (pk_mul 8 a) ?_
      refine lv_istore_n (lv' := [(3, .int (nI (8 * a))), (2, .int 0), (0, .ref (g 0)), (1, .int (nI a))]) hx hb dX5_fullness_27 rfl hl (by decide) rfl (fun ls hl => ?_)
      have loop28 : ∀ (n28 : Nat) (i : Nat) (d : Nat), (hi : i ≤ 8) → (hd : d = fuM u a i) → 8 - i < n28 → ∀ (H : Heap) (locs : List Loc), va_P D vwCl (wM K g (ms_thr u 0)) H → va_S (fr L s.heap.size) s.heap H locs → ∀ (ls : Array Slot), lv_has ls 4 [(3, .int (nI (8 * a + i))), (2, .int (nI d)), (0, .ref (g 0)), (1, .int (nI a))] → W p l e rmX5_fullness s m ([.ref (g 0), .int (nI a)] : List Value).toArray below meth c H locs 0 0 (MQ below (va_Qf (fun (r9 : UInt32) (_ : Unit) => r9 = cif (inP (nI a) 0 3) (fdv (fuM u (nat (nI a)) 8)) FP.fconst0) (fun _ t9 => va_P D vwCl (wM K g (ms_thr u (co1 (inP (nI a) 0 3)))) t9.heap) (fr L s.heap.size)) ([.ref (g 0), .int (nI a)] : List Value).toArray s rmX5_fullness.cells rmX5_fullness.slots (fr L s.heap.size)) (F0 m 28 ls []) := by
        intro n28
        induction n28 with
        | zero =>
          intro i d hi hd hn28
          exact absurd hn28 (Nat.not_lt_zero _)
        | succ n28 ih28 =>
          intro i d hi hd hn28 H locs hP hS ls hl
          refine lv_iload_n hx hb dX5_fullness_28 rfl (lv_at hl 0 rfl) ?_
          refine lv_bipush (v := 8) hx hb dX5_fullness_29 (by decide) ?_
          refine lv_iload_n hx hb dX5_fullness_31 rfl (lv_at hl 3 rfl) ?_
          refine lv_imul hx hb dX5_fullness_32 ?_
          refine tpi (y := nI (8 * a)) (pk_mul 8 a) ?_
          refine lv_bipush (v := 8) hx hb dX5_fullness_33 (by decide) ?_
          refine lv_iadd hx hb dX5_fullness_35 ?_
          refine tpi (y := nI (8 * a + 8)) (nI_add (8 * a) 8) ?_
          refine lv_icmp_ge (tgt := 62) hx hb dX5_fullness_36 (by decide) (fun c4 => ?_) (fun c4 => ?_)
          · skip
            have e9 : i = 8 := by have := nge_i (a := 8 * a + i) (b := 8 * a + 8) (by omega) (by omega) c4; omega
            have hd8 : d < 9 := by have := fuM_le (u := u) (a := a) i; omega
            refine lv_iload_n hx hb dX5_fullness_62 rfl (lv_at hl 1 rfl) ?_
            refine lv_i2f hx hb dX5_fullness_63 ?_
            refine lv_ldcf (v := 1090519040) hx hb hown (hts _ (List.mem_of_getElem? (i := 2) rfl)) dX5_fullness_64 ?_
            refine lv_fdiv hx hb dX5_fullness_66 (fdv_all d hd8) ?_
            exact ef hx hb hr hlk hS hP (by first | rw [co1, cif_t c1] | rw [co1, cif_f c1]) (by rw [cif_t c1, hna, ← e9, ← hd]; rfl) (Nat.le_of_ble_eq_true rfl) (Nat.le_of_ble_eq_true rfl) dX5_fullness_67
          · skip
            have hlt : i < 8 := by have := nlt_i (a := 8 * a + i) (b := 8 * a + 8) (by omega) (by omega) c4; omega
            refine lv_iload_n hx hb dX5_fullness_39 rfl (lv_at hl 1 rfl) ?_
            refine lv_aload_n hx hb dX5_fullness_40 rfl (lv_at hl 2 rfl) ?_
            refine gw5_isUsed S i5 hE hP (hts _ (List.mem_of_getElem? (i := 1) rfl)) dX5_fullness_41 ?_
            refine lv_iload_n hx hb dX5_fullness_44 rfl (lv_at hl 0 rfl) ?_
            refine lM_us S hE hP (f := m_us (ms_thr u 0)) rfl (j := (8 * a + i)) (by omega) rfl dX5_fullness_45 ?_
            refine lv_if_eq (tgt := 53) hx hb dX5_fullness_46 (by decide) (fun c5 => ?_) (fun c5 => ?_)
            · skip
              refine lv_iconst (v := 0) hx hb dX5_fullness_53 (by decide) ?_
              refine tpi (y := nI (cif (m_us u (8 * a + i) = 0) 0 1)) (by first | (rw [cif_t (show m_us u (8 * a + i) = 0 from c5)]; rfl) | (rw [cif_f (show ¬ m_us u (8 * a + i) = 0 from c5)]; rfl)) ?_
              refine lv_iadd hx hb dX5_fullness_54 ?_
              refine tpi (y := nI (fuM u a (i + 1))) (by rw [hd]; exact nI_add _ _) ?_
              refine lv_istore_n (lv' := [(2, .int (nI (fuM u a (i + 1)))), (3, .int (nI (8 * a + i))), (0, .ref (g 0)), (1, .int (nI a))]) hx hb dX5_fullness_55 rfl hl (by decide) rfl (fun ls hl => ?_)
              refine lv_iinc (v := nI ((8 * a + i) + 1)) (lv' := [(3, .int (nI ((8 * a + i) + 1))), (2, .int (nI (fuM u a (i + 1)))), (0, .ref (g 0)), (1, .int (nI a))]) hx hb dX5_fullness_56 hl (k := 1) rfl (nI_1 (8 * a + i)) (by decide) rfl (fun ls hl => ?_)
              refine lv_goto (tgt := 28) hx hb dX5_fullness_59 (by decide) ?_
              exact ih28 (i + 1) (fuM u a (i + 1)) (by omega) rfl (by omega) _ _ hP hS ls (lv_sub hl [0, 1, 2, 3] rfl)
            · skip
              refine lv_iconst (v := 1) hx hb dX5_fullness_49 (by decide) ?_
              refine lv_goto (tgt := 54) hx hb dX5_fullness_50 (by decide) ?_
              refine tpi (y := nI (cif (m_us u (8 * a + i) = 0) 0 1)) (by first | (rw [cif_t (show m_us u (8 * a + i) = 0 from c5)]; rfl) | (rw [cif_f (show ¬ m_us u (8 * a + i) = 0 from c5)]; rfl)) ?_
              refine lv_iadd hx hb dX5_fullness_54 ?_
              refine tpi (y := nI (fuM u a (i + 1))) (by rw [hd]; exact nI_add _ _) ?_
              refine lv_istore_n (lv' := [(2, .int (nI (fuM u a (i + 1)))), (3, .int (nI (8 * a + i))), (0, .ref (g 0)), (1, .int (nI a))]) hx hb dX5_fullness_55 rfl hl (by decide) rfl (fun ls hl => ?_)
              refine lv_iinc (v := nI ((8 * a + i) + 1)) (lv' := [(3, .int (nI ((8 * a + i) + 1))), (2, .int (nI (fuM u a (i + 1)))), (0, .ref (g 0)), (1, .int (nI a))]) hx hb dX5_fullness_56 hl (k := 1) rfl (nI_1 (8 * a + i)) (by decide) rfl (fun ls hl => ?_)
              refine lv_goto (tgt := 28) hx hb dX5_fullness_59 (by decide) ?_
              exact ih28 (i + 1) (fuM u a (i + 1)) (by omega) rfl (by omega) _ _ hP hS ls (lv_sub hl [0, 1, 2, 3] rfl)
      exact loop28 _ 0 0 (by omega) rfl (Nat.lt_succ_self _) _ _ hP hS ls (lv_sub hl [0, 1, 2, 3] rfl)
    · skip
      exact (by first | exact absurd rfl c3 | exact absurd c3 (by decide))
def rmX5_delete : Room := { frames := 4, cells := 0, slots := 0, locals := 90 }
theorem hdX5_delete : yX5_delete.cls = RX5 ∧ yX5_delete.cls ≠ "java/lang/invoke/MethodHandle" ∧ yX5_delete.cls ≠ "java/lang/invoke/VarHandle" ∧ (parseMethodDescriptor yX5_delete.desc).map (fun d => d.parameters.length) = some 2 := by decide +kernel
set_option maxHeartbeats 4000000 in
set_option maxRecDepth 100000 in
theorem kX5_delete {l : Launch} {D : va_G} {K : Nat → ClassId} {L : Nat → Prop} {g : Nat → Nat} (hg : gd L g 14) (u : MU) (x y : Int32) (N : Nat) (hN : N ≤ 60) (hcn : m_cn u = nI N) (hr9 : rM u) (hen : enM u) : CI l yX5_delete wsX5_delete rmX5_delete D K L [.ref (g 0), .int x, .int y] (wM K g u) (wM K g (cif (deP u x y (mvs u x y)) (cif (mvs u x y = -1) (ms_thr u 0) (mdi (ms_thr u 0) (nat x) (nat (mvs u x y)))) (ms_thr u (co3 (trP u x) (inP y 0 5) (m_sta u (nat x) = 0 ∧ ¬ (¬ mvs u x y = -1 ∧ rfM u (nat x) (nat y) 32)))))) (fb (deP u x y (mvs u x y) ∧ ¬ mvs u x y = -1)) := by
  refine CI.of (cc := cX5_delete) (maxL := 7) (ret := (some .boolean)) (by decide +kernel) rfl (Nat.le_of_ble_eq_true rfl) ?_
  intro p e s m below meth c ls hen hP
  obtain ⟨hx, hb, hr, hts, hown, hlk, hml, hnm, hE, hl⟩ := hen
  have S : CallFix p m c cX5_delete 7 s _ wsX5_delete RX5 := ⟨hx, hb, hml, hown, hts⟩
  have hS : va_S (fr L s.heap.size) s.heap s.heap [] := va_S.rf
  have hl : lv_has ls 7 [(0, .ref (g 0)), (1, .int x), (2, .int y)] := hl
  have i5 : ∀ w ∈ wsX50, w ∈ wsX5_delete := fun _ h => List.mem_cons_of_mem _ (List.mem_append_right _ h)
  refine lv_aload_n hx hb dX5_delete_0 rfl (lv_at hl 0 rfl) ?_
  refine lv_iload_n hx hb dX5_delete_1 rfl (lv_at hl 1 rfl) ?_
  refine kiV (As := [.int x]) (rest := []) S (kX5_isTransaction hg u x) (cwV 1 hts gX5_delete_X5_isTransaction rfl rfl rfl hdX5_isTransaction ⟨Nat.le_of_ble_eq_true rfl, Nat.le_of_ble_eq_true rfl⟩) rfl rfl 0 rfl rfl hE hP hS (frs hS) rfl hl.1 rfl (Nat.le_of_ble_eq_true rfl) dX5_delete_2 ⟨Nat.le_of_ble_eq_true rfl, Nat.le_of_ble_eq_true rfl⟩ (fun H locs hP _ _ hS => ?_)
  refine lv_istore_n (lv' := [(3, .int (fb (trP u x))), (0, .ref (g 0)), (1, .int x), (2, .int y)]) hx hb dX5_delete_5 rfl hl (by decide) rfl (fun ls hl => ?_)
  refine lv_iload_n hx hb dX5_delete_6 rfl (lv_at hl 3 rfl) ?_
  refine kiS (As := [.int y]) (rest := []) S (kX5_isKey y) (va_cwS 1 hts gX5_delete_X5_isKey rfl rfl rfl hdX5_isKey.2 ⟨Nat.le_of_ble_eq_true rfl, Nat.le_of_ble_eq_true rfl⟩) rfl rfl hE hP hS (frs hS) rfl hl.1 rfl (Nat.le_of_ble_eq_true rfl) dX5_delete_7 ⟨Nat.le_of_ble_eq_true rfl, Nat.le_of_ble_eq_true rfl⟩ (fun H locs hP _ _ hS => ?_)
  refine lv_istore (lv' := [(4, .int (fb (inP y 0 5))), (3, .int (fb (trP u x))), (0, .ref (g 0)), (1, .int x), (2, .int y)]) hx hb dX5_delete_10 hl (by decide) rfl (fun ls hl => ?_)
  refine lv_iload_n hx hb dX5_delete_12 rfl (lv_at hl 1 rfl) ?_
  refine bzeq (tgt := 38) hx hb dX5_delete_13 (by decide) (fun c1 => ?_) (fun c1 => ?_)
  · skip
    have n1 : ¬ trP u x := c1
    refine lv_iconst (v := (-1)) hx hb dX5_delete_38 (by decide) ?_
    refine lv_istore (lv' := [(5, .int (-1)), (4, .int (fb (inP y 0 5))), (3, .int (fb (trP u x))), (0, .ref (g 0)), (1, .int x), (2, .int y)]) hx hb dX5_delete_39 hl (by decide) rfl (fun ls hl => ?_)
    refine lv_iload hx hb dX5_delete_41 (lv_at hl 0 rfl) ?_
    refine lv_iconst (v := (-1)) hx hb dX5_delete_43 (by decide) ?_
    refine lv_icmp_eq (tgt := 60) hx hb dX5_delete_44 (by decide) (fun c2 => ?_) (fun c2 => ?_)
    · skip
      refine lv_iconst (v := 0) hx hb dX5_delete_60 (by decide) ?_
      refine lv_istore (lv' := [(6, .int 0), (5, .int (-1)), (4, .int (fb (inP y 0 5))), (3, .int (fb (trP u x))), (0, .ref (g 0)), (1, .int x), (2, .int y)]) hx hb dX5_delete_61 hl (by decide) rfl (fun ls hl => ?_)
      refine lv_aload_n hx hb dX5_delete_63 rfl (lv_at hl 4 rfl) ?_
      refine lv_iload_n hx hb dX5_delete_64 rfl (lv_at hl 3 rfl) ?_
      refine bzne (tgt := 72) hx hb dX5_delete_65 (by decide) (fun c3 => ?_) (fun c3 => ?_)
      · skip
        exact absurd c3 c1
      · skip
        refine lv_iconst (v := 1) hx hb dX5_delete_68 (by decide) ?_
        refine lv_goto (tgt := 99) hx hb dX5_delete_69 (by decide) ?_
        refine kiV (As := [.int 1]) (rest := []) S (kX5_isFine hg u 1) (cwV 1 hts gX5_delete_X5_isFine rfl rfl rfl hdX5_isFine ⟨Nat.le_of_ble_eq_true rfl, Nat.le_of_ble_eq_true rfl⟩) rfl rfl 0 rfl rfl hE hP hS (frs hS) rfl hl.1 rfl (Nat.le_of_ble_eq_true rfl) dX5_delete_99 ⟨Nat.le_of_ble_eq_true rfl, Nat.le_of_ble_eq_true rfl⟩ (fun H locs hP _ _ hS => ?_)
        refine bzeq (tgt := 111) hx hb dX5_delete_102 (by decide) (fun c4 => ?_) (fun c4 => ?_)
        · skip
          refine lv_iconst (v := 0) hx hb dX5_delete_111 (by decide) ?_
          exact ez hx hb hr hlk hS hP (by first | (rw [cif_f (fun z => n1 z.1), co3, cif_f n1]; done) | (rw [cif_f (fun z => n2 z.2.1), co3, cif_t y1, cif_f n2]; done) | (rw [hnt, hnk, cif_f (fun z => n3 (by have k9 := z.2.2; rw [hnt, hnk] at k9; exact k9)), co3, cif_t y1, cif_t y2, cif_f n3]; done) | (rw [cif_t ⟨y1, y2, by rw [hnt, hnk]; exact y4⟩, cif_t (hsv.trans oe)]; done)) (by first | exact f_fb (fun z => n1 z.1.1) | exact f_fb (fun z => n2 z.1.2.1) | exact f_fb (fun z => n3 (by have k9 := z.1.2.2; rw [hnt, hnk] at k9; exact k9)) | exact f_fb (fun z => z.2 (hsv.trans oe))) rfl (Nat.le_of_ble_eq_true rfl) (Nat.le_of_ble_eq_true rfl) dX5_delete_112
        · skip
          exact (by first | exact absurd rfl c4 | exact absurd c4 (by decide))
    · skip
      exact (by first | exact absurd c2 (by decide) | exact absurd rfl c2)
  · skip
    have y1 : trP u x := c1
    obtain ⟨t, ht, et⟩ := tr_at (by omega) hcn c1
    subst et
    have hnt : nat (nI t) = t := nat_nI (by omega)
    refine lv_iload hx hb dX5_delete_16 (lv_at hl 0 rfl) ?_
    refine bzeq (tgt := 38) hx hb dX5_delete_18 (by decide) (fun c5 => ?_) (fun c5 => ?_)
    · skip
      have n2 : ¬ inP y 0 5 := c5
      refine lv_iconst (v := (-1)) hx hb dX5_delete_38 (by decide) ?_
      refine lv_istore (lv' := [(5, .int (-1)), (4, .int (fb (inP y 0 5))), (3, .int (fb (trP u (nI t)))), (0, .ref (g 0)), (1, .int (nI t)), (2, .int y)]) hx hb dX5_delete_39 hl (by decide) rfl (fun ls hl => ?_)
      refine lv_iload hx hb dX5_delete_41 (lv_at hl 0 rfl) ?_
      refine lv_iconst (v := (-1)) hx hb dX5_delete_43 (by decide) ?_
      refine lv_icmp_eq (tgt := 60) hx hb dX5_delete_44 (by decide) (fun c6 => ?_) (fun c6 => ?_)
      · skip
        refine lv_iconst (v := 0) hx hb dX5_delete_60 (by decide) ?_
        refine lv_istore (lv' := [(6, .int 0), (5, .int (-1)), (4, .int (fb (inP y 0 5))), (3, .int (fb (trP u (nI t)))), (0, .ref (g 0)), (1, .int (nI t)), (2, .int y)]) hx hb dX5_delete_61 hl (by decide) rfl (fun ls hl => ?_)
        refine lv_aload_n hx hb dX5_delete_63 rfl (lv_at hl 4 rfl) ?_
        refine lv_iload_n hx hb dX5_delete_64 rfl (lv_at hl 3 rfl) ?_
        refine bzne (tgt := 72) hx hb dX5_delete_65 (by decide) (fun c7 => ?_) (fun c7 => ?_)
        · skip
          refine lv_iload hx hb dX5_delete_72 (lv_at hl 2 rfl) ?_
          refine bzne (tgt := 81) hx hb dX5_delete_74 (by decide) (fun c8 => ?_) (fun c8 => ?_)
          · skip
            exact absurd c8 c5
          · skip
            refine lv_iconst (v := 2) hx hb dX5_delete_77 (by decide) ?_
            refine lv_goto (tgt := 99) hx hb dX5_delete_78 (by decide) ?_
            refine kiV (As := [.int 2]) (rest := []) S (kX5_isFine hg u 2) (cwV 1 hts gX5_delete_X5_isFine rfl rfl rfl hdX5_isFine ⟨Nat.le_of_ble_eq_true rfl, Nat.le_of_ble_eq_true rfl⟩) rfl rfl 0 rfl rfl hE hP hS (frs hS) rfl hl.1 rfl (Nat.le_of_ble_eq_true rfl) dX5_delete_99 ⟨Nat.le_of_ble_eq_true rfl, Nat.le_of_ble_eq_true rfl⟩ (fun H locs hP _ _ hS => ?_)
            refine bzeq (tgt := 111) hx hb dX5_delete_102 (by decide) (fun c9 => ?_) (fun c9 => ?_)
            · skip
              refine lv_iconst (v := 0) hx hb dX5_delete_111 (by decide) ?_
              exact ez hx hb hr hlk hS hP (by first | (rw [cif_f (fun z => n1 z.1), co3, cif_f n1]; done) | (rw [cif_f (fun z => n2 z.2.1), co3, cif_t y1, cif_f n2]; done) | (rw [hnt, hnk, cif_f (fun z => n3 (by have k9 := z.2.2; rw [hnt, hnk] at k9; exact k9)), co3, cif_t y1, cif_t y2, cif_f n3]; done) | (rw [cif_t ⟨y1, y2, by rw [hnt, hnk]; exact y4⟩, cif_t (hsv.trans oe)]; done)) (by first | exact f_fb (fun z => n1 z.1.1) | exact f_fb (fun z => n2 z.1.2.1) | exact f_fb (fun z => n3 (by have k9 := z.1.2.2; rw [hnt, hnk] at k9; exact k9)) | exact f_fb (fun z => z.2 (hsv.trans oe))) rfl (Nat.le_of_ble_eq_true rfl) (Nat.le_of_ble_eq_true rfl) dX5_delete_112
            · skip
              exact (by first | exact absurd rfl c9 | exact absurd c9 (by decide))
        · skip
          exact absurd c1 c7
      · skip
        exact (by first | exact absurd c6 (by decide) | exact absurd rfl c6)
    · skip
      have y2 : inP y 0 5 := c5
      obtain ⟨k, hk, ek⟩ := in_at (n := 5) (by omega) c5
      subst ek
      have hnk : nat (nI k) = k := nat_nI (by omega)
      refine lv_aload_n hx hb dX5_delete_21 rfl (lv_at hl 2 rfl) ?_
      refine lv_iload_n hx hb dX5_delete_22 rfl (lv_at hl 3 rfl) ?_
      refine kiV (As := [.int (nI t)]) (rest := []) S (kX5_isActive hg u t (by omega)) (cwV 1 hts gX5_delete_X5_isActive rfl rfl rfl hdX5_isActive ⟨Nat.le_of_ble_eq_true rfl, Nat.le_of_ble_eq_true rfl⟩) rfl rfl 0 rfl rfl hE hP hS (frs hS) rfl hl.1 rfl (Nat.le_of_ble_eq_true rfl) dX5_delete_23 ⟨Nat.le_of_ble_eq_true rfl, Nat.le_of_ble_eq_true rfl⟩ (fun H locs hP _ _ hS => ?_)
      refine bzeq (tgt := 38) hx hb dX5_delete_26 (by decide) (fun c10 => ?_) (fun c10 => ?_)
      · skip
        have n3 : ¬ (m_sta u t = 0 ∧ ¬ (¬ mvs u (nI t) (nI k) = -1 ∧ rfM u t k 32)) := fun z => c10 z.1
        refine lv_iconst (v := (-1)) hx hb dX5_delete_38 (by decide) ?_
        refine lv_istore (lv' := [(5, .int (-1)), (4, .int (fb (inP (nI k) 0 5))), (3, .int (fb (trP u (nI t)))), (0, .ref (g 0)), (1, .int (nI t)), (2, .int (nI k))]) hx hb dX5_delete_39 hl (by decide) rfl (fun ls hl => ?_)
        refine lv_iload hx hb dX5_delete_41 (lv_at hl 0 rfl) ?_
        refine lv_iconst (v := (-1)) hx hb dX5_delete_43 (by decide) ?_
        refine lv_icmp_eq (tgt := 60) hx hb dX5_delete_44 (by decide) (fun c11 => ?_) (fun c11 => ?_)
        · skip
          refine lv_iconst (v := 0) hx hb dX5_delete_60 (by decide) ?_
          refine lv_istore (lv' := [(6, .int 0), (5, .int (-1)), (4, .int (fb (inP (nI k) 0 5))), (3, .int (fb (trP u (nI t)))), (0, .ref (g 0)), (1, .int (nI t)), (2, .int (nI k))]) hx hb dX5_delete_61 hl (by decide) rfl (fun ls hl => ?_)
          refine lv_aload_n hx hb dX5_delete_63 rfl (lv_at hl 4 rfl) ?_
          refine lv_iload_n hx hb dX5_delete_64 rfl (lv_at hl 3 rfl) ?_
          refine bzne (tgt := 72) hx hb dX5_delete_65 (by decide) (fun c12 => ?_) (fun c12 => ?_)
          · skip
            refine lv_iload hx hb dX5_delete_72 (lv_at hl 2 rfl) ?_
            refine bzne (tgt := 81) hx hb dX5_delete_74 (by decide) (fun c13 => ?_) (fun c13 => ?_)
            · skip
              refine lv_aload_n hx hb dX5_delete_81 rfl (lv_at hl 4 rfl) ?_
              refine lv_iload_n hx hb dX5_delete_82 rfl (lv_at hl 5 rfl) ?_
              refine kiV (As := [.int (nI t)]) (rest := [.ref (g 0)]) S (kX5_isActive hg u t (by omega)) (cwV 1 hts gX5_delete_X5_isActive rfl rfl rfl hdX5_isActive ⟨Nat.le_of_ble_eq_true rfl, Nat.le_of_ble_eq_true rfl⟩) rfl rfl 0 rfl rfl hE hP hS (frs hS) rfl hl.1 rfl (Nat.le_of_ble_eq_true rfl) dX5_delete_83 ⟨Nat.le_of_ble_eq_true rfl, Nat.le_of_ble_eq_true rfl⟩ (fun H locs hP _ _ hS => ?_)
              refine bzeq (tgt := 94) hx hb dX5_delete_86 (by decide) (fun c14 => ?_) (fun c14 => ?_)
              · skip
                refine lv_iconst (v := 3) hx hb dX5_delete_94 (by decide) ?_
                refine lv_goto (tgt := 99) hx hb dX5_delete_95 (by decide) ?_
                refine kiV (As := [.int 3]) (rest := []) S (kX5_isFine hg u 3) (cwV 1 hts gX5_delete_X5_isFine rfl rfl rfl hdX5_isFine ⟨Nat.le_of_ble_eq_true rfl, Nat.le_of_ble_eq_true rfl⟩) rfl rfl 0 rfl rfl hE hP hS (frs hS) rfl hl.1 rfl (Nat.le_of_ble_eq_true rfl) dX5_delete_99 ⟨Nat.le_of_ble_eq_true rfl, Nat.le_of_ble_eq_true rfl⟩ (fun H locs hP _ _ hS => ?_)
                refine bzeq (tgt := 111) hx hb dX5_delete_102 (by decide) (fun c15 => ?_) (fun c15 => ?_)
                · skip
                  refine lv_iconst (v := 0) hx hb dX5_delete_111 (by decide) ?_
                  exact ez hx hb hr hlk hS hP (by first | (rw [cif_f (fun z => n1 z.1), co3, cif_f n1]; done) | (rw [cif_f (fun z => n2 z.2.1), co3, cif_t y1, cif_f n2]; done) | (rw [hnt, hnk, cif_f (fun z => n3 (by have k9 := z.2.2; rw [hnt, hnk] at k9; exact k9)), co3, cif_t y1, cif_t y2, cif_f n3]; done) | (rw [cif_t ⟨y1, y2, by rw [hnt, hnk]; exact y4⟩, cif_t (hsv.trans oe)]; done)) (by first | exact f_fb (fun z => n1 z.1.1) | exact f_fb (fun z => n2 z.1.2.1) | exact f_fb (fun z => n3 (by have k9 := z.1.2.2; rw [hnt, hnk] at k9; exact k9)) | exact f_fb (fun z => z.2 (hsv.trans oe))) rfl (Nat.le_of_ble_eq_true rfl) (Nat.le_of_ble_eq_true rfl) dX5_delete_112
                · skip
                  exact (by first | exact absurd rfl c15 | exact absurd c15 (by decide))
              · skip
                exact absurd c14 c10
            · skip
              exact absurd c5 c13
          · skip
            exact absurd c1 c12
        · skip
          exact (by first | exact absurd c11 (by decide) | exact absurd rfl c11)
      · skip
        have y3 : m_sta u t = 0 := c10
        refine lv_aload_n hx hb dX5_delete_29 rfl (lv_at hl 2 rfl) ?_
        refine lv_iload_n hx hb dX5_delete_30 rfl (lv_at hl 3 rfl) ?_
        refine lv_iload_n hx hb dX5_delete_31 rfl (lv_at hl 4 rfl) ?_
        refine kiV (As := [.int (nI t), .int (nI k)]) (rest := []) S (kX5_seen hg u t k (nat (m_ec u k)) (by omega) (by omega) hr9 (by have := (hr9.2.2 k (by omega)).1.2; omega) (hr9.2.2 k (by omega)).1.1 (fun i hi => hen k (by omega) i hi)) (cwV 2 hts gX5_delete_X5_seen rfl rfl rfl hdX5_seen ⟨Nat.le_of_ble_eq_true rfl, Nat.le_of_ble_eq_true rfl⟩) rfl rfl 0 rfl rfl hE hP hS (frs hS) rfl hl.1 rfl (Nat.le_of_ble_eq_true rfl) dX5_delete_32 ⟨Nat.le_of_ble_eq_true rfl, Nat.le_of_ble_eq_true rfl⟩ (fun H locs hP _ _ hS => ?_)
        have hsv : mvs u (nI t) (nI k) = msn u t k (nat (m_ec u k)) := by unfold mvs; rw [hnt, hnk]; first | done | exact (msn_thr _).symm
        have hvr : rngO (msn u t k (nat (m_ec u k))) 32 := by first | exact msn_rng _ (hen k (by omega)) | (rw [msn_thr]; exact msn_rng _ (hen k (by omega)))
        generalize msn u t k (nat (m_ec u k)) = o at hsv hvr ⊢
        refine lv_goto (tgt := 39) hx hb dX5_delete_35 (by decide) ?_
        refine lv_istore (lv' := [(5, .int o), (4, .int (fb (inP (nI k) 0 5))), (3, .int (fb (trP u (nI t)))), (0, .ref (g 0)), (1, .int (nI t)), (2, .int (nI k))]) hx hb dX5_delete_39 hl (by decide) rfl (fun ls hl => ?_)
        refine lv_iload hx hb dX5_delete_41 (lv_at hl 0 rfl) ?_
        refine lv_iconst (v := (-1)) hx hb dX5_delete_43 (by decide) ?_
        refine lv_icmp_eq (tgt := 60) hx hb dX5_delete_44 (by decide) (fun c16 => ?_) (fun c16 => ?_)
        · skip
          have oe : o = -1 := c16
          have y4 : m_sta u t = 0 ∧ ¬ (¬ mvs u (nI t) (nI k) = -1 ∧ rfM u t k 32) := ⟨y3, fun z => z.1 (hsv.trans oe)⟩
          refine lv_iconst (v := 0) hx hb dX5_delete_60 (by decide) ?_
          refine lv_istore (lv' := [(6, .int 0), (5, .int o), (4, .int (fb (inP (nI k) 0 5))), (3, .int (fb (trP u (nI t)))), (0, .ref (g 0)), (1, .int (nI t)), (2, .int (nI k))]) hx hb dX5_delete_61 hl (by decide) rfl (fun ls hl => ?_)
          refine lv_aload_n hx hb dX5_delete_63 rfl (lv_at hl 4 rfl) ?_
          refine lv_iload_n hx hb dX5_delete_64 rfl (lv_at hl 3 rfl) ?_
          refine bzne (tgt := 72) hx hb dX5_delete_65 (by decide) (fun c17 => ?_) (fun c17 => ?_)
          · skip
            refine lv_iload hx hb dX5_delete_72 (lv_at hl 2 rfl) ?_
            refine bzne (tgt := 81) hx hb dX5_delete_74 (by decide) (fun c18 => ?_) (fun c18 => ?_)
            · skip
              refine lv_aload_n hx hb dX5_delete_81 rfl (lv_at hl 4 rfl) ?_
              refine lv_iload_n hx hb dX5_delete_82 rfl (lv_at hl 5 rfl) ?_
              refine kiV (As := [.int (nI t)]) (rest := [.ref (g 0)]) S (kX5_isActive hg u t (by omega)) (cwV 1 hts gX5_delete_X5_isActive rfl rfl rfl hdX5_isActive ⟨Nat.le_of_ble_eq_true rfl, Nat.le_of_ble_eq_true rfl⟩) rfl rfl 0 rfl rfl hE hP hS (frs hS) rfl hl.1 rfl (Nat.le_of_ble_eq_true rfl) dX5_delete_83 ⟨Nat.le_of_ble_eq_true rfl, Nat.le_of_ble_eq_true rfl⟩ (fun H locs hP _ _ hS => ?_)
              refine bzeq (tgt := 94) hx hb dX5_delete_86 (by decide) (fun c19 => ?_) (fun c19 => ?_)
              · skip
                exact absurd c10 c19
              · skip
                refine lv_iload hx hb dX5_delete_89 (lv_at hl 0 rfl) ?_
                refine lv_if_eq (tgt := 98) hx hb dX5_delete_91 (by decide) (fun c20 => ?_) (fun c20 => ?_)
                · skip
                  refine lv_iconst (v := 0) hx hb dX5_delete_98 (by decide) ?_
                  refine kiV (As := [.int 0]) (rest := []) S (kX5_isFine hg u 0) (cwV 1 hts gX5_delete_X5_isFine rfl rfl rfl hdX5_isFine ⟨Nat.le_of_ble_eq_true rfl, Nat.le_of_ble_eq_true rfl⟩) rfl rfl 0 rfl rfl hE hP hS (frs hS) rfl hl.1 rfl (Nat.le_of_ble_eq_true rfl) dX5_delete_99 ⟨Nat.le_of_ble_eq_true rfl, Nat.le_of_ble_eq_true rfl⟩ (fun H locs hP _ _ hS => ?_)
                  refine bzeq (tgt := 111) hx hb dX5_delete_102 (by decide) (fun c21 => ?_) (fun c21 => ?_)
                  · skip
                    exact (by first | exact absurd rfl c21 | exact absurd c21 (by decide))
                  · skip
                    refine lv_iload hx hb dX5_delete_105 (lv_at hl 1 rfl) ?_
                    refine lv_iconst (v := (-1)) hx hb dX5_delete_107 (by decide) ?_
                    refine lv_icmp_ne (tgt := 113) hx hb dX5_delete_108 (by decide) (fun c22 => ?_) (fun c22 => ?_)
                    · skip
                      exact absurd c16 c22
                    · skip
                      refine lv_iconst (v := 0) hx hb dX5_delete_111 (by decide) ?_
                      exact ez hx hb hr hlk hS hP (by first | (rw [cif_f (fun z => n1 z.1), co3, cif_f n1]; done) | (rw [cif_f (fun z => n2 z.2.1), co3, cif_t y1, cif_f n2]; done) | (rw [hnt, hnk, cif_f (fun z => n3 (by have k9 := z.2.2; rw [hnt, hnk] at k9; exact k9)), co3, cif_t y1, cif_t y2, cif_f n3]; done) | (rw [cif_t ⟨y1, y2, by rw [hnt, hnk]; exact y4⟩, cif_t (hsv.trans oe)]; done)) (by first | exact f_fb (fun z => n1 z.1.1) | exact f_fb (fun z => n2 z.1.2.1) | exact f_fb (fun z => n3 (by have k9 := z.1.2.2; rw [hnt, hnk] at k9; exact k9)) | exact f_fb (fun z => z.2 (hsv.trans oe))) rfl (Nat.le_of_ble_eq_true rfl) (Nat.le_of_ble_eq_true rfl) dX5_delete_112
                · skip
                  exact (by first | exact absurd c20 (by decide) | exact absurd (by decide) c20)
            · skip
              exact absurd c5 c18
          · skip
            exact absurd c1 c17
        · skip
          have on : ¬ o = -1 := c16
          obtain ⟨j, hj, ej⟩ := rng_o (rO hvr c16)
          subst ej
          have hnj : nat (nI j) = j := nat_nI (by omega)
          refine lv_aload_n hx hb dX5_delete_47 rfl (lv_at hl 3 rfl) ?_
          refine lv_iload_n hx hb dX5_delete_48 rfl (lv_at hl 4 rfl) ?_
          refine lv_iload_n hx hb dX5_delete_49 rfl (lv_at hl 5 rfl) ?_
          refine kiV (As := [.int (nI t), .int (nI k)]) (rest := []) S (kX5_isRefused hg u t k (by omega) hr9) (cwV 2 hts gX5_delete_X5_isRefused rfl rfl rfl hdX5_isRefused ⟨Nat.le_of_ble_eq_true rfl, Nat.le_of_ble_eq_true rfl⟩) rfl rfl 0 rfl rfl hE hP hS (frs hS) rfl hl.1 rfl (Nat.le_of_ble_eq_true rfl) dX5_delete_50 ⟨Nat.le_of_ble_eq_true rfl, Nat.le_of_ble_eq_true rfl⟩ (fun H locs hP _ _ hS => ?_)
          refine bzeq (tgt := 60) hx hb dX5_delete_53 (by decide) (fun c23 => ?_) (fun c23 => ?_)
          · skip
            have y4 : m_sta u t = 0 ∧ ¬ (¬ mvs u (nI t) (nI k) = -1 ∧ rfM u t k 32) := ⟨y3, fun z => c23 z.2⟩
            refine lv_iconst (v := 0) hx hb dX5_delete_60 (by decide) ?_
            refine lv_istore (lv' := [(6, .int 0), (5, .int (nI j)), (4, .int (fb (inP (nI k) 0 5))), (3, .int (fb (trP u (nI t)))), (0, .ref (g 0)), (1, .int (nI t)), (2, .int (nI k))]) hx hb dX5_delete_61 hl (by decide) rfl (fun ls hl => ?_)
            refine lv_aload_n hx hb dX5_delete_63 rfl (lv_at hl 4 rfl) ?_
            refine lv_iload_n hx hb dX5_delete_64 rfl (lv_at hl 3 rfl) ?_
            refine bzne (tgt := 72) hx hb dX5_delete_65 (by decide) (fun c24 => ?_) (fun c24 => ?_)
            · skip
              refine lv_iload hx hb dX5_delete_72 (lv_at hl 2 rfl) ?_
              refine bzne (tgt := 81) hx hb dX5_delete_74 (by decide) (fun c25 => ?_) (fun c25 => ?_)
              · skip
                refine lv_aload_n hx hb dX5_delete_81 rfl (lv_at hl 4 rfl) ?_
                refine lv_iload_n hx hb dX5_delete_82 rfl (lv_at hl 5 rfl) ?_
                refine kiV (As := [.int (nI t)]) (rest := [.ref (g 0)]) S (kX5_isActive hg u t (by omega)) (cwV 1 hts gX5_delete_X5_isActive rfl rfl rfl hdX5_isActive ⟨Nat.le_of_ble_eq_true rfl, Nat.le_of_ble_eq_true rfl⟩) rfl rfl 0 rfl rfl hE hP hS (frs hS) rfl hl.1 rfl (Nat.le_of_ble_eq_true rfl) dX5_delete_83 ⟨Nat.le_of_ble_eq_true rfl, Nat.le_of_ble_eq_true rfl⟩ (fun H locs hP _ _ hS => ?_)
                refine bzeq (tgt := 94) hx hb dX5_delete_86 (by decide) (fun c26 => ?_) (fun c26 => ?_)
                · skip
                  exact absurd c10 c26
                · skip
                  refine lv_iload hx hb dX5_delete_89 (lv_at hl 0 rfl) ?_
                  refine lv_if_eq (tgt := 98) hx hb dX5_delete_91 (by decide) (fun c27 => ?_) (fun c27 => ?_)
                  · skip
                    refine lv_iconst (v := 0) hx hb dX5_delete_98 (by decide) ?_
                    refine kiV (As := [.int 0]) (rest := []) S (kX5_isFine hg u 0) (cwV 1 hts gX5_delete_X5_isFine rfl rfl rfl hdX5_isFine ⟨Nat.le_of_ble_eq_true rfl, Nat.le_of_ble_eq_true rfl⟩) rfl rfl 0 rfl rfl hE hP hS (frs hS) rfl hl.1 rfl (Nat.le_of_ble_eq_true rfl) dX5_delete_99 ⟨Nat.le_of_ble_eq_true rfl, Nat.le_of_ble_eq_true rfl⟩ (fun H locs hP _ _ hS => ?_)
                    refine bzeq (tgt := 111) hx hb dX5_delete_102 (by decide) (fun c28 => ?_) (fun c28 => ?_)
                    · skip
                      exact (by first | exact absurd rfl c28 | exact absurd c28 (by decide))
                    · skip
                      refine lv_iload hx hb dX5_delete_105 (lv_at hl 1 rfl) ?_
                      refine lv_iconst (v := (-1)) hx hb dX5_delete_107 (by decide) ?_
                      refine lv_icmp_ne (tgt := 113) hx hb dX5_delete_108 (by decide) (fun c29 => ?_) (fun c29 => ?_)
                      · skip
                        refine lv_aload_n hx hb dX5_delete_113 rfl (lv_at hl 4 rfl) ?_
                        refine lv_iload_n hx hb dX5_delete_114 rfl (lv_at hl 5 rfl) ?_
                        refine lv_iload hx hb dX5_delete_115 (lv_at hl 1 rfl) ?_
                        refine kvV (As := [.int (nI t), .int (nI j)]) (rest := []) S (kX5_dies hg (ms_thr u 0) t j (by omega) (by omega)) (cwV 2 hts gX5_delete_X5_dies rfl rfl rfl hdX5_dies ⟨Nat.le_of_ble_eq_true rfl, Nat.le_of_ble_eq_true rfl⟩) rfl rfl 0 rfl rfl hE hP hS (frs hS) rfl hl.1 rfl (Nat.le_of_ble_eq_true rfl) dX5_delete_117 ⟨Nat.le_of_ble_eq_true rfl, Nat.le_of_ble_eq_true rfl⟩ (fun H locs hP _ _ hS => ?_)
                        refine lv_iconst (v := 1) hx hb dX5_delete_120 (by decide) ?_
                        exact ez hx hb hr hlk hS hP (by rw [cif_t ⟨y1, y2, by rw [hnt, hnk]; exact y4⟩, cif_f (by rw [hsv]; exact on), hsv, hnt, hnj]) (t_fb ⟨⟨y1, y2, by rw [hnt, hnk]; exact y4⟩, by rw [hsv]; exact on⟩) rfl (Nat.le_of_ble_eq_true rfl) (Nat.le_of_ble_eq_true rfl) dX5_delete_121
                      · skip
                        exact absurd c29 c16
                  · skip
                    exact (by first | exact absurd c27 (by decide) | exact absurd (by decide) c27)
              · skip
                exact absurd c5 c25
            · skip
              exact absurd c1 c24
          · skip
            have n3 : ¬ (m_sta u t = 0 ∧ ¬ (¬ mvs u (nI t) (nI k) = -1 ∧ rfM u t k 32)) := fun z => z.2 ⟨by rw [hsv]; exact on, c23⟩
            refine lv_iconst (v := 1) hx hb dX5_delete_56 (by decide) ?_
            refine lv_goto (tgt := 61) hx hb dX5_delete_57 (by decide) ?_
            refine lv_istore (lv' := [(6, .int 1), (5, .int (nI j)), (4, .int (fb (inP (nI k) 0 5))), (3, .int (fb (trP u (nI t)))), (0, .ref (g 0)), (1, .int (nI t)), (2, .int (nI k))]) hx hb dX5_delete_61 hl (by decide) rfl (fun ls hl => ?_)
            refine lv_aload_n hx hb dX5_delete_63 rfl (lv_at hl 4 rfl) ?_
            refine lv_iload_n hx hb dX5_delete_64 rfl (lv_at hl 3 rfl) ?_
            refine bzne (tgt := 72) hx hb dX5_delete_65 (by decide) (fun c30 => ?_) (fun c30 => ?_)
            · skip
              refine lv_iload hx hb dX5_delete_72 (lv_at hl 2 rfl) ?_
              refine bzne (tgt := 81) hx hb dX5_delete_74 (by decide) (fun c31 => ?_) (fun c31 => ?_)
              · skip
                refine lv_aload_n hx hb dX5_delete_81 rfl (lv_at hl 4 rfl) ?_
                refine lv_iload_n hx hb dX5_delete_82 rfl (lv_at hl 5 rfl) ?_
                refine kiV (As := [.int (nI t)]) (rest := [.ref (g 0)]) S (kX5_isActive hg u t (by omega)) (cwV 1 hts gX5_delete_X5_isActive rfl rfl rfl hdX5_isActive ⟨Nat.le_of_ble_eq_true rfl, Nat.le_of_ble_eq_true rfl⟩) rfl rfl 0 rfl rfl hE hP hS (frs hS) rfl hl.1 rfl (Nat.le_of_ble_eq_true rfl) dX5_delete_83 ⟨Nat.le_of_ble_eq_true rfl, Nat.le_of_ble_eq_true rfl⟩ (fun H locs hP _ _ hS => ?_)
                refine bzeq (tgt := 94) hx hb dX5_delete_86 (by decide) (fun c32 => ?_) (fun c32 => ?_)
                · skip
                  exact absurd c10 c32
                · skip
                  refine lv_iload hx hb dX5_delete_89 (lv_at hl 0 rfl) ?_
                  refine lv_if_eq (tgt := 98) hx hb dX5_delete_91 (by decide) (fun c33 => ?_) (fun c33 => ?_)
                  · skip
                    exact (by first | exact absurd c33 (by decide) | exact absurd (by decide) c33)
                  · skip
                    refine lv_iconst (v := 3) hx hb dX5_delete_94 (by decide) ?_
                    refine lv_goto (tgt := 99) hx hb dX5_delete_95 (by decide) ?_
                    refine kiV (As := [.int 3]) (rest := []) S (kX5_isFine hg u 3) (cwV 1 hts gX5_delete_X5_isFine rfl rfl rfl hdX5_isFine ⟨Nat.le_of_ble_eq_true rfl, Nat.le_of_ble_eq_true rfl⟩) rfl rfl 0 rfl rfl hE hP hS (frs hS) rfl hl.1 rfl (Nat.le_of_ble_eq_true rfl) dX5_delete_99 ⟨Nat.le_of_ble_eq_true rfl, Nat.le_of_ble_eq_true rfl⟩ (fun H locs hP _ _ hS => ?_)
                    refine bzeq (tgt := 111) hx hb dX5_delete_102 (by decide) (fun c34 => ?_) (fun c34 => ?_)
                    · skip
                      refine lv_iconst (v := 0) hx hb dX5_delete_111 (by decide) ?_
                      exact ez hx hb hr hlk hS hP (by first | (rw [cif_f (fun z => n1 z.1), co3, cif_f n1]; done) | (rw [cif_f (fun z => n2 z.2.1), co3, cif_t y1, cif_f n2]; done) | (rw [hnt, hnk, cif_f (fun z => n3 (by have k9 := z.2.2; rw [hnt, hnk] at k9; exact k9)), co3, cif_t y1, cif_t y2, cif_f n3]; done) | (rw [cif_t ⟨y1, y2, by rw [hnt, hnk]; exact y4⟩, cif_t (hsv.trans oe)]; done)) (by first | exact f_fb (fun z => n1 z.1.1) | exact f_fb (fun z => n2 z.1.2.1) | exact f_fb (fun z => n3 (by have k9 := z.1.2.2; rw [hnt, hnk] at k9; exact k9)) | exact f_fb (fun z => z.2 (hsv.trans oe))) rfl (Nat.le_of_ble_eq_true rfl) (Nat.le_of_ble_eq_true rfl) dX5_delete_112
                    · skip
                      exact (by first | exact absurd rfl c34 | exact absurd c34 (by decide))
              · skip
                exact absurd c5 c31
            · skip
              exact absurd c1 c30
def rmX5_write : Room := { frames := 4, cells := 0, slots := 0, locals := 90 }
theorem hdX5_write : yX5_write.cls = RX5 ∧ yX5_write.cls ≠ "java/lang/invoke/MethodHandle" ∧ yX5_write.cls ≠ "java/lang/invoke/VarHandle" ∧ (parseMethodDescriptor yX5_write.desc).map (fun d => d.parameters.length) = some 3 := by decide +kernel
set_option maxHeartbeats 4000000 in
set_option maxRecDepth 100000 in
theorem kX5_write {l : Launch} {D : va_G} {K : Nat → ClassId} {L : Nat → Prop} {g : Nat → Nat} (hg : gd L g 14) (u : MU) (x y z : Int32) (N : Nat) (hN : N ≤ 60) (hcn : m_cn u = nI N) (hr9 : rM u) (hen : enM u) : CI l yX5_write wsX5_write rmX5_write D K L [.ref (g 0), .int x, .int y, .int z] (wM K g u) (wM K g (cif (wrP u x y z) (mw2 u (nat x) (nat y) z (mvs u x y)) (ms_thr u (co3 (trP u x) (inP y 0 5 ∧ inP z 0 9999) (wcP u (nat x) (nat y)))))) (cif (wrP u x y z) (mwr u (mvs u x y)) 0) := by
  refine CI.of (cc := cX5_write) (maxL := 11) (ret := (some .int)) (by decide +kernel) rfl (Nat.le_of_ble_eq_true rfl) ?_
  intro p e s m below meth c ls hen hP
  obtain ⟨hx, hb, hr, hts, hown, hlk, hml, hnm, hE, hl⟩ := hen
  have S : CallFix p m c cX5_write 11 s _ wsX5_write RX5 := ⟨hx, hb, hml, hown, hts⟩
  have hS : va_S (fr L s.heap.size) s.heap s.heap [] := va_S.rf
  have hl : lv_has ls 11 [(0, .ref (g 0)), (1, .int x), (2, .int y), (3, .int z)] := hl
  have i5 : ∀ w ∈ wsX50, w ∈ wsX5_write := fun _ h => List.mem_cons_of_mem _ (List.mem_append_right _ h)
  refine lv_aload_n hx hb dX5_write_0 rfl (lv_at hl 0 rfl) ?_
  refine lv_iload_n hx hb dX5_write_1 rfl (lv_at hl 1 rfl) ?_
  refine kiV (As := [.int x]) (rest := []) S (kX5_isTransaction hg u x) (cwV 1 hts gX5_write_X5_isTransaction rfl rfl rfl hdX5_isTransaction ⟨Nat.le_of_ble_eq_true rfl, Nat.le_of_ble_eq_true rfl⟩) rfl rfl 0 rfl rfl hE hP hS (frs hS) rfl hl.1 rfl (Nat.le_of_ble_eq_true rfl) dX5_write_2 ⟨Nat.le_of_ble_eq_true rfl, Nat.le_of_ble_eq_true rfl⟩ (fun H locs hP _ _ hS => ?_)
  refine lv_istore (lv' := [(4, .int (fb (trP u x))), (0, .ref (g 0)), (1, .int x), (2, .int y), (3, .int z)]) hx hb dX5_write_5 hl (by decide) rfl (fun ls hl => ?_)
  refine lv_iload_n hx hb dX5_write_7 rfl (lv_at hl 3 rfl) ?_
  refine kiS (As := [.int y]) (rest := []) S (kX5_isKey y) (va_cwS 1 hts gX5_write_X5_isKey rfl rfl rfl hdX5_isKey.2 ⟨Nat.le_of_ble_eq_true rfl, Nat.le_of_ble_eq_true rfl⟩) rfl rfl hE hP hS (frs hS) rfl hl.1 rfl (Nat.le_of_ble_eq_true rfl) dX5_write_8 ⟨Nat.le_of_ble_eq_true rfl, Nat.le_of_ble_eq_true rfl⟩ (fun H locs hP _ _ hS => ?_)
  refine bzeq (tgt := 29) hx hb dX5_write_11 (by decide) (fun c1 => ?_) (fun c1 => ?_)
  · skip
    have n2 : ¬ (inP y 0 5 ∧ inP z 0 9999) := fun k => c1 k.1
    refine lv_iconst (v := 0) hx hb dX5_write_29 (by decide) ?_
    refine lv_istore (lv' := [(5, .int 0), (4, .int (fb (trP u x))), (0, .ref (g 0)), (1, .int x), (2, .int y), (3, .int z)]) hx hb dX5_write_30 hl (by decide) rfl (fun ls hl => ?_)
    refine lv_iload hx hb dX5_write_32 (lv_at hl 1 rfl) ?_
    refine bzeq (tgt := 74) hx hb dX5_write_34 (by decide) (fun c2 => ?_) (fun c2 => ?_)
    · skip
      have n1 : ¬ trP u x := c2
      refine lv_iconst (v := 0) hx hb dX5_write_74 (by decide) ?_
      refine lv_istore (lv' := [(6, .int 0), (5, .int 0), (4, .int (fb (trP u x))), (0, .ref (g 0)), (1, .int x), (2, .int y), (3, .int z)]) hx hb dX5_write_75 hl (by decide) rfl (fun ls hl => ?_)
      refine lv_aload_n hx hb dX5_write_77 rfl (lv_at hl 3 rfl) ?_
      refine lv_iload hx hb dX5_write_78 (lv_at hl 2 rfl) ?_
      refine bzne (tgt := 87) hx hb dX5_write_80 (by decide) (fun c3 => ?_) (fun c3 => ?_)
      · skip
        exact absurd c3 c2
      · skip
        refine lv_iconst (v := 1) hx hb dX5_write_83 (by decide) ?_
        refine lv_goto (tgt := 106) hx hb dX5_write_84 (by decide) ?_
        refine kiV (As := [.int 1]) (rest := []) S (kX5_isFine hg u 1) (cwV 1 hts gX5_write_X5_isFine rfl rfl rfl hdX5_isFine ⟨Nat.le_of_ble_eq_true rfl, Nat.le_of_ble_eq_true rfl⟩) rfl rfl 0 rfl rfl hE hP hS (frs hS) rfl hl.1 rfl (Nat.le_of_ble_eq_true rfl) dX5_write_106 ⟨Nat.le_of_ble_eq_true rfl, Nat.le_of_ble_eq_true rfl⟩ (fun H locs hP _ _ hS => ?_)
        refine bzne (tgt := 114) hx hb dX5_write_109 (by decide) (fun c4 => ?_) (fun c4 => ?_)
        · skip
          exact (by first | exact absurd rfl c4 | exact absurd c4 (by decide))
        · skip
          refine lv_iconst (v := 0) hx hb dX5_write_112 (by decide) ?_
          exact ei hx hb hr hlk hS hP (by first | (rw [cif_f (fun z => n1 z.1), co3, cif_f n1]; done) | (rw [cif_f (fun z => n2 z.2.1), co3, cif_t y1, cif_f n2]; done) | (rw [hnt, hnk, cif_f (fun z => n3 (by have k9 := z.2.2; rw [hnt, hnk] at k9; exact k9)), co3, cif_t y1, cif_t y2, cif_f n3]; done)) (by first | exact (cif_f (fun z => n1 z.1)).symm | exact (cif_f (fun z => n2 z.2.1)).symm | (rw [cif_f (fun z => n3 (by have k9 := z.2.2; rw [hnt, hnk] at k9; exact k9))]; done)) (Nat.le_of_ble_eq_true rfl) (Nat.le_of_ble_eq_true rfl) dX5_write_113
    · skip
      have y1 : trP u x := c2
      obtain ⟨t, ht, et⟩ := tr_at (by omega) hcn c2
      subst et
      have hnt : nat (nI t) = t := nat_nI (by omega)
      refine lv_iload hx hb dX5_write_37 (lv_at hl 0 rfl) ?_
      refine lv_if_eq (tgt := 74) hx hb dX5_write_39 (by decide) (fun c5 => ?_) (fun c5 => ?_)
      · skip
        refine lv_iconst (v := 0) hx hb dX5_write_74 (by decide) ?_
        refine lv_istore (lv' := [(6, .int 0), (5, .int 0), (4, .int (fb (trP u (nI t)))), (0, .ref (g 0)), (1, .int (nI t)), (2, .int y), (3, .int z)]) hx hb dX5_write_75 hl (by decide) rfl (fun ls hl => ?_)
        refine lv_aload_n hx hb dX5_write_77 rfl (lv_at hl 3 rfl) ?_
        refine lv_iload hx hb dX5_write_78 (lv_at hl 2 rfl) ?_
        refine bzne (tgt := 87) hx hb dX5_write_80 (by decide) (fun c6 => ?_) (fun c6 => ?_)
        · skip
          refine lv_iload hx hb dX5_write_87 (lv_at hl 1 rfl) ?_
          refine lv_if_ne (tgt := 96) hx hb dX5_write_89 (by decide) (fun c7 => ?_) (fun c7 => ?_)
          · skip
            exact absurd c5 c7
          · skip
            refine lv_iconst (v := 2) hx hb dX5_write_92 (by decide) ?_
            refine lv_goto (tgt := 106) hx hb dX5_write_93 (by decide) ?_
            refine kiV (As := [.int 2]) (rest := []) S (kX5_isFine hg u 2) (cwV 1 hts gX5_write_X5_isFine rfl rfl rfl hdX5_isFine ⟨Nat.le_of_ble_eq_true rfl, Nat.le_of_ble_eq_true rfl⟩) rfl rfl 0 rfl rfl hE hP hS (frs hS) rfl hl.1 rfl (Nat.le_of_ble_eq_true rfl) dX5_write_106 ⟨Nat.le_of_ble_eq_true rfl, Nat.le_of_ble_eq_true rfl⟩ (fun H locs hP _ _ hS => ?_)
            refine bzne (tgt := 114) hx hb dX5_write_109 (by decide) (fun c8 => ?_) (fun c8 => ?_)
            · skip
              exact (by first | exact absurd rfl c8 | exact absurd c8 (by decide))
            · skip
              refine lv_iconst (v := 0) hx hb dX5_write_112 (by decide) ?_
              exact ei hx hb hr hlk hS hP (by first | (rw [cif_f (fun z => n1 z.1), co3, cif_f n1]; done) | (rw [cif_f (fun z => n2 z.2.1), co3, cif_t y1, cif_f n2]; done) | (rw [hnt, hnk, cif_f (fun z => n3 (by have k9 := z.2.2; rw [hnt, hnk] at k9; exact k9)), co3, cif_t y1, cif_t y2, cif_f n3]; done)) (by first | exact (cif_f (fun z => n1 z.1)).symm | exact (cif_f (fun z => n2 z.2.1)).symm | (rw [cif_f (fun z => n3 (by have k9 := z.2.2; rw [hnt, hnk] at k9; exact k9))]; done)) (Nat.le_of_ble_eq_true rfl) (Nat.le_of_ble_eq_true rfl) dX5_write_113
        · skip
          exact absurd c2 c6
      · skip
        exact (by first | exact absurd c5 (by decide) | exact absurd (by decide) c5)
  · skip
    have ky9 : inP y 0 5 := c1
    refine lv_iload_n hx hb dX5_write_14 rfl (lv_at hl 4 rfl) ?_
    refine lv_iconst (v := 0) hx hb dX5_write_15 (by decide) ?_
    refine lv_sipush (v := 9999) hx hb dX5_write_16 (by decide) ?_
    refine kiS (As := [.int z, .int 0, .int 9999]) (rest := []) S (kX5_isIn z 0 9999) (va_cwS 3 hts gX5_write_X5_isIn rfl rfl rfl hdX5_isIn.2 ⟨Nat.le_of_ble_eq_true rfl, Nat.le_of_ble_eq_true rfl⟩) rfl rfl hE hP hS (frs hS) rfl hl.1 rfl (Nat.le_of_ble_eq_true rfl) dX5_write_19 ⟨Nat.le_of_ble_eq_true rfl, Nat.le_of_ble_eq_true rfl⟩ (fun H locs hP _ _ hS => ?_)
    refine bzeq (tgt := 29) hx hb dX5_write_22 (by decide) (fun c9 => ?_) (fun c9 => ?_)
    · skip
      have n2 : ¬ (inP y 0 5 ∧ inP z 0 9999) := fun k => c9 k.2
      refine lv_iconst (v := 0) hx hb dX5_write_29 (by decide) ?_
      refine lv_istore (lv' := [(5, .int 0), (4, .int (fb (trP u x))), (0, .ref (g 0)), (1, .int x), (2, .int y), (3, .int z)]) hx hb dX5_write_30 hl (by decide) rfl (fun ls hl => ?_)
      refine lv_iload hx hb dX5_write_32 (lv_at hl 1 rfl) ?_
      refine bzeq (tgt := 74) hx hb dX5_write_34 (by decide) (fun c10 => ?_) (fun c10 => ?_)
      · skip
        have n1 : ¬ trP u x := c10
        refine lv_iconst (v := 0) hx hb dX5_write_74 (by decide) ?_
        refine lv_istore (lv' := [(6, .int 0), (5, .int 0), (4, .int (fb (trP u x))), (0, .ref (g 0)), (1, .int x), (2, .int y), (3, .int z)]) hx hb dX5_write_75 hl (by decide) rfl (fun ls hl => ?_)
        refine lv_aload_n hx hb dX5_write_77 rfl (lv_at hl 3 rfl) ?_
        refine lv_iload hx hb dX5_write_78 (lv_at hl 2 rfl) ?_
        refine bzne (tgt := 87) hx hb dX5_write_80 (by decide) (fun c11 => ?_) (fun c11 => ?_)
        · skip
          exact absurd c11 c10
        · skip
          refine lv_iconst (v := 1) hx hb dX5_write_83 (by decide) ?_
          refine lv_goto (tgt := 106) hx hb dX5_write_84 (by decide) ?_
          refine kiV (As := [.int 1]) (rest := []) S (kX5_isFine hg u 1) (cwV 1 hts gX5_write_X5_isFine rfl rfl rfl hdX5_isFine ⟨Nat.le_of_ble_eq_true rfl, Nat.le_of_ble_eq_true rfl⟩) rfl rfl 0 rfl rfl hE hP hS (frs hS) rfl hl.1 rfl (Nat.le_of_ble_eq_true rfl) dX5_write_106 ⟨Nat.le_of_ble_eq_true rfl, Nat.le_of_ble_eq_true rfl⟩ (fun H locs hP _ _ hS => ?_)
          refine bzne (tgt := 114) hx hb dX5_write_109 (by decide) (fun c12 => ?_) (fun c12 => ?_)
          · skip
            exact (by first | exact absurd rfl c12 | exact absurd c12 (by decide))
          · skip
            refine lv_iconst (v := 0) hx hb dX5_write_112 (by decide) ?_
            exact ei hx hb hr hlk hS hP (by first | (rw [cif_f (fun z => n1 z.1), co3, cif_f n1]; done) | (rw [cif_f (fun z => n2 z.2.1), co3, cif_t y1, cif_f n2]; done) | (rw [hnt, hnk, cif_f (fun z => n3 (by have k9 := z.2.2; rw [hnt, hnk] at k9; exact k9)), co3, cif_t y1, cif_t y2, cif_f n3]; done)) (by first | exact (cif_f (fun z => n1 z.1)).symm | exact (cif_f (fun z => n2 z.2.1)).symm | (rw [cif_f (fun z => n3 (by have k9 := z.2.2; rw [hnt, hnk] at k9; exact k9))]; done)) (Nat.le_of_ble_eq_true rfl) (Nat.le_of_ble_eq_true rfl) dX5_write_113
      · skip
        have y1 : trP u x := c10
        obtain ⟨t, ht, et⟩ := tr_at (by omega) hcn c10
        subst et
        have hnt : nat (nI t) = t := nat_nI (by omega)
        refine lv_iload hx hb dX5_write_37 (lv_at hl 0 rfl) ?_
        refine lv_if_eq (tgt := 74) hx hb dX5_write_39 (by decide) (fun c13 => ?_) (fun c13 => ?_)
        · skip
          refine lv_iconst (v := 0) hx hb dX5_write_74 (by decide) ?_
          refine lv_istore (lv' := [(6, .int 0), (5, .int 0), (4, .int (fb (trP u (nI t)))), (0, .ref (g 0)), (1, .int (nI t)), (2, .int y), (3, .int z)]) hx hb dX5_write_75 hl (by decide) rfl (fun ls hl => ?_)
          refine lv_aload_n hx hb dX5_write_77 rfl (lv_at hl 3 rfl) ?_
          refine lv_iload hx hb dX5_write_78 (lv_at hl 2 rfl) ?_
          refine bzne (tgt := 87) hx hb dX5_write_80 (by decide) (fun c14 => ?_) (fun c14 => ?_)
          · skip
            refine lv_iload hx hb dX5_write_87 (lv_at hl 1 rfl) ?_
            refine lv_if_ne (tgt := 96) hx hb dX5_write_89 (by decide) (fun c15 => ?_) (fun c15 => ?_)
            · skip
              exact absurd c13 c15
            · skip
              refine lv_iconst (v := 2) hx hb dX5_write_92 (by decide) ?_
              refine lv_goto (tgt := 106) hx hb dX5_write_93 (by decide) ?_
              refine kiV (As := [.int 2]) (rest := []) S (kX5_isFine hg u 2) (cwV 1 hts gX5_write_X5_isFine rfl rfl rfl hdX5_isFine ⟨Nat.le_of_ble_eq_true rfl, Nat.le_of_ble_eq_true rfl⟩) rfl rfl 0 rfl rfl hE hP hS (frs hS) rfl hl.1 rfl (Nat.le_of_ble_eq_true rfl) dX5_write_106 ⟨Nat.le_of_ble_eq_true rfl, Nat.le_of_ble_eq_true rfl⟩ (fun H locs hP _ _ hS => ?_)
              refine bzne (tgt := 114) hx hb dX5_write_109 (by decide) (fun c16 => ?_) (fun c16 => ?_)
              · skip
                exact (by first | exact absurd rfl c16 | exact absurd c16 (by decide))
              · skip
                refine lv_iconst (v := 0) hx hb dX5_write_112 (by decide) ?_
                exact ei hx hb hr hlk hS hP (by first | (rw [cif_f (fun z => n1 z.1), co3, cif_f n1]; done) | (rw [cif_f (fun z => n2 z.2.1), co3, cif_t y1, cif_f n2]; done) | (rw [hnt, hnk, cif_f (fun z => n3 (by have k9 := z.2.2; rw [hnt, hnk] at k9; exact k9)), co3, cif_t y1, cif_t y2, cif_f n3]; done)) (by first | exact (cif_f (fun z => n1 z.1)).symm | exact (cif_f (fun z => n2 z.2.1)).symm | (rw [cif_f (fun z => n3 (by have k9 := z.2.2; rw [hnt, hnk] at k9; exact k9))]; done)) (Nat.le_of_ble_eq_true rfl) (Nat.le_of_ble_eq_true rfl) dX5_write_113
          · skip
            exact absurd c10 c14
        · skip
          exact (by first | exact absurd c13 (by decide) | exact absurd (by decide) c13)
    · skip
      have y2 : inP y 0 5 ∧ inP z 0 9999 := ⟨ky9, c9⟩
      obtain ⟨k, hk, ek⟩ := in_at (n := 5) (by omega) y2.1
      subst ek
      have hnk : nat (nI k) = k := nat_nI (by omega)
      refine lv_iconst (v := 1) hx hb dX5_write_25 (by decide) ?_
      refine lv_goto (tgt := 30) hx hb dX5_write_26 (by decide) ?_
      refine lv_istore (lv' := [(5, .int 1), (4, .int (fb (trP u x))), (0, .ref (g 0)), (1, .int x), (2, .int (nI k)), (3, .int z)]) hx hb dX5_write_30 hl (by decide) rfl (fun ls hl => ?_)
      refine lv_iload hx hb dX5_write_32 (lv_at hl 1 rfl) ?_
      refine bzeq (tgt := 74) hx hb dX5_write_34 (by decide) (fun c17 => ?_) (fun c17 => ?_)
      · skip
        have n1 : ¬ trP u x := c17
        refine lv_iconst (v := 0) hx hb dX5_write_74 (by decide) ?_
        refine lv_istore (lv' := [(6, .int 0), (5, .int 1), (4, .int (fb (trP u x))), (0, .ref (g 0)), (1, .int x), (2, .int (nI k)), (3, .int z)]) hx hb dX5_write_75 hl (by decide) rfl (fun ls hl => ?_)
        refine lv_aload_n hx hb dX5_write_77 rfl (lv_at hl 3 rfl) ?_
        refine lv_iload hx hb dX5_write_78 (lv_at hl 2 rfl) ?_
        refine bzne (tgt := 87) hx hb dX5_write_80 (by decide) (fun c18 => ?_) (fun c18 => ?_)
        · skip
          exact absurd c18 c17
        · skip
          refine lv_iconst (v := 1) hx hb dX5_write_83 (by decide) ?_
          refine lv_goto (tgt := 106) hx hb dX5_write_84 (by decide) ?_
          refine kiV (As := [.int 1]) (rest := []) S (kX5_isFine hg u 1) (cwV 1 hts gX5_write_X5_isFine rfl rfl rfl hdX5_isFine ⟨Nat.le_of_ble_eq_true rfl, Nat.le_of_ble_eq_true rfl⟩) rfl rfl 0 rfl rfl hE hP hS (frs hS) rfl hl.1 rfl (Nat.le_of_ble_eq_true rfl) dX5_write_106 ⟨Nat.le_of_ble_eq_true rfl, Nat.le_of_ble_eq_true rfl⟩ (fun H locs hP _ _ hS => ?_)
          refine bzne (tgt := 114) hx hb dX5_write_109 (by decide) (fun c19 => ?_) (fun c19 => ?_)
          · skip
            exact (by first | exact absurd rfl c19 | exact absurd c19 (by decide))
          · skip
            refine lv_iconst (v := 0) hx hb dX5_write_112 (by decide) ?_
            exact ei hx hb hr hlk hS hP (by first | (rw [cif_f (fun z => n1 z.1), co3, cif_f n1]; done) | (rw [cif_f (fun z => n2 z.2.1), co3, cif_t y1, cif_f n2]; done) | (rw [hnt, hnk, cif_f (fun z => n3 (by have k9 := z.2.2; rw [hnt, hnk] at k9; exact k9)), co3, cif_t y1, cif_t y2, cif_f n3]; done)) (by first | exact (cif_f (fun z => n1 z.1)).symm | exact (cif_f (fun z => n2 z.2.1)).symm | (rw [cif_f (fun z => n3 (by have k9 := z.2.2; rw [hnt, hnk] at k9; exact k9))]; done)) (Nat.le_of_ble_eq_true rfl) (Nat.le_of_ble_eq_true rfl) dX5_write_113
      · skip
        have y1 : trP u x := c17
        obtain ⟨t, ht, et⟩ := tr_at (by omega) hcn c17
        subst et
        have hnt : nat (nI t) = t := nat_nI (by omega)
        refine lv_iload hx hb dX5_write_37 (lv_at hl 0 rfl) ?_
        refine lv_if_eq (tgt := 74) hx hb dX5_write_39 (by decide) (fun c20 => ?_) (fun c20 => ?_)
        · skip
          exact (by first | exact absurd c20 (by decide) | exact absurd (by decide) c20)
        · skip
          refine lv_aload_n hx hb dX5_write_42 rfl (lv_at hl 2 rfl) ?_
          refine lv_iload_n hx hb dX5_write_43 rfl (lv_at hl 3 rfl) ?_
          refine kiV (As := [.int (nI t)]) (rest := []) S (kX5_isActive hg u t (by omega)) (cwV 1 hts gX5_write_X5_isActive rfl rfl rfl hdX5_isActive ⟨Nat.le_of_ble_eq_true rfl, Nat.le_of_ble_eq_true rfl⟩) rfl rfl 0 rfl rfl hE hP hS (frs hS) rfl hl.1 rfl (Nat.le_of_ble_eq_true rfl) dX5_write_44 ⟨Nat.le_of_ble_eq_true rfl, Nat.le_of_ble_eq_true rfl⟩ (fun H locs hP _ _ hS => ?_)
          refine bzeq (tgt := 74) hx hb dX5_write_47 (by decide) (fun c21 => ?_) (fun c21 => ?_)
          · skip
            have n3 : ¬ wcP u t k := fun z => c21 z.1
            refine lv_iconst (v := 0) hx hb dX5_write_74 (by decide) ?_
            refine lv_istore (lv' := [(6, .int 0), (5, .int 1), (4, .int (fb (trP u (nI t)))), (0, .ref (g 0)), (1, .int (nI t)), (2, .int (nI k)), (3, .int z)]) hx hb dX5_write_75 hl (by decide) rfl (fun ls hl => ?_)
            refine lv_aload_n hx hb dX5_write_77 rfl (lv_at hl 3 rfl) ?_
            refine lv_iload hx hb dX5_write_78 (lv_at hl 2 rfl) ?_
            refine bzne (tgt := 87) hx hb dX5_write_80 (by decide) (fun c22 => ?_) (fun c22 => ?_)
            · skip
              refine lv_iload hx hb dX5_write_87 (lv_at hl 1 rfl) ?_
              refine lv_if_ne (tgt := 96) hx hb dX5_write_89 (by decide) (fun c23 => ?_) (fun c23 => ?_)
              · skip
                refine lv_iload hx hb dX5_write_96 (lv_at hl 0 rfl) ?_
                refine lv_if_ne (tgt := 105) hx hb dX5_write_98 (by decide) (fun c24 => ?_) (fun c24 => ?_)
                · skip
                  exact (by first | exact absurd c24 (by decide) | exact absurd (by decide) c24)
                · skip
                  refine lv_iconst (v := 3) hx hb dX5_write_101 (by decide) ?_
                  refine lv_goto (tgt := 106) hx hb dX5_write_102 (by decide) ?_
                  refine kiV (As := [.int 3]) (rest := []) S (kX5_isFine hg u 3) (cwV 1 hts gX5_write_X5_isFine rfl rfl rfl hdX5_isFine ⟨Nat.le_of_ble_eq_true rfl, Nat.le_of_ble_eq_true rfl⟩) rfl rfl 0 rfl rfl hE hP hS (frs hS) rfl hl.1 rfl (Nat.le_of_ble_eq_true rfl) dX5_write_106 ⟨Nat.le_of_ble_eq_true rfl, Nat.le_of_ble_eq_true rfl⟩ (fun H locs hP _ _ hS => ?_)
                  refine bzne (tgt := 114) hx hb dX5_write_109 (by decide) (fun c25 => ?_) (fun c25 => ?_)
                  · skip
                    exact (by first | exact absurd rfl c25 | exact absurd c25 (by decide))
                  · skip
                    refine lv_iconst (v := 0) hx hb dX5_write_112 (by decide) ?_
                    exact ei hx hb hr hlk hS hP (by first | (rw [cif_f (fun z => n1 z.1), co3, cif_f n1]; done) | (rw [cif_f (fun z => n2 z.2.1), co3, cif_t y1, cif_f n2]; done) | (rw [hnt, hnk, cif_f (fun z => n3 (by have k9 := z.2.2; rw [hnt, hnk] at k9; exact k9)), co3, cif_t y1, cif_t y2, cif_f n3]; done)) (by first | exact (cif_f (fun z => n1 z.1)).symm | exact (cif_f (fun z => n2 z.2.1)).symm | (rw [cif_f (fun z => n3 (by have k9 := z.2.2; rw [hnt, hnk] at k9; exact k9))]; done)) (Nat.le_of_ble_eq_true rfl) (Nat.le_of_ble_eq_true rfl) dX5_write_113
              · skip
                exact absurd c23 c20
            · skip
              exact absurd c17 c22
          · skip
            have y3 : m_sta u t = 0 := c21
            refine lv_aload_n hx hb dX5_write_50 rfl (lv_at hl 2 rfl) ?_
            refine lv_iconst (v := 0) hx hb dX5_write_51 (by decide) ?_
            refine lv_bipush (v := 32) hx hb dX5_write_52 (by decide) ?_
            refine kiV (As := [.int 0, .int 32]) (rest := []) S (kX5_free hg u 0 32 (by omega)) (cwV 2 hts gX5_write_X5_free rfl rfl rfl hdX5_free ⟨Nat.le_of_ble_eq_true rfl, Nat.le_of_ble_eq_true rfl⟩) rfl rfl 0 rfl rfl hE hP hS (frs hS) rfl hl.1 rfl (Nat.le_of_ble_eq_true rfl) dX5_write_54 ⟨Nat.le_of_ble_eq_true rfl, Nat.le_of_ble_eq_true rfl⟩ (fun H locs hP _ _ hS => ?_)
            refine lv_iconst (v := (-1)) hx hb dX5_write_57 (by decide) ?_
            refine lv_icmp_eq (tgt := 74) hx hb dX5_write_58 (by decide) (fun c26 => ?_) (fun c26 => ?_)
            · skip
              have n3 : ¬ wcP u t k := fun z => z.2.1 c26
              refine lv_iconst (v := 0) hx hb dX5_write_74 (by decide) ?_
              refine lv_istore (lv' := [(6, .int 0), (5, .int 1), (4, .int (fb (trP u (nI t)))), (0, .ref (g 0)), (1, .int (nI t)), (2, .int (nI k)), (3, .int z)]) hx hb dX5_write_75 hl (by decide) rfl (fun ls hl => ?_)
              refine lv_aload_n hx hb dX5_write_77 rfl (lv_at hl 3 rfl) ?_
              refine lv_iload hx hb dX5_write_78 (lv_at hl 2 rfl) ?_
              refine bzne (tgt := 87) hx hb dX5_write_80 (by decide) (fun c27 => ?_) (fun c27 => ?_)
              · skip
                refine lv_iload hx hb dX5_write_87 (lv_at hl 1 rfl) ?_
                refine lv_if_ne (tgt := 96) hx hb dX5_write_89 (by decide) (fun c28 => ?_) (fun c28 => ?_)
                · skip
                  refine lv_iload hx hb dX5_write_96 (lv_at hl 0 rfl) ?_
                  refine lv_if_ne (tgt := 105) hx hb dX5_write_98 (by decide) (fun c29 => ?_) (fun c29 => ?_)
                  · skip
                    exact (by first | exact absurd c29 (by decide) | exact absurd (by decide) c29)
                  · skip
                    refine lv_iconst (v := 3) hx hb dX5_write_101 (by decide) ?_
                    refine lv_goto (tgt := 106) hx hb dX5_write_102 (by decide) ?_
                    refine kiV (As := [.int 3]) (rest := []) S (kX5_isFine hg u 3) (cwV 1 hts gX5_write_X5_isFine rfl rfl rfl hdX5_isFine ⟨Nat.le_of_ble_eq_true rfl, Nat.le_of_ble_eq_true rfl⟩) rfl rfl 0 rfl rfl hE hP hS (frs hS) rfl hl.1 rfl (Nat.le_of_ble_eq_true rfl) dX5_write_106 ⟨Nat.le_of_ble_eq_true rfl, Nat.le_of_ble_eq_true rfl⟩ (fun H locs hP _ _ hS => ?_)
                    refine bzne (tgt := 114) hx hb dX5_write_109 (by decide) (fun c30 => ?_) (fun c30 => ?_)
                    · skip
                      exact (by first | exact absurd rfl c30 | exact absurd c30 (by decide))
                    · skip
                      refine lv_iconst (v := 0) hx hb dX5_write_112 (by decide) ?_
                      exact ei hx hb hr hlk hS hP (by first | (rw [cif_f (fun z => n1 z.1), co3, cif_f n1]; done) | (rw [cif_f (fun z => n2 z.2.1), co3, cif_t y1, cif_f n2]; done) | (rw [hnt, hnk, cif_f (fun z => n3 (by have k9 := z.2.2; rw [hnt, hnk] at k9; exact k9)), co3, cif_t y1, cif_t y2, cif_f n3]; done)) (by first | exact (cif_f (fun z => n1 z.1)).symm | exact (cif_f (fun z => n2 z.2.1)).symm | (rw [cif_f (fun z => n3 (by have k9 := z.2.2; rw [hnt, hnk] at k9; exact k9))]; done)) (Nat.le_of_ble_eq_true rfl) (Nat.le_of_ble_eq_true rfl) dX5_write_113
                · skip
                  exact absurd c28 c20
              · skip
                exact absurd c17 c27
            · skip
              have y4 : ¬ lfm (m_us u) 0 32 = -1 := c26
              obtain ⟨q0, hq0, efr⟩ := rng_o (rO (lfm_rng 32 0 (by omega)) c26)
              refine lv_aload_n hx hb dX5_write_61 rfl (lv_at hl 2 rfl) ?_
              refine lv_iload_n hx hb dX5_write_62 rfl (lv_at hl 3 rfl) ?_
              refine lv_iload_n hx hb dX5_write_63 rfl (lv_at hl 4 rfl) ?_
              refine kiV (As := [.int (nI t), .int (nI k)]) (rest := []) S (kX5_isRefused hg u t k (by omega) hr9) (cwV 2 hts gX5_write_X5_isRefused rfl rfl rfl hdX5_isRefused ⟨Nat.le_of_ble_eq_true rfl, Nat.le_of_ble_eq_true rfl⟩) rfl rfl 0 rfl rfl hE hP hS (frs hS) rfl hl.1 rfl (Nat.le_of_ble_eq_true rfl) dX5_write_64 ⟨Nat.le_of_ble_eq_true rfl, Nat.le_of_ble_eq_true rfl⟩ (fun H locs hP _ _ hS => ?_)
              refine bzne (tgt := 74) hx hb dX5_write_67 (by decide) (fun c31 => ?_) (fun c31 => ?_)
              · skip
                have n3 : ¬ wcP u t k := fun z => z.2.2 c31
                refine lv_iconst (v := 0) hx hb dX5_write_74 (by decide) ?_
                refine lv_istore (lv' := [(6, .int 0), (5, .int 1), (4, .int (fb (trP u (nI t)))), (0, .ref (g 0)), (1, .int (nI t)), (2, .int (nI k)), (3, .int z)]) hx hb dX5_write_75 hl (by decide) rfl (fun ls hl => ?_)
                refine lv_aload_n hx hb dX5_write_77 rfl (lv_at hl 3 rfl) ?_
                refine lv_iload hx hb dX5_write_78 (lv_at hl 2 rfl) ?_
                refine bzne (tgt := 87) hx hb dX5_write_80 (by decide) (fun c32 => ?_) (fun c32 => ?_)
                · skip
                  refine lv_iload hx hb dX5_write_87 (lv_at hl 1 rfl) ?_
                  refine lv_if_ne (tgt := 96) hx hb dX5_write_89 (by decide) (fun c33 => ?_) (fun c33 => ?_)
                  · skip
                    refine lv_iload hx hb dX5_write_96 (lv_at hl 0 rfl) ?_
                    refine lv_if_ne (tgt := 105) hx hb dX5_write_98 (by decide) (fun c34 => ?_) (fun c34 => ?_)
                    · skip
                      exact (by first | exact absurd c34 (by decide) | exact absurd (by decide) c34)
                    · skip
                      refine lv_iconst (v := 3) hx hb dX5_write_101 (by decide) ?_
                      refine lv_goto (tgt := 106) hx hb dX5_write_102 (by decide) ?_
                      refine kiV (As := [.int 3]) (rest := []) S (kX5_isFine hg u 3) (cwV 1 hts gX5_write_X5_isFine rfl rfl rfl hdX5_isFine ⟨Nat.le_of_ble_eq_true rfl, Nat.le_of_ble_eq_true rfl⟩) rfl rfl 0 rfl rfl hE hP hS (frs hS) rfl hl.1 rfl (Nat.le_of_ble_eq_true rfl) dX5_write_106 ⟨Nat.le_of_ble_eq_true rfl, Nat.le_of_ble_eq_true rfl⟩ (fun H locs hP _ _ hS => ?_)
                      refine bzne (tgt := 114) hx hb dX5_write_109 (by decide) (fun c35 => ?_) (fun c35 => ?_)
                      · skip
                        exact (by first | exact absurd rfl c35 | exact absurd c35 (by decide))
                      · skip
                        refine lv_iconst (v := 0) hx hb dX5_write_112 (by decide) ?_
                        exact ei hx hb hr hlk hS hP (by first | (rw [cif_f (fun z => n1 z.1), co3, cif_f n1]; done) | (rw [cif_f (fun z => n2 z.2.1), co3, cif_t y1, cif_f n2]; done) | (rw [hnt, hnk, cif_f (fun z => n3 (by have k9 := z.2.2; rw [hnt, hnk] at k9; exact k9)), co3, cif_t y1, cif_t y2, cif_f n3]; done)) (by first | exact (cif_f (fun z => n1 z.1)).symm | exact (cif_f (fun z => n2 z.2.1)).symm | (rw [cif_f (fun z => n3 (by have k9 := z.2.2; rw [hnt, hnk] at k9; exact k9))]; done)) (Nat.le_of_ble_eq_true rfl) (Nat.le_of_ble_eq_true rfl) dX5_write_113
                  · skip
                    exact absurd c33 c20
                · skip
                  exact absurd c17 c32
              · skip
                have y5 : wcP u t k := ⟨y3, y4, c31⟩
                refine lv_iconst (v := 1) hx hb dX5_write_70 (by decide) ?_
                refine lv_goto (tgt := 75) hx hb dX5_write_71 (by decide) ?_
                refine lv_istore (lv' := [(6, .int 1), (5, .int 1), (4, .int (fb (trP u (nI t)))), (0, .ref (g 0)), (1, .int (nI t)), (2, .int (nI k)), (3, .int z)]) hx hb dX5_write_75 hl (by decide) rfl (fun ls hl => ?_)
                refine lv_aload_n hx hb dX5_write_77 rfl (lv_at hl 3 rfl) ?_
                refine lv_iload hx hb dX5_write_78 (lv_at hl 2 rfl) ?_
                refine bzne (tgt := 87) hx hb dX5_write_80 (by decide) (fun c36 => ?_) (fun c36 => ?_)
                · skip
                  refine lv_iload hx hb dX5_write_87 (lv_at hl 1 rfl) ?_
                  refine lv_if_ne (tgt := 96) hx hb dX5_write_89 (by decide) (fun c37 => ?_) (fun c37 => ?_)
                  · skip
                    refine lv_iload hx hb dX5_write_96 (lv_at hl 0 rfl) ?_
                    refine lv_if_ne (tgt := 105) hx hb dX5_write_98 (by decide) (fun c38 => ?_) (fun c38 => ?_)
                    · skip
                      refine lv_iconst (v := 0) hx hb dX5_write_105 (by decide) ?_
                      refine kiV (As := [.int 0]) (rest := []) S (kX5_isFine hg u 0) (cwV 1 hts gX5_write_X5_isFine rfl rfl rfl hdX5_isFine ⟨Nat.le_of_ble_eq_true rfl, Nat.le_of_ble_eq_true rfl⟩) rfl rfl 0 rfl rfl hE hP hS (frs hS) rfl hl.1 rfl (Nat.le_of_ble_eq_true rfl) dX5_write_106 ⟨Nat.le_of_ble_eq_true rfl, Nat.le_of_ble_eq_true rfl⟩ (fun H locs hP _ _ hS => ?_)
                      refine bzne (tgt := 114) hx hb dX5_write_109 (by decide) (fun c39 => ?_) (fun c39 => ?_)
                      · skip
                        refine lv_aload_n hx hb dX5_write_114 rfl (lv_at hl 3 rfl) ?_
                        refine lv_iload_n hx hb dX5_write_115 rfl (lv_at hl 4 rfl) ?_
                        refine lv_iload_n hx hb dX5_write_116 rfl (lv_at hl 5 rfl) ?_
                        refine kiV (As := [.int (nI t), .int (nI k)]) (rest := []) S (kX5_seen hg (ms_thr u 0) t k (nat (m_ec u k)) (by omega) (by omega) hr9 (by have := (hr9.2.2 k (by omega)).1.2; omega) (hr9.2.2 k (by omega)).1.1 (fun i hi => ends_thr 8 _ (hen k (by omega) i hi))) (cwV 2 hts gX5_write_X5_seen rfl rfl rfl hdX5_seen ⟨Nat.le_of_ble_eq_true rfl, Nat.le_of_ble_eq_true rfl⟩) rfl rfl 0 rfl rfl hE hP hS (frs hS) rfl hl.1 rfl (Nat.le_of_ble_eq_true rfl) dX5_write_117 ⟨Nat.le_of_ble_eq_true rfl, Nat.le_of_ble_eq_true rfl⟩ (fun H locs hP _ _ hS => ?_)
                        have hsv : mvs u (nI t) (nI k) = msn (ms_thr u 0) t k (nat (m_ec u k)) := by unfold mvs; rw [hnt, hnk]; first | done | exact (msn_thr _).symm
                        have hvr : rngO (msn (ms_thr u 0) t k (nat (m_ec u k))) 32 := by first | exact msn_rng _ (hen k (by omega)) | (rw [msn_thr]; exact msn_rng _ (hen k (by omega)))
                        generalize msn (ms_thr u 0) t k (nat (m_ec u k)) = o at hsv hvr ⊢
                        refine lv_istore (lv' := [(7, .int o), (6, .int 1), (5, .int 1), (4, .int (fb (trP u (nI t)))), (0, .ref (g 0)), (1, .int (nI t)), (2, .int (nI k)), (3, .int z)]) hx hb dX5_write_120 hl (by decide) rfl (fun ls hl => ?_)
                        refine lv_iload hx hb dX5_write_122 (lv_at hl 0 rfl) ?_
                        refine lv_iconst (v := (-1)) hx hb dX5_write_124 (by decide) ?_
                        refine lv_icmp_ne (tgt := 132) hx hb dX5_write_125 (by decide) (fun c40 => ?_) (fun c40 => ?_)
                        · skip
                          have on : ¬ o = -1 := c40
                          obtain ⟨j, hj, ej⟩ := rng_o (rO hvr c40)
                          subst ej
                          have hnj : nat (nI j) = j := nat_nI (by omega)
                          refine lv_iload hx hb dX5_write_132 (lv_at hl 0 rfl) ?_
                          refine lv_bipush (v := 8) hx hb dX5_write_134 (by decide) ?_
                          refine lv_idiv hx hb dX5_write_136 (by decide) ?_
                          refine tpi (y := nI (j / 8)) (pk_div8 (by omega)) ?_
                          refine lv_bipush (v := 8) hx hb dX5_write_137 (by decide) ?_
                          refine lv_imul hx hb dX5_write_139 ?_
                          refine tpi (y := nI (j / 8 * 8)) (pk_mul (j / 8) 8) ?_
                          refine lv_istore (lv' := [(8, .int (nI (j / 8 * 8))), (7, .int (nI j)), (6, .int 1), (5, .int 1), (4, .int (fb (trP u (nI t)))), (0, .ref (g 0)), (1, .int (nI t)), (2, .int (nI k)), (3, .int z)]) hx hb dX5_write_140 hl (by decide) rfl (fun ls hl => ?_)
                          refine lv_iload hx hb dX5_write_142 (lv_at hl 1 rfl) ?_
                          refine lv_iconst (v := (-1)) hx hb dX5_write_144 (by decide) ?_
                          refine lv_icmp_ne (tgt := 152) hx hb dX5_write_145 (by decide) (fun c41 => ?_) (fun c41 => ?_)
                          · skip
                            refine lv_aload_n hx hb dX5_write_152 rfl (lv_at hl 5 rfl) ?_
                            refine lv_iload hx hb dX5_write_153 (lv_at hl 0 rfl) ?_
                            refine lv_iload hx hb dX5_write_155 (lv_at hl 0 rfl) ?_
                            refine lv_bipush (v := 8) hx hb dX5_write_157 (by decide) ?_
                            refine lv_iadd hx hb dX5_write_159 ?_
                            refine tpi (y := nI (j / 8 * 8 + 8)) (nI_add (j / 8 * 8) 8) ?_
                            refine kiV (As := [.int (nI (j / 8 * 8)), .int (nI (j / 8 * 8 + 8))]) (rest := []) S (kX5_free hg (ms_thr u 0) (j / 8 * 8) 8 (by omega)) (cwV 2 hts gX5_write_X5_free rfl rfl rfl hdX5_free ⟨Nat.le_of_ble_eq_true rfl, Nat.le_of_ble_eq_true rfl⟩) rfl rfl 0 rfl rfl hE hP hS (frs hS) rfl hl.1 rfl (Nat.le_of_ble_eq_true rfl) dX5_write_160 ⟨Nat.le_of_ble_eq_true rfl, Nat.le_of_ble_eq_true rfl⟩ (fun H locs hP _ _ hS => ?_)
                            have hm0 : mnr u (nI j) = lfm (m_us (ms_thr u 0)) (j / 8 * 8) 8 := mnr_j hj
                            have hwr : rngO (lfm (m_us (ms_thr u 0)) (j / 8 * 8) 8) 32 := lfm_rng 8 (j / 8 * 8) (by omega)
                            obtain ⟨w, hw0⟩ : ∃ w, lfm (m_us (ms_thr u 0)) (j / 8 * 8) 8 = w := ⟨_, rfl⟩
                            rw [hw0] at hm0 hwr ⊢
                            refine lv_istore (lv' := [(9, .int w), (8, .int (nI (j / 8 * 8))), (7, .int (nI j)), (6, .int 1), (5, .int 1), (4, .int (fb (trP u (nI t)))), (0, .ref (g 0)), (1, .int (nI t)), (2, .int (nI k)), (3, .int z)]) hx hb dX5_write_163 hl (by decide) rfl (fun ls hl => ?_)
                            refine lv_iload hx hb dX5_write_165 (lv_at hl 0 rfl) ?_
                            refine lv_iconst (v := (-1)) hx hb dX5_write_167 (by decide) ?_
                            refine lv_icmp_ne (tgt := 181) hx hb dX5_write_168 (by decide) (fun c42 => ?_) (fun c42 => ?_)
                            · skip
                              have wn : ¬ w = -1 := c42
                              obtain ⟨q, hq, eq9⟩ := rng_o (rO hwr c42)
                              subst eq9
                              have hp0 := mpl_n hq hm0
                              refine lv_iload hx hb dX5_write_181 (lv_at hl 0 rfl) ?_
                              refine lv_istore (lv' := [(10, .int (nI q)), (9, .int (nI q)), (8, .int (nI (j / 8 * 8))), (7, .int (nI j)), (6, .int 1), (5, .int 1), (4, .int (fb (trP u (nI t)))), (0, .ref (g 0)), (1, .int (nI t)), (2, .int (nI k)), (3, .int z)]) hx hb dX5_write_183 hl (by decide) rfl (fun ls hl => ?_)
                              refine lv_aload_n hx hb dX5_write_185 rfl (lv_at hl 7 rfl) ?_
                              refine lv_iload_n hx hb dX5_write_186 rfl (lv_at hl 8 rfl) ?_
                              refine lv_iload hx hb dX5_write_187 (lv_at hl 0 rfl) ?_
                              refine lv_iload_n hx hb dX5_write_189 rfl (lv_at hl 9 rfl) ?_
                              refine lv_iload_n hx hb dX5_write_190 rfl (lv_at hl 10 rfl) ?_
                              refine kvV (As := [.int (nI t), .int (nI q), .int (nI k), .int z]) (rest := []) S (kX5_puts hg (ms_thr u 0) t q (nI k) z (by omega) (by omega)) (cwV 4 hts gX5_write_X5_puts rfl rfl rfl hdX5_puts ⟨Nat.le_of_ble_eq_true rfl, Nat.le_of_ble_eq_true rfl⟩) rfl rfl 0 rfl rfl hE hP hS (frs hS) rfl hl.1 rfl (Nat.le_of_ble_eq_true rfl) dX5_write_191 ⟨Nat.le_of_ble_eq_true rfl, Nat.le_of_ble_eq_true rfl⟩ (fun H locs hP _ _ hS => ?_)
                              refine lv_iload hx hb dX5_write_194 (lv_at hl 3 rfl) ?_
                              refine lv_iconst (v := (-1)) hx hb dX5_write_196 (by decide) ?_
                              refine lv_icmp_eq (tgt := 207) hx hb dX5_write_197 (by decide) (fun c43 => ?_) (fun c43 => ?_)
                              · skip
                                exact absurd c43 c40
                              · skip
                                refine lv_aload_n hx hb dX5_write_200 rfl (lv_at hl 7 rfl) ?_
                                refine lv_iload_n hx hb dX5_write_201 rfl (lv_at hl 8 rfl) ?_
                                refine lv_iload hx hb dX5_write_202 (lv_at hl 3 rfl) ?_
                                refine kvV (As := [.int (nI t), .int (nI j)]) (rest := []) S (kX5_dies hg (mpu (ms_thr u 0) t q (nI k) z) t j (by omega) (by omega)) (cwV 2 hts gX5_write_X5_dies rfl rfl rfl hdX5_dies ⟨Nat.le_of_ble_eq_true rfl, Nat.le_of_ble_eq_true rfl⟩) rfl rfl 0 rfl rfl hE hP hS (frs hS) rfl hl.1 rfl (Nat.le_of_ble_eq_true rfl) dX5_write_204 ⟨Nat.le_of_ble_eq_true rfl, Nat.le_of_ble_eq_true rfl⟩ (fun H locs hP _ _ hS => ?_)
                                refine lv_iload hx hb dX5_write_207 (lv_at hl 1 rfl) ?_
                                refine lv_iconst (v := (-1)) hx hb dX5_write_209 (by decide) ?_
                                refine lv_icmp_eq (tgt := 225) hx hb dX5_write_210 (by decide) (fun c44 => ?_) (fun c44 => ?_)
                                · skip
                                  exact absurd c44 c42
                                · skip
                                  refine lv_aload_n hx hb dX5_write_213 rfl (lv_at hl 7 rfl) ?_
                                  refine gw5_next S i5 hE hP (hts _ (List.mem_of_getElem? (i := 1) rfl)) dX5_write_214 ?_
                                  refine lv_iload hx hb dX5_write_217 (lv_at hl 3 rfl) ?_
                                  refine lv_iload hx hb dX5_write_219 (lv_at hl 0 rfl) ?_
                                  refine sM_n S hE hP hg hS (j := j) (by omega) rfl dX5_write_221 (fun H locs hP hS => ?_)
                                  have hP : va_P D vwCl (wM K g (ms_n (mdi (mpu (ms_thr u 0) t q (nI k) z) t j) (upd (m_n (mdi (mpu (ms_thr u 0) t q (nI k) z) t j)) j (nI q)))) H := hP
                                  refine lv_goto (tgt := 253) hx hb dX5_write_222 (by decide) ?_
                                  refine lv_sipush (v := 1000) hx hb dX5_write_253 (by decide) ?_
                                  refine lv_iload hx hb dX5_write_256 (lv_at hl 0 rfl) ?_
                                  refine lv_bipush (v := 8) hx hb dX5_write_258 (by decide) ?_
                                  refine lv_idiv hx hb dX5_write_260 (by decide) ?_
                                  refine tpi (y := nI (q / 8)) (pk_div8 (by omega)) ?_
                                  refine lv_imul hx hb dX5_write_261 ?_
                                  refine tpi (y := nI (1000 * (q / 8))) (pk_mul 1000 (q / 8)) ?_
                                  refine lv_iload hx hb dX5_write_262 (lv_at hl 0 rfl) ?_
                                  refine lv_bipush (v := 8) hx hb dX5_write_264 (by decide) ?_
                                  refine lv_irem hx hb dX5_write_266 (by decide) ?_
                                  refine tpi (y := nI (q % 8)) (pk_rem8 (by omega)) ?_
                                  refine lv_iadd hx hb dX5_write_267 ?_
                                  refine tpi (y := nI (1000 * (q / 8) + q % 8)) (nI_add _ _) ?_
                                  refine lv_iload hx hb dX5_write_268 (lv_at hl 1 rfl) ?_
                                  refine lv_iconst (v := (-1)) hx hb dX5_write_270 (by decide) ?_
                                  refine lv_icmp_ne (tgt := 278) hx hb dX5_write_271 (by decide) (fun c45 => ?_) (fun c45 => ?_)
                                  · skip
                                    refine lv_ldc (v := 100000) hx hb hown (hts _ (List.mem_of_getElem? (i := 4) rfl)) dX5_write_278 ?_
                                    refine lv_iadd hx hb dX5_write_280 ?_
                                    exact ei hx hb hr hlk hS hP (by rw [cif_t ⟨y1, y2, by rw [hnt, hnk]; exact y5⟩, hsv, hnt, hnk]; first | exact congrArg (wM K g) (mw2_n hq hj hm0 hp0 (mw1_j hj)).symm | exact congrArg (wM K g) (mw2_e hq hm1 hp0 (mw1_j hj) hec9 (by omega)).symm | (rw [oe] at hm1 hp0 ⊢; exact congrArg (wM K g) (mw2_e hq hm1 hp0 mw1_o hec9 (by omega)).symm)) (by rw [cif_t ⟨y1, y2, by rw [hnt, hnk]; exact y5⟩, hsv]; first | exact (mwr_e hq hm1 hp0).symm | exact (mwr_n hq hm0 hp0).symm) (Nat.le_of_ble_eq_true rfl) (Nat.le_of_ble_eq_true rfl) dX5_write_281
                                  · skip
                                    exact absurd c45 c42
                            · skip
                              have hm1 : mnr u (nI j) = -1 := hm0.trans c42
                              obtain ⟨q, hq, efr⟩ : ∃ q, q < 32 ∧ lfm (m_us u) 0 32 = nI q := ⟨q0, hq0, efr⟩
                              refine lv_aload_n hx hb dX5_write_171 rfl (lv_at hl 6 rfl) ?_
                              refine lv_iconst (v := 0) hx hb dX5_write_172 (by decide) ?_
                              refine lv_bipush (v := 32) hx hb dX5_write_173 (by decide) ?_
                              refine kiV (As := [.int 0, .int 32]) (rest := []) S (kX5_free hg (ms_thr u 0) 0 32 (by omega)) (cwV 2 hts gX5_write_X5_free rfl rfl rfl hdX5_free ⟨Nat.le_of_ble_eq_true rfl, Nat.le_of_ble_eq_true rfl⟩) rfl rfl 0 rfl rfl hE hP hS (frs hS) rfl hl.1 rfl (Nat.le_of_ble_eq_true rfl) dX5_write_175 ⟨Nat.le_of_ble_eq_true rfl, Nat.le_of_ble_eq_true rfl⟩ (fun H locs hP _ _ hS => ?_)
                              rw [show lfm (m_us (ms_thr u 0)) 0 32 = nI q from efr]
                              have hp0 := mpl_f hm1 efr
                              refine lv_goto (tgt := 183) hx hb dX5_write_178 (by decide) ?_
                              refine lv_istore (lv' := [(10, .int (nI q)), (9, .int w), (8, .int (nI (j / 8 * 8))), (7, .int (nI j)), (6, .int 1), (5, .int 1), (4, .int (fb (trP u (nI t)))), (0, .ref (g 0)), (1, .int (nI t)), (2, .int (nI k)), (3, .int z)]) hx hb dX5_write_183 hl (by decide) rfl (fun ls hl => ?_)
                              refine lv_aload_n hx hb dX5_write_185 rfl (lv_at hl 7 rfl) ?_
                              refine lv_iload_n hx hb dX5_write_186 rfl (lv_at hl 8 rfl) ?_
                              refine lv_iload hx hb dX5_write_187 (lv_at hl 0 rfl) ?_
                              refine lv_iload_n hx hb dX5_write_189 rfl (lv_at hl 9 rfl) ?_
                              refine lv_iload_n hx hb dX5_write_190 rfl (lv_at hl 10 rfl) ?_
                              refine kvV (As := [.int (nI t), .int (nI q), .int (nI k), .int z]) (rest := []) S (kX5_puts hg (ms_thr u 0) t q (nI k) z (by omega) (by omega)) (cwV 4 hts gX5_write_X5_puts rfl rfl rfl hdX5_puts ⟨Nat.le_of_ble_eq_true rfl, Nat.le_of_ble_eq_true rfl⟩) rfl rfl 0 rfl rfl hE hP hS (frs hS) rfl hl.1 rfl (Nat.le_of_ble_eq_true rfl) dX5_write_191 ⟨Nat.le_of_ble_eq_true rfl, Nat.le_of_ble_eq_true rfl⟩ (fun H locs hP _ _ hS => ?_)
                              refine lv_iload hx hb dX5_write_194 (lv_at hl 3 rfl) ?_
                              refine lv_iconst (v := (-1)) hx hb dX5_write_196 (by decide) ?_
                              refine lv_icmp_eq (tgt := 207) hx hb dX5_write_197 (by decide) (fun c46 => ?_) (fun c46 => ?_)
                              · skip
                                exact absurd c46 c40
                              · skip
                                refine lv_aload_n hx hb dX5_write_200 rfl (lv_at hl 7 rfl) ?_
                                refine lv_iload_n hx hb dX5_write_201 rfl (lv_at hl 8 rfl) ?_
                                refine lv_iload hx hb dX5_write_202 (lv_at hl 3 rfl) ?_
                                refine kvV (As := [.int (nI t), .int (nI j)]) (rest := []) S (kX5_dies hg (mpu (ms_thr u 0) t q (nI k) z) t j (by omega) (by omega)) (cwV 2 hts gX5_write_X5_dies rfl rfl rfl hdX5_dies ⟨Nat.le_of_ble_eq_true rfl, Nat.le_of_ble_eq_true rfl⟩) rfl rfl 0 rfl rfl hE hP hS (frs hS) rfl hl.1 rfl (Nat.le_of_ble_eq_true rfl) dX5_write_204 ⟨Nat.le_of_ble_eq_true rfl, Nat.le_of_ble_eq_true rfl⟩ (fun H locs hP _ _ hS => ?_)
                                refine lv_iload hx hb dX5_write_207 (lv_at hl 1 rfl) ?_
                                refine lv_iconst (v := (-1)) hx hb dX5_write_209 (by decide) ?_
                                refine lv_icmp_eq (tgt := 225) hx hb dX5_write_210 (by decide) (fun c47 => ?_) (fun c47 => ?_)
                                · skip
                                  have hec9 : m_ec u k = nI (nat (m_ec u k)) := (hr9.2.2 k (by omega)).1.1
                                  have hec8 : nat (m_ec u k) < 33 := (hr9.2.2 k (by omega)).1.2
                                  refine lv_aload_n hx hb dX5_write_225 rfl (lv_at hl 7 rfl) ?_
                                  refine gw5_entry S i5 hE hP (hts _ (List.mem_of_getElem? (i := 2) rfl)) dX5_write_226 ?_
                                  refine lv_bipush (v := 64) hx hb dX5_write_229 (by decide) ?_
                                  refine lv_iload_n hx hb dX5_write_231 rfl (lv_at hl 9 rfl) ?_
                                  refine lv_imul hx hb dX5_write_232 ?_
                                  refine tpi (y := nI (64 * k)) (pk_mul 64 k) ?_
                                  refine lv_aload_n hx hb dX5_write_233 rfl (lv_at hl 7 rfl) ?_
                                  refine gw5_entries S i5 hE hP (hts _ (List.mem_of_getElem? (i := 3) rfl)) dX5_write_234 ?_
                                  refine lv_iload_n hx hb dX5_write_237 rfl (lv_at hl 9 rfl) ?_
                                  refine lM_ec S hE hP (f := m_ec (mdi (mpu (ms_thr u 0) t q (nI k) z) t j)) rfl (j := k) (by omega) rfl dX5_write_238 ?_
                                  refine tpi (y := nI (nat (m_ec u k))) hec9 ?_
                                  refine lv_iadd hx hb dX5_write_239 ?_
                                  refine tpi (y := nI (64 * k + nat (m_ec u k))) (nI_add _ _) ?_
                                  refine lv_iload hx hb dX5_write_240 (lv_at hl 0 rfl) ?_
                                  refine sM_en S hE hP hg hS (j := (64 * k + nat (m_ec u k))) (by omega) rfl dX5_write_242 (fun H locs hP hS => ?_)
                                  have hP : va_P D vwCl (wM K g (ms_en (mdi (mpu (ms_thr u 0) t q (nI k) z) t j) (upd (m_en (mdi (mpu (ms_thr u 0) t q (nI k) z) t j)) (64 * k + nat (m_ec u k)) (nI q)))) H := hP
                                  refine lv_aload_n hx hb dX5_write_243 rfl (lv_at hl 7 rfl) ?_
                                  refine gw5_entries S i5 hE hP (hts _ (List.mem_of_getElem? (i := 3) rfl)) dX5_write_244 ?_
                                  refine lv_iload_n hx hb dX5_write_247 rfl (lv_at hl 9 rfl) ?_
                                  refine lv_dup2_11 hx hb dX5_write_248 rfl rfl ?_
                                  refine lM_ec S hE hP (f := m_ec (mdi (mpu (ms_thr u 0) t q (nI k) z) t j)) rfl (j := k) (by omega) rfl dX5_write_249 ?_
                                  refine tpi (y := nI (nat (m_ec u k))) hec9 ?_
                                  refine lv_iconst (v := 1) hx hb dX5_write_250 (by decide) ?_
                                  refine lv_iadd hx hb dX5_write_251 ?_
                                  refine tpi (y := nI (nat (m_ec u k) + 1)) (nI_1 _) ?_
                                  refine sM_ec S hE hP hg hS (j := k) (by omega) rfl dX5_write_252 (fun H locs hP hS => ?_)
                                  have hP : va_P D vwCl (wM K g (ms_ec (ms_en (mdi (mpu (ms_thr u 0) t q (nI k) z) t j) (upd (m_en (mdi (mpu (ms_thr u 0) t q (nI k) z) t j)) (64 * k + nat (m_ec u k)) (nI q))) (upd (m_ec (mdi (mpu (ms_thr u 0) t q (nI k) z) t j)) k (nI (nat (m_ec u k) + 1))))) H := hP
                                  refine lv_sipush (v := 1000) hx hb dX5_write_253 (by decide) ?_
                                  refine lv_iload hx hb dX5_write_256 (lv_at hl 0 rfl) ?_
                                  refine lv_bipush (v := 8) hx hb dX5_write_258 (by decide) ?_
                                  refine lv_idiv hx hb dX5_write_260 (by decide) ?_
                                  refine tpi (y := nI (q / 8)) (pk_div8 (by omega)) ?_
                                  refine lv_imul hx hb dX5_write_261 ?_
                                  refine tpi (y := nI (1000 * (q / 8))) (pk_mul 1000 (q / 8)) ?_
                                  refine lv_iload hx hb dX5_write_262 (lv_at hl 0 rfl) ?_
                                  refine lv_bipush (v := 8) hx hb dX5_write_264 (by decide) ?_
                                  refine lv_irem hx hb dX5_write_266 (by decide) ?_
                                  refine tpi (y := nI (q % 8)) (pk_rem8 (by omega)) ?_
                                  refine lv_iadd hx hb dX5_write_267 ?_
                                  refine tpi (y := nI (1000 * (q / 8) + q % 8)) (nI_add _ _) ?_
                                  refine lv_iload hx hb dX5_write_268 (lv_at hl 1 rfl) ?_
                                  refine lv_iconst (v := (-1)) hx hb dX5_write_270 (by decide) ?_
                                  refine lv_icmp_ne (tgt := 278) hx hb dX5_write_271 (by decide) (fun c48 => ?_) (fun c48 => ?_)
                                  · skip
                                    exact absurd c42 c48
                                  · skip
                                    refine lv_iconst (v := 0) hx hb dX5_write_274 (by decide) ?_
                                    refine lv_goto (tgt := 280) hx hb dX5_write_275 (by decide) ?_
                                    refine lv_iadd hx hb dX5_write_280 ?_
                                    exact ei hx hb hr hlk hS hP (by rw [cif_t ⟨y1, y2, by rw [hnt, hnk]; exact y5⟩, hsv, hnt, hnk]; first | exact congrArg (wM K g) (mw2_n hq hj hm0 hp0 (mw1_j hj)).symm | exact congrArg (wM K g) (mw2_e hq hm1 hp0 (mw1_j hj) hec9 (by omega)).symm | (rw [oe] at hm1 hp0 ⊢; exact congrArg (wM K g) (mw2_e hq hm1 hp0 mw1_o hec9 (by omega)).symm)) (by rw [cif_t ⟨y1, y2, by rw [hnt, hnk]; exact y5⟩, hsv]; first | exact (mwr_e hq hm1 hp0).symm | exact (mwr_n hq hm0 hp0).symm) (Nat.le_of_ble_eq_true rfl) (Nat.le_of_ble_eq_true rfl) dX5_write_281
                                · skip
                                  exact absurd c42 c47
                          · skip
                            exact absurd c41 c40
                        · skip
                          have oe : o = -1 := c40
                          refine lv_iconst (v := 0) hx hb dX5_write_128 (by decide) ?_
                          refine lv_goto (tgt := 140) hx hb dX5_write_129 (by decide) ?_
                          refine lv_istore (lv' := [(8, .int 0), (7, .int o), (6, .int 1), (5, .int 1), (4, .int (fb (trP u (nI t)))), (0, .ref (g 0)), (1, .int (nI t)), (2, .int (nI k)), (3, .int z)]) hx hb dX5_write_140 hl (by decide) rfl (fun ls hl => ?_)
                          refine lv_iload hx hb dX5_write_142 (lv_at hl 1 rfl) ?_
                          refine lv_iconst (v := (-1)) hx hb dX5_write_144 (by decide) ?_
                          refine lv_icmp_ne (tgt := 152) hx hb dX5_write_145 (by decide) (fun c49 => ?_) (fun c49 => ?_)
                          · skip
                            exact absurd c40 c49
                          · skip
                            refine lv_iconst (v := (-1)) hx hb dX5_write_148 (by decide) ?_
                            refine lv_goto (tgt := 163) hx hb dX5_write_149 (by decide) ?_
                            have hm0 : mnr u o = -1 := by rw [oe]; exact mnr_o
                            refine lv_istore (lv' := [(9, .int (-1)), (8, .int 0), (7, .int o), (6, .int 1), (5, .int 1), (4, .int (fb (trP u (nI t)))), (0, .ref (g 0)), (1, .int (nI t)), (2, .int (nI k)), (3, .int z)]) hx hb dX5_write_163 hl (by decide) rfl (fun ls hl => ?_)
                            refine lv_iload hx hb dX5_write_165 (lv_at hl 0 rfl) ?_
                            refine lv_iconst (v := (-1)) hx hb dX5_write_167 (by decide) ?_
                            refine lv_icmp_ne (tgt := 181) hx hb dX5_write_168 (by decide) (fun c50 => ?_) (fun c50 => ?_)
                            · skip
                              exact (by first | exact absurd c50 (by decide) | exact absurd rfl c50)
                            · skip
                              have hm1 : mnr u o = -1 := hm0
                              obtain ⟨q, hq, efr⟩ : ∃ q, q < 32 ∧ lfm (m_us u) 0 32 = nI q := ⟨q0, hq0, efr⟩
                              refine lv_aload_n hx hb dX5_write_171 rfl (lv_at hl 6 rfl) ?_
                              refine lv_iconst (v := 0) hx hb dX5_write_172 (by decide) ?_
                              refine lv_bipush (v := 32) hx hb dX5_write_173 (by decide) ?_
                              refine kiV (As := [.int 0, .int 32]) (rest := []) S (kX5_free hg (ms_thr u 0) 0 32 (by omega)) (cwV 2 hts gX5_write_X5_free rfl rfl rfl hdX5_free ⟨Nat.le_of_ble_eq_true rfl, Nat.le_of_ble_eq_true rfl⟩) rfl rfl 0 rfl rfl hE hP hS (frs hS) rfl hl.1 rfl (Nat.le_of_ble_eq_true rfl) dX5_write_175 ⟨Nat.le_of_ble_eq_true rfl, Nat.le_of_ble_eq_true rfl⟩ (fun H locs hP _ _ hS => ?_)
                              rw [show lfm (m_us (ms_thr u 0)) 0 32 = nI q from efr]
                              have hp0 := mpl_f hm1 efr
                              refine lv_goto (tgt := 183) hx hb dX5_write_178 (by decide) ?_
                              refine lv_istore (lv' := [(10, .int (nI q)), (9, .int (-1)), (8, .int 0), (7, .int o), (6, .int 1), (5, .int 1), (4, .int (fb (trP u (nI t)))), (0, .ref (g 0)), (1, .int (nI t)), (2, .int (nI k)), (3, .int z)]) hx hb dX5_write_183 hl (by decide) rfl (fun ls hl => ?_)
                              refine lv_aload_n hx hb dX5_write_185 rfl (lv_at hl 7 rfl) ?_
                              refine lv_iload_n hx hb dX5_write_186 rfl (lv_at hl 8 rfl) ?_
                              refine lv_iload hx hb dX5_write_187 (lv_at hl 0 rfl) ?_
                              refine lv_iload_n hx hb dX5_write_189 rfl (lv_at hl 9 rfl) ?_
                              refine lv_iload_n hx hb dX5_write_190 rfl (lv_at hl 10 rfl) ?_
                              refine kvV (As := [.int (nI t), .int (nI q), .int (nI k), .int z]) (rest := []) S (kX5_puts hg (ms_thr u 0) t q (nI k) z (by omega) (by omega)) (cwV 4 hts gX5_write_X5_puts rfl rfl rfl hdX5_puts ⟨Nat.le_of_ble_eq_true rfl, Nat.le_of_ble_eq_true rfl⟩) rfl rfl 0 rfl rfl hE hP hS (frs hS) rfl hl.1 rfl (Nat.le_of_ble_eq_true rfl) dX5_write_191 ⟨Nat.le_of_ble_eq_true rfl, Nat.le_of_ble_eq_true rfl⟩ (fun H locs hP _ _ hS => ?_)
                              refine lv_iload hx hb dX5_write_194 (lv_at hl 3 rfl) ?_
                              refine lv_iconst (v := (-1)) hx hb dX5_write_196 (by decide) ?_
                              refine lv_icmp_eq (tgt := 207) hx hb dX5_write_197 (by decide) (fun c51 => ?_) (fun c51 => ?_)
                              · skip
                                refine lv_iload hx hb dX5_write_207 (lv_at hl 1 rfl) ?_
                                refine lv_iconst (v := (-1)) hx hb dX5_write_209 (by decide) ?_
                                refine lv_icmp_eq (tgt := 225) hx hb dX5_write_210 (by decide) (fun c52 => ?_) (fun c52 => ?_)
                                · skip
                                  have hec9 : m_ec u k = nI (nat (m_ec u k)) := (hr9.2.2 k (by omega)).1.1
                                  have hec8 : nat (m_ec u k) < 33 := (hr9.2.2 k (by omega)).1.2
                                  refine lv_aload_n hx hb dX5_write_225 rfl (lv_at hl 7 rfl) ?_
                                  refine gw5_entry S i5 hE hP (hts _ (List.mem_of_getElem? (i := 2) rfl)) dX5_write_226 ?_
                                  refine lv_bipush (v := 64) hx hb dX5_write_229 (by decide) ?_
                                  refine lv_iload_n hx hb dX5_write_231 rfl (lv_at hl 9 rfl) ?_
                                  refine lv_imul hx hb dX5_write_232 ?_
                                  refine tpi (y := nI (64 * k)) (pk_mul 64 k) ?_
                                  refine lv_aload_n hx hb dX5_write_233 rfl (lv_at hl 7 rfl) ?_
                                  refine gw5_entries S i5 hE hP (hts _ (List.mem_of_getElem? (i := 3) rfl)) dX5_write_234 ?_
                                  refine lv_iload_n hx hb dX5_write_237 rfl (lv_at hl 9 rfl) ?_
                                  refine lM_ec S hE hP (f := m_ec (mpu (ms_thr u 0) t q (nI k) z)) rfl (j := k) (by omega) rfl dX5_write_238 ?_
                                  refine tpi (y := nI (nat (m_ec u k))) hec9 ?_
                                  refine lv_iadd hx hb dX5_write_239 ?_
                                  refine tpi (y := nI (64 * k + nat (m_ec u k))) (nI_add _ _) ?_
                                  refine lv_iload hx hb dX5_write_240 (lv_at hl 0 rfl) ?_
                                  refine sM_en S hE hP hg hS (j := (64 * k + nat (m_ec u k))) (by omega) rfl dX5_write_242 (fun H locs hP hS => ?_)
                                  have hP : va_P D vwCl (wM K g (ms_en (mpu (ms_thr u 0) t q (nI k) z) (upd (m_en (mpu (ms_thr u 0) t q (nI k) z)) (64 * k + nat (m_ec u k)) (nI q)))) H := hP
                                  refine lv_aload_n hx hb dX5_write_243 rfl (lv_at hl 7 rfl) ?_
                                  refine gw5_entries S i5 hE hP (hts _ (List.mem_of_getElem? (i := 3) rfl)) dX5_write_244 ?_
                                  refine lv_iload_n hx hb dX5_write_247 rfl (lv_at hl 9 rfl) ?_
                                  refine lv_dup2_11 hx hb dX5_write_248 rfl rfl ?_
                                  refine lM_ec S hE hP (f := m_ec (mpu (ms_thr u 0) t q (nI k) z)) rfl (j := k) (by omega) rfl dX5_write_249 ?_
                                  refine tpi (y := nI (nat (m_ec u k))) hec9 ?_
                                  refine lv_iconst (v := 1) hx hb dX5_write_250 (by decide) ?_
                                  refine lv_iadd hx hb dX5_write_251 ?_
                                  refine tpi (y := nI (nat (m_ec u k) + 1)) (nI_1 _) ?_
                                  refine sM_ec S hE hP hg hS (j := k) (by omega) rfl dX5_write_252 (fun H locs hP hS => ?_)
                                  have hP : va_P D vwCl (wM K g (ms_ec (ms_en (mpu (ms_thr u 0) t q (nI k) z) (upd (m_en (mpu (ms_thr u 0) t q (nI k) z)) (64 * k + nat (m_ec u k)) (nI q))) (upd (m_ec (mpu (ms_thr u 0) t q (nI k) z)) k (nI (nat (m_ec u k) + 1))))) H := hP
                                  refine lv_sipush (v := 1000) hx hb dX5_write_253 (by decide) ?_
                                  refine lv_iload hx hb dX5_write_256 (lv_at hl 0 rfl) ?_
                                  refine lv_bipush (v := 8) hx hb dX5_write_258 (by decide) ?_
                                  refine lv_idiv hx hb dX5_write_260 (by decide) ?_
                                  refine tpi (y := nI (q / 8)) (pk_div8 (by omega)) ?_
                                  refine lv_imul hx hb dX5_write_261 ?_
                                  refine tpi (y := nI (1000 * (q / 8))) (pk_mul 1000 (q / 8)) ?_
                                  refine lv_iload hx hb dX5_write_262 (lv_at hl 0 rfl) ?_
                                  refine lv_bipush (v := 8) hx hb dX5_write_264 (by decide) ?_
                                  refine lv_irem hx hb dX5_write_266 (by decide) ?_
                                  refine tpi (y := nI (q % 8)) (pk_rem8 (by omega)) ?_
                                  refine lv_iadd hx hb dX5_write_267 ?_
                                  refine tpi (y := nI (1000 * (q / 8) + q % 8)) (nI_add _ _) ?_
                                  refine lv_iload hx hb dX5_write_268 (lv_at hl 1 rfl) ?_
                                  refine lv_iconst (v := (-1)) hx hb dX5_write_270 (by decide) ?_
                                  refine lv_icmp_ne (tgt := 278) hx hb dX5_write_271 (by decide) (fun c53 => ?_) (fun c53 => ?_)
                                  · skip
                                    exact absurd c50 c53
                                  · skip
                                    refine lv_iconst (v := 0) hx hb dX5_write_274 (by decide) ?_
                                    refine lv_goto (tgt := 280) hx hb dX5_write_275 (by decide) ?_
                                    refine lv_iadd hx hb dX5_write_280 ?_
                                    exact ei hx hb hr hlk hS hP (by rw [cif_t ⟨y1, y2, by rw [hnt, hnk]; exact y5⟩, hsv, hnt, hnk]; first | exact congrArg (wM K g) (mw2_n hq hj hm0 hp0 (mw1_j hj)).symm | exact congrArg (wM K g) (mw2_e hq hm1 hp0 (mw1_j hj) hec9 (by omega)).symm | (rw [oe] at hm1 hp0 ⊢; exact congrArg (wM K g) (mw2_e hq hm1 hp0 mw1_o hec9 (by omega)).symm)) (by rw [cif_t ⟨y1, y2, by rw [hnt, hnk]; exact y5⟩, hsv]; first | exact (mwr_e hq hm1 hp0).symm | exact (mwr_n hq hm0 hp0).symm) (Nat.le_of_ble_eq_true rfl) (Nat.le_of_ble_eq_true rfl) dX5_write_281
                                · skip
                                  exact absurd c50 c52
                              · skip
                                exact absurd c40 c51
                      · skip
                        exact (by first | exact absurd rfl c39 | exact absurd c39 (by decide))
                    · skip
                      exact absurd c38 c20
                  · skip
                    exact absurd c37 c20
                · skip
                  exact absurd c17 c36
def rmX5_clean : Room := { frames := 3, cells := 0, slots := 0, locals := 68 }
theorem hdX5_clean : yX5_clean.cls = RX5 ∧ yX5_clean.cls ≠ "java/lang/invoke/MethodHandle" ∧ yX5_clean.cls ≠ "java/lang/invoke/VarHandle" ∧ (parseMethodDescriptor yX5_clean.desc).map (fun d => d.parameters.length) = some 1 := by decide +kernel
set_option maxHeartbeats 4000000 in
set_option maxRecDepth 100000 in
theorem kX5_clean {l : Launch} {D : va_G} {K : Nat → ClassId} {L : Nat → Prop} {g : Nat → Nat} (hg : gd L g 14) (u : MU) (x : Int32) (N : Nat) (hN : N ≤ 60) (hcn : m_cn u = nI N) (hok : ∀ a i, a < 4 → i ≤ 8 → rM (clM (ms_thr u 0) N a i).1 ∧ (i < 8 → cgM (clM (ms_thr u 0) N a i).1 (8 * a + i) N → ¬ m_n (clM (ms_thr u 0) N a i).1 (8 * a + i) = nI (8 * a + i))) : CI l yX5_clean wsX5_clean rmX5_clean D K L [.ref (g 0), .int x] (wM K g u) (wM K g (cif (inP x 0 3) (mcl u N (nat x)) (ms_thr u 1))) (cif (inP x 0 3) (nI (clM (ms_thr u 0) N (nat x) 8).2) 0) := by
  refine CI.of (cc := cX5_clean) (maxL := 4) (ret := (some .int)) (by decide +kernel) rfl (Nat.le_of_ble_eq_true rfl) ?_
  intro p e s m below meth c ls hen hP
  obtain ⟨hx, hb, hr, hts, hown, hlk, hml, hnm, hE, hl⟩ := hen
  have S : CallFix p m c cX5_clean 4 s _ wsX5_clean RX5 := ⟨hx, hb, hml, hown, hts⟩
  have hS : va_S (fr L s.heap.size) s.heap s.heap [] := va_S.rf
  have hl : lv_has ls 4 [(0, .ref (g 0)), (1, .int x)] := hl
  have i5 : ∀ w ∈ wsX50, w ∈ wsX5_clean := fun _ h => List.mem_cons_of_mem _ (List.mem_append_right _ h)
  refine lv_aload_n hx hb dX5_clean_0 rfl (lv_at hl 0 rfl) ?_
  refine lv_iload_n hx hb dX5_clean_1 rfl (lv_at hl 1 rfl) ?_
  refine kiS (As := [.int x]) (rest := [.ref (g 0)]) S (kX5_isPage x) (va_cwS 1 hts gX5_clean_X5_isPage rfl rfl rfl hdX5_isPage.2 ⟨Nat.le_of_ble_eq_true rfl, Nat.le_of_ble_eq_true rfl⟩) rfl rfl hE hP hS (frs hS) rfl hl.1 rfl (Nat.le_of_ble_eq_true rfl) dX5_clean_2 ⟨Nat.le_of_ble_eq_true rfl, Nat.le_of_ble_eq_true rfl⟩ (fun H locs hP _ _ hS => ?_)
  refine bzeq (tgt := 12) hx hb dX5_clean_5 (by decide) (fun c1 => ?_) (fun c1 => ?_)
  · skip
    refine lv_iconst (v := 1) hx hb dX5_clean_12 (by decide) ?_
    refine kiV (As := [.int 1]) (rest := []) S (kX5_isFine hg u 1) (cwV 1 hts gX5_clean_X5_isFine rfl rfl rfl hdX5_isFine ⟨Nat.le_of_ble_eq_true rfl, Nat.le_of_ble_eq_true rfl⟩) rfl rfl 0 rfl rfl hE hP hS (frs hS) rfl hl.1 rfl (Nat.le_of_ble_eq_true rfl) dX5_clean_13 ⟨Nat.le_of_ble_eq_true rfl, Nat.le_of_ble_eq_true rfl⟩ (fun H locs hP _ _ hS => ?_)
    refine bzne (tgt := 21) hx hb dX5_clean_16 (by decide) (fun c2 => ?_) (fun c2 => ?_)
    · skip
      exact (by first | exact absurd rfl c2 | exact absurd c2 (by decide))
    · skip
      refine lv_iconst (v := 0) hx hb dX5_clean_19 (by decide) ?_
      exact ei hx hb hr hlk hS hP (by rw [cif_f c1]) ((cif_f c1).symm) (Nat.le_of_ble_eq_true rfl) (Nat.le_of_ble_eq_true rfl) dX5_clean_20
  · skip
    obtain ⟨a, ha, ea⟩ := in_at (n := 3) (by omega) c1
    subst ea
    have hna : nat (nI a) = a := nat_nI (by omega)
    have ha9 : a < 4 := by omega
    refine lv_iconst (v := 0) hx hb dX5_clean_8 (by decide) ?_
    refine lv_goto (tgt := 13) hx hb dX5_clean_9 (by decide) ?_
    refine kiV (As := [.int 0]) (rest := []) S (kX5_isFine hg u 0) (cwV 1 hts gX5_clean_X5_isFine rfl rfl rfl hdX5_isFine ⟨Nat.le_of_ble_eq_true rfl, Nat.le_of_ble_eq_true rfl⟩) rfl rfl 0 rfl rfl hE hP hS (frs hS) rfl hl.1 rfl (Nat.le_of_ble_eq_true rfl) dX5_clean_13 ⟨Nat.le_of_ble_eq_true rfl, Nat.le_of_ble_eq_true rfl⟩ (fun H locs hP _ _ hS => ?_)
    refine bzne (tgt := 21) hx hb dX5_clean_16 (by decide) (fun c3 => ?_) (fun c3 => ?_)
    · skip
      refine lv_iconst (v := 0) hx hb dX5_clean_21 (by decide) ?_
      refine lv_istore_n (lv' := [(2, .int 0), (0, .ref (g 0)), (1, .int (nI a))]) hx hb dX5_clean_22 rfl hl (by decide) rfl (fun ls hl => ?_)
      refine lv_bipush (v := 8) hx hb dX5_clean_23 (by decide) ?_
      refine lv_iload_n hx hb dX5_clean_25 rfl (lv_at hl 2 rfl) ?_
      refine lv_imul hx hb dX5_clean_26 ?_
      refine tpi (y := nI (8 * a)) (pk_mul 8 a) ?_
      refine lv_istore_n (lv' := [(3, .int (nI (8 * a))), (2, .int 0), (0, .ref (g 0)), (1, .int (nI a))]) hx hb dX5_clean_27 rfl hl (by decide) rfl (fun ls hl => ?_)
      have loop28 : ∀ (n28 : Nat) (i : Nat) (v : MU) (d : Nat), (hi : i ≤ 8) → (hv : clM (ms_thr u 0) N a i = (v, d)) → 8 - i < n28 → ∀ (H : Heap) (locs : List Loc), va_P D vwCl (wM K g v) H → va_S (fr L s.heap.size) s.heap H locs → ∀ (ls : Array Slot), lv_has ls 4 [(3, .int (nI (8 * a + i))), (2, .int (nI d)), (0, .ref (g 0)), (1, .int (nI a))] → W p l e rmX5_clean s m ([.ref (g 0), .int (nI a)] : List Value).toArray below meth c H locs 0 0 (MQ below (va_Qi (fun (r9 : Int32) (_ : Unit) => r9 = cif (inP (nI a) 0 3) (nI (clM (ms_thr u 0) N (nat (nI a)) 8).2) 0) (fun _ t9 => va_P D vwCl (wM K g (cif (inP (nI a) 0 3) (mcl u N (nat (nI a))) (ms_thr u 1))) t9.heap) (fr L s.heap.size)) ([.ref (g 0), .int (nI a)] : List Value).toArray s rmX5_clean.cells rmX5_clean.slots (fr L s.heap.size)) (F0 m 28 ls []) := by
        intro n28
        induction n28 with
        | zero =>
          intro i v d hi hv hn28
          exact absurd hn28 (Nat.not_lt_zero _)
        | succ n28 ih28 =>
          intro i v d hi hv hn28 H locs hP hS ls hl
          have hr9v : rM v := by have z9 := (hok a i ha9 hi).1; rw [hv] at z9; exact z9
          have hcn9 : m_cn v = nI N := by have z9 := clM_cn (u := ms_thr u 0) (N := N) (a := a) i; rw [hv] at z9; exact z9.trans hcn
          refine lv_iload_n hx hb dX5_clean_28 rfl (lv_at hl 0 rfl) ?_
          refine lv_bipush (v := 8) hx hb dX5_clean_29 (by decide) ?_
          refine lv_iload_n hx hb dX5_clean_31 rfl (lv_at hl 3 rfl) ?_
          refine lv_imul hx hb dX5_clean_32 ?_
          refine tpi (y := nI (8 * a)) (pk_mul 8 a) ?_
          refine lv_bipush (v := 8) hx hb dX5_clean_33 (by decide) ?_
          refine lv_iadd hx hb dX5_clean_35 ?_
          refine tpi (y := nI (8 * a + 8)) (nI_add (8 * a) 8) ?_
          refine lv_icmp_ge (tgt := 61) hx hb dX5_clean_36 (by decide) (fun c4 => ?_) (fun c4 => ?_)
          · skip
            have e9 : i = 8 := by have := nge_i (a := 8 * a + i) (b := 8 * a + 8) (by omega) (by omega) c4; omega
            refine lv_bipush (v := 8) hx hb dX5_clean_61 (by decide) ?_
            refine lv_iload_n hx hb dX5_clean_63 rfl (lv_at hl 3 rfl) ?_
            refine lv_imul hx hb dX5_clean_64 ?_
            refine tpi (y := nI (8 * a)) (pk_mul 8 a) ?_
            refine lv_istore_n (lv' := [(3, .int (nI (8 * a))), (2, .int (nI d)), (0, .ref (g 0)), (1, .int (nI a))]) hx hb dX5_clean_65 rfl hl (by decide) rfl (fun ls hl => ?_)
            have loop66 : ∀ (n66 : Nat) (i2 : Nat) (f : AI), (hi2 : i2 ≤ 8) → (hf : f = frM v N a i2) → 8 - i2 < n66 → ∀ (H : Heap) (locs : List Loc), va_P D vwCl (wM K g (ms_fr v f)) H → va_S (fr L s.heap.size) s.heap H locs → ∀ (ls : Array Slot), lv_has ls 4 [(3, .int (nI (8 * a + i2))), (2, .int (nI d)), (0, .ref (g 0)), (1, .int (nI a))] → W p l e rmX5_clean s m ([.ref (g 0), .int (nI a)] : List Value).toArray below meth c H locs 0 0 (MQ below (va_Qi (fun (r9 : Int32) (_ : Unit) => r9 = cif (inP (nI a) 0 3) (nI (clM (ms_thr u 0) N (nat (nI a)) 8).2) 0) (fun _ t9 => va_P D vwCl (wM K g (cif (inP (nI a) 0 3) (mcl u N (nat (nI a))) (ms_thr u 1))) t9.heap) (fr L s.heap.size)) ([.ref (g 0), .int (nI a)] : List Value).toArray s rmX5_clean.cells rmX5_clean.slots (fr L s.heap.size)) (F0 m 66 ls []) := by
              intro n66
              induction n66 with
              | zero =>
                intro i2 f hi2 hf hn66
                exact absurd hn66 (Nat.not_lt_zero _)
              | succ n66 ih66 =>
                intro i2 f hi2 hf hn66 H locs hP hS ls hl
                refine lv_iload_n hx hb dX5_clean_66 rfl (lv_at hl 0 rfl) ?_
                refine lv_bipush (v := 8) hx hb dX5_clean_67 (by decide) ?_
                refine lv_iload_n hx hb dX5_clean_69 rfl (lv_at hl 3 rfl) ?_
                refine lv_imul hx hb dX5_clean_70 ?_
                refine tpi (y := nI (8 * a)) (pk_mul 8 a) ?_
                refine lv_bipush (v := 8) hx hb dX5_clean_71 (by decide) ?_
                refine lv_iadd hx hb dX5_clean_73 ?_
                refine tpi (y := nI (8 * a + 8)) (nI_add (8 * a) 8) ?_
                refine lv_icmp_ge (tgt := 142) hx hb dX5_clean_74 (by decide) (fun c5 => ?_) (fun c5 => ?_)
                · skip
                  have e8 : i2 = 8 := by have := nge_i (a := 8 * a + i2) (b := 8 * a + 8) (by omega) (by omega) c5; omega
                  refine lv_aload_n hx hb dX5_clean_142 rfl (lv_at hl 2 rfl) ?_
                  refine gw5_isMapped S i5 hE hP (hts _ (List.mem_of_getElem? (i := 5) rfl)) dX5_clean_143 ?_
                  refine lv_iload_n hx hb dX5_clean_146 rfl (lv_at hl 3 rfl) ?_
                  refine lv_aload_n hx hb dX5_clean_147 rfl (lv_at hl 2 rfl) ?_
                  refine lv_iload_n hx hb dX5_clean_148 rfl (lv_at hl 3 rfl) ?_
                  refine kiV (As := [.int (nI a)]) (rest := [.int (nI a), .ref (g 11)]) S (kX5_isWholeNow hg (ms_fr v f) a (by omega) N hN hcn9 hr9v) (cwV 1 hts gX5_clean_X5_isWholeNow rfl rfl rfl hdX5_isWholeNow ⟨Nat.le_of_ble_eq_true rfl, Nat.le_of_ble_eq_true rfl⟩) rfl rfl 0 rfl rfl hE hP hS (frs hS) rfl hl.1 rfl (Nat.le_of_ble_eq_true rfl) dX5_clean_149 ⟨Nat.le_of_ble_eq_true rfl, Nat.le_of_ble_eq_true rfl⟩ (fun H locs hP _ _ hS => ?_)
                  refine sM_mp S hE hP fb_vp hg hS (j := a) (by omega) rfl dX5_clean_152 (fun H locs hP hS => ?_)
                  have hP : va_P D vwCl (wM K g (ms_mp (ms_fr v f) (upd (m_mp v) a (fb (whM (ms_fr v f) N a 8))))) H := hP
                  refine lv_iload_n hx hb dX5_clean_153 rfl (lv_at hl 1 rfl) ?_
                  exact ei hx hb hr hlk hS hP (by rw [e8] at hf; rw [e9] at hv; rw [cif_t c1, hna]; simp only [mcl, hv, hf]; rfl) (by rw [cif_t c1, hna, ← e9, hv]) (Nat.le_of_ble_eq_true rfl) (Nat.le_of_ble_eq_true rfl) dX5_clean_154
                · skip
                  have hl2 : i2 < 8 := by have := nlt_i (a := 8 * a + i2) (b := 8 * a + 8) (by omega) (by omega) c5; omega
                  have hfi : f (8 * a + i2) = m_fr v (8 * a + i2) := by rw [hf]; exact frM_at i2 _ (by omega)
                  have hbo : m_b v (8 * a + i2) = nI (nat (m_b v (8 * a + i2))) ∧ nat (m_b v (8 * a + i2)) < 60 := (hr9v.2.1 (8 * a + i2) (by omega)).1
                  refine lv_aload_n hx hb dX5_clean_77 rfl (lv_at hl 2 rfl) ?_
                  refine gw5_isFrozen S i5 hE hP (hts _ (List.mem_of_getElem? (i := 1) rfl)) dX5_clean_78 ?_
                  refine lv_iload_n hx hb dX5_clean_81 rfl (lv_at hl 0 rfl) ?_
                  refine lv_aload_n hx hb dX5_clean_82 rfl (lv_at hl 2 rfl) ?_
                  refine gw5_isFrozen S i5 hE hP (hts _ (List.mem_of_getElem? (i := 1) rfl)) dX5_clean_83 ?_
                  refine lv_iload_n hx hb dX5_clean_86 rfl (lv_at hl 0 rfl) ?_
                  refine lM_fr S hE hP (f := f) rfl (j := (8 * a + i2)) (by omega) rfl dX5_clean_87 ?_
                  refine lv_if_ne (tgt := 130) hx hb dX5_clean_88 (by decide) (fun c6 => ?_) (fun c6 => ?_)
                  · skip
                    have yes : fzM v N (8 * a + i2) := Or.inl (by rw [← hfi]; exact c6)
                    refine lv_iconst (v := 1) hx hb dX5_clean_130 (by decide) ?_
                    refine lv_goto (tgt := 135) hx hb dX5_clean_131 (by decide) ?_
                    refine tpi (y := fb (fzM v N (8 * a + i2))) (by first | exact t_fb yes | exact f_fb no) ?_
                    refine sM_fr S hE hP fb_vp hg hS (j := (8 * a + i2)) (by omega) rfl dX5_clean_135 (fun H locs hP hS => ?_)
                    have hP : va_P D vwCl (wM K g (ms_fr (ms_fr v f) (upd f (8 * a + i2) (fb (fzM v N (8 * a + i2)))))) H := hP
                    refine lv_iinc (v := nI ((8 * a + i2) + 1)) (lv' := [(3, .int (nI ((8 * a + i2) + 1))), (2, .int (nI d)), (0, .ref (g 0)), (1, .int (nI a))]) hx hb dX5_clean_136 hl (k := 0) rfl (nI_1 (8 * a + i2)) (by decide) rfl (fun ls hl => ?_)
                    refine lv_goto (tgt := 66) hx hb dX5_clean_139 (by decide) ?_
                    exact ih66 (i2 + 1) (upd f (8 * a + i2) (fb (fzM v N (8 * a + i2)))) (by omega) (by rw [hf]; rfl) (by omega) _ _ hP hS ls (lv_sub hl [0, 1, 2, 3] rfl)
                  · skip
                    have f0 : m_fr v (8 * a + i2) = 0 := hfi.symm.trans c6
                    refine lv_aload_n hx hb dX5_clean_91 rfl (lv_at hl 2 rfl) ?_
                    refine gw5_isUsed S i5 hE hP (hts _ (List.mem_of_getElem? (i := 2) rfl)) dX5_clean_92 ?_
                    refine lv_iload_n hx hb dX5_clean_95 rfl (lv_at hl 0 rfl) ?_
                    refine lM_us S hE hP (f := m_us v) rfl (j := (8 * a + i2)) (by omega) rfl dX5_clean_96 ?_
                    refine lv_if_eq (tgt := 134) hx hb dX5_clean_97 (by decide) (fun c7 => ?_) (fun c7 => ?_)
                    · skip
                      have no : ¬ fzM v N (8 * a + i2) := fun z => z.elim (fun z => z f0) (fun z => z.1 c7)
                      refine lv_iconst (v := 0) hx hb dX5_clean_134 (by decide) ?_
                      refine tpi (y := fb (fzM v N (8 * a + i2))) (by first | exact t_fb yes | exact f_fb no) ?_
                      refine sM_fr S hE hP fb_vp hg hS (j := (8 * a + i2)) (by omega) rfl dX5_clean_135 (fun H locs hP hS => ?_)
                      have hP : va_P D vwCl (wM K g (ms_fr (ms_fr v f) (upd f (8 * a + i2) (fb (fzM v N (8 * a + i2)))))) H := hP
                      refine lv_iinc (v := nI ((8 * a + i2) + 1)) (lv' := [(3, .int (nI ((8 * a + i2) + 1))), (2, .int (nI d)), (0, .ref (g 0)), (1, .int (nI a))]) hx hb dX5_clean_136 hl (k := 0) rfl (nI_1 (8 * a + i2)) (by decide) rfl (fun ls hl => ?_)
                      refine lv_goto (tgt := 66) hx hb dX5_clean_139 (by decide) ?_
                      exact ih66 (i2 + 1) (upd f (8 * a + i2) (fb (fzM v N (8 * a + i2)))) (by omega) (by rw [hf]; rfl) (by omega) _ _ hP hS ls (lv_sub hl [0, 1, 2, 3] rfl)
                    · skip
                      have us : ¬ m_us v (8 * a + i2) = 0 := c7
                      refine lv_aload_n hx hb dX5_clean_100 rfl (lv_at hl 2 rfl) ?_
                      refine lv_aload_n hx hb dX5_clean_101 rfl (lv_at hl 2 rfl) ?_
                      refine gw5_birth S i5 hE hP (hts _ (List.mem_of_getElem? (i := 3) rfl)) dX5_clean_102 ?_
                      refine lv_iload_n hx hb dX5_clean_105 rfl (lv_at hl 0 rfl) ?_
                      refine lM_b S hE hP (f := m_b v) rfl (j := (8 * a + i2)) (by omega) rfl dX5_clean_106 ?_
                      refine tpi (y := nI (nat (m_b v (8 * a + i2)))) hbo.1 ?_
                      refine kiV (As := [.int (nI (nat (m_b v (8 * a + i2))))]) (rest := [.int (nI (8 * a + i2)), .ref (g 8)]) S (kX5_ageOf hg (ms_fr v f) (nat (m_b v (8 * a + i2))) (by omega)) (cwV 1 hts gX5_clean_X5_ageOf rfl rfl rfl hdX5_ageOf ⟨Nat.le_of_ble_eq_true rfl, Nat.le_of_ble_eq_true rfl⟩) rfl rfl 0 rfl rfl hE hP hS (frs hS) rfl hl.1 rfl (Nat.le_of_ble_eq_true rfl) dX5_clean_107 ⟨Nat.le_of_ble_eq_true rfl, Nat.le_of_ble_eq_true rfl⟩ (fun H locs hP _ _ hS => ?_)
                      refine lv_aload_n hx hb dX5_clean_110 rfl (lv_at hl 2 rfl) ?_
                      refine gw5_freezing S i5 hE hP (f := m_fz v) rfl (hts _ (List.mem_of_getElem? (i := 4) rfl)) dX5_clean_111 ?_
                      refine lv_icmp_lt (tgt := 134) hx hb dX5_clean_114 (by decide) (fun c8 => ?_) (fun c8 => ?_)
                      · skip
                        have no : ¬ fzM v N (8 * a + i2) := fun z => z.elim (fun z => z f0) (fun z => z.2.1 c8)
                        refine lv_iconst (v := 0) hx hb dX5_clean_134 (by decide) ?_
                        refine tpi (y := fb (fzM v N (8 * a + i2))) (by first | exact t_fb yes | exact f_fb no) ?_
                        refine sM_fr S hE hP fb_vp hg hS (j := (8 * a + i2)) (by omega) rfl dX5_clean_135 (fun H locs hP hS => ?_)
                        have hP : va_P D vwCl (wM K g (ms_fr (ms_fr v f) (upd f (8 * a + i2) (fb (fzM v N (8 * a + i2)))))) H := hP
                        refine lv_iinc (v := nI ((8 * a + i2) + 1)) (lv' := [(3, .int (nI ((8 * a + i2) + 1))), (2, .int (nI d)), (0, .ref (g 0)), (1, .int (nI a))]) hx hb dX5_clean_136 hl (k := 0) rfl (nI_1 (8 * a + i2)) (by decide) rfl (fun ls hl => ?_)
                        refine lv_goto (tgt := 66) hx hb dX5_clean_139 (by decide) ?_
                        exact ih66 (i2 + 1) (upd f (8 * a + i2) (fb (fzM v N (8 * a + i2)))) (by omega) (by rw [hf]; rfl) (by omega) _ _ hP hS ls (lv_sub hl [0, 1, 2, 3] rfl)
                      · skip
                        have ol : ¬ ag v (nat (m_b v (8 * a + i2))) < m_fz v := c8
                        refine lv_aload_n hx hb dX5_clean_117 rfl (lv_at hl 2 rfl) ?_
                        refine lv_aload_n hx hb dX5_clean_118 rfl (lv_at hl 2 rfl) ?_
                        refine gw5_birth S i5 hE hP (hts _ (List.mem_of_getElem? (i := 3) rfl)) dX5_clean_119 ?_
                        refine lv_iload_n hx hb dX5_clean_122 rfl (lv_at hl 0 rfl) ?_
                        refine lM_b S hE hP (f := m_b v) rfl (j := (8 * a + i2)) (by omega) rfl dX5_clean_123 ?_
                        refine tpi (y := nI (nat (m_b v (8 * a + i2)))) hbo.1 ?_
                        refine kiV (As := [.int (nI (nat (m_b v (8 * a + i2))))]) (rest := [.int (nI (8 * a + i2)), .ref (g 8)]) S (kX5_isPast hg (ms_fr v f) (nat (m_b v (8 * a + i2))) (by omega) N hN hcn9) (cwV 1 hts gX5_clean_X5_isPast rfl rfl rfl hdX5_isPast ⟨Nat.le_of_ble_eq_true rfl, Nat.le_of_ble_eq_true rfl⟩) rfl rfl 0 rfl rfl hE hP hS (frs hS) rfl hl.1 rfl (Nat.le_of_ble_eq_true rfl) dX5_clean_124 ⟨Nat.le_of_ble_eq_true rfl, Nat.le_of_ble_eq_true rfl⟩ (fun H locs hP _ _ hS => ?_)
                        refine bzeq (tgt := 134) hx hb dX5_clean_127 (by decide) (fun c9 => ?_) (fun c9 => ?_)
                        · skip
                          have no : ¬ fzM v N (8 * a + i2) := fun z => z.elim (fun z => z f0) (fun z => c9 z.2.2)
                          refine lv_iconst (v := 0) hx hb dX5_clean_134 (by decide) ?_
                          refine tpi (y := fb (fzM v N (8 * a + i2))) (by first | exact t_fb yes | exact f_fb no) ?_
                          refine sM_fr S hE hP fb_vp hg hS (j := (8 * a + i2)) (by omega) rfl dX5_clean_135 (fun H locs hP hS => ?_)
                          have hP : va_P D vwCl (wM K g (ms_fr (ms_fr v f) (upd f (8 * a + i2) (fb (fzM v N (8 * a + i2)))))) H := hP
                          refine lv_iinc (v := nI ((8 * a + i2) + 1)) (lv' := [(3, .int (nI ((8 * a + i2) + 1))), (2, .int (nI d)), (0, .ref (g 0)), (1, .int (nI a))]) hx hb dX5_clean_136 hl (k := 0) rfl (nI_1 (8 * a + i2)) (by decide) rfl (fun ls hl => ?_)
                          refine lv_goto (tgt := 66) hx hb dX5_clean_139 (by decide) ?_
                          exact ih66 (i2 + 1) (upd f (8 * a + i2) (fb (fzM v N (8 * a + i2)))) (by omega) (by rw [hf]; rfl) (by omega) _ _ hP hS ls (lv_sub hl [0, 1, 2, 3] rfl)
                        · skip
                          have yes : fzM v N (8 * a + i2) := Or.inr ⟨us, ol, c9⟩
                          refine lv_iconst (v := 1) hx hb dX5_clean_130 (by decide) ?_
                          refine lv_goto (tgt := 135) hx hb dX5_clean_131 (by decide) ?_
                          refine tpi (y := fb (fzM v N (8 * a + i2))) (by first | exact t_fb yes | exact f_fb no) ?_
                          refine sM_fr S hE hP fb_vp hg hS (j := (8 * a + i2)) (by omega) rfl dX5_clean_135 (fun H locs hP hS => ?_)
                          have hP : va_P D vwCl (wM K g (ms_fr (ms_fr v f) (upd f (8 * a + i2) (fb (fzM v N (8 * a + i2)))))) H := hP
                          refine lv_iinc (v := nI ((8 * a + i2) + 1)) (lv' := [(3, .int (nI ((8 * a + i2) + 1))), (2, .int (nI d)), (0, .ref (g 0)), (1, .int (nI a))]) hx hb dX5_clean_136 hl (k := 0) rfl (nI_1 (8 * a + i2)) (by decide) rfl (fun ls hl => ?_)
                          refine lv_goto (tgt := 66) hx hb dX5_clean_139 (by decide) ?_
                          exact ih66 (i2 + 1) (upd f (8 * a + i2) (fb (fzM v N (8 * a + i2)))) (by omega) (by rw [hf]; rfl) (by omega) _ _ hP hS ls (lv_sub hl [0, 1, 2, 3] rfl)
            exact loop66 _ 0 (m_fr v) (by omega) rfl (Nat.lt_succ_self _) _ _ hP hS ls (lv_sub hl [0, 1, 2, 3] rfl)
          · skip
            have hlt : i < 8 := by have := nlt_i (a := 8 * a + i) (b := 8 * a + 8) (by omega) (by omega) c4; omega
            refine lv_aload_n hx hb dX5_clean_39 rfl (lv_at hl 2 rfl) ?_
            refine lv_iload_n hx hb dX5_clean_40 rfl (lv_at hl 0 rfl) ?_
            refine kiV (As := [.int (nI (8 * a + i))]) (rest := []) S (kX5_canGo hg v (8 * a + i) (by omega) N hN hcn9 hr9v) (cwV 1 hts gX5_clean_X5_canGo rfl rfl rfl hdX5_canGo ⟨Nat.le_of_ble_eq_true rfl, Nat.le_of_ble_eq_true rfl⟩) rfl rfl 0 rfl rfl hE hP hS (frs hS) rfl hl.1 rfl (Nat.le_of_ble_eq_true rfl) dX5_clean_41 ⟨Nat.le_of_ble_eq_true rfl, Nat.le_of_ble_eq_true rfl⟩ (fun H locs hP _ _ hS => ?_)
            refine bzeq (tgt := 55) hx hb dX5_clean_44 (by decide) (fun c10 => ?_) (fun c10 => ?_)
            · skip
              refine lv_iinc (v := nI ((8 * a + i) + 1)) (lv' := [(3, .int (nI ((8 * a + i) + 1))), (2, .int (nI d)), (0, .ref (g 0)), (1, .int (nI a))]) hx hb dX5_clean_55 hl (k := 0) rfl (nI_1 (8 * a + i)) (by decide) rfl (fun ls hl => ?_)
              refine lv_goto (tgt := 28) hx hb dX5_clean_58 (by decide) ?_
              exact ih28 (i + 1) v d (by omega) (by first | exact clM_y hv c10 | exact clM_n hv c10) (by omega) _ _ hP hS ls (lv_sub hl [0, 1, 2, 3] rfl)
            · skip
              have hk9 : nat (m_k v (8 * a + i)) < 6 := (hr9v.2.1 (8 * a + i) (by omega)).2.2.2.2
              have hkq9 := (hr9v.2.1 (8 * a + i) (by omega)).2.2.2.1
              have hn9 : nat (m_ec v (nat (m_k v (8 * a + i)))) ≤ 32 := by have := (hr9v.2.2 _ hk9).1.2; omega
              have hec9 := (hr9v.2.2 _ hk9).1.1
              have hnx9 : ¬ m_n v (8 * a + i) = nI (8 * a + i) := by have z9 := (hok a i ha9 hi).2 hlt; rw [hv] at z9; exact z9 c10
              refine lv_aload_n hx hb dX5_clean_47 rfl (lv_at hl 2 rfl) ?_
              refine lv_iload_n hx hb dX5_clean_48 rfl (lv_at hl 0 rfl) ?_
              refine kvV (As := [.int (nI (8 * a + i))]) (rest := []) S (kX5_leaves hg v (8 * a + i) (nat (m_k v (8 * a + i))) (nat (m_ec v (nat (m_k v (8 * a + i))))) (by omega) hk9 hn9 hkq9 hec9 hnx9) (cwV 1 hts gX5_clean_X5_leaves rfl rfl rfl hdX5_leaves ⟨Nat.le_of_ble_eq_true rfl, Nat.le_of_ble_eq_true rfl⟩) rfl rfl 0 rfl rfl hE hP hS (frs hS) rfl hl.1 rfl (Nat.le_of_ble_eq_true rfl) dX5_clean_49 ⟨Nat.le_of_ble_eq_true rfl, Nat.le_of_ble_eq_true rfl⟩ (fun H locs hP _ _ hS => ?_)
              refine lv_iinc (v := nI (d + 1)) (lv' := [(2, .int (nI (d + 1))), (3, .int (nI (8 * a + i))), (0, .ref (g 0)), (1, .int (nI a))]) hx hb dX5_clean_52 hl (k := 1) rfl (nI_1 d) (by decide) rfl (fun ls hl => ?_)
              refine lv_iinc (v := nI ((8 * a + i) + 1)) (lv' := [(3, .int (nI ((8 * a + i) + 1))), (2, .int (nI (d + 1))), (0, .ref (g 0)), (1, .int (nI a))]) hx hb dX5_clean_55 hl (k := 1) rfl (nI_1 (8 * a + i)) (by decide) rfl (fun ls hl => ?_)
              refine lv_goto (tgt := 28) hx hb dX5_clean_58 (by decide) ?_
              exact ih28 (i + 1) (mlv v (8 * a + i) (nat (m_k v (8 * a + i))) (nat (m_ec v (nat (m_k v (8 * a + i)))))) (d + 1) (by omega) (by first | exact clM_y hv c10 | exact clM_n hv c10) (by omega) _ _ hP hS ls (lv_sub hl [0, 1, 2, 3] rfl)
      exact loop28 _ 0 (ms_thr u 0) 0 (by omega) rfl (Nat.lt_succ_self _) _ _ hP hS ls (lv_sub hl [0, 1, 2, 3] rfl)
    · skip
      exact (by first | exact absurd rfl c3 | exact absurd c3 (by decide))

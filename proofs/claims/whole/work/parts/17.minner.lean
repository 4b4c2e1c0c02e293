/-! ===== RowPagesModel: the inner methods ===== -/
noncomputable def cif {α : Type} (q : Prop) (a b : α) : α := @ite _ q (Classical.propDecidable q) a b
theorem cif_t {α : Type} {q : Prop} {a b : α} (h : q) : cif q a b = a := if_pos h
theorem cif_f {α : Type} {q : Prop} {a b : α} (h : ¬ q) : cif q a b = b := if_neg h
/-- one of the first n numbers; or -1 -/
def rng (x : Int32) (n : Nat) : Prop := x = nI (nat x) ∧ nat x < n
def rngO (x : Int32) (n : Nat) : Prop := x = -1 ∨ rng x n
theorem rO {x : Int32} {n : Nat} (h : rngO x n) (h2 : ¬ x = -1) : rng x n := h.elim (fun k => absurd k h2) id
theorem rng_nI {j n : Nat} (hn : n < 2 ^ 31) (h : j < n) : rng (nI j) n := ⟨by rw [nat_nI (by omega)], by rw [nat_nI (by omega)]; exact h⟩
theorem rng_o {x : Int32} {n : Nat} (h : rng x n) : ∃ j, j < n ∧ x = nI j := ⟨nat x, h.2, h.1⟩
/-- what the reference's rows hold, used or not -/
def rM (u : MU) : Prop := rng (m_cn u) 61 ∧ (∀ q, q < 32 → rng (m_b u q) 60 ∧ rngO (m_d u q) 60 ∧ rngO (m_n u q) 32 ∧ rng (m_k u q) 6) ∧ (∀ k, k < 6 → rng (m_ec u k) 33 ∧ ∀ e, e < nat (m_ec u k) → rng (m_en u (64 * k + e)) 32)
def inP (x a b : Int32) : Prop := ¬ x < a ∧ ¬ b < x
def trP (u : MU) (x : Int32) : Prop := inP x 0 (m_cn u - 1)
theorem tr_at {u : MU} {N : Nat} {x : Int32} (hN : N < 2 ^ 31) (hcn : m_cn u = nI N) (h : trP u x) : ∃ t : Nat, t < N ∧ x = nI t := by
  obtain ⟨h1, h2⟩ := h
  obtain ⟨j, hj, rfl⟩ := nI_of h1
  refine ⟨j, ?_, rfl⟩
  rw [hcn] at h2
  cases N with
  | zero =>
    have e : (nI 0 - 1 : Int32).toInt = -1 := by decide +kernel
    have h3 : nI 0 - 1 < nI j := by rw [i_lt, nI_toInt hj, e]; omega
    exact absurd h3 h2
  | succ n => rw [nI_pred] at h2; have := nnltI (a := n) (b := j) (by omega) hj h2; omega
theorem in_at {x : Int32} {n : Nat} (hn : n < 2 ^ 31) (h : inP x 0 (nI n)) : ∃ t : Nat, t < n + 1 ∧ x = nI t := by
  obtain ⟨j, hj, rfl⟩ := nI_of h.1
  exact ⟨j, by have := nnltI (a := n) (b := j) hn hj h.2; omega, rfl⟩
theorem sshr_bit {S : Int64} {j : Nat} (hj : j < 60) : (S >>> ((nI j).toInt64 &&& 63)) &&& 1 = 1 ↔ bitL S j := by
  rw [wb_c j (by omega)]
  unfold bitL
  rw [show ((S >>> lN j) &&& 1 = 1) ↔ ((S >>> lN j) &&& 1).toBitVec = (1 : Int64).toBitVec from ⟨fun h => by rw [h], fun h => Int64.toBitVec_inj.mp h⟩]
  rw [Int64.toBitVec_and, Int64.toBitVec_shiftRight]
  have e : ((lN j).toBitVec.smod 64).toNat = j := by
    rw [wb_tb, wb_sm j (by omega), BitVec.toNat_ofNat, Nat.mod_eq_of_lt (by omega)]
  have e2 : ∀ x : BitVec 64, x &&& (1 : Int64).toBitVec = (1 : Int64).toBitVec ↔ x.getLsbD 0 = true := by
    intro x
    have e3 : (1 : Int64).toBitVec = 1#64 := rfl
    rw [e3]
    constructor
    · intro h
      have := congrArg (fun z => BitVec.getLsbD z 0) h
      simpa using this
    · intro h
      apply BitVec.eq_of_getLsbD_eq
      intro i hi
      simp only [BitVec.getLsbD_and, BitVec.getLsbD_one]
      by_cases hi0 : i = 0
      · subst hi0; simp [h]
      · simp [hi0]
  rw [e2]
  first
    | (rw [show S.toBitVec.sshiftRight' ((lN j).toBitVec.smod 64) = S.toBitVec.sshiftRight j by unfold BitVec.sshiftRight'; rw [e]]; rw [BitVec.getLsbD_sshiftRight]; simp; omega)
    | (simp [BitVec.sshiftRight', e, BitVec.getLsbD_sshiftRight]; omega)
def ag (u : MU) (t : Nat) : Int32 := ((m_ns u - m_st u t) + 64) - ((m_ns u - m_st u t) + 64) / 64 * 64
def paP (u : MU) (t n : Nat) : Prop := m_sta u t = 1 ∧ ∀ a, a < n → m_sta u a = 0 → bitL (m_sn u a) t
theorem paP_y {u : MU} {t n : Nat} (h : paP u t n) (h2 : m_sta u n = 0 → bitL (m_sn u n) t) : paP u t (n + 1) := ⟨h.1, fun a ha ha0 => by
  by_cases e : a = n
  · subst e; exact h2 ha0
  · exact h.2 a (by omega) ha0⟩
theorem paP_d {u : MU} {t n : Nat} (h : paP u t (n + 1)) : paP u t n := ⟨h.1, fun a ha ha0 => h.2 a (by omega) ha0⟩
def mg (x y : Int32) : Int32 := if x ≤ y then y else x
noncomputable def bo (u : MU) (i : Nat) : Int32 := cif (¬ m_us u i = 0 ∧ m_fr u i = 0) (ag u (nat (m_b u i))) 0
noncomputable def di (u : MU) (i : Nat) : Int32 := cif (¬ m_us u i = 0 ∧ ¬ m_d u i = -1) (ag u (nat (m_d u i))) 0
noncomputable def og1 (u : MU) : Nat → Int32
  | 0 => 0
  | n + 1 => mg (di u n) (mg (bo u n) (og1 u n))
noncomputable def og2 (u : MU) : Nat → Int32
  | 0 => og1 u 32
  | n + 1 => cif (m_sta u n = 0 ∧ ¬ ag u n ≤ og2 u n) (ag u n) (og2 u n)
def knM (u : MU) (t : Nat) (x : Int32) : Prop := x = nI t ∨ bitL (m_sn u t) (nat x)
def seM (u : MU) (t q : Nat) : Prop := (¬ m_fr u q = 0 ∨ knM u t (m_b u q)) ∧ (m_d u q = -1 ∨ ¬ knM u t (m_d u q))
/-- the chain from x on ends within n steps -/
def ends (u : MU) : Nat → Int32 → Prop
  | 0, x => x = -1
  | n + 1, x => x = -1 ∨ (rng x 32 ∧ ends u n (m_n u (nat x)))
noncomputable def mch (u : MU) (t : Nat) : Nat → Int32 → Int32
  | 0, _ => -1
  | n + 1, x => cif (x = -1) (-1) (cif (seM u t (nat x)) x (mch u t n (m_n u (nat x))))
theorem mch_m {u : MU} {t n : Nat} : mch u t n (-1) = -1 := by
  cases n with
  | zero => rfl
  | succ n => rw [mch]; exact cif_t rfl
theorem mch_y {u : MU} {t n j : Nat} (hj : j < 32) (h : seM u t j) : mch u t (n + 1) (nI j) = nI j := by
  rw [mch, nat_nI (by omega), cif_f (nI_m1 j (by omega)), cif_t h]
theorem mch_n {u : MU} {t n j : Nat} (hj : j < 32) (h : ¬ seM u t j) : mch u t (n + 1) (nI j) = mch u t n (m_n u j) := by
  rw [mch, nat_nI (by omega), cif_f (nI_m1 j (by omega)), cif_f h]
noncomputable def msn (u : MU) (t k : Nat) : Nat → Int32
  | 0 => -1
  | n + 1 => cif (mch u t 8 (m_en u (64 * k + n)) = -1) (msn u t k n) (mch u t 8 (m_en u (64 * k + n)))
def baP (u : MU) (t : Nat) (x : Int32) : Prop := ¬ x = -1 ∧ ¬ x = nI t ∧ (m_sta u (nat x) = 0 ∨ (m_sta u (nat x) = 1 ∧ ¬ bitL (m_sn u t) (nat x)))
def rf1 (u : MU) (t k j : Nat) : Prop := ¬ m_us u j = 0 ∧ m_k u j = nI k ∧ (baP u t (m_b u j) ∨ baP u t (m_d u j))
def rfM (u : MU) (t k n : Nat) : Prop := ∃ j, j < n ∧ rf1 u t k j
theorem rfM_s {u : MU} {t k n : Nat} : rfM u t k (n + 1) ↔ rfM u t k n ∨ rf1 u t k n := by
  constructor
  · rintro ⟨j, hj, h⟩
    by_cases e : j = n
    · subst e; exact Or.inr h
    · exact Or.inl ⟨j, by omega, h⟩
  · rintro (⟨j, hj, h⟩ | h)
    · exact ⟨j, by omega, h⟩
    · exact ⟨n, by omega, h⟩
theorem rfM_0 {u : MU} {t k : Nat} : ¬ rfM u t k 0 := fun ⟨j, hj, _⟩ => absurd hj (Nat.not_lt_zero _)
/-- the lowest free of n places from a on -/
def lfm (f : AI) : Nat → Nat → Int32
  | _, 0 => -1
  | a, n + 1 => if f a = 0 then nI a else lfm f (a + 1) n
def mpu (u : MU) (t q : Nat) (k z : Int32) : MU := ms_mp (ms_n (ms_d (ms_fr (ms_b (ms_v (ms_k (ms_us u (upd (m_us u) q 1)) (upd (m_k u) q k)) (upd (m_v u) q z)) (upd (m_b u) q (nI t))) (upd (m_fr u) q 0)) (upd (m_d u) q (-1))) (upd (m_n u) q (-1))) (upd (m_mp u) (q / 8) 0)
def mdi (u : MU) (t q : Nat) : MU := ms_mp (ms_d u (upd (m_d u) q (nI t))) (upd (m_mp u) (q / 8) 0)
def cgM (u : MU) (q N : Nat) : Prop := ¬ m_us u q = 0 ∧ (m_sta u (nat (m_b u q)) = 2 ∨ (¬ m_d u q = -1 ∧ paP u (nat (m_d u q)) N))
def wh1 (u : MU) (N j : Nat) : Prop := m_us u j = 0 ∨ (m_d u j = -1 ∧ (¬ m_fr u j = 0 ∨ paP u (nat (m_b u j)) N))
def whM (u : MU) (N a n : Nat) : Prop := ∀ j, j < n → wh1 u N (8 * a + j)
theorem whM_s {u : MU} {N a n : Nat} : whM u N a (n + 1) ↔ whM u N a n ∧ wh1 u N (8 * a + n) := by
  constructor
  · exact fun h => ⟨fun j hj => h j (by omega), h n (by omega)⟩
  · intro h j hj
    by_cases e : j = n
    · subst e; exact h.2
    · exact h.1 j (by omega)
def rmX5_isFine : Room := { frames := 0, cells := 0, slots := 0, locals := 0 }
theorem hdX5_isFine : yX5_isFine.cls = RX5 ∧ yX5_isFine.cls ≠ "java/lang/invoke/MethodHandle" ∧ yX5_isFine.cls ≠ "java/lang/invoke/VarHandle" ∧ (parseMethodDescriptor yX5_isFine.desc).map (fun d => d.parameters.length) = some 1 := by decide +kernel
set_option maxHeartbeats 4000000 in
set_option maxRecDepth 100000 in
theorem kX5_isFine {l : Launch} {D : va_G} {K : Nat → ClassId} {L : Nat → Prop} {g : Nat → Nat} (hg : gd L g 14) (u : MU) (x : Int32) : CI l yX5_isFine wsX5_isFine rmX5_isFine D K L [.ref (g 0), .int x] (wM K g u) (wM K g (ms_thr u x)) (fb (x = 0)) := by
  refine CI.of (cc := cX5_isFine) (maxL := 2) (ret := (some .boolean)) (by decide +kernel) rfl (Nat.le_of_ble_eq_true rfl) ?_
  intro p e s m below meth c ls hen hP
  obtain ⟨hx, hb, hr, hts, hown, hlk, hml, hnm, hE, hl⟩ := hen
  have S : CallFix p m c cX5_isFine 2 s _ wsX5_isFine RX5 := ⟨hx, hb, hml, hown, hts⟩
  have hS : va_S (fr L s.heap.size) s.heap s.heap [] := va_S.rf
  have hl : lv_has ls 2 [(0, .ref (g 0)), (1, .int x)] := hl
  have i5 : ∀ w ∈ wsX50, w ∈ wsX5_isFine := fun _ h => List.mem_cons_of_mem _ (List.mem_append_right _ h)
  refine lv_aload_n hx hb dX5_isFine_0 rfl (lv_at hl 0 rfl) ?_
  refine lv_iload_n hx hb dX5_isFine_1 rfl (lv_at hl 1 rfl) ?_
  refine pw5_thrown S i5 hE hP hg hS (hts _ (List.mem_of_getElem? (i := 1) rfl)) dX5_isFine_2 (fun H locs hP hS => ?_)
  refine lv_iload_n hx hb dX5_isFine_5 rfl (lv_at hl 1 rfl) ?_
  refine lv_if_ne (tgt := 13) hx hb dX5_isFine_6 (by decide) (fun c1 => ?_) (fun c1 => ?_)
  · skip
    refine lv_iconst (v := 0) hx hb dX5_isFine_13 (by decide) ?_
    exact ez hx hb hr hlk hS hP rfl (by first | exact t_fb c1 | exact f_fb c1) rfl (Nat.le_of_ble_eq_true rfl) (Nat.le_of_ble_eq_true rfl) dX5_isFine_14
  · skip
    refine lv_iconst (v := 1) hx hb dX5_isFine_9 (by decide) ?_
    refine lv_goto (tgt := 14) hx hb dX5_isFine_10 (by decide) ?_
    exact ez hx hb hr hlk hS hP rfl (by first | exact t_fb c1 | exact f_fb c1) rfl (Nat.le_of_ble_eq_true rfl) (Nat.le_of_ble_eq_true rfl) dX5_isFine_14
def rmX5_isIn : Room := { frames := 0, cells := 0, slots := 0, locals := 0 }
theorem hdX5_isIn : yX5_isIn.cls = RX5 ∧ yX5_isIn.cls ≠ "java/lang/invoke/MethodHandle" ∧ yX5_isIn.cls ≠ "java/lang/invoke/VarHandle" ∧ (parseMethodDescriptor yX5_isIn.desc).map (fun d => d.parameters.length) = some 3 := by decide +kernel
set_option maxHeartbeats 4000000 in
set_option maxRecDepth 100000 in
theorem kX5_isIn {l : Launch} {D : va_G} {K : Nat → ClassId} {L : Nat → Prop} {w : va_W} (x y z : Int32) : CI l yX5_isIn wsX5_isIn rmX5_isIn D K L [.int x, .int y, .int z] w w (fb (inP x y z)) := by
  refine CI.of (cc := cX5_isIn) (maxL := 3) (ret := (some .boolean)) (by decide +kernel) rfl (Nat.le_of_ble_eq_true rfl) ?_
  intro p e s m below meth c ls hen hP
  obtain ⟨hx, hb, hr, hts, hown, hlk, hml, hnm, hE, hl⟩ := hen
  have S : CallFix p m c cX5_isIn 3 s _ wsX5_isIn RX5 := ⟨hx, hb, hml, hown, hts⟩
  have hS : va_S (fr L s.heap.size) s.heap s.heap [] := va_S.rf
  have hl : lv_has ls 3 [(0, .int x), (1, .int y), (2, .int z)] := hl
  refine lv_iload_n hx hb dX5_isIn_0 rfl (lv_at hl 0 rfl) ?_
  refine lv_iload_n hx hb dX5_isIn_1 rfl (lv_at hl 1 rfl) ?_
  refine lv_icmp_lt (tgt := 14) hx hb dX5_isIn_2 (by decide) (fun c1 => ?_) (fun c1 => ?_)
  · skip
    have no : ¬ inP x y z := fun k => k.1 c1
    refine lv_iconst (v := 0) hx hb dX5_isIn_14 (by decide) ?_
    exact ez hx hb hr hlk hS hP rfl (by first | exact f_fb no | exact t_fb yes) rfl (Nat.le_of_ble_eq_true rfl) (Nat.le_of_ble_eq_true rfl) dX5_isIn_15
  · skip
    refine lv_iload_n hx hb dX5_isIn_5 rfl (lv_at hl 0 rfl) ?_
    refine lv_iload_n hx hb dX5_isIn_6 rfl (lv_at hl 2 rfl) ?_
    refine lv_icmp_gt (tgt := 14) hx hb dX5_isIn_7 (by decide) (fun c2 => ?_) (fun c2 => ?_)
    · skip
      have no : ¬ inP x y z := fun k => k.2 c2
      refine lv_iconst (v := 0) hx hb dX5_isIn_14 (by decide) ?_
      exact ez hx hb hr hlk hS hP rfl (by first | exact f_fb no | exact t_fb yes) rfl (Nat.le_of_ble_eq_true rfl) (Nat.le_of_ble_eq_true rfl) dX5_isIn_15
    · skip
      have yes : inP x y z := ⟨c1, c2⟩
      refine lv_iconst (v := 1) hx hb dX5_isIn_10 (by decide) ?_
      refine lv_goto (tgt := 15) hx hb dX5_isIn_11 (by decide) ?_
      exact ez hx hb hr hlk hS hP rfl (by first | exact f_fb no | exact t_fb yes) rfl (Nat.le_of_ble_eq_true rfl) (Nat.le_of_ble_eq_true rfl) dX5_isIn_15
def rmX5_isTransaction : Room := { frames := 1, cells := 0, slots := 0, locals := 22 }
theorem hdX5_isTransaction : yX5_isTransaction.cls = RX5 ∧ yX5_isTransaction.cls ≠ "java/lang/invoke/MethodHandle" ∧ yX5_isTransaction.cls ≠ "java/lang/invoke/VarHandle" ∧ (parseMethodDescriptor yX5_isTransaction.desc).map (fun d => d.parameters.length) = some 1 := by decide +kernel
set_option maxHeartbeats 4000000 in
set_option maxRecDepth 100000 in
theorem kX5_isTransaction {l : Launch} {D : va_G} {K : Nat → ClassId} {L : Nat → Prop} {g : Nat → Nat} (hg : gd L g 14) (u : MU) (x : Int32) : CI l yX5_isTransaction wsX5_isTransaction rmX5_isTransaction D K L [.ref (g 0), .int x] (wM K g u) (wM K g u) (fb (trP u x)) := by
  refine CI.of (cc := cX5_isTransaction) (maxL := 2) (ret := (some .boolean)) (by decide +kernel) rfl (Nat.le_of_ble_eq_true rfl) ?_
  intro p e s m below meth c ls hen hP
  obtain ⟨hx, hb, hr, hts, hown, hlk, hml, hnm, hE, hl⟩ := hen
  have S : CallFix p m c cX5_isTransaction 2 s _ wsX5_isTransaction RX5 := ⟨hx, hb, hml, hown, hts⟩
  have hS : va_S (fr L s.heap.size) s.heap s.heap [] := va_S.rf
  have hl : lv_has ls 2 [(0, .ref (g 0)), (1, .int x)] := hl
  have i5 : ∀ w ∈ wsX50, w ∈ wsX5_isTransaction := fun _ h => List.mem_cons_of_mem _ (List.mem_append_right _ h)
  refine lv_iload_n hx hb dX5_isTransaction_0 rfl (lv_at hl 1 rfl) ?_
  refine lv_iconst (v := 0) hx hb dX5_isTransaction_1 (by decide) ?_
  refine lv_aload_n hx hb dX5_isTransaction_2 rfl (lv_at hl 0 rfl) ?_
  refine gw5_transactions S i5 hE hP (f := m_cn u) rfl (hts _ (List.mem_of_getElem? (i := 1) rfl)) dX5_isTransaction_3 ?_
  refine lv_iconst (v := 1) hx hb dX5_isTransaction_6 (by decide) ?_
  refine lv_isub hx hb dX5_isTransaction_7 ?_
  refine kiS (As := [.int x, .int 0, .int ((m_cn u) - 1)]) (rest := []) S (kX5_isIn x 0 ((m_cn u) - 1)) (va_cwS 3 hts gX5_isTransaction_X5_isIn rfl rfl rfl hdX5_isIn.2 ⟨Nat.le_of_ble_eq_true rfl, Nat.le_of_ble_eq_true rfl⟩) rfl rfl hE hP hS (frs hS) rfl hl.1 rfl (Nat.le_of_ble_eq_true rfl) dX5_isTransaction_8 ⟨Nat.le_of_ble_eq_true rfl, Nat.le_of_ble_eq_true rfl⟩ (fun H locs hP _ _ hS => ?_)
  exact ez hx hb hr hlk hS hP rfl (by rfl) fb_nar (Nat.le_of_ble_eq_true rfl) (Nat.le_of_ble_eq_true rfl) dX5_isTransaction_11
def rmX5_isActive : Room := { frames := 0, cells := 0, slots := 0, locals := 0 }
theorem hdX5_isActive : yX5_isActive.cls = RX5 ∧ yX5_isActive.cls ≠ "java/lang/invoke/MethodHandle" ∧ yX5_isActive.cls ≠ "java/lang/invoke/VarHandle" ∧ (parseMethodDescriptor yX5_isActive.desc).map (fun d => d.parameters.length) = some 1 := by decide +kernel
set_option maxHeartbeats 4000000 in
set_option maxRecDepth 100000 in
theorem kX5_isActive {l : Launch} {D : va_G} {K : Nat → ClassId} {L : Nat → Prop} {g : Nat → Nat} (hg : gd L g 14) (u : MU) (t : Nat) (ht : t < 60) : CI l yX5_isActive wsX5_isActive rmX5_isActive D K L [.ref (g 0), .int (nI t)] (wM K g u) (wM K g u) (fb (m_sta u t = 0)) := by
  refine CI.of (cc := cX5_isActive) (maxL := 2) (ret := (some .boolean)) (by decide +kernel) rfl (Nat.le_of_ble_eq_true rfl) ?_
  intro p e s m below meth c ls hen hP
  obtain ⟨hx, hb, hr, hts, hown, hlk, hml, hnm, hE, hl⟩ := hen
  have S : CallFix p m c cX5_isActive 2 s _ wsX5_isActive RX5 := ⟨hx, hb, hml, hown, hts⟩
  have hS : va_S (fr L s.heap.size) s.heap s.heap [] := va_S.rf
  have hl : lv_has ls 2 [(0, .ref (g 0)), (1, .int (nI t))] := hl
  have i5 : ∀ w ∈ wsX50, w ∈ wsX5_isActive := fun _ h => List.mem_cons_of_mem _ (List.mem_append_right _ h)
  refine lv_aload_n hx hb dX5_isActive_0 rfl (lv_at hl 0 rfl) ?_
  refine gw5_state S i5 hE hP (hts _ (List.mem_of_getElem? (i := 1) rfl)) dX5_isActive_1 ?_
  refine lv_iload_n hx hb dX5_isActive_4 rfl (lv_at hl 1 rfl) ?_
  refine lM_sta S hE hP (f := m_sta u) rfl (j := t) (by omega) rfl dX5_isActive_5 ?_
  refine lv_if_ne (tgt := 13) hx hb dX5_isActive_6 (by decide) (fun c1 => ?_) (fun c1 => ?_)
  · skip
    refine lv_iconst (v := 0) hx hb dX5_isActive_13 (by decide) ?_
    exact ez hx hb hr hlk hS hP rfl (by first | exact t_fb c1 | exact f_fb c1) rfl (Nat.le_of_ble_eq_true rfl) (Nat.le_of_ble_eq_true rfl) dX5_isActive_14
  · skip
    refine lv_iconst (v := 1) hx hb dX5_isActive_9 (by decide) ?_
    refine lv_goto (tgt := 14) hx hb dX5_isActive_10 (by decide) ?_
    exact ez hx hb hr hlk hS hP rfl (by first | exact t_fb c1 | exact f_fb c1) rfl (Nat.le_of_ble_eq_true rfl) (Nat.le_of_ble_eq_true rfl) dX5_isActive_14
def rmX5_isKey : Room := { frames := 1, cells := 0, slots := 0, locals := 22 }
theorem hdX5_isKey : yX5_isKey.cls = RX5 ∧ yX5_isKey.cls ≠ "java/lang/invoke/MethodHandle" ∧ yX5_isKey.cls ≠ "java/lang/invoke/VarHandle" ∧ (parseMethodDescriptor yX5_isKey.desc).map (fun d => d.parameters.length) = some 1 := by decide +kernel
set_option maxHeartbeats 4000000 in
set_option maxRecDepth 100000 in
theorem kX5_isKey {l : Launch} {D : va_G} {K : Nat → ClassId} {L : Nat → Prop} {w : va_W} (x : Int32) : CI l yX5_isKey wsX5_isKey rmX5_isKey D K L [.int x] w w (fb (inP x 0 5)) := by
  refine CI.of (cc := cX5_isKey) (maxL := 1) (ret := (some .boolean)) (by decide +kernel) rfl (Nat.le_of_ble_eq_true rfl) ?_
  intro p e s m below meth c ls hen hP
  obtain ⟨hx, hb, hr, hts, hown, hlk, hml, hnm, hE, hl⟩ := hen
  have S : CallFix p m c cX5_isKey 1 s _ wsX5_isKey RX5 := ⟨hx, hb, hml, hown, hts⟩
  have hS : va_S (fr L s.heap.size) s.heap s.heap [] := va_S.rf
  have hl : lv_has ls 1 [(0, .int x)] := hl
  refine lv_iload_n hx hb dX5_isKey_0 rfl (lv_at hl 0 rfl) ?_
  refine lv_iconst (v := 0) hx hb dX5_isKey_1 (by decide) ?_
  refine lv_iconst (v := 5) hx hb dX5_isKey_2 (by decide) ?_
  refine kiS (As := [.int x, .int 0, .int 5]) (rest := []) S (kX5_isIn x 0 5) (va_cwS 3 hts gX5_isKey_X5_isIn rfl rfl rfl hdX5_isIn.2 ⟨Nat.le_of_ble_eq_true rfl, Nat.le_of_ble_eq_true rfl⟩) rfl rfl hE hP hS (frs hS) rfl hl.1 rfl (Nat.le_of_ble_eq_true rfl) dX5_isKey_3 ⟨Nat.le_of_ble_eq_true rfl, Nat.le_of_ble_eq_true rfl⟩ (fun H locs hP _ _ hS => ?_)
  exact ez hx hb hr hlk hS hP rfl (by rfl) fb_nar (Nat.le_of_ble_eq_true rfl) (Nat.le_of_ble_eq_true rfl) dX5_isKey_6
def rmX5_isPage : Room := { frames := 1, cells := 0, slots := 0, locals := 22 }
theorem hdX5_isPage : yX5_isPage.cls = RX5 ∧ yX5_isPage.cls ≠ "java/lang/invoke/MethodHandle" ∧ yX5_isPage.cls ≠ "java/lang/invoke/VarHandle" ∧ (parseMethodDescriptor yX5_isPage.desc).map (fun d => d.parameters.length) = some 1 := by decide +kernel
set_option maxHeartbeats 4000000 in
set_option maxRecDepth 100000 in
theorem kX5_isPage {l : Launch} {D : va_G} {K : Nat → ClassId} {L : Nat → Prop} {w : va_W} (x : Int32) : CI l yX5_isPage wsX5_isPage rmX5_isPage D K L [.int x] w w (fb (inP x 0 3)) := by
  refine CI.of (cc := cX5_isPage) (maxL := 1) (ret := (some .boolean)) (by decide +kernel) rfl (Nat.le_of_ble_eq_true rfl) ?_
  intro p e s m below meth c ls hen hP
  obtain ⟨hx, hb, hr, hts, hown, hlk, hml, hnm, hE, hl⟩ := hen
  have S : CallFix p m c cX5_isPage 1 s _ wsX5_isPage RX5 := ⟨hx, hb, hml, hown, hts⟩
  have hS : va_S (fr L s.heap.size) s.heap s.heap [] := va_S.rf
  have hl : lv_has ls 1 [(0, .int x)] := hl
  refine lv_iload_n hx hb dX5_isPage_0 rfl (lv_at hl 0 rfl) ?_
  refine lv_iconst (v := 0) hx hb dX5_isPage_1 (by decide) ?_
  refine lv_iconst (v := 3) hx hb dX5_isPage_2 (by decide) ?_
  refine kiS (As := [.int x, .int 0, .int 3]) (rest := []) S (kX5_isIn x 0 3) (va_cwS 3 hts gX5_isPage_X5_isIn rfl rfl rfl hdX5_isIn.2 ⟨Nat.le_of_ble_eq_true rfl, Nat.le_of_ble_eq_true rfl⟩) rfl rfl hE hP hS (frs hS) rfl hl.1 rfl (Nat.le_of_ble_eq_true rfl) dX5_isPage_3 ⟨Nat.le_of_ble_eq_true rfl, Nat.le_of_ble_eq_true rfl⟩ (fun H locs hP _ _ hS => ?_)
  exact ez hx hb hr hlk hS hP rfl (by rfl) fb_nar (Nat.le_of_ble_eq_true rfl) (Nat.le_of_ble_eq_true rfl) dX5_isPage_6
def rmX5_isInSnapshot : Room := { frames := 0, cells := 0, slots := 0, locals := 0 }
theorem hdX5_isInSnapshot : yX5_isInSnapshot.cls = RX5 ∧ yX5_isInSnapshot.cls ≠ "java/lang/invoke/MethodHandle" ∧ yX5_isInSnapshot.cls ≠ "java/lang/invoke/VarHandle" ∧ (parseMethodDescriptor yX5_isInSnapshot.desc).map (fun d => d.parameters.length) = some 2 := by decide +kernel
set_option maxHeartbeats 4000000 in
set_option maxRecDepth 100000 in
theorem kX5_isInSnapshot {l : Launch} {D : va_G} {K : Nat → ClassId} {L : Nat → Prop} {g : Nat → Nat} (hg : gd L g 14) (u : MU) (t o : Nat) (ht : t < 60) (ho : o < 60) : CI l yX5_isInSnapshot wsX5_isInSnapshot rmX5_isInSnapshot D K L [.ref (g 0), .int (nI t), .int (nI o)] (wM K g u) (wM K g u) (fb (bitL (m_sn u t) o)) := by
  refine CI.of (cc := cX5_isInSnapshot) (maxL := 3) (ret := (some .boolean)) (by decide +kernel) rfl (Nat.le_of_ble_eq_true rfl) ?_
  intro p e s m below meth c ls hen hP
  obtain ⟨hx, hb, hr, hts, hown, hlk, hml, hnm, hE, hl⟩ := hen
  have S : CallFix p m c cX5_isInSnapshot 3 s _ wsX5_isInSnapshot RX5 := ⟨hx, hb, hml, hown, hts⟩
  have hS : va_S (fr L s.heap.size) s.heap s.heap [] := va_S.rf
  have hl : lv_has ls 3 [(0, .ref (g 0)), (1, .int (nI t)), (2, .int (nI o))] := hl
  have i5 : ∀ w ∈ wsX50, w ∈ wsX5_isInSnapshot := fun _ h => List.mem_cons_of_mem _ (List.mem_append_right _ h)
  refine lv_aload_n hx hb dX5_isInSnapshot_0 rfl (lv_at hl 0 rfl) ?_
  refine gw5_snapshot S i5 hE hP (hts _ (List.mem_of_getElem? (i := 1) rfl)) dX5_isInSnapshot_1 ?_
  refine lv_iload_n hx hb dX5_isInSnapshot_4 rfl (lv_at hl 1 rfl) ?_
  refine lM_sn S hE hP (f := m_sn u) rfl (j := t) (by omega) rfl dX5_isInSnapshot_5 ?_
  refine lv_iload_n hx hb dX5_isInSnapshot_6 rfl (lv_at hl 2 rfl) ?_
  refine lv_lshr hx hb dX5_isInSnapshot_7 rfl ?_
  refine lv_lconst (v := 1) hx hb dX5_isInSnapshot_8 (by decide) ?_
  refine lv_land hx hb dX5_isInSnapshot_9 ?_
  refine lv_lconst (v := 1) hx hb dX5_isInSnapshot_10 (by decide) ?_
  refine W.lcmp hx hb dX5_isInSnapshot_11 ?_
  refine blne (tgt := 19) hx hb dX5_isInSnapshot_12 (by decide) (fun c1 => ?_) (fun c1 => ?_)
  · skip
    have no : ¬ bitL (m_sn u t) o := fun k => c1 ((sshr_bit ho).mpr k)
    refine lv_iconst (v := 0) hx hb dX5_isInSnapshot_19 (by decide) ?_
    exact ez hx hb hr hlk hS hP rfl (by first | exact f_fb no | exact t_fb yes) rfl (Nat.le_of_ble_eq_true rfl) (Nat.le_of_ble_eq_true rfl) dX5_isInSnapshot_20
  · skip
    have yes : bitL (m_sn u t) o := (sshr_bit ho).mp c1
    refine lv_iconst (v := 1) hx hb dX5_isInSnapshot_15 (by decide) ?_
    refine lv_goto (tgt := 20) hx hb dX5_isInSnapshot_16 (by decide) ?_
    exact ez hx hb hr hlk hS hP rfl (by first | exact f_fb no | exact t_fb yes) rfl (Nat.le_of_ble_eq_true rfl) (Nat.le_of_ble_eq_true rfl) dX5_isInSnapshot_20
def rmX5_ageOf : Room := { frames := 0, cells := 0, slots := 0, locals := 0 }
theorem hdX5_ageOf : yX5_ageOf.cls = RX5 ∧ yX5_ageOf.cls ≠ "java/lang/invoke/MethodHandle" ∧ yX5_ageOf.cls ≠ "java/lang/invoke/VarHandle" ∧ (parseMethodDescriptor yX5_ageOf.desc).map (fun d => d.parameters.length) = some 1 := by decide +kernel
set_option maxHeartbeats 4000000 in
set_option maxRecDepth 100000 in
theorem kX5_ageOf {l : Launch} {D : va_G} {K : Nat → ClassId} {L : Nat → Prop} {g : Nat → Nat} (hg : gd L g 14) (u : MU) (t : Nat) (ht : t < 60) : CI l yX5_ageOf wsX5_ageOf rmX5_ageOf D K L [.ref (g 0), .int (nI t)] (wM K g u) (wM K g u) (ag u t) := by
  refine CI.of (cc := cX5_ageOf) (maxL := 2) (ret := (some .int)) (by decide +kernel) rfl (Nat.le_of_ble_eq_true rfl) ?_
  intro p e s m below meth c ls hen hP
  obtain ⟨hx, hb, hr, hts, hown, hlk, hml, hnm, hE, hl⟩ := hen
  have S : CallFix p m c cX5_ageOf 2 s _ wsX5_ageOf RX5 := ⟨hx, hb, hml, hown, hts⟩
  have hS : va_S (fr L s.heap.size) s.heap s.heap [] := va_S.rf
  have hl : lv_has ls 2 [(0, .ref (g 0)), (1, .int (nI t))] := hl
  have i5 : ∀ w ∈ wsX50, w ∈ wsX5_ageOf := fun _ h => List.mem_cons_of_mem _ (List.mem_append_right _ h)
  refine lv_aload_n hx hb dX5_ageOf_0 rfl (lv_at hl 0 rfl) ?_
  refine gw5_nextStamp S i5 hE hP (f := m_ns u) rfl (hts _ (List.mem_of_getElem? (i := 1) rfl)) dX5_ageOf_1 ?_
  refine lv_aload_n hx hb dX5_ageOf_4 rfl (lv_at hl 0 rfl) ?_
  refine gw5_stamp S i5 hE hP (hts _ (List.mem_of_getElem? (i := 2) rfl)) dX5_ageOf_5 ?_
  refine lv_iload_n hx hb dX5_ageOf_8 rfl (lv_at hl 1 rfl) ?_
  refine lM_st S hE hP (f := m_st u) rfl (j := t) (by omega) rfl dX5_ageOf_9 ?_
  refine lv_isub hx hb dX5_ageOf_10 ?_
  refine lv_bipush (v := 64) hx hb dX5_ageOf_11 (by decide) ?_
  refine lv_iadd hx hb dX5_ageOf_13 ?_
  refine lv_bipush (v := 64) hx hb dX5_ageOf_14 (by decide) ?_
  refine lv_irem hx hb dX5_ageOf_16 (by decide) ?_
  exact ei hx hb hr hlk hS hP rfl (by rfl) (Nat.le_of_ble_eq_true rfl) (Nat.le_of_ble_eq_true rfl) dX5_ageOf_17
def rmX5_isPast : Room := { frames := 1, cells := 0, slots := 0, locals := 22 }
theorem hdX5_isPast : yX5_isPast.cls = RX5 ∧ yX5_isPast.cls ≠ "java/lang/invoke/MethodHandle" ∧ yX5_isPast.cls ≠ "java/lang/invoke/VarHandle" ∧ (parseMethodDescriptor yX5_isPast.desc).map (fun d => d.parameters.length) = some 1 := by decide +kernel
set_option maxHeartbeats 4000000 in
set_option maxRecDepth 100000 in
theorem kX5_isPast {l : Launch} {D : va_G} {K : Nat → ClassId} {L : Nat → Prop} {g : Nat → Nat} (hg : gd L g 14) (u : MU) (t : Nat) (ht : t < 60) (N : Nat) (hN : N ≤ 60) (hcn : m_cn u = nI N) : CI l yX5_isPast wsX5_isPast rmX5_isPast D K L [.ref (g 0), .int (nI t)] (wM K g u) (wM K g u) (fb (paP u t N)) := by
  refine CI.of (cc := cX5_isPast) (maxL := 4) (ret := (some .boolean)) (by decide +kernel) rfl (Nat.le_of_ble_eq_true rfl) ?_
  intro p e s m below meth c ls hen hP
  obtain ⟨hx, hb, hr, hts, hown, hlk, hml, hnm, hE, hl⟩ := hen
  have S : CallFix p m c cX5_isPast 4 s _ wsX5_isPast RX5 := ⟨hx, hb, hml, hown, hts⟩
  have hS : va_S (fr L s.heap.size) s.heap s.heap [] := va_S.rf
  have hl : lv_has ls 4 [(0, .ref (g 0)), (1, .int (nI t))] := hl
  have i5 : ∀ w ∈ wsX50, w ∈ wsX5_isPast := fun _ h => List.mem_cons_of_mem _ (List.mem_append_right _ h)
  refine lv_aload_n hx hb dX5_isPast_0 rfl (lv_at hl 0 rfl) ?_
  refine gw5_state S i5 hE hP (hts _ (List.mem_of_getElem? (i := 1) rfl)) dX5_isPast_1 ?_
  refine lv_iload_n hx hb dX5_isPast_4 rfl (lv_at hl 1 rfl) ?_
  refine lM_sta S hE hP (f := m_sta u) rfl (j := t) (by omega) rfl dX5_isPast_5 ?_
  refine lv_iconst (v := 1) hx hb dX5_isPast_6 (by decide) ?_
  refine lv_icmp_ne (tgt := 14) hx hb dX5_isPast_7 (by decide) (fun c1 => ?_) (fun c1 => ?_)
  · skip
    refine lv_iconst (v := 0) hx hb dX5_isPast_14 (by decide) ?_
    refine tpi (y := fb (paP u t 0)) (by first | exact t_fb ⟨c1, fun a h => absurd h (Nat.not_lt_zero _)⟩ | exact f_fb (fun k => c1 k.1)) ?_
    refine lv_istore_n (lv' := [(2, .int (fb (paP u t 0))), (0, .ref (g 0)), (1, .int (nI t))]) hx hb dX5_isPast_15 rfl hl (by decide) rfl (fun ls hl => ?_)
    refine lv_iconst (v := 0) hx hb dX5_isPast_16 (by decide) ?_
    refine lv_istore_n (lv' := [(3, .int 0), (2, .int (fb (paP u t 0))), (0, .ref (g 0)), (1, .int (nI t))]) hx hb dX5_isPast_17 rfl hl (by decide) rfl (fun ls hl => ?_)
    have loop18 : ∀ (n18 : Nat) (i : Nat), (hi : i ≤ N) → N - i < n18 → ∀ (H : Heap) (locs : List Loc), va_P D vwCl (wM K g u) H → va_S (fr L s.heap.size) s.heap H locs → ∀ (ls : Array Slot), lv_has ls 4 [(3, .int (nI i)), (2, .int (fb (paP u t i))), (0, .ref (g 0)), (1, .int (nI t))] → W p l e rmX5_isPast s m ([.ref (g 0), .int (nI t)] : List Value).toArray below meth c H locs 0 0 (MQ below (va_Qi (fun (r9 : Int32) (_ : Unit) => r9 = fb (paP u t N)) (fun _ t => va_P D vwCl (wM K g u) t.heap) (fr L s.heap.size)) ([.ref (g 0), .int (nI t)] : List Value).toArray s rmX5_isPast.cells rmX5_isPast.slots (fr L s.heap.size)) (F0 m 18 ls []) := by
      intro n18
      induction n18 with
      | zero =>
        intro i hi hn18
        exact absurd hn18 (Nat.not_lt_zero _)
      | succ n18 ih18 =>
        intro i hi hn18 H locs hP hS ls hl
        refine lv_iload_n hx hb dX5_isPast_18 rfl (lv_at hl 0 rfl) ?_
        refine lv_aload_n hx hb dX5_isPast_19 rfl (lv_at hl 2 rfl) ?_
        refine gw5_transactions S i5 hE hP (f := m_cn u) rfl (hts _ (List.mem_of_getElem? (i := 2) rfl)) dX5_isPast_20 ?_
        refine tpi (y := nI N) hcn ?_
        refine lv_icmp_ge (tgt := 59) hx hb dX5_isPast_23 (by decide) (fun c2 => ?_) (fun c2 => ?_)
        · skip
          have e9 : i = N := by have := nge_i (a := i) (b := N) (by omega) (by omega) c2; omega
          refine lv_iload_n hx hb dX5_isPast_59 rfl (lv_at hl 1 rfl) ?_
          exact ez hx hb hr hlk hS hP rfl (by rw [e9]) fb_nar (Nat.le_of_ble_eq_true rfl) (Nat.le_of_ble_eq_true rfl) dX5_isPast_60
        · skip
          have hlt : i < N := nlt_i (a := i) (b := N) (by omega) (by omega) c2
          refine lv_iload_n hx hb dX5_isPast_26 rfl (lv_at hl 1 rfl) ?_
          refine bzeq (tgt := 51) hx hb dX5_isPast_27 (by decide) (fun c3 => ?_) (fun c3 => ?_)
          · skip
            have no : ¬ paP u t (i + 1) := fun k => c3 (paP_d k)
            refine lv_iconst (v := 0) hx hb dX5_isPast_51 (by decide) ?_
            refine tpi (y := fb (paP u t (i + 1))) (by first | exact t_fb yes | exact f_fb no) ?_
            refine lv_istore_n (lv' := [(2, .int (fb (paP u t (i + 1)))), (3, .int (nI i)), (0, .ref (g 0)), (1, .int (nI t))]) hx hb dX5_isPast_52 rfl hl (by decide) rfl (fun ls hl => ?_)
            refine lv_iinc (v := nI (i + 1)) (lv' := [(3, .int (nI (i + 1))), (2, .int (fb (paP u t (i + 1)))), (0, .ref (g 0)), (1, .int (nI t))]) hx hb dX5_isPast_53 hl (k := 1) rfl (nI_1 i) (by decide) rfl (fun ls hl => ?_)
            refine lv_goto (tgt := 18) hx hb dX5_isPast_56 (by decide) ?_
            exact ih18 (i + 1) (by omega) (by omega) _ _ hP hS ls (lv_sub hl [0, 1, 2, 3] rfl)
          · skip
            have pa : paP u t i := c3
            refine lv_aload_n hx hb dX5_isPast_30 rfl (lv_at hl 2 rfl) ?_
            refine lv_iload_n hx hb dX5_isPast_31 rfl (lv_at hl 0 rfl) ?_
            refine kiV (As := [.int (nI i)]) (rest := []) S (kX5_isActive hg u i (by omega)) (cwV 1 hts gX5_isPast_X5_isActive rfl rfl rfl hdX5_isActive ⟨Nat.le_of_ble_eq_true rfl, Nat.le_of_ble_eq_true rfl⟩) rfl rfl 0 rfl rfl hE hP hS (frs hS) rfl hl.1 rfl (Nat.le_of_ble_eq_true rfl) dX5_isPast_32 ⟨Nat.le_of_ble_eq_true rfl, Nat.le_of_ble_eq_true rfl⟩ (fun H locs hP _ _ hS => ?_)
            refine bzeq (tgt := 47) hx hb dX5_isPast_35 (by decide) (fun c4 => ?_) (fun c4 => ?_)
            · skip
              have yes : paP u t (i + 1) := paP_y pa (fun k => absurd k c4)
              refine lv_iconst (v := 1) hx hb dX5_isPast_47 (by decide) ?_
              refine lv_goto (tgt := 52) hx hb dX5_isPast_48 (by decide) ?_
              refine tpi (y := fb (paP u t (i + 1))) (by first | exact t_fb yes | exact f_fb no) ?_
              refine lv_istore_n (lv' := [(2, .int (fb (paP u t (i + 1)))), (3, .int (nI i)), (0, .ref (g 0)), (1, .int (nI t))]) hx hb dX5_isPast_52 rfl hl (by decide) rfl (fun ls hl => ?_)
              refine lv_iinc (v := nI (i + 1)) (lv' := [(3, .int (nI (i + 1))), (2, .int (fb (paP u t (i + 1)))), (0, .ref (g 0)), (1, .int (nI t))]) hx hb dX5_isPast_53 hl (k := 1) rfl (nI_1 i) (by decide) rfl (fun ls hl => ?_)
              refine lv_goto (tgt := 18) hx hb dX5_isPast_56 (by decide) ?_
              exact ih18 (i + 1) (by omega) (by omega) _ _ hP hS ls (lv_sub hl [0, 1, 2, 3] rfl)
            · skip
              have ac : m_sta u i = 0 := c4
              refine lv_aload_n hx hb dX5_isPast_38 rfl (lv_at hl 2 rfl) ?_
              refine lv_iload_n hx hb dX5_isPast_39 rfl (lv_at hl 0 rfl) ?_
              refine lv_iload_n hx hb dX5_isPast_40 rfl (lv_at hl 3 rfl) ?_
              refine kiV (As := [.int (nI i), .int (nI t)]) (rest := []) S (kX5_isInSnapshot hg u i t (by omega) (by omega)) (cwV 2 hts gX5_isPast_X5_isInSnapshot rfl rfl rfl hdX5_isInSnapshot ⟨Nat.le_of_ble_eq_true rfl, Nat.le_of_ble_eq_true rfl⟩) rfl rfl 0 rfl rfl hE hP hS (frs hS) rfl hl.1 rfl (Nat.le_of_ble_eq_true rfl) dX5_isPast_41 ⟨Nat.le_of_ble_eq_true rfl, Nat.le_of_ble_eq_true rfl⟩ (fun H locs hP _ _ hS => ?_)
              refine bzeq (tgt := 51) hx hb dX5_isPast_44 (by decide) (fun c5 => ?_) (fun c5 => ?_)
              · skip
                have no : ¬ paP u t (i + 1) := fun k => c5 (k.2 i (by omega) ac)
                refine lv_iconst (v := 0) hx hb dX5_isPast_51 (by decide) ?_
                refine tpi (y := fb (paP u t (i + 1))) (by first | exact t_fb yes | exact f_fb no) ?_
                refine lv_istore_n (lv' := [(2, .int (fb (paP u t (i + 1)))), (3, .int (nI i)), (0, .ref (g 0)), (1, .int (nI t))]) hx hb dX5_isPast_52 rfl hl (by decide) rfl (fun ls hl => ?_)
                refine lv_iinc (v := nI (i + 1)) (lv' := [(3, .int (nI (i + 1))), (2, .int (fb (paP u t (i + 1)))), (0, .ref (g 0)), (1, .int (nI t))]) hx hb dX5_isPast_53 hl (k := 1) rfl (nI_1 i) (by decide) rfl (fun ls hl => ?_)
                refine lv_goto (tgt := 18) hx hb dX5_isPast_56 (by decide) ?_
                exact ih18 (i + 1) (by omega) (by omega) _ _ hP hS ls (lv_sub hl [0, 1, 2, 3] rfl)
              · skip
                have yes : paP u t (i + 1) := paP_y pa (fun _ => c5)
                refine lv_iconst (v := 1) hx hb dX5_isPast_47 (by decide) ?_
                refine lv_goto (tgt := 52) hx hb dX5_isPast_48 (by decide) ?_
                refine tpi (y := fb (paP u t (i + 1))) (by first | exact t_fb yes | exact f_fb no) ?_
                refine lv_istore_n (lv' := [(2, .int (fb (paP u t (i + 1)))), (3, .int (nI i)), (0, .ref (g 0)), (1, .int (nI t))]) hx hb dX5_isPast_52 rfl hl (by decide) rfl (fun ls hl => ?_)
                refine lv_iinc (v := nI (i + 1)) (lv' := [(3, .int (nI (i + 1))), (2, .int (fb (paP u t (i + 1)))), (0, .ref (g 0)), (1, .int (nI t))]) hx hb dX5_isPast_53 hl (k := 1) rfl (nI_1 i) (by decide) rfl (fun ls hl => ?_)
                refine lv_goto (tgt := 18) hx hb dX5_isPast_56 (by decide) ?_
                exact ih18 (i + 1) (by omega) (by omega) _ _ hP hS ls (lv_sub hl [0, 1, 2, 3] rfl)
    exact loop18 _ 0 (by omega) (Nat.lt_succ_self _) _ _ hP hS ls (lv_sub hl [0, 1, 2, 3] rfl)
  · skip
    refine lv_iconst (v := 1) hx hb dX5_isPast_10 (by decide) ?_
    refine lv_goto (tgt := 15) hx hb dX5_isPast_11 (by decide) ?_
    refine tpi (y := fb (paP u t 0)) (by first | exact t_fb ⟨c1, fun a h => absurd h (Nat.not_lt_zero _)⟩ | exact f_fb (fun k => c1 k.1)) ?_
    refine lv_istore_n (lv' := [(2, .int (fb (paP u t 0))), (0, .ref (g 0)), (1, .int (nI t))]) hx hb dX5_isPast_15 rfl hl (by decide) rfl (fun ls hl => ?_)
    refine lv_iconst (v := 0) hx hb dX5_isPast_16 (by decide) ?_
    refine lv_istore_n (lv' := [(3, .int 0), (2, .int (fb (paP u t 0))), (0, .ref (g 0)), (1, .int (nI t))]) hx hb dX5_isPast_17 rfl hl (by decide) rfl (fun ls hl => ?_)
    have loop18 : ∀ (n18 : Nat) (i : Nat), (hi : i ≤ N) → N - i < n18 → ∀ (H : Heap) (locs : List Loc), va_P D vwCl (wM K g u) H → va_S (fr L s.heap.size) s.heap H locs → ∀ (ls : Array Slot), lv_has ls 4 [(3, .int (nI i)), (2, .int (fb (paP u t i))), (0, .ref (g 0)), (1, .int (nI t))] → W p l e rmX5_isPast s m ([.ref (g 0), .int (nI t)] : List Value).toArray below meth c H locs 0 0 (MQ below (va_Qi (fun (r9 : Int32) (_ : Unit) => r9 = fb (paP u t N)) (fun _ t => va_P D vwCl (wM K g u) t.heap) (fr L s.heap.size)) ([.ref (g 0), .int (nI t)] : List Value).toArray s rmX5_isPast.cells rmX5_isPast.slots (fr L s.heap.size)) (F0 m 18 ls []) := by
      intro n18
      induction n18 with
      | zero =>
        intro i hi hn18
        exact absurd hn18 (Nat.not_lt_zero _)
      | succ n18 ih18 =>
        intro i hi hn18 H locs hP hS ls hl
        refine lv_iload_n hx hb dX5_isPast_18 rfl (lv_at hl 0 rfl) ?_
        refine lv_aload_n hx hb dX5_isPast_19 rfl (lv_at hl 2 rfl) ?_
        refine gw5_transactions S i5 hE hP (f := m_cn u) rfl (hts _ (List.mem_of_getElem? (i := 2) rfl)) dX5_isPast_20 ?_
        refine tpi (y := nI N) hcn ?_
        refine lv_icmp_ge (tgt := 59) hx hb dX5_isPast_23 (by decide) (fun c6 => ?_) (fun c6 => ?_)
        · skip
          have e9 : i = N := by have := nge_i (a := i) (b := N) (by omega) (by omega) c6; omega
          refine lv_iload_n hx hb dX5_isPast_59 rfl (lv_at hl 1 rfl) ?_
          exact ez hx hb hr hlk hS hP rfl (by rw [e9]) fb_nar (Nat.le_of_ble_eq_true rfl) (Nat.le_of_ble_eq_true rfl) dX5_isPast_60
        · skip
          have hlt : i < N := nlt_i (a := i) (b := N) (by omega) (by omega) c6
          refine lv_iload_n hx hb dX5_isPast_26 rfl (lv_at hl 1 rfl) ?_
          refine bzeq (tgt := 51) hx hb dX5_isPast_27 (by decide) (fun c7 => ?_) (fun c7 => ?_)
          · skip
            have no : ¬ paP u t (i + 1) := fun k => c7 (paP_d k)
            refine lv_iconst (v := 0) hx hb dX5_isPast_51 (by decide) ?_
            refine tpi (y := fb (paP u t (i + 1))) (by first | exact t_fb yes | exact f_fb no) ?_
            refine lv_istore_n (lv' := [(2, .int (fb (paP u t (i + 1)))), (3, .int (nI i)), (0, .ref (g 0)), (1, .int (nI t))]) hx hb dX5_isPast_52 rfl hl (by decide) rfl (fun ls hl => ?_)
            refine lv_iinc (v := nI (i + 1)) (lv' := [(3, .int (nI (i + 1))), (2, .int (fb (paP u t (i + 1)))), (0, .ref (g 0)), (1, .int (nI t))]) hx hb dX5_isPast_53 hl (k := 1) rfl (nI_1 i) (by decide) rfl (fun ls hl => ?_)
            refine lv_goto (tgt := 18) hx hb dX5_isPast_56 (by decide) ?_
            exact ih18 (i + 1) (by omega) (by omega) _ _ hP hS ls (lv_sub hl [0, 1, 2, 3] rfl)
          · skip
            have pa : paP u t i := c7
            refine lv_aload_n hx hb dX5_isPast_30 rfl (lv_at hl 2 rfl) ?_
            refine lv_iload_n hx hb dX5_isPast_31 rfl (lv_at hl 0 rfl) ?_
            refine kiV (As := [.int (nI i)]) (rest := []) S (kX5_isActive hg u i (by omega)) (cwV 1 hts gX5_isPast_X5_isActive rfl rfl rfl hdX5_isActive ⟨Nat.le_of_ble_eq_true rfl, Nat.le_of_ble_eq_true rfl⟩) rfl rfl 0 rfl rfl hE hP hS (frs hS) rfl hl.1 rfl (Nat.le_of_ble_eq_true rfl) dX5_isPast_32 ⟨Nat.le_of_ble_eq_true rfl, Nat.le_of_ble_eq_true rfl⟩ (fun H locs hP _ _ hS => ?_)
            refine bzeq (tgt := 47) hx hb dX5_isPast_35 (by decide) (fun c8 => ?_) (fun c8 => ?_)
            · skip
              have yes : paP u t (i + 1) := paP_y pa (fun k => absurd k c8)
              refine lv_iconst (v := 1) hx hb dX5_isPast_47 (by decide) ?_
              refine lv_goto (tgt := 52) hx hb dX5_isPast_48 (by decide) ?_
              refine tpi (y := fb (paP u t (i + 1))) (by first | exact t_fb yes | exact f_fb no) ?_
              refine lv_istore_n (lv' := [(2, .int (fb (paP u t (i + 1)))), (3, .int (nI i)), (0, .ref (g 0)), (1, .int (nI t))]) hx hb dX5_isPast_52 rfl hl (by decide) rfl (fun ls hl => ?_)
              refine lv_iinc (v := nI (i + 1)) (lv' := [(3, .int (nI (i + 1))), (2, .int (fb (paP u t (i + 1)))), (0, .ref (g 0)), (1, .int (nI t))]) hx hb dX5_isPast_53 hl (k := 1) rfl (nI_1 i) (by decide) rfl (fun ls hl => ?_)
              refine lv_goto (tgt := 18) hx hb dX5_isPast_56 (by decide) ?_
              exact ih18 (i + 1) (by omega) (by omega) _ _ hP hS ls (lv_sub hl [0, 1, 2, 3] rfl)
            · skip
              have ac : m_sta u i = 0 := c8
              refine lv_aload_n hx hb dX5_isPast_38 rfl (lv_at hl 2 rfl) ?_
              refine lv_iload_n hx hb dX5_isPast_39 rfl (lv_at hl 0 rfl) ?_
              refine lv_iload_n hx hb dX5_isPast_40 rfl (lv_at hl 3 rfl) ?_
              refine kiV (As := [.int (nI i), .int (nI t)]) (rest := []) S (kX5_isInSnapshot hg u i t (by omega) (by omega)) (cwV 2 hts gX5_isPast_X5_isInSnapshot rfl rfl rfl hdX5_isInSnapshot ⟨Nat.le_of_ble_eq_true rfl, Nat.le_of_ble_eq_true rfl⟩) rfl rfl 0 rfl rfl hE hP hS (frs hS) rfl hl.1 rfl (Nat.le_of_ble_eq_true rfl) dX5_isPast_41 ⟨Nat.le_of_ble_eq_true rfl, Nat.le_of_ble_eq_true rfl⟩ (fun H locs hP _ _ hS => ?_)
              refine bzeq (tgt := 51) hx hb dX5_isPast_44 (by decide) (fun c9 => ?_) (fun c9 => ?_)
              · skip
                have no : ¬ paP u t (i + 1) := fun k => c9 (k.2 i (by omega) ac)
                refine lv_iconst (v := 0) hx hb dX5_isPast_51 (by decide) ?_
                refine tpi (y := fb (paP u t (i + 1))) (by first | exact t_fb yes | exact f_fb no) ?_
                refine lv_istore_n (lv' := [(2, .int (fb (paP u t (i + 1)))), (3, .int (nI i)), (0, .ref (g 0)), (1, .int (nI t))]) hx hb dX5_isPast_52 rfl hl (by decide) rfl (fun ls hl => ?_)
                refine lv_iinc (v := nI (i + 1)) (lv' := [(3, .int (nI (i + 1))), (2, .int (fb (paP u t (i + 1)))), (0, .ref (g 0)), (1, .int (nI t))]) hx hb dX5_isPast_53 hl (k := 1) rfl (nI_1 i) (by decide) rfl (fun ls hl => ?_)
                refine lv_goto (tgt := 18) hx hb dX5_isPast_56 (by decide) ?_
                exact ih18 (i + 1) (by omega) (by omega) _ _ hP hS ls (lv_sub hl [0, 1, 2, 3] rfl)
              · skip
                have yes : paP u t (i + 1) := paP_y pa (fun _ => c9)
                refine lv_iconst (v := 1) hx hb dX5_isPast_47 (by decide) ?_
                refine lv_goto (tgt := 52) hx hb dX5_isPast_48 (by decide) ?_
                refine tpi (y := fb (paP u t (i + 1))) (by first | exact t_fb yes | exact f_fb no) ?_
                refine lv_istore_n (lv' := [(2, .int (fb (paP u t (i + 1)))), (3, .int (nI i)), (0, .ref (g 0)), (1, .int (nI t))]) hx hb dX5_isPast_52 rfl hl (by decide) rfl (fun ls hl => ?_)
                refine lv_iinc (v := nI (i + 1)) (lv' := [(3, .int (nI (i + 1))), (2, .int (fb (paP u t (i + 1)))), (0, .ref (g 0)), (1, .int (nI t))]) hx hb dX5_isPast_53 hl (k := 1) rfl (nI_1 i) (by decide) rfl (fun ls hl => ?_)
                refine lv_goto (tgt := 18) hx hb dX5_isPast_56 (by decide) ?_
                exact ih18 (i + 1) (by omega) (by omega) _ _ hP hS ls (lv_sub hl [0, 1, 2, 3] rfl)
    exact loop18 _ 0 (by omega) (Nat.lt_succ_self _) _ _ hP hS ls (lv_sub hl [0, 1, 2, 3] rfl)
def rmX5_oldestNow : Room := { frames := 1, cells := 0, slots := 0, locals := 21 }
theorem hdX5_oldestNow : yX5_oldestNow.cls = RX5 ∧ yX5_oldestNow.cls ≠ "java/lang/invoke/MethodHandle" ∧ yX5_oldestNow.cls ≠ "java/lang/invoke/VarHandle" ∧ (parseMethodDescriptor yX5_oldestNow.desc).map (fun d => d.parameters.length) = some 0 := by decide +kernel
set_option maxHeartbeats 4000000 in
set_option maxRecDepth 100000 in
theorem kX5_oldestNow {l : Launch} {D : va_G} {K : Nat → ClassId} {L : Nat → Prop} {g : Nat → Nat} (hg : gd L g 14) (u : MU) (N : Nat) (hN : N ≤ 60) (hcn : m_cn u = nI N) (hr9 : rM u) : CI l yX5_oldestNow wsX5_oldestNow rmX5_oldestNow D K L [.ref (g 0)] (wM K g u) (wM K g u) (og2 u N) := by
  refine CI.of (cc := cX5_oldestNow) (maxL := 5) (ret := (some .int)) (by decide +kernel) rfl (Nat.le_of_ble_eq_true rfl) ?_
  intro p e s m below meth c ls hen hP
  obtain ⟨hx, hb, hr, hts, hown, hlk, hml, hnm, hE, hl⟩ := hen
  have S : CallFix p m c cX5_oldestNow 5 s _ wsX5_oldestNow RX5 := ⟨hx, hb, hml, hown, hts⟩
  have hS : va_S (fr L s.heap.size) s.heap s.heap [] := va_S.rf
  have hl : lv_has ls 5 [(0, .ref (g 0))] := hl
  have i5 : ∀ w ∈ wsX50, w ∈ wsX5_oldestNow := fun _ h => List.mem_cons_of_mem _ (List.mem_append_right _ h)
  refine lv_iconst (v := 0) hx hb dX5_oldestNow_0 (by decide) ?_
  refine lv_istore_n (lv' := [(1, .int 0), (0, .ref (g 0))]) hx hb dX5_oldestNow_1 rfl hl (by decide) rfl (fun ls hl => ?_)
  refine lv_iconst (v := 0) hx hb dX5_oldestNow_2 (by decide) ?_
  refine lv_istore_n (lv' := [(2, .int 0), (1, .int 0), (0, .ref (g 0))]) hx hb dX5_oldestNow_3 rfl hl (by decide) rfl (fun ls hl => ?_)
  have loop4 : ∀ (n4 : Nat) (i : Nat) (a : Int32), (hi : i ≤ 32) → (ha : a = og1 u i) → 32 - i < n4 → ∀ (H : Heap) (locs : List Loc), va_P D vwCl (wM K g u) H → va_S (fr L s.heap.size) s.heap H locs → ∀ (ls : Array Slot), lv_has ls 5 [(2, .int (nI i)), (1, .int a), (0, .ref (g 0))] → W p l e rmX5_oldestNow s m ([.ref (g 0)] : List Value).toArray below meth c H locs 0 0 (MQ below (va_Qi (fun (r9 : Int32) (_ : Unit) => r9 = og2 u N) (fun _ t => va_P D vwCl (wM K g u) t.heap) (fr L s.heap.size)) ([.ref (g 0)] : List Value).toArray s rmX5_oldestNow.cells rmX5_oldestNow.slots (fr L s.heap.size)) (F0 m 4 ls []) := by
    intro n4
    induction n4 with
    | zero =>
      intro i a hi ha hn4
      exact absurd hn4 (Nat.not_lt_zero _)
    | succ n4 ih4 =>
      intro i a hi ha hn4 H locs hP hS ls hl
      refine lv_iload_n hx hb dX5_oldestNow_4 rfl (lv_at hl 0 rfl) ?_
      refine lv_bipush (v := 32) hx hb dX5_oldestNow_5 (by decide) ?_
      refine lv_icmp_ge (tgt := 108) hx hb dX5_oldestNow_7 (by decide) (fun c1 => ?_) (fun c1 => ?_)
      · skip
        have e9 : i = 32 := by have := nge_i (a := i) (b := 32) (by omega) (by omega) c1; omega
        refine lv_iconst (v := 0) hx hb dX5_oldestNow_108 (by decide) ?_
        refine lv_istore_n (lv' := [(2, .int 0), (1, .int a), (0, .ref (g 0))]) hx hb dX5_oldestNow_109 rfl hl (by decide) rfl (fun ls hl => ?_)
        have loop110 : ∀ (n110 : Nat) (j : Nat) (d : Int32), (hj : j ≤ N) → (hd : d = og2 u j) → N - j < n110 → ∀ (H : Heap) (locs : List Loc), va_P D vwCl (wM K g u) H → va_S (fr L s.heap.size) s.heap H locs → ∀ (ls : Array Slot), lv_has ls 5 [(2, .int (nI j)), (1, .int d), (0, .ref (g 0))] → W p l e rmX5_oldestNow s m ([.ref (g 0)] : List Value).toArray below meth c H locs 0 0 (MQ below (va_Qi (fun (r9 : Int32) (_ : Unit) => r9 = og2 u N) (fun _ t => va_P D vwCl (wM K g u) t.heap) (fr L s.heap.size)) ([.ref (g 0)] : List Value).toArray s rmX5_oldestNow.cells rmX5_oldestNow.slots (fr L s.heap.size)) (F0 m 110 ls []) := by
          intro n110
          induction n110 with
          | zero =>
            intro j d hj hd hn110
            exact absurd hn110 (Nat.not_lt_zero _)
          | succ n110 ih110 =>
            intro j d hj hd hn110 H locs hP hS ls hl
            refine lv_iload_n hx hb dX5_oldestNow_110 rfl (lv_at hl 0 rfl) ?_
            refine lv_aload_n hx hb dX5_oldestNow_111 rfl (lv_at hl 2 rfl) ?_
            refine gw5_transactions S i5 hE hP (f := m_cn u) rfl (hts _ (List.mem_of_getElem? (i := 5) rfl)) dX5_oldestNow_112 ?_
            refine tpi (y := nI N) hcn ?_
            refine lv_icmp_ge (tgt := 151) hx hb dX5_oldestNow_115 (by decide) (fun c2 => ?_) (fun c2 => ?_)
            · skip
              have e8 : j = N := by have := nge_i (a := j) (b := N) (by omega) (by omega) c2; omega
              refine lv_iload_n hx hb dX5_oldestNow_151 rfl (lv_at hl 1 rfl) ?_
              exact ei hx hb hr hlk hS hP rfl (by rw [hd, e8]) (Nat.le_of_ble_eq_true rfl) (Nat.le_of_ble_eq_true rfl) dX5_oldestNow_152
            · skip
              have hlj : j < N := nlt_i (a := j) (b := N) (by omega) (by omega) c2
              refine lv_aload_n hx hb dX5_oldestNow_118 rfl (lv_at hl 2 rfl) ?_
              refine lv_iload_n hx hb dX5_oldestNow_119 rfl (lv_at hl 0 rfl) ?_
              refine kiV (As := [.int (nI j)]) (rest := []) S (kX5_isActive hg u j (by omega)) (cwV 1 hts gX5_oldestNow_X5_isActive rfl rfl rfl hdX5_isActive ⟨Nat.le_of_ble_eq_true rfl, Nat.le_of_ble_eq_true rfl⟩) rfl rfl 0 rfl rfl hE hP hS (frs hS) rfl hl.1 rfl (Nat.le_of_ble_eq_true rfl) dX5_oldestNow_120 ⟨Nat.le_of_ble_eq_true rfl, Nat.le_of_ble_eq_true rfl⟩ (fun H locs hP _ _ hS => ?_)
              refine bzeq (tgt := 143) hx hb dX5_oldestNow_123 (by decide) (fun c3 => ?_) (fun c3 => ?_)
              · skip
                have hq0 : ¬ (m_sta u j = 0 ∧ ¬ ag u j ≤ d) := fun k => c3 k.1
                refine lv_iload_n hx hb dX5_oldestNow_143 rfl (lv_at hl 1 rfl) ?_
                refine lv_istore_n (lv' := [(1, .int d), (2, .int (nI j)), (0, .ref (g 0))]) hx hb dX5_oldestNow_144 rfl hl (by decide) rfl (fun ls hl => ?_)
                refine lv_iinc (v := nI (j + 1)) (lv' := [(2, .int (nI (j + 1))), (1, .int d), (0, .ref (g 0))]) hx hb dX5_oldestNow_145 hl (k := 1) rfl (nI_1 j) (by decide) rfl (fun ls hl => ?_)
                refine lv_goto (tgt := 110) hx hb dX5_oldestNow_148 (by decide) ?_
                exact ih110 (j + 1) d (by omega) (by rw [og2, ← hd]; first | exact (cif_t hq1).symm | exact (cif_f hq0).symm) (by omega) _ _ hP hS ls (lv_sub hl [0, 1, 2] rfl)
              · skip
                have ac : m_sta u j = 0 := c3
                refine lv_aload_n hx hb dX5_oldestNow_126 rfl (lv_at hl 2 rfl) ?_
                refine lv_iload_n hx hb dX5_oldestNow_127 rfl (lv_at hl 0 rfl) ?_
                refine kiV (As := [.int (nI j)]) (rest := []) S (kX5_ageOf hg u j (by omega)) (cwV 1 hts gX5_oldestNow_X5_ageOf rfl rfl rfl hdX5_ageOf ⟨Nat.le_of_ble_eq_true rfl, Nat.le_of_ble_eq_true rfl⟩) rfl rfl 0 rfl rfl hE hP hS (frs hS) rfl hl.1 rfl (Nat.le_of_ble_eq_true rfl) dX5_oldestNow_128 ⟨Nat.le_of_ble_eq_true rfl, Nat.le_of_ble_eq_true rfl⟩ (fun H locs hP _ _ hS => ?_)
                refine lv_iload_n hx hb dX5_oldestNow_131 rfl (lv_at hl 1 rfl) ?_
                refine lv_icmp_le (tgt := 143) hx hb dX5_oldestNow_132 (by decide) (fun c4 => ?_) (fun c4 => ?_)
                · skip
                  have hq0 : ¬ (m_sta u j = 0 ∧ ¬ ag u j ≤ d) := fun k => k.2 c4
                  refine lv_iload_n hx hb dX5_oldestNow_143 rfl (lv_at hl 1 rfl) ?_
                  refine lv_istore_n (lv' := [(1, .int d), (2, .int (nI j)), (0, .ref (g 0))]) hx hb dX5_oldestNow_144 rfl hl (by decide) rfl (fun ls hl => ?_)
                  refine lv_iinc (v := nI (j + 1)) (lv' := [(2, .int (nI (j + 1))), (1, .int d), (0, .ref (g 0))]) hx hb dX5_oldestNow_145 hl (k := 1) rfl (nI_1 j) (by decide) rfl (fun ls hl => ?_)
                  refine lv_goto (tgt := 110) hx hb dX5_oldestNow_148 (by decide) ?_
                  exact ih110 (j + 1) d (by omega) (by rw [og2, ← hd]; first | exact (cif_t hq1).symm | exact (cif_f hq0).symm) (by omega) _ _ hP hS ls (lv_sub hl [0, 1, 2] rfl)
                · skip
                  have hq1 : m_sta u j = 0 ∧ ¬ ag u j ≤ d := ⟨ac, c4⟩
                  refine lv_aload_n hx hb dX5_oldestNow_135 rfl (lv_at hl 2 rfl) ?_
                  refine lv_iload_n hx hb dX5_oldestNow_136 rfl (lv_at hl 0 rfl) ?_
                  refine kiV (As := [.int (nI j)]) (rest := []) S (kX5_ageOf hg u j (by omega)) (cwV 1 hts gX5_oldestNow_X5_ageOf rfl rfl rfl hdX5_ageOf ⟨Nat.le_of_ble_eq_true rfl, Nat.le_of_ble_eq_true rfl⟩) rfl rfl 0 rfl rfl hE hP hS (frs hS) rfl hl.1 rfl (Nat.le_of_ble_eq_true rfl) dX5_oldestNow_137 ⟨Nat.le_of_ble_eq_true rfl, Nat.le_of_ble_eq_true rfl⟩ (fun H locs hP _ _ hS => ?_)
                  refine lv_goto (tgt := 144) hx hb dX5_oldestNow_140 (by decide) ?_
                  refine lv_istore_n (lv' := [(1, .int (ag u j)), (2, .int (nI j)), (0, .ref (g 0))]) hx hb dX5_oldestNow_144 rfl hl (by decide) rfl (fun ls hl => ?_)
                  refine lv_iinc (v := nI (j + 1)) (lv' := [(2, .int (nI (j + 1))), (1, .int (ag u j)), (0, .ref (g 0))]) hx hb dX5_oldestNow_145 hl (k := 1) rfl (nI_1 j) (by decide) rfl (fun ls hl => ?_)
                  refine lv_goto (tgt := 110) hx hb dX5_oldestNow_148 (by decide) ?_
                  exact ih110 (j + 1) (ag u j) (by omega) (by rw [og2, ← hd]; first | exact (cif_t hq1).symm | exact (cif_f hq0).symm) (by omega) _ _ hP hS ls (lv_sub hl [0, 1, 2] rfl)
        exact loop110 _ 0 a (by omega) (by rw [ha, e9]; rfl) (Nat.lt_succ_self _) _ _ hP hS ls (lv_sub hl [0, 1, 2] rfl)
      · skip
        have hlt : i < 32 := nlt_i (a := i) (b := 32) (by omega) (by omega) c1
        have hbo : m_b u i = nI (nat (m_b u i)) ∧ nat (m_b u i) < 60 := (hr9.2.1 i (by omega)).1
        refine lv_aload_n hx hb dX5_oldestNow_10 rfl (lv_at hl 2 rfl) ?_
        refine gw5_isUsed S i5 hE hP (hts _ (List.mem_of_getElem? (i := 1) rfl)) dX5_oldestNow_11 ?_
        refine lv_iload_n hx hb dX5_oldestNow_14 rfl (lv_at hl 0 rfl) ?_
        refine lM_us S hE hP (f := m_us u) rfl (j := i) (by omega) rfl dX5_oldestNow_15 ?_
        refine lv_if_eq (tgt := 41) hx hb dX5_oldestNow_16 (by decide) (fun c5 => ?_) (fun c5 => ?_)
        · skip
          have hb0 : ¬ (¬ m_us u i = 0 ∧ m_fr u i = 0) := fun k => k.1 c5
          have hd0 : ¬ (¬ m_us u i = 0 ∧ ¬ m_d u i = -1) := fun k => k.1 c5
          refine lv_iconst (v := 0) hx hb dX5_oldestNow_41 (by decide) ?_
          refine tpi (y := bo u i) (by first | exact (cif_t hb1).symm | exact (cif_f hb0).symm) ?_
          refine lv_istore_n (lv' := [(3, .int (bo u i)), (2, .int (nI i)), (1, .int a), (0, .ref (g 0))]) hx hb dX5_oldestNow_42 rfl hl (by decide) rfl (fun ls hl => ?_)
          refine lv_aload_n hx hb dX5_oldestNow_43 rfl (lv_at hl 3 rfl) ?_
          refine gw5_isUsed S i5 hE hP (hts _ (List.mem_of_getElem? (i := 1) rfl)) dX5_oldestNow_44 ?_
          refine lv_iload_n hx hb dX5_oldestNow_47 rfl (lv_at hl 1 rfl) ?_
          refine lM_us S hE hP (f := m_us u) rfl (j := i) (by omega) rfl dX5_oldestNow_48 ?_
          refine lv_if_eq (tgt := 75) hx hb dX5_oldestNow_49 (by decide) (fun c6 => ?_) (fun c6 => ?_)
          · skip
            refine lv_iconst (v := 0) hx hb dX5_oldestNow_75 (by decide) ?_
            refine tpi (y := di u i) (by first | exact (cif_t hd1).symm | exact (cif_f hd0).symm) ?_
            refine lv_istore (lv' := [(4, .int (di u i)), (3, .int (bo u i)), (2, .int (nI i)), (1, .int a), (0, .ref (g 0))]) hx hb dX5_oldestNow_76 hl (by decide) rfl (fun ls hl => ?_)
            refine lv_iload_n hx hb dX5_oldestNow_78 rfl (lv_at hl 1 rfl) ?_
            refine lv_iload_n hx hb dX5_oldestNow_79 rfl (lv_at hl 3 rfl) ?_
            refine lv_icmp_le (tgt := 87) hx hb dX5_oldestNow_80 (by decide) (fun c7 => ?_) (fun c7 => ?_)
            · skip
              refine lv_iload_n hx hb dX5_oldestNow_87 rfl (lv_at hl 3 rfl) ?_
              refine tpi (y := mg (bo u i) a) (by first | exact (if_pos c7).symm | exact (if_neg c7).symm) ?_
              refine lv_istore_n (lv' := [(1, .int (mg (bo u i) a)), (4, .int (di u i)), (3, .int (bo u i)), (2, .int (nI i)), (0, .ref (g 0))]) hx hb dX5_oldestNow_88 rfl hl (by decide) rfl (fun ls hl => ?_)
              refine lv_iload hx hb dX5_oldestNow_89 (lv_at hl 1 rfl) ?_
              refine lv_iload_n hx hb dX5_oldestNow_91 rfl (lv_at hl 0 rfl) ?_
              refine lv_icmp_le (tgt := 100) hx hb dX5_oldestNow_92 (by decide) (fun c8 => ?_) (fun c8 => ?_)
              · skip
                refine lv_iload_n hx hb dX5_oldestNow_100 rfl (lv_at hl 0 rfl) ?_
                refine tpi (y := mg (di u i) (mg (bo u i) a)) (by first | exact (if_pos c8).symm | exact (if_neg c8).symm) ?_
                refine lv_istore_n (lv' := [(1, .int (mg (di u i) (mg (bo u i) a))), (4, .int (di u i)), (3, .int (bo u i)), (2, .int (nI i)), (0, .ref (g 0))]) hx hb dX5_oldestNow_101 rfl hl (by decide) rfl (fun ls hl => ?_)
                refine lv_iinc (v := nI (i + 1)) (lv' := [(2, .int (nI (i + 1))), (1, .int (mg (di u i) (mg (bo u i) a))), (4, .int (di u i)), (3, .int (bo u i)), (0, .ref (g 0))]) hx hb dX5_oldestNow_102 hl (k := 3) rfl (nI_1 i) (by decide) rfl (fun ls hl => ?_)
                refine lv_goto (tgt := 4) hx hb dX5_oldestNow_105 (by decide) ?_
                exact ih4 (i + 1) (mg (di u i) (mg (bo u i) a)) (by omega) (by rw [ha]; rfl) (by omega) _ _ hP hS ls (lv_sub hl [0, 1, 4] rfl)
              · skip
                refine lv_iload hx hb dX5_oldestNow_95 (lv_at hl 1 rfl) ?_
                refine lv_goto (tgt := 101) hx hb dX5_oldestNow_97 (by decide) ?_
                refine tpi (y := mg (di u i) (mg (bo u i) a)) (by first | exact (if_pos c8).symm | exact (if_neg c8).symm) ?_
                refine lv_istore_n (lv' := [(1, .int (mg (di u i) (mg (bo u i) a))), (4, .int (di u i)), (3, .int (bo u i)), (2, .int (nI i)), (0, .ref (g 0))]) hx hb dX5_oldestNow_101 rfl hl (by decide) rfl (fun ls hl => ?_)
                refine lv_iinc (v := nI (i + 1)) (lv' := [(2, .int (nI (i + 1))), (1, .int (mg (di u i) (mg (bo u i) a))), (4, .int (di u i)), (3, .int (bo u i)), (0, .ref (g 0))]) hx hb dX5_oldestNow_102 hl (k := 3) rfl (nI_1 i) (by decide) rfl (fun ls hl => ?_)
                refine lv_goto (tgt := 4) hx hb dX5_oldestNow_105 (by decide) ?_
                exact ih4 (i + 1) (mg (di u i) (mg (bo u i) a)) (by omega) (by rw [ha]; rfl) (by omega) _ _ hP hS ls (lv_sub hl [0, 1, 4] rfl)
            · skip
              refine lv_iload_n hx hb dX5_oldestNow_83 rfl (lv_at hl 1 rfl) ?_
              refine lv_goto (tgt := 88) hx hb dX5_oldestNow_84 (by decide) ?_
              refine tpi (y := mg (bo u i) a) (by first | exact (if_pos c7).symm | exact (if_neg c7).symm) ?_
              refine lv_istore_n (lv' := [(1, .int (mg (bo u i) a)), (4, .int (di u i)), (3, .int (bo u i)), (2, .int (nI i)), (0, .ref (g 0))]) hx hb dX5_oldestNow_88 rfl hl (by decide) rfl (fun ls hl => ?_)
              refine lv_iload hx hb dX5_oldestNow_89 (lv_at hl 1 rfl) ?_
              refine lv_iload_n hx hb dX5_oldestNow_91 rfl (lv_at hl 0 rfl) ?_
              refine lv_icmp_le (tgt := 100) hx hb dX5_oldestNow_92 (by decide) (fun c9 => ?_) (fun c9 => ?_)
              · skip
                refine lv_iload_n hx hb dX5_oldestNow_100 rfl (lv_at hl 0 rfl) ?_
                refine tpi (y := mg (di u i) (mg (bo u i) a)) (by first | exact (if_pos c9).symm | exact (if_neg c9).symm) ?_
                refine lv_istore_n (lv' := [(1, .int (mg (di u i) (mg (bo u i) a))), (4, .int (di u i)), (3, .int (bo u i)), (2, .int (nI i)), (0, .ref (g 0))]) hx hb dX5_oldestNow_101 rfl hl (by decide) rfl (fun ls hl => ?_)
                refine lv_iinc (v := nI (i + 1)) (lv' := [(2, .int (nI (i + 1))), (1, .int (mg (di u i) (mg (bo u i) a))), (4, .int (di u i)), (3, .int (bo u i)), (0, .ref (g 0))]) hx hb dX5_oldestNow_102 hl (k := 3) rfl (nI_1 i) (by decide) rfl (fun ls hl => ?_)
                refine lv_goto (tgt := 4) hx hb dX5_oldestNow_105 (by decide) ?_
                exact ih4 (i + 1) (mg (di u i) (mg (bo u i) a)) (by omega) (by rw [ha]; rfl) (by omega) _ _ hP hS ls (lv_sub hl [0, 1, 4] rfl)
              · skip
                refine lv_iload hx hb dX5_oldestNow_95 (lv_at hl 1 rfl) ?_
                refine lv_goto (tgt := 101) hx hb dX5_oldestNow_97 (by decide) ?_
                refine tpi (y := mg (di u i) (mg (bo u i) a)) (by first | exact (if_pos c9).symm | exact (if_neg c9).symm) ?_
                refine lv_istore_n (lv' := [(1, .int (mg (di u i) (mg (bo u i) a))), (4, .int (di u i)), (3, .int (bo u i)), (2, .int (nI i)), (0, .ref (g 0))]) hx hb dX5_oldestNow_101 rfl hl (by decide) rfl (fun ls hl => ?_)
                refine lv_iinc (v := nI (i + 1)) (lv' := [(2, .int (nI (i + 1))), (1, .int (mg (di u i) (mg (bo u i) a))), (4, .int (di u i)), (3, .int (bo u i)), (0, .ref (g 0))]) hx hb dX5_oldestNow_102 hl (k := 3) rfl (nI_1 i) (by decide) rfl (fun ls hl => ?_)
                refine lv_goto (tgt := 4) hx hb dX5_oldestNow_105 (by decide) ?_
                exact ih4 (i + 1) (mg (di u i) (mg (bo u i) a)) (by omega) (by rw [ha]; rfl) (by omega) _ _ hP hS ls (lv_sub hl [0, 1, 4] rfl)
          · skip
            exact absurd c5 c6
        · skip
          have us : ¬ m_us u i = 0 := c5
          refine lv_aload_n hx hb dX5_oldestNow_19 rfl (lv_at hl 2 rfl) ?_
          refine gw5_isFrozen S i5 hE hP (hts _ (List.mem_of_getElem? (i := 2) rfl)) dX5_oldestNow_20 ?_
          refine lv_iload_n hx hb dX5_oldestNow_23 rfl (lv_at hl 0 rfl) ?_
          refine lM_fr S hE hP (f := m_fr u) rfl (j := i) (by omega) rfl dX5_oldestNow_24 ?_
          refine lv_if_ne (tgt := 41) hx hb dX5_oldestNow_25 (by decide) (fun c10 => ?_) (fun c10 => ?_)
          · skip
            have hb0 : ¬ (¬ m_us u i = 0 ∧ m_fr u i = 0) := fun k => c10 k.2
            refine lv_iconst (v := 0) hx hb dX5_oldestNow_41 (by decide) ?_
            refine tpi (y := bo u i) (by first | exact (cif_t hb1).symm | exact (cif_f hb0).symm) ?_
            refine lv_istore_n (lv' := [(3, .int (bo u i)), (2, .int (nI i)), (1, .int a), (0, .ref (g 0))]) hx hb dX5_oldestNow_42 rfl hl (by decide) rfl (fun ls hl => ?_)
            refine lv_aload_n hx hb dX5_oldestNow_43 rfl (lv_at hl 3 rfl) ?_
            refine gw5_isUsed S i5 hE hP (hts _ (List.mem_of_getElem? (i := 1) rfl)) dX5_oldestNow_44 ?_
            refine lv_iload_n hx hb dX5_oldestNow_47 rfl (lv_at hl 1 rfl) ?_
            refine lM_us S hE hP (f := m_us u) rfl (j := i) (by omega) rfl dX5_oldestNow_48 ?_
            refine lv_if_eq (tgt := 75) hx hb dX5_oldestNow_49 (by decide) (fun c11 => ?_) (fun c11 => ?_)
            · skip
              exact absurd c11 c5
            · skip
              refine lv_aload_n hx hb dX5_oldestNow_52 rfl (lv_at hl 3 rfl) ?_
              refine gw5_death S i5 hE hP (hts _ (List.mem_of_getElem? (i := 4) rfl)) dX5_oldestNow_53 ?_
              refine lv_iload_n hx hb dX5_oldestNow_56 rfl (lv_at hl 1 rfl) ?_
              refine lM_d S hE hP (f := m_d u) rfl (j := i) (by omega) rfl dX5_oldestNow_57 ?_
              refine lv_iconst (v := (-1)) hx hb dX5_oldestNow_58 (by decide) ?_
              refine lv_icmp_eq (tgt := 75) hx hb dX5_oldestNow_59 (by decide) (fun c12 => ?_) (fun c12 => ?_)
              · skip
                have hd0 : ¬ (¬ m_us u i = 0 ∧ ¬ m_d u i = -1) := fun k => k.2 c12
                refine lv_iconst (v := 0) hx hb dX5_oldestNow_75 (by decide) ?_
                refine tpi (y := di u i) (by first | exact (cif_t hd1).symm | exact (cif_f hd0).symm) ?_
                refine lv_istore (lv' := [(4, .int (di u i)), (3, .int (bo u i)), (2, .int (nI i)), (1, .int a), (0, .ref (g 0))]) hx hb dX5_oldestNow_76 hl (by decide) rfl (fun ls hl => ?_)
                refine lv_iload_n hx hb dX5_oldestNow_78 rfl (lv_at hl 1 rfl) ?_
                refine lv_iload_n hx hb dX5_oldestNow_79 rfl (lv_at hl 3 rfl) ?_
                refine lv_icmp_le (tgt := 87) hx hb dX5_oldestNow_80 (by decide) (fun c13 => ?_) (fun c13 => ?_)
                · skip
                  refine lv_iload_n hx hb dX5_oldestNow_87 rfl (lv_at hl 3 rfl) ?_
                  refine tpi (y := mg (bo u i) a) (by first | exact (if_pos c13).symm | exact (if_neg c13).symm) ?_
                  refine lv_istore_n (lv' := [(1, .int (mg (bo u i) a)), (4, .int (di u i)), (3, .int (bo u i)), (2, .int (nI i)), (0, .ref (g 0))]) hx hb dX5_oldestNow_88 rfl hl (by decide) rfl (fun ls hl => ?_)
                  refine lv_iload hx hb dX5_oldestNow_89 (lv_at hl 1 rfl) ?_
                  refine lv_iload_n hx hb dX5_oldestNow_91 rfl (lv_at hl 0 rfl) ?_
                  refine lv_icmp_le (tgt := 100) hx hb dX5_oldestNow_92 (by decide) (fun c14 => ?_) (fun c14 => ?_)
                  · skip
                    refine lv_iload_n hx hb dX5_oldestNow_100 rfl (lv_at hl 0 rfl) ?_
                    refine tpi (y := mg (di u i) (mg (bo u i) a)) (by first | exact (if_pos c14).symm | exact (if_neg c14).symm) ?_
                    refine lv_istore_n (lv' := [(1, .int (mg (di u i) (mg (bo u i) a))), (4, .int (di u i)), (3, .int (bo u i)), (2, .int (nI i)), (0, .ref (g 0))]) hx hb dX5_oldestNow_101 rfl hl (by decide) rfl (fun ls hl => ?_)
                    refine lv_iinc (v := nI (i + 1)) (lv' := [(2, .int (nI (i + 1))), (1, .int (mg (di u i) (mg (bo u i) a))), (4, .int (di u i)), (3, .int (bo u i)), (0, .ref (g 0))]) hx hb dX5_oldestNow_102 hl (k := 3) rfl (nI_1 i) (by decide) rfl (fun ls hl => ?_)
                    refine lv_goto (tgt := 4) hx hb dX5_oldestNow_105 (by decide) ?_
                    exact ih4 (i + 1) (mg (di u i) (mg (bo u i) a)) (by omega) (by rw [ha]; rfl) (by omega) _ _ hP hS ls (lv_sub hl [0, 1, 4] rfl)
                  · skip
                    refine lv_iload hx hb dX5_oldestNow_95 (lv_at hl 1 rfl) ?_
                    refine lv_goto (tgt := 101) hx hb dX5_oldestNow_97 (by decide) ?_
                    refine tpi (y := mg (di u i) (mg (bo u i) a)) (by first | exact (if_pos c14).symm | exact (if_neg c14).symm) ?_
                    refine lv_istore_n (lv' := [(1, .int (mg (di u i) (mg (bo u i) a))), (4, .int (di u i)), (3, .int (bo u i)), (2, .int (nI i)), (0, .ref (g 0))]) hx hb dX5_oldestNow_101 rfl hl (by decide) rfl (fun ls hl => ?_)
                    refine lv_iinc (v := nI (i + 1)) (lv' := [(2, .int (nI (i + 1))), (1, .int (mg (di u i) (mg (bo u i) a))), (4, .int (di u i)), (3, .int (bo u i)), (0, .ref (g 0))]) hx hb dX5_oldestNow_102 hl (k := 3) rfl (nI_1 i) (by decide) rfl (fun ls hl => ?_)
                    refine lv_goto (tgt := 4) hx hb dX5_oldestNow_105 (by decide) ?_
                    exact ih4 (i + 1) (mg (di u i) (mg (bo u i) a)) (by omega) (by rw [ha]; rfl) (by omega) _ _ hP hS ls (lv_sub hl [0, 1, 4] rfl)
                · skip
                  refine lv_iload_n hx hb dX5_oldestNow_83 rfl (lv_at hl 1 rfl) ?_
                  refine lv_goto (tgt := 88) hx hb dX5_oldestNow_84 (by decide) ?_
                  refine tpi (y := mg (bo u i) a) (by first | exact (if_pos c13).symm | exact (if_neg c13).symm) ?_
                  refine lv_istore_n (lv' := [(1, .int (mg (bo u i) a)), (4, .int (di u i)), (3, .int (bo u i)), (2, .int (nI i)), (0, .ref (g 0))]) hx hb dX5_oldestNow_88 rfl hl (by decide) rfl (fun ls hl => ?_)
                  refine lv_iload hx hb dX5_oldestNow_89 (lv_at hl 1 rfl) ?_
                  refine lv_iload_n hx hb dX5_oldestNow_91 rfl (lv_at hl 0 rfl) ?_
                  refine lv_icmp_le (tgt := 100) hx hb dX5_oldestNow_92 (by decide) (fun c15 => ?_) (fun c15 => ?_)
                  · skip
                    refine lv_iload_n hx hb dX5_oldestNow_100 rfl (lv_at hl 0 rfl) ?_
                    refine tpi (y := mg (di u i) (mg (bo u i) a)) (by first | exact (if_pos c15).symm | exact (if_neg c15).symm) ?_
                    refine lv_istore_n (lv' := [(1, .int (mg (di u i) (mg (bo u i) a))), (4, .int (di u i)), (3, .int (bo u i)), (2, .int (nI i)), (0, .ref (g 0))]) hx hb dX5_oldestNow_101 rfl hl (by decide) rfl (fun ls hl => ?_)
                    refine lv_iinc (v := nI (i + 1)) (lv' := [(2, .int (nI (i + 1))), (1, .int (mg (di u i) (mg (bo u i) a))), (4, .int (di u i)), (3, .int (bo u i)), (0, .ref (g 0))]) hx hb dX5_oldestNow_102 hl (k := 3) rfl (nI_1 i) (by decide) rfl (fun ls hl => ?_)
                    refine lv_goto (tgt := 4) hx hb dX5_oldestNow_105 (by decide) ?_
                    exact ih4 (i + 1) (mg (di u i) (mg (bo u i) a)) (by omega) (by rw [ha]; rfl) (by omega) _ _ hP hS ls (lv_sub hl [0, 1, 4] rfl)
                  · skip
                    refine lv_iload hx hb dX5_oldestNow_95 (lv_at hl 1 rfl) ?_
                    refine lv_goto (tgt := 101) hx hb dX5_oldestNow_97 (by decide) ?_
                    refine tpi (y := mg (di u i) (mg (bo u i) a)) (by first | exact (if_pos c15).symm | exact (if_neg c15).symm) ?_
                    refine lv_istore_n (lv' := [(1, .int (mg (di u i) (mg (bo u i) a))), (4, .int (di u i)), (3, .int (bo u i)), (2, .int (nI i)), (0, .ref (g 0))]) hx hb dX5_oldestNow_101 rfl hl (by decide) rfl (fun ls hl => ?_)
                    refine lv_iinc (v := nI (i + 1)) (lv' := [(2, .int (nI (i + 1))), (1, .int (mg (di u i) (mg (bo u i) a))), (4, .int (di u i)), (3, .int (bo u i)), (0, .ref (g 0))]) hx hb dX5_oldestNow_102 hl (k := 3) rfl (nI_1 i) (by decide) rfl (fun ls hl => ?_)
                    refine lv_goto (tgt := 4) hx hb dX5_oldestNow_105 (by decide) ?_
                    exact ih4 (i + 1) (mg (di u i) (mg (bo u i) a)) (by omega) (by rw [ha]; rfl) (by omega) _ _ hP hS ls (lv_sub hl [0, 1, 4] rfl)
              · skip
                have hd1 : ¬ m_us u i = 0 ∧ ¬ m_d u i = -1 := ⟨us, c12⟩
                have hdo : m_d u i = nI (nat (m_d u i)) ∧ nat (m_d u i) < 60 := rO (hr9.2.1 i hlt).2.1 c12
                refine lv_aload_n hx hb dX5_oldestNow_62 rfl (lv_at hl 3 rfl) ?_
                refine lv_aload_n hx hb dX5_oldestNow_63 rfl (lv_at hl 3 rfl) ?_
                refine gw5_death S i5 hE hP (hts _ (List.mem_of_getElem? (i := 4) rfl)) dX5_oldestNow_64 ?_
                refine lv_iload_n hx hb dX5_oldestNow_67 rfl (lv_at hl 1 rfl) ?_
                refine lM_d S hE hP (f := m_d u) rfl (j := i) (by omega) rfl dX5_oldestNow_68 ?_
                refine tpi (y := nI (nat (m_d u i))) hdo.1 ?_
                refine kiV (As := [.int (nI (nat (m_d u i)))]) (rest := []) S (kX5_ageOf hg u (nat (m_d u i)) (by omega)) (cwV 1 hts gX5_oldestNow_X5_ageOf rfl rfl rfl hdX5_ageOf ⟨Nat.le_of_ble_eq_true rfl, Nat.le_of_ble_eq_true rfl⟩) rfl rfl 0 rfl rfl hE hP hS (frs hS) rfl hl.1 rfl (Nat.le_of_ble_eq_true rfl) dX5_oldestNow_69 ⟨Nat.le_of_ble_eq_true rfl, Nat.le_of_ble_eq_true rfl⟩ (fun H locs hP _ _ hS => ?_)
                refine lv_goto (tgt := 76) hx hb dX5_oldestNow_72 (by decide) ?_
                refine tpi (y := di u i) (by first | exact (cif_t hd1).symm | exact (cif_f hd0).symm) ?_
                refine lv_istore (lv' := [(4, .int (di u i)), (3, .int (bo u i)), (2, .int (nI i)), (1, .int a), (0, .ref (g 0))]) hx hb dX5_oldestNow_76 hl (by decide) rfl (fun ls hl => ?_)
                refine lv_iload_n hx hb dX5_oldestNow_78 rfl (lv_at hl 1 rfl) ?_
                refine lv_iload_n hx hb dX5_oldestNow_79 rfl (lv_at hl 3 rfl) ?_
                refine lv_icmp_le (tgt := 87) hx hb dX5_oldestNow_80 (by decide) (fun c16 => ?_) (fun c16 => ?_)
                · skip
                  refine lv_iload_n hx hb dX5_oldestNow_87 rfl (lv_at hl 3 rfl) ?_
                  refine tpi (y := mg (bo u i) a) (by first | exact (if_pos c16).symm | exact (if_neg c16).symm) ?_
                  refine lv_istore_n (lv' := [(1, .int (mg (bo u i) a)), (4, .int (di u i)), (3, .int (bo u i)), (2, .int (nI i)), (0, .ref (g 0))]) hx hb dX5_oldestNow_88 rfl hl (by decide) rfl (fun ls hl => ?_)
                  refine lv_iload hx hb dX5_oldestNow_89 (lv_at hl 1 rfl) ?_
                  refine lv_iload_n hx hb dX5_oldestNow_91 rfl (lv_at hl 0 rfl) ?_
                  refine lv_icmp_le (tgt := 100) hx hb dX5_oldestNow_92 (by decide) (fun c17 => ?_) (fun c17 => ?_)
                  · skip
                    refine lv_iload_n hx hb dX5_oldestNow_100 rfl (lv_at hl 0 rfl) ?_
                    refine tpi (y := mg (di u i) (mg (bo u i) a)) (by first | exact (if_pos c17).symm | exact (if_neg c17).symm) ?_
                    refine lv_istore_n (lv' := [(1, .int (mg (di u i) (mg (bo u i) a))), (4, .int (di u i)), (3, .int (bo u i)), (2, .int (nI i)), (0, .ref (g 0))]) hx hb dX5_oldestNow_101 rfl hl (by decide) rfl (fun ls hl => ?_)
                    refine lv_iinc (v := nI (i + 1)) (lv' := [(2, .int (nI (i + 1))), (1, .int (mg (di u i) (mg (bo u i) a))), (4, .int (di u i)), (3, .int (bo u i)), (0, .ref (g 0))]) hx hb dX5_oldestNow_102 hl (k := 3) rfl (nI_1 i) (by decide) rfl (fun ls hl => ?_)
                    refine lv_goto (tgt := 4) hx hb dX5_oldestNow_105 (by decide) ?_
                    exact ih4 (i + 1) (mg (di u i) (mg (bo u i) a)) (by omega) (by rw [ha]; rfl) (by omega) _ _ hP hS ls (lv_sub hl [0, 1, 4] rfl)
                  · skip
                    refine lv_iload hx hb dX5_oldestNow_95 (lv_at hl 1 rfl) ?_
                    refine lv_goto (tgt := 101) hx hb dX5_oldestNow_97 (by decide) ?_
                    refine tpi (y := mg (di u i) (mg (bo u i) a)) (by first | exact (if_pos c17).symm | exact (if_neg c17).symm) ?_
                    refine lv_istore_n (lv' := [(1, .int (mg (di u i) (mg (bo u i) a))), (4, .int (di u i)), (3, .int (bo u i)), (2, .int (nI i)), (0, .ref (g 0))]) hx hb dX5_oldestNow_101 rfl hl (by decide) rfl (fun ls hl => ?_)
                    refine lv_iinc (v := nI (i + 1)) (lv' := [(2, .int (nI (i + 1))), (1, .int (mg (di u i) (mg (bo u i) a))), (4, .int (di u i)), (3, .int (bo u i)), (0, .ref (g 0))]) hx hb dX5_oldestNow_102 hl (k := 3) rfl (nI_1 i) (by decide) rfl (fun ls hl => ?_)
                    refine lv_goto (tgt := 4) hx hb dX5_oldestNow_105 (by decide) ?_
                    exact ih4 (i + 1) (mg (di u i) (mg (bo u i) a)) (by omega) (by rw [ha]; rfl) (by omega) _ _ hP hS ls (lv_sub hl [0, 1, 4] rfl)
                · skip
                  refine lv_iload_n hx hb dX5_oldestNow_83 rfl (lv_at hl 1 rfl) ?_
                  refine lv_goto (tgt := 88) hx hb dX5_oldestNow_84 (by decide) ?_
                  refine tpi (y := mg (bo u i) a) (by first | exact (if_pos c16).symm | exact (if_neg c16).symm) ?_
                  refine lv_istore_n (lv' := [(1, .int (mg (bo u i) a)), (4, .int (di u i)), (3, .int (bo u i)), (2, .int (nI i)), (0, .ref (g 0))]) hx hb dX5_oldestNow_88 rfl hl (by decide) rfl (fun ls hl => ?_)
                  refine lv_iload hx hb dX5_oldestNow_89 (lv_at hl 1 rfl) ?_
                  refine lv_iload_n hx hb dX5_oldestNow_91 rfl (lv_at hl 0 rfl) ?_
                  refine lv_icmp_le (tgt := 100) hx hb dX5_oldestNow_92 (by decide) (fun c18 => ?_) (fun c18 => ?_)
                  · skip
                    refine lv_iload_n hx hb dX5_oldestNow_100 rfl (lv_at hl 0 rfl) ?_
                    refine tpi (y := mg (di u i) (mg (bo u i) a)) (by first | exact (if_pos c18).symm | exact (if_neg c18).symm) ?_
                    refine lv_istore_n (lv' := [(1, .int (mg (di u i) (mg (bo u i) a))), (4, .int (di u i)), (3, .int (bo u i)), (2, .int (nI i)), (0, .ref (g 0))]) hx hb dX5_oldestNow_101 rfl hl (by decide) rfl (fun ls hl => ?_)
                    refine lv_iinc (v := nI (i + 1)) (lv' := [(2, .int (nI (i + 1))), (1, .int (mg (di u i) (mg (bo u i) a))), (4, .int (di u i)), (3, .int (bo u i)), (0, .ref (g 0))]) hx hb dX5_oldestNow_102 hl (k := 3) rfl (nI_1 i) (by decide) rfl (fun ls hl => ?_)
                    refine lv_goto (tgt := 4) hx hb dX5_oldestNow_105 (by decide) ?_
                    exact ih4 (i + 1) (mg (di u i) (mg (bo u i) a)) (by omega) (by rw [ha]; rfl) (by omega) _ _ hP hS ls (lv_sub hl [0, 1, 4] rfl)
                  · skip
                    refine lv_iload hx hb dX5_oldestNow_95 (lv_at hl 1 rfl) ?_
                    refine lv_goto (tgt := 101) hx hb dX5_oldestNow_97 (by decide) ?_
                    refine tpi (y := mg (di u i) (mg (bo u i) a)) (by first | exact (if_pos c18).symm | exact (if_neg c18).symm) ?_
                    refine lv_istore_n (lv' := [(1, .int (mg (di u i) (mg (bo u i) a))), (4, .int (di u i)), (3, .int (bo u i)), (2, .int (nI i)), (0, .ref (g 0))]) hx hb dX5_oldestNow_101 rfl hl (by decide) rfl (fun ls hl => ?_)
                    refine lv_iinc (v := nI (i + 1)) (lv' := [(2, .int (nI (i + 1))), (1, .int (mg (di u i) (mg (bo u i) a))), (4, .int (di u i)), (3, .int (bo u i)), (0, .ref (g 0))]) hx hb dX5_oldestNow_102 hl (k := 3) rfl (nI_1 i) (by decide) rfl (fun ls hl => ?_)
                    refine lv_goto (tgt := 4) hx hb dX5_oldestNow_105 (by decide) ?_
                    exact ih4 (i + 1) (mg (di u i) (mg (bo u i) a)) (by omega) (by rw [ha]; rfl) (by omega) _ _ hP hS ls (lv_sub hl [0, 1, 4] rfl)
          · skip
            have hb1 : ¬ m_us u i = 0 ∧ m_fr u i = 0 := ⟨us, c10⟩
            refine lv_aload_n hx hb dX5_oldestNow_28 rfl (lv_at hl 2 rfl) ?_
            refine lv_aload_n hx hb dX5_oldestNow_29 rfl (lv_at hl 2 rfl) ?_
            refine gw5_birth S i5 hE hP (hts _ (List.mem_of_getElem? (i := 3) rfl)) dX5_oldestNow_30 ?_
            refine lv_iload_n hx hb dX5_oldestNow_33 rfl (lv_at hl 0 rfl) ?_
            refine lM_b S hE hP (f := m_b u) rfl (j := i) (by omega) rfl dX5_oldestNow_34 ?_
            refine tpi (y := nI (nat (m_b u i))) hbo.1 ?_
            refine kiV (As := [.int (nI (nat (m_b u i)))]) (rest := []) S (kX5_ageOf hg u (nat (m_b u i)) (by omega)) (cwV 1 hts gX5_oldestNow_X5_ageOf rfl rfl rfl hdX5_ageOf ⟨Nat.le_of_ble_eq_true rfl, Nat.le_of_ble_eq_true rfl⟩) rfl rfl 0 rfl rfl hE hP hS (frs hS) rfl hl.1 rfl (Nat.le_of_ble_eq_true rfl) dX5_oldestNow_35 ⟨Nat.le_of_ble_eq_true rfl, Nat.le_of_ble_eq_true rfl⟩ (fun H locs hP _ _ hS => ?_)
            refine lv_goto (tgt := 42) hx hb dX5_oldestNow_38 (by decide) ?_
            refine tpi (y := bo u i) (by first | exact (cif_t hb1).symm | exact (cif_f hb0).symm) ?_
            refine lv_istore_n (lv' := [(3, .int (bo u i)), (2, .int (nI i)), (1, .int a), (0, .ref (g 0))]) hx hb dX5_oldestNow_42 rfl hl (by decide) rfl (fun ls hl => ?_)
            refine lv_aload_n hx hb dX5_oldestNow_43 rfl (lv_at hl 3 rfl) ?_
            refine gw5_isUsed S i5 hE hP (hts _ (List.mem_of_getElem? (i := 1) rfl)) dX5_oldestNow_44 ?_
            refine lv_iload_n hx hb dX5_oldestNow_47 rfl (lv_at hl 1 rfl) ?_
            refine lM_us S hE hP (f := m_us u) rfl (j := i) (by omega) rfl dX5_oldestNow_48 ?_
            refine lv_if_eq (tgt := 75) hx hb dX5_oldestNow_49 (by decide) (fun c19 => ?_) (fun c19 => ?_)
            · skip
              exact absurd c19 c5
            · skip
              refine lv_aload_n hx hb dX5_oldestNow_52 rfl (lv_at hl 3 rfl) ?_
              refine gw5_death S i5 hE hP (hts _ (List.mem_of_getElem? (i := 4) rfl)) dX5_oldestNow_53 ?_
              refine lv_iload_n hx hb dX5_oldestNow_56 rfl (lv_at hl 1 rfl) ?_
              refine lM_d S hE hP (f := m_d u) rfl (j := i) (by omega) rfl dX5_oldestNow_57 ?_
              refine lv_iconst (v := (-1)) hx hb dX5_oldestNow_58 (by decide) ?_
              refine lv_icmp_eq (tgt := 75) hx hb dX5_oldestNow_59 (by decide) (fun c20 => ?_) (fun c20 => ?_)
              · skip
                have hd0 : ¬ (¬ m_us u i = 0 ∧ ¬ m_d u i = -1) := fun k => k.2 c20
                refine lv_iconst (v := 0) hx hb dX5_oldestNow_75 (by decide) ?_
                refine tpi (y := di u i) (by first | exact (cif_t hd1).symm | exact (cif_f hd0).symm) ?_
                refine lv_istore (lv' := [(4, .int (di u i)), (3, .int (bo u i)), (2, .int (nI i)), (1, .int a), (0, .ref (g 0))]) hx hb dX5_oldestNow_76 hl (by decide) rfl (fun ls hl => ?_)
                refine lv_iload_n hx hb dX5_oldestNow_78 rfl (lv_at hl 1 rfl) ?_
                refine lv_iload_n hx hb dX5_oldestNow_79 rfl (lv_at hl 3 rfl) ?_
                refine lv_icmp_le (tgt := 87) hx hb dX5_oldestNow_80 (by decide) (fun c21 => ?_) (fun c21 => ?_)
                · skip
                  refine lv_iload_n hx hb dX5_oldestNow_87 rfl (lv_at hl 3 rfl) ?_
                  refine tpi (y := mg (bo u i) a) (by first | exact (if_pos c21).symm | exact (if_neg c21).symm) ?_
                  refine lv_istore_n (lv' := [(1, .int (mg (bo u i) a)), (4, .int (di u i)), (3, .int (bo u i)), (2, .int (nI i)), (0, .ref (g 0))]) hx hb dX5_oldestNow_88 rfl hl (by decide) rfl (fun ls hl => ?_)
                  refine lv_iload hx hb dX5_oldestNow_89 (lv_at hl 1 rfl) ?_
                  refine lv_iload_n hx hb dX5_oldestNow_91 rfl (lv_at hl 0 rfl) ?_
                  refine lv_icmp_le (tgt := 100) hx hb dX5_oldestNow_92 (by decide) (fun c22 => ?_) (fun c22 => ?_)
                  · skip
                    refine lv_iload_n hx hb dX5_oldestNow_100 rfl (lv_at hl 0 rfl) ?_
                    refine tpi (y := mg (di u i) (mg (bo u i) a)) (by first | exact (if_pos c22).symm | exact (if_neg c22).symm) ?_
                    refine lv_istore_n (lv' := [(1, .int (mg (di u i) (mg (bo u i) a))), (4, .int (di u i)), (3, .int (bo u i)), (2, .int (nI i)), (0, .ref (g 0))]) hx hb dX5_oldestNow_101 rfl hl (by decide) rfl (fun ls hl => ?_)
                    refine lv_iinc (v := nI (i + 1)) (lv' := [(2, .int (nI (i + 1))), (1, .int (mg (di u i) (mg (bo u i) a))), (4, .int (di u i)), (3, .int (bo u i)), (0, .ref (g 0))]) hx hb dX5_oldestNow_102 hl (k := 3) rfl (nI_1 i) (by decide) rfl (fun ls hl => ?_)
                    refine lv_goto (tgt := 4) hx hb dX5_oldestNow_105 (by decide) ?_
                    exact ih4 (i + 1) (mg (di u i) (mg (bo u i) a)) (by omega) (by rw [ha]; rfl) (by omega) _ _ hP hS ls (lv_sub hl [0, 1, 4] rfl)
                  · skip
                    refine lv_iload hx hb dX5_oldestNow_95 (lv_at hl 1 rfl) ?_
                    refine lv_goto (tgt := 101) hx hb dX5_oldestNow_97 (by decide) ?_
                    refine tpi (y := mg (di u i) (mg (bo u i) a)) (by first | exact (if_pos c22).symm | exact (if_neg c22).symm) ?_
                    refine lv_istore_n (lv' := [(1, .int (mg (di u i) (mg (bo u i) a))), (4, .int (di u i)), (3, .int (bo u i)), (2, .int (nI i)), (0, .ref (g 0))]) hx hb dX5_oldestNow_101 rfl hl (by decide) rfl (fun ls hl => ?_)
                    refine lv_iinc (v := nI (i + 1)) (lv' := [(2, .int (nI (i + 1))), (1, .int (mg (di u i) (mg (bo u i) a))), (4, .int (di u i)), (3, .int (bo u i)), (0, .ref (g 0))]) hx hb dX5_oldestNow_102 hl (k := 3) rfl (nI_1 i) (by decide) rfl (fun ls hl => ?_)
                    refine lv_goto (tgt := 4) hx hb dX5_oldestNow_105 (by decide) ?_
                    exact ih4 (i + 1) (mg (di u i) (mg (bo u i) a)) (by omega) (by rw [ha]; rfl) (by omega) _ _ hP hS ls (lv_sub hl [0, 1, 4] rfl)
                · skip
                  refine lv_iload_n hx hb dX5_oldestNow_83 rfl (lv_at hl 1 rfl) ?_
                  refine lv_goto (tgt := 88) hx hb dX5_oldestNow_84 (by decide) ?_
                  refine tpi (y := mg (bo u i) a) (by first | exact (if_pos c21).symm | exact (if_neg c21).symm) ?_
                  refine lv_istore_n (lv' := [(1, .int (mg (bo u i) a)), (4, .int (di u i)), (3, .int (bo u i)), (2, .int (nI i)), (0, .ref (g 0))]) hx hb dX5_oldestNow_88 rfl hl (by decide) rfl (fun ls hl => ?_)
                  refine lv_iload hx hb dX5_oldestNow_89 (lv_at hl 1 rfl) ?_
                  refine lv_iload_n hx hb dX5_oldestNow_91 rfl (lv_at hl 0 rfl) ?_
                  refine lv_icmp_le (tgt := 100) hx hb dX5_oldestNow_92 (by decide) (fun c23 => ?_) (fun c23 => ?_)
                  · skip
                    refine lv_iload_n hx hb dX5_oldestNow_100 rfl (lv_at hl 0 rfl) ?_
                    refine tpi (y := mg (di u i) (mg (bo u i) a)) (by first | exact (if_pos c23).symm | exact (if_neg c23).symm) ?_
                    refine lv_istore_n (lv' := [(1, .int (mg (di u i) (mg (bo u i) a))), (4, .int (di u i)), (3, .int (bo u i)), (2, .int (nI i)), (0, .ref (g 0))]) hx hb dX5_oldestNow_101 rfl hl (by decide) rfl (fun ls hl => ?_)
                    refine lv_iinc (v := nI (i + 1)) (lv' := [(2, .int (nI (i + 1))), (1, .int (mg (di u i) (mg (bo u i) a))), (4, .int (di u i)), (3, .int (bo u i)), (0, .ref (g 0))]) hx hb dX5_oldestNow_102 hl (k := 3) rfl (nI_1 i) (by decide) rfl (fun ls hl => ?_)
                    refine lv_goto (tgt := 4) hx hb dX5_oldestNow_105 (by decide) ?_
                    exact ih4 (i + 1) (mg (di u i) (mg (bo u i) a)) (by omega) (by rw [ha]; rfl) (by omega) _ _ hP hS ls (lv_sub hl [0, 1, 4] rfl)
                  · skip
                    refine lv_iload hx hb dX5_oldestNow_95 (lv_at hl 1 rfl) ?_
                    refine lv_goto (tgt := 101) hx hb dX5_oldestNow_97 (by decide) ?_
                    refine tpi (y := mg (di u i) (mg (bo u i) a)) (by first | exact (if_pos c23).symm | exact (if_neg c23).symm) ?_
                    refine lv_istore_n (lv' := [(1, .int (mg (di u i) (mg (bo u i) a))), (4, .int (di u i)), (3, .int (bo u i)), (2, .int (nI i)), (0, .ref (g 0))]) hx hb dX5_oldestNow_101 rfl hl (by decide) rfl (fun ls hl => ?_)
                    refine lv_iinc (v := nI (i + 1)) (lv' := [(2, .int (nI (i + 1))), (1, .int (mg (di u i) (mg (bo u i) a))), (4, .int (di u i)), (3, .int (bo u i)), (0, .ref (g 0))]) hx hb dX5_oldestNow_102 hl (k := 3) rfl (nI_1 i) (by decide) rfl (fun ls hl => ?_)
                    refine lv_goto (tgt := 4) hx hb dX5_oldestNow_105 (by decide) ?_
                    exact ih4 (i + 1) (mg (di u i) (mg (bo u i) a)) (by omega) (by rw [ha]; rfl) (by omega) _ _ hP hS ls (lv_sub hl [0, 1, 4] rfl)
              · skip
                have hd1 : ¬ m_us u i = 0 ∧ ¬ m_d u i = -1 := ⟨us, c20⟩
                have hdo : m_d u i = nI (nat (m_d u i)) ∧ nat (m_d u i) < 60 := rO (hr9.2.1 i hlt).2.1 c20
                refine lv_aload_n hx hb dX5_oldestNow_62 rfl (lv_at hl 3 rfl) ?_
                refine lv_aload_n hx hb dX5_oldestNow_63 rfl (lv_at hl 3 rfl) ?_
                refine gw5_death S i5 hE hP (hts _ (List.mem_of_getElem? (i := 4) rfl)) dX5_oldestNow_64 ?_
                refine lv_iload_n hx hb dX5_oldestNow_67 rfl (lv_at hl 1 rfl) ?_
                refine lM_d S hE hP (f := m_d u) rfl (j := i) (by omega) rfl dX5_oldestNow_68 ?_
                refine tpi (y := nI (nat (m_d u i))) hdo.1 ?_
                refine kiV (As := [.int (nI (nat (m_d u i)))]) (rest := []) S (kX5_ageOf hg u (nat (m_d u i)) (by omega)) (cwV 1 hts gX5_oldestNow_X5_ageOf rfl rfl rfl hdX5_ageOf ⟨Nat.le_of_ble_eq_true rfl, Nat.le_of_ble_eq_true rfl⟩) rfl rfl 0 rfl rfl hE hP hS (frs hS) rfl hl.1 rfl (Nat.le_of_ble_eq_true rfl) dX5_oldestNow_69 ⟨Nat.le_of_ble_eq_true rfl, Nat.le_of_ble_eq_true rfl⟩ (fun H locs hP _ _ hS => ?_)
                refine lv_goto (tgt := 76) hx hb dX5_oldestNow_72 (by decide) ?_
                refine tpi (y := di u i) (by first | exact (cif_t hd1).symm | exact (cif_f hd0).symm) ?_
                refine lv_istore (lv' := [(4, .int (di u i)), (3, .int (bo u i)), (2, .int (nI i)), (1, .int a), (0, .ref (g 0))]) hx hb dX5_oldestNow_76 hl (by decide) rfl (fun ls hl => ?_)
                refine lv_iload_n hx hb dX5_oldestNow_78 rfl (lv_at hl 1 rfl) ?_
                refine lv_iload_n hx hb dX5_oldestNow_79 rfl (lv_at hl 3 rfl) ?_
                refine lv_icmp_le (tgt := 87) hx hb dX5_oldestNow_80 (by decide) (fun c24 => ?_) (fun c24 => ?_)
                · skip
                  refine lv_iload_n hx hb dX5_oldestNow_87 rfl (lv_at hl 3 rfl) ?_
                  refine tpi (y := mg (bo u i) a) (by first | exact (if_pos c24).symm | exact (if_neg c24).symm) ?_
                  refine lv_istore_n (lv' := [(1, .int (mg (bo u i) a)), (4, .int (di u i)), (3, .int (bo u i)), (2, .int (nI i)), (0, .ref (g 0))]) hx hb dX5_oldestNow_88 rfl hl (by decide) rfl (fun ls hl => ?_)
                  refine lv_iload hx hb dX5_oldestNow_89 (lv_at hl 1 rfl) ?_
                  refine lv_iload_n hx hb dX5_oldestNow_91 rfl (lv_at hl 0 rfl) ?_
                  refine lv_icmp_le (tgt := 100) hx hb dX5_oldestNow_92 (by decide) (fun c25 => ?_) (fun c25 => ?_)
                  · skip
                    refine lv_iload_n hx hb dX5_oldestNow_100 rfl (lv_at hl 0 rfl) ?_
                    refine tpi (y := mg (di u i) (mg (bo u i) a)) (by first | exact (if_pos c25).symm | exact (if_neg c25).symm) ?_
                    refine lv_istore_n (lv' := [(1, .int (mg (di u i) (mg (bo u i) a))), (4, .int (di u i)), (3, .int (bo u i)), (2, .int (nI i)), (0, .ref (g 0))]) hx hb dX5_oldestNow_101 rfl hl (by decide) rfl (fun ls hl => ?_)
                    refine lv_iinc (v := nI (i + 1)) (lv' := [(2, .int (nI (i + 1))), (1, .int (mg (di u i) (mg (bo u i) a))), (4, .int (di u i)), (3, .int (bo u i)), (0, .ref (g 0))]) hx hb dX5_oldestNow_102 hl (k := 3) rfl (nI_1 i) (by decide) rfl (fun ls hl => ?_)
                    refine lv_goto (tgt := 4) hx hb dX5_oldestNow_105 (by decide) ?_
                    exact ih4 (i + 1) (mg (di u i) (mg (bo u i) a)) (by omega) (by rw [ha]; rfl) (by omega) _ _ hP hS ls (lv_sub hl [0, 1, 4] rfl)
                  · skip
                    refine lv_iload hx hb dX5_oldestNow_95 (lv_at hl 1 rfl) ?_
                    refine lv_goto (tgt := 101) hx hb dX5_oldestNow_97 (by decide) ?_
                    refine tpi (y := mg (di u i) (mg (bo u i) a)) (by first | exact (if_pos c25).symm | exact (if_neg c25).symm) ?_
                    refine lv_istore_n (lv' := [(1, .int (mg (di u i) (mg (bo u i) a))), (4, .int (di u i)), (3, .int (bo u i)), (2, .int (nI i)), (0, .ref (g 0))]) hx hb dX5_oldestNow_101 rfl hl (by decide) rfl (fun ls hl => ?_)
                    refine lv_iinc (v := nI (i + 1)) (lv' := [(2, .int (nI (i + 1))), (1, .int (mg (di u i) (mg (bo u i) a))), (4, .int (di u i)), (3, .int (bo u i)), (0, .ref (g 0))]) hx hb dX5_oldestNow_102 hl (k := 3) rfl (nI_1 i) (by decide) rfl (fun ls hl => ?_)
                    refine lv_goto (tgt := 4) hx hb dX5_oldestNow_105 (by decide) ?_
                    exact ih4 (i + 1) (mg (di u i) (mg (bo u i) a)) (by omega) (by rw [ha]; rfl) (by omega) _ _ hP hS ls (lv_sub hl [0, 1, 4] rfl)
                · skip
                  refine lv_iload_n hx hb dX5_oldestNow_83 rfl (lv_at hl 1 rfl) ?_
                  refine lv_goto (tgt := 88) hx hb dX5_oldestNow_84 (by decide) ?_
                  refine tpi (y := mg (bo u i) a) (by first | exact (if_pos c24).symm | exact (if_neg c24).symm) ?_
                  refine lv_istore_n (lv' := [(1, .int (mg (bo u i) a)), (4, .int (di u i)), (3, .int (bo u i)), (2, .int (nI i)), (0, .ref (g 0))]) hx hb dX5_oldestNow_88 rfl hl (by decide) rfl (fun ls hl => ?_)
                  refine lv_iload hx hb dX5_oldestNow_89 (lv_at hl 1 rfl) ?_
                  refine lv_iload_n hx hb dX5_oldestNow_91 rfl (lv_at hl 0 rfl) ?_
                  refine lv_icmp_le (tgt := 100) hx hb dX5_oldestNow_92 (by decide) (fun c26 => ?_) (fun c26 => ?_)
                  · skip
                    refine lv_iload_n hx hb dX5_oldestNow_100 rfl (lv_at hl 0 rfl) ?_
                    refine tpi (y := mg (di u i) (mg (bo u i) a)) (by first | exact (if_pos c26).symm | exact (if_neg c26).symm) ?_
                    refine lv_istore_n (lv' := [(1, .int (mg (di u i) (mg (bo u i) a))), (4, .int (di u i)), (3, .int (bo u i)), (2, .int (nI i)), (0, .ref (g 0))]) hx hb dX5_oldestNow_101 rfl hl (by decide) rfl (fun ls hl => ?_)
                    refine lv_iinc (v := nI (i + 1)) (lv' := [(2, .int (nI (i + 1))), (1, .int (mg (di u i) (mg (bo u i) a))), (4, .int (di u i)), (3, .int (bo u i)), (0, .ref (g 0))]) hx hb dX5_oldestNow_102 hl (k := 3) rfl (nI_1 i) (by decide) rfl (fun ls hl => ?_)
                    refine lv_goto (tgt := 4) hx hb dX5_oldestNow_105 (by decide) ?_
                    exact ih4 (i + 1) (mg (di u i) (mg (bo u i) a)) (by omega) (by rw [ha]; rfl) (by omega) _ _ hP hS ls (lv_sub hl [0, 1, 4] rfl)
                  · skip
                    refine lv_iload hx hb dX5_oldestNow_95 (lv_at hl 1 rfl) ?_
                    refine lv_goto (tgt := 101) hx hb dX5_oldestNow_97 (by decide) ?_
                    refine tpi (y := mg (di u i) (mg (bo u i) a)) (by first | exact (if_pos c26).symm | exact (if_neg c26).symm) ?_
                    refine lv_istore_n (lv' := [(1, .int (mg (di u i) (mg (bo u i) a))), (4, .int (di u i)), (3, .int (bo u i)), (2, .int (nI i)), (0, .ref (g 0))]) hx hb dX5_oldestNow_101 rfl hl (by decide) rfl (fun ls hl => ?_)
                    refine lv_iinc (v := nI (i + 1)) (lv' := [(2, .int (nI (i + 1))), (1, .int (mg (di u i) (mg (bo u i) a))), (4, .int (di u i)), (3, .int (bo u i)), (0, .ref (g 0))]) hx hb dX5_oldestNow_102 hl (k := 3) rfl (nI_1 i) (by decide) rfl (fun ls hl => ?_)
                    refine lv_goto (tgt := 4) hx hb dX5_oldestNow_105 (by decide) ?_
                    exact ih4 (i + 1) (mg (di u i) (mg (bo u i) a)) (by omega) (by rw [ha]; rfl) (by omega) _ _ hP hS ls (lv_sub hl [0, 1, 4] rfl)
  exact loop4 _ 0 0 (by omega) rfl (Nat.lt_succ_self _) _ _ hP hS ls (lv_sub hl [0, 1, 2] rfl)
def rmX5_knows : Room := { frames := 1, cells := 0, slots := 0, locals := 22 }
theorem hdX5_knows : yX5_knows.cls = RX5 ∧ yX5_knows.cls ≠ "java/lang/invoke/MethodHandle" ∧ yX5_knows.cls ≠ "java/lang/invoke/VarHandle" ∧ (parseMethodDescriptor yX5_knows.desc).map (fun d => d.parameters.length) = some 2 := by decide +kernel
set_option maxHeartbeats 4000000 in
set_option maxRecDepth 100000 in
theorem kX5_knows {l : Launch} {D : va_G} {K : Nat → ClassId} {L : Nat → Prop} {g : Nat → Nat} (hg : gd L g 14) (u : MU) (t o : Nat) (ht : t < 60) (ho : o < 60) : CI l yX5_knows wsX5_knows rmX5_knows D K L [.ref (g 0), .int (nI t), .int (nI o)] (wM K g u) (wM K g u) (fb (knM u t (nI o))) := by
  refine CI.of (cc := cX5_knows) (maxL := 3) (ret := (some .boolean)) (by decide +kernel) rfl (Nat.le_of_ble_eq_true rfl) ?_
  intro p e s m below meth c ls hen hP
  obtain ⟨hx, hb, hr, hts, hown, hlk, hml, hnm, hE, hl⟩ := hen
  have S : CallFix p m c cX5_knows 3 s _ wsX5_knows RX5 := ⟨hx, hb, hml, hown, hts⟩
  have hS : va_S (fr L s.heap.size) s.heap s.heap [] := va_S.rf
  have hl : lv_has ls 3 [(0, .ref (g 0)), (1, .int (nI t)), (2, .int (nI o))] := hl
  have i5 : ∀ w ∈ wsX50, w ∈ wsX5_knows := fun _ h => List.mem_cons_of_mem _ (List.mem_append_right _ h)
  refine lv_iload_n hx hb dX5_knows_0 rfl (lv_at hl 2 rfl) ?_
  refine lv_iload_n hx hb dX5_knows_1 rfl (lv_at hl 1 rfl) ?_
  refine lv_icmp_eq (tgt := 14) hx hb dX5_knows_2 (by decide) (fun c1 => ?_) (fun c1 => ?_)
  · skip
    have yes : knM u t (nI o) := Or.inl c1
    refine lv_iconst (v := 1) hx hb dX5_knows_14 (by decide) ?_
    refine lv_goto (tgt := 19) hx hb dX5_knows_15 (by decide) ?_
    exact ez hx hb hr hlk hS hP rfl (by first | exact f_fb no | exact t_fb yes) rfl (Nat.le_of_ble_eq_true rfl) (Nat.le_of_ble_eq_true rfl) dX5_knows_19
  · skip
    refine lv_aload_n hx hb dX5_knows_5 rfl (lv_at hl 0 rfl) ?_
    refine lv_iload_n hx hb dX5_knows_6 rfl (lv_at hl 1 rfl) ?_
    refine lv_iload_n hx hb dX5_knows_7 rfl (lv_at hl 2 rfl) ?_
    refine kiV (As := [.int (nI t), .int (nI o)]) (rest := []) S (kX5_isInSnapshot hg u t o (by omega) (by omega)) (cwV 2 hts gX5_knows_X5_isInSnapshot rfl rfl rfl hdX5_isInSnapshot ⟨Nat.le_of_ble_eq_true rfl, Nat.le_of_ble_eq_true rfl⟩) rfl rfl 0 rfl rfl hE hP hS (frs hS) rfl hl.1 rfl (Nat.le_of_ble_eq_true rfl) dX5_knows_8 ⟨Nat.le_of_ble_eq_true rfl, Nat.le_of_ble_eq_true rfl⟩ (fun H locs hP _ _ hS => ?_)
    refine bzeq (tgt := 18) hx hb dX5_knows_11 (by decide) (fun c2 => ?_) (fun c2 => ?_)
    · skip
      have no : ¬ knM u t (nI o) := fun k => k.elim c1 (fun k => c2 (by rw [nat_nI (by omega)] at k; exact k))
      refine lv_iconst (v := 0) hx hb dX5_knows_18 (by decide) ?_
      exact ez hx hb hr hlk hS hP rfl (by first | exact f_fb no | exact t_fb yes) rfl (Nat.le_of_ble_eq_true rfl) (Nat.le_of_ble_eq_true rfl) dX5_knows_19
    · skip
      have yes : knM u t (nI o) := Or.inr (by rw [nat_nI (by omega)]; exact c2)
      refine lv_iconst (v := 1) hx hb dX5_knows_14 (by decide) ?_
      refine lv_goto (tgt := 19) hx hb dX5_knows_15 (by decide) ?_
      exact ez hx hb hr hlk hS hP rfl (by first | exact f_fb no | exact t_fb yes) rfl (Nat.le_of_ble_eq_true rfl) (Nat.le_of_ble_eq_true rfl) dX5_knows_19
def rmX5_sees : Room := { frames := 2, cells := 0, slots := 0, locals := 44 }
theorem hdX5_sees : yX5_sees.cls = RX5 ∧ yX5_sees.cls ≠ "java/lang/invoke/MethodHandle" ∧ yX5_sees.cls ≠ "java/lang/invoke/VarHandle" ∧ (parseMethodDescriptor yX5_sees.desc).map (fun d => d.parameters.length) = some 2 := by decide +kernel
set_option maxHeartbeats 4000000 in
set_option maxRecDepth 100000 in
theorem kX5_sees {l : Launch} {D : va_G} {K : Nat → ClassId} {L : Nat → Prop} {g : Nat → Nat} (hg : gd L g 14) (u : MU) (t q : Nat) (ht : t < 60) (hq : q < 32) (hr9 : rM u) : CI l yX5_sees wsX5_sees rmX5_sees D K L [.ref (g 0), .int (nI t), .int (nI q)] (wM K g u) (wM K g u) (fb (seM u t q)) := by
  refine CI.of (cc := cX5_sees) (maxL := 3) (ret := (some .boolean)) (by decide +kernel) rfl (Nat.le_of_ble_eq_true rfl) ?_
  intro p e s m below meth c ls hen hP
  obtain ⟨hx, hb, hr, hts, hown, hlk, hml, hnm, hE, hl⟩ := hen
  have S : CallFix p m c cX5_sees 3 s _ wsX5_sees RX5 := ⟨hx, hb, hml, hown, hts⟩
  have hS : va_S (fr L s.heap.size) s.heap s.heap [] := va_S.rf
  have hl : lv_has ls 3 [(0, .ref (g 0)), (1, .int (nI t)), (2, .int (nI q))] := hl
  have i5 : ∀ w ∈ wsX50, w ∈ wsX5_sees := fun _ h => List.mem_cons_of_mem _ (List.mem_append_right _ h)
  have hbo : m_b u q = nI (nat (m_b u q)) ∧ nat (m_b u q) < 60 := (hr9.2.1 q hq).1
  refine lv_aload_n hx hb dX5_sees_0 rfl (lv_at hl 0 rfl) ?_
  refine gw5_isFrozen S i5 hE hP (hts _ (List.mem_of_getElem? (i := 1) rfl)) dX5_sees_1 ?_
  refine lv_iload_n hx hb dX5_sees_4 rfl (lv_at hl 2 rfl) ?_
  refine lM_fr S hE hP (f := m_fr u) rfl (j := q) (by omega) rfl dX5_sees_5 ?_
  refine lv_if_ne (tgt := 23) hx hb dX5_sees_6 (by decide) (fun c1 => ?_) (fun c1 => ?_)
  · skip
    have h1 : ¬ m_fr u q = 0 ∨ knM u t (m_b u q) := Or.inl c1
    refine lv_aload_n hx hb dX5_sees_23 rfl (lv_at hl 0 rfl) ?_
    refine gw5_death S i5 hE hP (hts _ (List.mem_of_getElem? (i := 3) rfl)) dX5_sees_24 ?_
    refine lv_iload_n hx hb dX5_sees_27 rfl (lv_at hl 2 rfl) ?_
    refine lM_d S hE hP (f := m_d u) rfl (j := q) (by omega) rfl dX5_sees_28 ?_
    refine lv_iconst (v := (-1)) hx hb dX5_sees_29 (by decide) ?_
    refine lv_icmp_eq (tgt := 47) hx hb dX5_sees_30 (by decide) (fun c2 => ?_) (fun c2 => ?_)
    · skip
      have yes : seM u t q := ⟨h1, Or.inl c2⟩
      refine lv_iconst (v := 1) hx hb dX5_sees_47 (by decide) ?_
      refine lv_goto (tgt := 52) hx hb dX5_sees_48 (by decide) ?_
      exact ez hx hb hr hlk hS hP rfl (by first | exact f_fb no | exact t_fb yes) rfl (Nat.le_of_ble_eq_true rfl) (Nat.le_of_ble_eq_true rfl) dX5_sees_52
    · skip
      have hdo : m_d u q = nI (nat (m_d u q)) ∧ nat (m_d u q) < 60 := rO (hr9.2.1 q hq).2.1 c2
      have dn : ¬ m_d u q = -1 := c2
      refine lv_aload_n hx hb dX5_sees_33 rfl (lv_at hl 0 rfl) ?_
      refine lv_iload_n hx hb dX5_sees_34 rfl (lv_at hl 1 rfl) ?_
      refine lv_aload_n hx hb dX5_sees_35 rfl (lv_at hl 0 rfl) ?_
      refine gw5_death S i5 hE hP (hts _ (List.mem_of_getElem? (i := 3) rfl)) dX5_sees_36 ?_
      refine lv_iload_n hx hb dX5_sees_39 rfl (lv_at hl 2 rfl) ?_
      refine lM_d S hE hP (f := m_d u) rfl (j := q) (by omega) rfl dX5_sees_40 ?_
      refine tpi (y := nI (nat (m_d u q))) hdo.1 ?_
      refine kiV (As := [.int (nI t), .int (nI (nat (m_d u q)))]) (rest := []) S (kX5_knows hg u t (nat (m_d u q)) (by omega) (by omega)) (cwV 2 hts gX5_sees_X5_knows rfl rfl rfl hdX5_knows ⟨Nat.le_of_ble_eq_true rfl, Nat.le_of_ble_eq_true rfl⟩) rfl rfl 0 rfl rfl hE hP hS (frs hS) rfl hl.1 rfl (Nat.le_of_ble_eq_true rfl) dX5_sees_41 ⟨Nat.le_of_ble_eq_true rfl, Nat.le_of_ble_eq_true rfl⟩ (fun H locs hP _ _ hS => ?_)
      refine bzne (tgt := 51) hx hb dX5_sees_44 (by decide) (fun c3 => ?_) (fun c3 => ?_)
      · skip
        have no : ¬ seM u t q := fun k => k.2.elim dn (fun k => k (by rw [hdo.1]; exact c3))
        refine lv_iconst (v := 0) hx hb dX5_sees_51 (by decide) ?_
        exact ez hx hb hr hlk hS hP rfl (by first | exact f_fb no | exact t_fb yes) rfl (Nat.le_of_ble_eq_true rfl) (Nat.le_of_ble_eq_true rfl) dX5_sees_52
      · skip
        have yes : seM u t q := ⟨h1, Or.inr (by rw [hdo.1]; exact c3)⟩
        refine lv_iconst (v := 1) hx hb dX5_sees_47 (by decide) ?_
        refine lv_goto (tgt := 52) hx hb dX5_sees_48 (by decide) ?_
        exact ez hx hb hr hlk hS hP rfl (by first | exact f_fb no | exact t_fb yes) rfl (Nat.le_of_ble_eq_true rfl) (Nat.le_of_ble_eq_true rfl) dX5_sees_52
  · skip
    have f0 : m_fr u q = 0 := c1
    refine lv_aload_n hx hb dX5_sees_9 rfl (lv_at hl 0 rfl) ?_
    refine lv_iload_n hx hb dX5_sees_10 rfl (lv_at hl 1 rfl) ?_
    refine lv_aload_n hx hb dX5_sees_11 rfl (lv_at hl 0 rfl) ?_
    refine gw5_birth S i5 hE hP (hts _ (List.mem_of_getElem? (i := 2) rfl)) dX5_sees_12 ?_
    refine lv_iload_n hx hb dX5_sees_15 rfl (lv_at hl 2 rfl) ?_
    refine lM_b S hE hP (f := m_b u) rfl (j := q) (by omega) rfl dX5_sees_16 ?_
    refine tpi (y := nI (nat (m_b u q))) hbo.1 ?_
    refine kiV (As := [.int (nI t), .int (nI (nat (m_b u q)))]) (rest := []) S (kX5_knows hg u t (nat (m_b u q)) (by omega) (by omega)) (cwV 2 hts gX5_sees_X5_knows rfl rfl rfl hdX5_knows ⟨Nat.le_of_ble_eq_true rfl, Nat.le_of_ble_eq_true rfl⟩) rfl rfl 0 rfl rfl hE hP hS (frs hS) rfl hl.1 rfl (Nat.le_of_ble_eq_true rfl) dX5_sees_17 ⟨Nat.le_of_ble_eq_true rfl, Nat.le_of_ble_eq_true rfl⟩ (fun H locs hP _ _ hS => ?_)
    refine bzeq (tgt := 51) hx hb dX5_sees_20 (by decide) (fun c4 => ?_) (fun c4 => ?_)
    · skip
      have no : ¬ seM u t q := fun k => k.1.elim (fun k => k f0) (fun k => c4 (by rw [hbo.1] at k; exact k))
      refine lv_iconst (v := 0) hx hb dX5_sees_51 (by decide) ?_
      exact ez hx hb hr hlk hS hP rfl (by first | exact f_fb no | exact t_fb yes) rfl (Nat.le_of_ble_eq_true rfl) (Nat.le_of_ble_eq_true rfl) dX5_sees_52
    · skip
      have h1 : ¬ m_fr u q = 0 ∨ knM u t (m_b u q) := Or.inr (by rw [hbo.1]; exact c4)
      refine lv_aload_n hx hb dX5_sees_23 rfl (lv_at hl 0 rfl) ?_
      refine gw5_death S i5 hE hP (hts _ (List.mem_of_getElem? (i := 3) rfl)) dX5_sees_24 ?_
      refine lv_iload_n hx hb dX5_sees_27 rfl (lv_at hl 2 rfl) ?_
      refine lM_d S hE hP (f := m_d u) rfl (j := q) (by omega) rfl dX5_sees_28 ?_
      refine lv_iconst (v := (-1)) hx hb dX5_sees_29 (by decide) ?_
      refine lv_icmp_eq (tgt := 47) hx hb dX5_sees_30 (by decide) (fun c5 => ?_) (fun c5 => ?_)
      · skip
        have yes : seM u t q := ⟨h1, Or.inl c5⟩
        refine lv_iconst (v := 1) hx hb dX5_sees_47 (by decide) ?_
        refine lv_goto (tgt := 52) hx hb dX5_sees_48 (by decide) ?_
        exact ez hx hb hr hlk hS hP rfl (by first | exact f_fb no | exact t_fb yes) rfl (Nat.le_of_ble_eq_true rfl) (Nat.le_of_ble_eq_true rfl) dX5_sees_52
      · skip
        have hdo : m_d u q = nI (nat (m_d u q)) ∧ nat (m_d u q) < 60 := rO (hr9.2.1 q hq).2.1 c5
        have dn : ¬ m_d u q = -1 := c5
        refine lv_aload_n hx hb dX5_sees_33 rfl (lv_at hl 0 rfl) ?_
        refine lv_iload_n hx hb dX5_sees_34 rfl (lv_at hl 1 rfl) ?_
        refine lv_aload_n hx hb dX5_sees_35 rfl (lv_at hl 0 rfl) ?_
        refine gw5_death S i5 hE hP (hts _ (List.mem_of_getElem? (i := 3) rfl)) dX5_sees_36 ?_
        refine lv_iload_n hx hb dX5_sees_39 rfl (lv_at hl 2 rfl) ?_
        refine lM_d S hE hP (f := m_d u) rfl (j := q) (by omega) rfl dX5_sees_40 ?_
        refine tpi (y := nI (nat (m_d u q))) hdo.1 ?_
        refine kiV (As := [.int (nI t), .int (nI (nat (m_d u q)))]) (rest := []) S (kX5_knows hg u t (nat (m_d u q)) (by omega) (by omega)) (cwV 2 hts gX5_sees_X5_knows rfl rfl rfl hdX5_knows ⟨Nat.le_of_ble_eq_true rfl, Nat.le_of_ble_eq_true rfl⟩) rfl rfl 0 rfl rfl hE hP hS (frs hS) rfl hl.1 rfl (Nat.le_of_ble_eq_true rfl) dX5_sees_41 ⟨Nat.le_of_ble_eq_true rfl, Nat.le_of_ble_eq_true rfl⟩ (fun H locs hP _ _ hS => ?_)
        refine bzne (tgt := 51) hx hb dX5_sees_44 (by decide) (fun c6 => ?_) (fun c6 => ?_)
        · skip
          have no : ¬ seM u t q := fun k => k.2.elim dn (fun k => k (by rw [hdo.1]; exact c6))
          refine lv_iconst (v := 0) hx hb dX5_sees_51 (by decide) ?_
          exact ez hx hb hr hlk hS hP rfl (by first | exact f_fb no | exact t_fb yes) rfl (Nat.le_of_ble_eq_true rfl) (Nat.le_of_ble_eq_true rfl) dX5_sees_52
        · skip
          have yes : seM u t q := ⟨h1, Or.inr (by rw [hdo.1]; exact c6)⟩
          refine lv_iconst (v := 1) hx hb dX5_sees_47 (by decide) ?_
          refine lv_goto (tgt := 52) hx hb dX5_sees_48 (by decide) ?_
          exact ez hx hb hr hlk hS hP rfl (by first | exact f_fb no | exact t_fb yes) rfl (Nat.le_of_ble_eq_true rfl) (Nat.le_of_ble_eq_true rfl) dX5_sees_52
def rmX5_seen : Room := { frames := 3, cells := 0, slots := 0, locals := 66 }
theorem hdX5_seen : yX5_seen.cls = RX5 ∧ yX5_seen.cls ≠ "java/lang/invoke/MethodHandle" ∧ yX5_seen.cls ≠ "java/lang/invoke/VarHandle" ∧ (parseMethodDescriptor yX5_seen.desc).map (fun d => d.parameters.length) = some 2 := by decide +kernel
set_option maxHeartbeats 4000000 in
set_option maxRecDepth 100000 in
theorem kX5_seen {l : Launch} {D : va_G} {K : Nat → ClassId} {L : Nat → Prop} {g : Nat → Nat} (hg : gd L g 14) (u : MU) (t k n : Nat) (ht : t < 60) (hk : k < 6) (hr9 : rM u) (hn : n ≤ 32) (hec : m_ec u k = nI n) (hends : ∀ i, i < n → ends u 8 (m_en u (64 * k + i))) : CI l yX5_seen wsX5_seen rmX5_seen D K L [.ref (g 0), .int (nI t), .int (nI k)] (wM K g u) (wM K g u) (msn u t k n) := by
  refine CI.of (cc := cX5_seen) (maxL := 5) (ret := (some .int)) (by decide +kernel) rfl (Nat.le_of_ble_eq_true rfl) ?_
  intro p e s m below meth c ls hen hP
  obtain ⟨hx, hb, hr, hts, hown, hlk, hml, hnm, hE, hl⟩ := hen
  have S : CallFix p m c cX5_seen 5 s _ wsX5_seen RX5 := ⟨hx, hb, hml, hown, hts⟩
  have hS : va_S (fr L s.heap.size) s.heap s.heap [] := va_S.rf
  have hl : lv_has ls 5 [(0, .ref (g 0)), (1, .int (nI t)), (2, .int (nI k))] := hl
  have i5 : ∀ w ∈ wsX50, w ∈ wsX5_seen := fun _ h => List.mem_cons_of_mem _ (List.mem_append_right _ h)
  refine lv_aload_n hx hb dX5_seen_0 rfl (lv_at hl 0 rfl) ?_
  refine gw5_entries S i5 hE hP (hts _ (List.mem_of_getElem? (i := 1) rfl)) dX5_seen_1 ?_
  refine lv_iload_n hx hb dX5_seen_4 rfl (lv_at hl 2 rfl) ?_
  refine lM_ec S hE hP (f := m_ec u) rfl (j := k) (by omega) rfl dX5_seen_5 ?_
  refine tpi (y := nI n) hec ?_
  refine lv_iconst (v := 1) hx hb dX5_seen_6 (by decide) ?_
  refine lv_isub hx hb dX5_seen_7 ?_
  refine lv_istore_n (lv' := [(3, .int ((nI n) - 1)), (0, .ref (g 0)), (1, .int (nI t)), (2, .int (nI k))]) hx hb dX5_seen_8 rfl hl (by decide) rfl (fun ls hl => ?_)
  have loop9 : ∀ (n9 : Nat) (i : Nat), (hi : i ≤ n) → (hr0 : msn u t k n = msn u t k i) → i < n9 → ∀ (H : Heap) (locs : List Loc), va_P D vwCl (wM K g u) H → va_S (fr L s.heap.size) s.heap H locs → ∀ (ls : Array Slot), lv_has ls 5 [(3, .int (nI i - 1)), (0, .ref (g 0)), (1, .int (nI t)), (2, .int (nI k))] → W p l e rmX5_seen s m ([.ref (g 0), .int (nI t), .int (nI k)] : List Value).toArray below meth c H locs 0 0 (MQ below (va_Qi (fun (r9 : Int32) (_ : Unit) => r9 = msn u t k n) (fun _ t => va_P D vwCl (wM K g u) t.heap) (fr L s.heap.size)) ([.ref (g 0), .int (nI t), .int (nI k)] : List Value).toArray s rmX5_seen.cells rmX5_seen.slots (fr L s.heap.size)) (F0 m 9 ls []) := by
    intro n9
    induction n9 with
    | zero =>
      intro i hi hr0 hn9
      exact absurd hn9 (Nat.not_lt_zero _)
    | succ n9 ih9 =>
      intro i hi hr0 hn9 H locs hP hS ls hl
      refine lv_iload_n hx hb dX5_seen_9 rfl (lv_at hl 0 rfl) ?_
      refine lv_if_lt (tgt := 63) hx hb dX5_seen_10 (by decide) (fun c1 => ?_) (fun c1 => ?_)
      · skip
        have e9 : i = 0 := by
          rcases Nat.eq_zero_or_pos i with h0 | h0
          · exact h0
          · obtain ⟨j, rfl⟩ : ∃ j, i = j + 1 := ⟨i - 1, by omega⟩
            rw [nI_pred] at c1
            exact absurd c1 (nI_pos (by omega))
        refine lv_iconst (v := (-1)) hx hb dX5_seen_63 (by decide) ?_
        exact ei hx hb hr hlk hS hP rfl (by rw [hr0, e9]; rfl) (Nat.le_of_ble_eq_true rfl) (Nat.le_of_ble_eq_true rfl) dX5_seen_64
      · skip
        obtain ⟨j, rfl⟩ : ∃ j, i = j + 1 := by
          rcases Nat.eq_zero_or_pos i with h0 | h0
          · subst h0; exact absurd (by decide) c1
          · exact ⟨i - 1, by omega⟩
        rw [nI_pred] at hl
        refine lv_aload_n hx hb dX5_seen_13 rfl (lv_at hl 1 rfl) ?_
        refine gw5_entry S i5 hE hP (hts _ (List.mem_of_getElem? (i := 2) rfl)) dX5_seen_14 ?_
        refine lv_bipush (v := 64) hx hb dX5_seen_17 (by decide) ?_
        refine lv_iload_n hx hb dX5_seen_19 rfl (lv_at hl 3 rfl) ?_
        refine lv_imul hx hb dX5_seen_20 ?_
        refine tpi (y := nI (64 * k)) (pk_mul 64 k) ?_
        refine lv_iload_n hx hb dX5_seen_21 rfl (lv_at hl 0 rfl) ?_
        refine lv_iadd hx hb dX5_seen_22 ?_
        refine tpi (y := nI (64 * k + j)) (nI_add (64 * k) j) ?_
        refine lM_en S hE hP (f := m_en u) rfl (j := (64 * k + j)) (by omega) rfl dX5_seen_23 ?_
        refine lv_istore (lv' := [(4, .int (m_en u (64 * k + j))), (3, .int (nI j)), (0, .ref (g 0)), (1, .int (nI t)), (2, .int (nI k))]) hx hb dX5_seen_24 hl (by decide) rfl (fun ls hl => ?_)
        have loop26 : ∀ (n26 : Nat) (b : Nat) (x : Int32), (he : ends u b x) → (hr1 : mch u t 8 (m_en u (64 * k + j)) = mch u t b x) → b < n26 → ∀ (H : Heap) (locs : List Loc), va_P D vwCl (wM K g u) H → va_S (fr L s.heap.size) s.heap H locs → ∀ (ls : Array Slot), lv_has ls 5 [(4, .int x), (3, .int (nI j)), (0, .ref (g 0)), (1, .int (nI t)), (2, .int (nI k))] → W p l e rmX5_seen s m ([.ref (g 0), .int (nI t), .int (nI k)] : List Value).toArray below meth c H locs 0 0 (MQ below (va_Qi (fun (r9 : Int32) (_ : Unit) => r9 = msn u t k n) (fun _ t => va_P D vwCl (wM K g u) t.heap) (fr L s.heap.size)) ([.ref (g 0), .int (nI t), .int (nI k)] : List Value).toArray s rmX5_seen.cells rmX5_seen.slots (fr L s.heap.size)) (F0 m 26 ls []) := by
          intro n26
          induction n26 with
          | zero =>
            intro b x he hr1 hn26
            exact absurd hn26 (Nat.not_lt_zero _)
          | succ n26 ih26 =>
            intro b x he hr1 hn26 H locs hP hS ls hl
            refine lv_iload hx hb dX5_seen_26 (lv_at hl 0 rfl) ?_
            refine lv_iconst (v := (-1)) hx hb dX5_seen_28 (by decide) ?_
            refine lv_icmp_eq (tgt := 57) hx hb dX5_seen_29 (by decide) (fun c2 => ?_) (fun c2 => ?_)
            · skip
              have hx0 : mch u t 8 (m_en u (64 * k + j)) = -1 := by rw [hr1, c2]; exact mch_m
              refine lv_iinc (v := nI j - 1) (lv' := [(3, .int (nI j - 1)), (4, .int x), (0, .ref (g 0)), (1, .int (nI t)), (2, .int (nI k))]) hx hb dX5_seen_57 hl (k := 1) rfl (nI_dec j) (by decide) rfl (fun ls hl => ?_)
              refine lv_goto (tgt := 9) hx hb dX5_seen_60 (by decide) ?_
              exact ih9 j (by omega) (by rw [hr0, msn]; exact cif_t hx0) (by omega) _ _ hP hS ls (lv_sub hl [0, 2, 3, 4] rfl)
            · skip
              obtain ⟨d, rfl⟩ : ∃ d, b = d + 1 := by
                cases b with
                | zero => exact absurd he c2
                | succ d => exact ⟨d, rfl⟩
              obtain ⟨hx9, he⟩ := he.resolve_left c2
              obtain ⟨j9, hj9, ej9⟩ := rng_o hx9
              subst ej9
              rw [nat_nI (by omega)] at he
              refine lv_aload_n hx hb dX5_seen_32 rfl (lv_at hl 2 rfl) ?_
              refine lv_iload_n hx hb dX5_seen_33 rfl (lv_at hl 3 rfl) ?_
              refine lv_iload hx hb dX5_seen_34 (lv_at hl 0 rfl) ?_
              refine kiV (As := [.int (nI t), .int (nI j9)]) (rest := []) S (kX5_sees hg u t j9 (by omega) (by omega) hr9) (cwV 2 hts gX5_seen_X5_sees rfl rfl rfl hdX5_sees ⟨Nat.le_of_ble_eq_true rfl, Nat.le_of_ble_eq_true rfl⟩) rfl rfl 0 rfl rfl hE hP hS (frs hS) rfl hl.1 rfl (Nat.le_of_ble_eq_true rfl) dX5_seen_36 ⟨Nat.le_of_ble_eq_true rfl, Nat.le_of_ble_eq_true rfl⟩ (fun H locs hP _ _ hS => ?_)
              refine bzeq (tgt := 45) hx hb dX5_seen_39 (by decide) (fun c3 => ?_) (fun c3 => ?_)
              · skip
                refine lv_aload_n hx hb dX5_seen_45 rfl (lv_at hl 2 rfl) ?_
                refine gw5_next S i5 hE hP (hts _ (List.mem_of_getElem? (i := 3) rfl)) dX5_seen_46 ?_
                refine lv_iload hx hb dX5_seen_49 (lv_at hl 0 rfl) ?_
                refine lM_n S hE hP (f := m_n u) rfl (j := j9) (by omega) rfl dX5_seen_51 ?_
                refine lv_istore (lv' := [(4, .int (m_n u j9)), (3, .int (nI j)), (0, .ref (g 0)), (1, .int (nI t)), (2, .int (nI k))]) hx hb dX5_seen_52 hl (by decide) rfl (fun ls hl => ?_)
                refine lv_goto (tgt := 26) hx hb dX5_seen_54 (by decide) ?_
                exact ih26 d (m_n u j9) he (by rw [hr1]; exact mch_n hj9 c3) (by omega) _ _ hP hS ls (lv_sub hl [0, 1, 2, 3, 4] rfl)
              · skip
                have fin : nI j9 = msn u t k n := by rw [hr0, msn, cif_f (by rw [hr1, mch_y hj9 c3]; exact nI_m1 j9 (by omega)), hr1, mch_y hj9 c3]
                refine lv_iload hx hb dX5_seen_42 (lv_at hl 0 rfl) ?_
                exact ei hx hb hr hlk hS hP rfl fin (Nat.le_of_ble_eq_true rfl) (Nat.le_of_ble_eq_true rfl) dX5_seen_44
        exact loop26 _ 8 (m_en u (64 * k + j)) (hends j (by omega)) rfl (Nat.lt_succ_self _) _ _ hP hS ls (lv_sub hl [0, 1, 2, 3, 4] rfl)
  exact loop9 _ n (by omega) rfl (Nat.lt_succ_self _) _ _ hP hS ls (lv_sub hl [0, 1, 2, 3] rfl)
def rmX5_bars : Room := { frames := 1, cells := 0, slots := 0, locals := 22 }
theorem hdX5_bars : yX5_bars.cls = RX5 ∧ yX5_bars.cls ≠ "java/lang/invoke/MethodHandle" ∧ yX5_bars.cls ≠ "java/lang/invoke/VarHandle" ∧ (parseMethodDescriptor yX5_bars.desc).map (fun d => d.parameters.length) = some 2 := by decide +kernel
set_option maxHeartbeats 4000000 in
set_option maxRecDepth 100000 in
theorem kX5_bars {l : Launch} {D : va_G} {K : Nat → ClassId} {L : Nat → Prop} {g : Nat → Nat} (hg : gd L g 14) (u : MU) (t : Nat) (x : Int32) (ht : t < 60) (hx9 : rngO x 60) : CI l yX5_bars wsX5_bars rmX5_bars D K L [.ref (g 0), .int (nI t), .int x] (wM K g u) (wM K g u) (fb (baP u t x)) := by
  refine CI.of (cc := cX5_bars) (maxL := 3) (ret := (some .boolean)) (by decide +kernel) rfl (Nat.le_of_ble_eq_true rfl) ?_
  intro p e s m below meth c ls hen hP
  obtain ⟨hx, hb, hr, hts, hown, hlk, hml, hnm, hE, hl⟩ := hen
  have S : CallFix p m c cX5_bars 3 s _ wsX5_bars RX5 := ⟨hx, hb, hml, hown, hts⟩
  have hS : va_S (fr L s.heap.size) s.heap s.heap [] := va_S.rf
  have hl : lv_has ls 3 [(0, .ref (g 0)), (1, .int (nI t)), (2, .int x)] := hl
  have i5 : ∀ w ∈ wsX50, w ∈ wsX5_bars := fun _ h => List.mem_cons_of_mem _ (List.mem_append_right _ h)
  refine lv_iload_n hx hb dX5_bars_0 rfl (lv_at hl 2 rfl) ?_
  refine lv_iconst (v := (-1)) hx hb dX5_bars_1 (by decide) ?_
  refine lv_icmp_eq (tgt := 41) hx hb dX5_bars_2 (by decide) (fun c1 => ?_) (fun c1 => ?_)
  · skip
    have no : ¬ baP u t x := fun k => k.1 c1
    refine lv_iconst (v := 0) hx hb dX5_bars_41 (by decide) ?_
    exact ez hx hb hr hlk hS hP rfl (by first | exact f_fb no | exact t_fb yes) rfl (Nat.le_of_ble_eq_true rfl) (Nat.le_of_ble_eq_true rfl) dX5_bars_42
  · skip
    have x1 : ¬ x = -1 := c1
    have hxo := rO hx9 c1
    refine lv_iload_n hx hb dX5_bars_5 rfl (lv_at hl 2 rfl) ?_
    refine lv_iload_n hx hb dX5_bars_6 rfl (lv_at hl 1 rfl) ?_
    refine lv_icmp_eq (tgt := 41) hx hb dX5_bars_7 (by decide) (fun c2 => ?_) (fun c2 => ?_)
    · skip
      have no : ¬ baP u t x := fun k => k.2.1 c2
      refine lv_iconst (v := 0) hx hb dX5_bars_41 (by decide) ?_
      exact ez hx hb hr hlk hS hP rfl (by first | exact f_fb no | exact t_fb yes) rfl (Nat.le_of_ble_eq_true rfl) (Nat.le_of_ble_eq_true rfl) dX5_bars_42
    · skip
      have x2 : ¬ x = nI t := c2
      obtain ⟨o, ho, eo⟩ := rng_o hxo
      subst eo
      have hno : nat (nI o) = o := nat_nI (by omega)
      refine lv_aload_n hx hb dX5_bars_10 rfl (lv_at hl 0 rfl) ?_
      refine lv_iload_n hx hb dX5_bars_11 rfl (lv_at hl 2 rfl) ?_
      refine kiV (As := [.int (nI o)]) (rest := []) S (kX5_isActive hg u o (by omega)) (cwV 1 hts gX5_bars_X5_isActive rfl rfl rfl hdX5_isActive ⟨Nat.le_of_ble_eq_true rfl, Nat.le_of_ble_eq_true rfl⟩) rfl rfl 0 rfl rfl hE hP hS (frs hS) rfl hl.1 rfl (Nat.le_of_ble_eq_true rfl) dX5_bars_12 ⟨Nat.le_of_ble_eq_true rfl, Nat.le_of_ble_eq_true rfl⟩ (fun H locs hP _ _ hS => ?_)
      refine bzne (tgt := 37) hx hb dX5_bars_15 (by decide) (fun c3 => ?_) (fun c3 => ?_)
      · skip
        have yes : baP u t (nI o) := ⟨x1, x2, Or.inl (by rw [hno]; exact c3)⟩
        refine lv_iconst (v := 1) hx hb dX5_bars_37 (by decide) ?_
        refine lv_goto (tgt := 42) hx hb dX5_bars_38 (by decide) ?_
        exact ez hx hb hr hlk hS hP rfl (by first | exact f_fb no | exact t_fb yes) rfl (Nat.le_of_ble_eq_true rfl) (Nat.le_of_ble_eq_true rfl) dX5_bars_42
      · skip
        have x3 : ¬ m_sta u o = 0 := c3
        refine lv_aload_n hx hb dX5_bars_18 rfl (lv_at hl 0 rfl) ?_
        refine gw5_state S i5 hE hP (hts _ (List.mem_of_getElem? (i := 1) rfl)) dX5_bars_19 ?_
        refine lv_iload_n hx hb dX5_bars_22 rfl (lv_at hl 2 rfl) ?_
        refine lM_sta S hE hP (f := m_sta u) rfl (j := o) (by omega) rfl dX5_bars_23 ?_
        refine lv_iconst (v := 1) hx hb dX5_bars_24 (by decide) ?_
        refine lv_icmp_ne (tgt := 41) hx hb dX5_bars_25 (by decide) (fun c4 => ?_) (fun c4 => ?_)
        · skip
          have no : ¬ baP u t (nI o) := fun k => k.2.2.elim (fun k => x3 (by rw [hno] at k; exact k)) (fun k => c4 (by have k1 := k.1; rw [hno] at k1; exact k1))
          refine lv_iconst (v := 0) hx hb dX5_bars_41 (by decide) ?_
          exact ez hx hb hr hlk hS hP rfl (by first | exact f_fb no | exact t_fb yes) rfl (Nat.le_of_ble_eq_true rfl) (Nat.le_of_ble_eq_true rfl) dX5_bars_42
        · skip
          have x4 : m_sta u o = 1 := c4
          refine lv_aload_n hx hb dX5_bars_28 rfl (lv_at hl 0 rfl) ?_
          refine lv_iload_n hx hb dX5_bars_29 rfl (lv_at hl 1 rfl) ?_
          refine lv_iload_n hx hb dX5_bars_30 rfl (lv_at hl 2 rfl) ?_
          refine kiV (As := [.int (nI t), .int (nI o)]) (rest := []) S (kX5_isInSnapshot hg u t o (by omega) (by omega)) (cwV 2 hts gX5_bars_X5_isInSnapshot rfl rfl rfl hdX5_isInSnapshot ⟨Nat.le_of_ble_eq_true rfl, Nat.le_of_ble_eq_true rfl⟩) rfl rfl 0 rfl rfl hE hP hS (frs hS) rfl hl.1 rfl (Nat.le_of_ble_eq_true rfl) dX5_bars_31 ⟨Nat.le_of_ble_eq_true rfl, Nat.le_of_ble_eq_true rfl⟩ (fun H locs hP _ _ hS => ?_)
          refine bzne (tgt := 41) hx hb dX5_bars_34 (by decide) (fun c5 => ?_) (fun c5 => ?_)
          · skip
            have no : ¬ baP u t (nI o) := fun k => k.2.2.elim (fun k => x3 (by rw [hno] at k; exact k)) (fun k => k.2 (by rw [hno]; exact c5))
            refine lv_iconst (v := 0) hx hb dX5_bars_41 (by decide) ?_
            exact ez hx hb hr hlk hS hP rfl (by first | exact f_fb no | exact t_fb yes) rfl (Nat.le_of_ble_eq_true rfl) (Nat.le_of_ble_eq_true rfl) dX5_bars_42
          · skip
            have yes : baP u t (nI o) := ⟨x1, x2, Or.inr ⟨by rw [hno]; exact x4, by rw [hno]; exact c5⟩⟩
            refine lv_iconst (v := 1) hx hb dX5_bars_37 (by decide) ?_
            refine lv_goto (tgt := 42) hx hb dX5_bars_38 (by decide) ?_
            exact ez hx hb hr hlk hS hP rfl (by first | exact f_fb no | exact t_fb yes) rfl (Nat.le_of_ble_eq_true rfl) (Nat.le_of_ble_eq_true rfl) dX5_bars_42
def rmX5_isRefused : Room := { frames := 2, cells := 0, slots := 0, locals := 44 }
theorem hdX5_isRefused : yX5_isRefused.cls = RX5 ∧ yX5_isRefused.cls ≠ "java/lang/invoke/MethodHandle" ∧ yX5_isRefused.cls ≠ "java/lang/invoke/VarHandle" ∧ (parseMethodDescriptor yX5_isRefused.desc).map (fun d => d.parameters.length) = some 2 := by decide +kernel
set_option maxHeartbeats 4000000 in
set_option maxRecDepth 100000 in
theorem kX5_isRefused {l : Launch} {D : va_G} {K : Nat → ClassId} {L : Nat → Prop} {g : Nat → Nat} (hg : gd L g 14) (u : MU) (t k : Nat) (ht : t < 60) (hr9 : rM u) : CI l yX5_isRefused wsX5_isRefused rmX5_isRefused D K L [.ref (g 0), .int (nI t), .int (nI k)] (wM K g u) (wM K g u) (fb (rfM u t k 32)) := by
  refine CI.of (cc := cX5_isRefused) (maxL := 5) (ret := (some .boolean)) (by decide +kernel) rfl (Nat.le_of_ble_eq_true rfl) ?_
  intro p e s m below meth c ls hen hP
  obtain ⟨hx, hb, hr, hts, hown, hlk, hml, hnm, hE, hl⟩ := hen
  have S : CallFix p m c cX5_isRefused 5 s _ wsX5_isRefused RX5 := ⟨hx, hb, hml, hown, hts⟩
  have hS : va_S (fr L s.heap.size) s.heap s.heap [] := va_S.rf
  have hl : lv_has ls 5 [(0, .ref (g 0)), (1, .int (nI t)), (2, .int (nI k))] := hl
  have i5 : ∀ w ∈ wsX50, w ∈ wsX5_isRefused := fun _ h => List.mem_cons_of_mem _ (List.mem_append_right _ h)
  refine lv_iconst (v := 0) hx hb dX5_isRefused_0 (by decide) ?_
  refine tpi (y := fb (rfM u t k 0)) (f_fb rfM_0) ?_
  refine lv_istore_n (lv' := [(3, .int (fb (rfM u t k 0))), (0, .ref (g 0)), (1, .int (nI t)), (2, .int (nI k))]) hx hb dX5_isRefused_1 rfl hl (by decide) rfl (fun ls hl => ?_)
  refine lv_iconst (v := 0) hx hb dX5_isRefused_2 (by decide) ?_
  refine lv_istore (lv' := [(4, .int 0), (3, .int (fb (rfM u t k 0))), (0, .ref (g 0)), (1, .int (nI t)), (2, .int (nI k))]) hx hb dX5_isRefused_3 hl (by decide) rfl (fun ls hl => ?_)
  have loop5 : ∀ (n5 : Nat) (i : Nat), (hi : i ≤ 32) → 32 - i < n5 → ∀ (H : Heap) (locs : List Loc), va_P D vwCl (wM K g u) H → va_S (fr L s.heap.size) s.heap H locs → ∀ (ls : Array Slot), lv_has ls 5 [(4, .int (nI i)), (3, .int (fb (rfM u t k i))), (0, .ref (g 0)), (1, .int (nI t)), (2, .int (nI k))] → W p l e rmX5_isRefused s m ([.ref (g 0), .int (nI t), .int (nI k)] : List Value).toArray below meth c H locs 0 0 (MQ below (va_Qi (fun (r9 : Int32) (_ : Unit) => r9 = fb (rfM u t k 32)) (fun _ t => va_P D vwCl (wM K g u) t.heap) (fr L s.heap.size)) ([.ref (g 0), .int (nI t), .int (nI k)] : List Value).toArray s rmX5_isRefused.cells rmX5_isRefused.slots (fr L s.heap.size)) (F0 m 5 ls []) := by
    intro n5
    induction n5 with
    | zero =>
      intro i hi hn5
      exact absurd hn5 (Nat.not_lt_zero _)
    | succ n5 ih5 =>
      intro i hi hn5 H locs hP hS ls hl
      refine lv_iload hx hb dX5_isRefused_5 (lv_at hl 0 rfl) ?_
      refine lv_bipush (v := 32) hx hb dX5_isRefused_7 (by decide) ?_
      refine lv_icmp_ge (tgt := 79) hx hb dX5_isRefused_9 (by decide) (fun c1 => ?_) (fun c1 => ?_)
      · skip
        have e9 : i = 32 := by have := nge_i (a := i) (b := 32) (by omega) (by omega) c1; omega
        refine lv_iload_n hx hb dX5_isRefused_79 rfl (lv_at hl 1 rfl) ?_
        exact ez hx hb hr hlk hS hP rfl (by rw [e9]) fb_nar (Nat.le_of_ble_eq_true rfl) (Nat.le_of_ble_eq_true rfl) dX5_isRefused_80
      · skip
        have hlt : i < 32 := nlt_i (a := i) (b := 32) (by omega) (by omega) c1
        refine lv_iload_n hx hb dX5_isRefused_12 rfl (lv_at hl 1 rfl) ?_
        refine bzne (tgt := 67) hx hb dX5_isRefused_13 (by decide) (fun c2 => ?_) (fun c2 => ?_)
        · skip
          have yes : rfM u t k (i + 1) := rfM_s.mpr (Or.inl c2)
          refine lv_iconst (v := 1) hx hb dX5_isRefused_67 (by decide) ?_
          refine lv_goto (tgt := 72) hx hb dX5_isRefused_68 (by decide) ?_
          refine tpi (y := fb (rfM u t k (i + 1))) (by first | exact t_fb yes | exact f_fb no) ?_
          refine lv_istore_n (lv' := [(3, .int (fb (rfM u t k (i + 1)))), (4, .int (nI i)), (0, .ref (g 0)), (1, .int (nI t)), (2, .int (nI k))]) hx hb dX5_isRefused_72 rfl hl (by decide) rfl (fun ls hl => ?_)
          refine lv_iinc (v := nI (i + 1)) (lv' := [(4, .int (nI (i + 1))), (3, .int (fb (rfM u t k (i + 1)))), (0, .ref (g 0)), (1, .int (nI t)), (2, .int (nI k))]) hx hb dX5_isRefused_73 hl (k := 1) rfl (nI_1 i) (by decide) rfl (fun ls hl => ?_)
          refine lv_goto (tgt := 5) hx hb dX5_isRefused_76 (by decide) ?_
          exact ih5 (i + 1) (by omega) (by omega) _ _ hP hS ls (lv_sub hl [0, 1, 2, 3, 4] rfl)
        · skip
          have n0 : ¬ rfM u t k i := c2
          refine lv_aload_n hx hb dX5_isRefused_16 rfl (lv_at hl 2 rfl) ?_
          refine gw5_isUsed S i5 hE hP (hts _ (List.mem_of_getElem? (i := 1) rfl)) dX5_isRefused_17 ?_
          refine lv_iload hx hb dX5_isRefused_20 (lv_at hl 0 rfl) ?_
          refine lM_us S hE hP (f := m_us u) rfl (j := i) (by omega) rfl dX5_isRefused_22 ?_
          refine lv_if_eq (tgt := 71) hx hb dX5_isRefused_23 (by decide) (fun c3 => ?_) (fun c3 => ?_)
          · skip
            have no : ¬ rfM u t k (i + 1) := fun z => (rfM_s.mp z).elim n0 (fun z => z.1 c3)
            refine lv_iconst (v := 0) hx hb dX5_isRefused_71 (by decide) ?_
            refine tpi (y := fb (rfM u t k (i + 1))) (by first | exact t_fb yes | exact f_fb no) ?_
            refine lv_istore_n (lv' := [(3, .int (fb (rfM u t k (i + 1)))), (4, .int (nI i)), (0, .ref (g 0)), (1, .int (nI t)), (2, .int (nI k))]) hx hb dX5_isRefused_72 rfl hl (by decide) rfl (fun ls hl => ?_)
            refine lv_iinc (v := nI (i + 1)) (lv' := [(4, .int (nI (i + 1))), (3, .int (fb (rfM u t k (i + 1)))), (0, .ref (g 0)), (1, .int (nI t)), (2, .int (nI k))]) hx hb dX5_isRefused_73 hl (k := 1) rfl (nI_1 i) (by decide) rfl (fun ls hl => ?_)
            refine lv_goto (tgt := 5) hx hb dX5_isRefused_76 (by decide) ?_
            exact ih5 (i + 1) (by omega) (by omega) _ _ hP hS ls (lv_sub hl [0, 1, 2, 3, 4] rfl)
          · skip
            have us : ¬ m_us u i = 0 := c3
            refine lv_aload_n hx hb dX5_isRefused_26 rfl (lv_at hl 2 rfl) ?_
            refine gw5_key S i5 hE hP (hts _ (List.mem_of_getElem? (i := 2) rfl)) dX5_isRefused_27 ?_
            refine lv_iload hx hb dX5_isRefused_30 (lv_at hl 0 rfl) ?_
            refine lM_k S hE hP (f := m_k u) rfl (j := i) (by omega) rfl dX5_isRefused_32 ?_
            refine lv_iload_n hx hb dX5_isRefused_33 rfl (lv_at hl 4 rfl) ?_
            refine lv_icmp_ne (tgt := 71) hx hb dX5_isRefused_34 (by decide) (fun c4 => ?_) (fun c4 => ?_)
            · skip
              have no : ¬ rfM u t k (i + 1) := fun z => (rfM_s.mp z).elim n0 (fun z => c4 z.2.1)
              refine lv_iconst (v := 0) hx hb dX5_isRefused_71 (by decide) ?_
              refine tpi (y := fb (rfM u t k (i + 1))) (by first | exact t_fb yes | exact f_fb no) ?_
              refine lv_istore_n (lv' := [(3, .int (fb (rfM u t k (i + 1)))), (4, .int (nI i)), (0, .ref (g 0)), (1, .int (nI t)), (2, .int (nI k))]) hx hb dX5_isRefused_72 rfl hl (by decide) rfl (fun ls hl => ?_)
              refine lv_iinc (v := nI (i + 1)) (lv' := [(4, .int (nI (i + 1))), (3, .int (fb (rfM u t k (i + 1)))), (0, .ref (g 0)), (1, .int (nI t)), (2, .int (nI k))]) hx hb dX5_isRefused_73 hl (k := 1) rfl (nI_1 i) (by decide) rfl (fun ls hl => ?_)
              refine lv_goto (tgt := 5) hx hb dX5_isRefused_76 (by decide) ?_
              exact ih5 (i + 1) (by omega) (by omega) _ _ hP hS ls (lv_sub hl [0, 1, 2, 3, 4] rfl)
            · skip
              have ke : m_k u i = nI k := c4
              refine lv_aload_n hx hb dX5_isRefused_37 rfl (lv_at hl 2 rfl) ?_
              refine lv_iload_n hx hb dX5_isRefused_38 rfl (lv_at hl 3 rfl) ?_
              refine lv_aload_n hx hb dX5_isRefused_39 rfl (lv_at hl 2 rfl) ?_
              refine gw5_birth S i5 hE hP (hts _ (List.mem_of_getElem? (i := 3) rfl)) dX5_isRefused_40 ?_
              refine lv_iload hx hb dX5_isRefused_43 (lv_at hl 0 rfl) ?_
              refine lM_b S hE hP (f := m_b u) rfl (j := i) (by omega) rfl dX5_isRefused_45 ?_
              refine kiV (As := [.int (nI t), .int (m_b u i)]) (rest := []) S (kX5_bars hg u t (m_b u i) ht (by first | exact Or.inr (hr9.2.1 i hlt).1 | exact (hr9.2.1 i hlt).2.1)) (cwV 2 hts gX5_isRefused_X5_bars rfl rfl rfl hdX5_bars ⟨Nat.le_of_ble_eq_true rfl, Nat.le_of_ble_eq_true rfl⟩) rfl rfl 0 rfl rfl hE hP hS (frs hS) rfl hl.1 rfl (Nat.le_of_ble_eq_true rfl) dX5_isRefused_46 ⟨Nat.le_of_ble_eq_true rfl, Nat.le_of_ble_eq_true rfl⟩ (fun H locs hP _ _ hS => ?_)
              refine bzne (tgt := 67) hx hb dX5_isRefused_49 (by decide) (fun c5 => ?_) (fun c5 => ?_)
              · skip
                have yes : rfM u t k (i + 1) := rfM_s.mpr (Or.inr ⟨us, ke, Or.inl c5⟩)
                refine lv_iconst (v := 1) hx hb dX5_isRefused_67 (by decide) ?_
                refine lv_goto (tgt := 72) hx hb dX5_isRefused_68 (by decide) ?_
                refine tpi (y := fb (rfM u t k (i + 1))) (by first | exact t_fb yes | exact f_fb no) ?_
                refine lv_istore_n (lv' := [(3, .int (fb (rfM u t k (i + 1)))), (4, .int (nI i)), (0, .ref (g 0)), (1, .int (nI t)), (2, .int (nI k))]) hx hb dX5_isRefused_72 rfl hl (by decide) rfl (fun ls hl => ?_)
                refine lv_iinc (v := nI (i + 1)) (lv' := [(4, .int (nI (i + 1))), (3, .int (fb (rfM u t k (i + 1)))), (0, .ref (g 0)), (1, .int (nI t)), (2, .int (nI k))]) hx hb dX5_isRefused_73 hl (k := 1) rfl (nI_1 i) (by decide) rfl (fun ls hl => ?_)
                refine lv_goto (tgt := 5) hx hb dX5_isRefused_76 (by decide) ?_
                exact ih5 (i + 1) (by omega) (by omega) _ _ hP hS ls (lv_sub hl [0, 1, 2, 3, 4] rfl)
              · skip
                have n1 : ¬ baP u t (m_b u i) := c5
                refine lv_aload_n hx hb dX5_isRefused_52 rfl (lv_at hl 2 rfl) ?_
                refine lv_iload_n hx hb dX5_isRefused_53 rfl (lv_at hl 3 rfl) ?_
                refine lv_aload_n hx hb dX5_isRefused_54 rfl (lv_at hl 2 rfl) ?_
                refine gw5_death S i5 hE hP (hts _ (List.mem_of_getElem? (i := 4) rfl)) dX5_isRefused_55 ?_
                refine lv_iload hx hb dX5_isRefused_58 (lv_at hl 0 rfl) ?_
                refine lM_d S hE hP (f := m_d u) rfl (j := i) (by omega) rfl dX5_isRefused_60 ?_
                refine kiV (As := [.int (nI t), .int (m_d u i)]) (rest := []) S (kX5_bars hg u t (m_d u i) ht (by first | exact Or.inr (hr9.2.1 i hlt).1 | exact (hr9.2.1 i hlt).2.1)) (cwV 2 hts gX5_isRefused_X5_bars rfl rfl rfl hdX5_bars ⟨Nat.le_of_ble_eq_true rfl, Nat.le_of_ble_eq_true rfl⟩) rfl rfl 0 rfl rfl hE hP hS (frs hS) rfl hl.1 rfl (Nat.le_of_ble_eq_true rfl) dX5_isRefused_61 ⟨Nat.le_of_ble_eq_true rfl, Nat.le_of_ble_eq_true rfl⟩ (fun H locs hP _ _ hS => ?_)
                refine bzeq (tgt := 71) hx hb dX5_isRefused_64 (by decide) (fun c6 => ?_) (fun c6 => ?_)
                · skip
                  have no : ¬ rfM u t k (i + 1) := fun z => (rfM_s.mp z).elim n0 (fun z => z.2.2.elim n1 c6)
                  refine lv_iconst (v := 0) hx hb dX5_isRefused_71 (by decide) ?_
                  refine tpi (y := fb (rfM u t k (i + 1))) (by first | exact t_fb yes | exact f_fb no) ?_
                  refine lv_istore_n (lv' := [(3, .int (fb (rfM u t k (i + 1)))), (4, .int (nI i)), (0, .ref (g 0)), (1, .int (nI t)), (2, .int (nI k))]) hx hb dX5_isRefused_72 rfl hl (by decide) rfl (fun ls hl => ?_)
                  refine lv_iinc (v := nI (i + 1)) (lv' := [(4, .int (nI (i + 1))), (3, .int (fb (rfM u t k (i + 1)))), (0, .ref (g 0)), (1, .int (nI t)), (2, .int (nI k))]) hx hb dX5_isRefused_73 hl (k := 1) rfl (nI_1 i) (by decide) rfl (fun ls hl => ?_)
                  refine lv_goto (tgt := 5) hx hb dX5_isRefused_76 (by decide) ?_
                  exact ih5 (i + 1) (by omega) (by omega) _ _ hP hS ls (lv_sub hl [0, 1, 2, 3, 4] rfl)
                · skip
                  have yes : rfM u t k (i + 1) := rfM_s.mpr (Or.inr ⟨us, ke, Or.inr c6⟩)
                  refine lv_iconst (v := 1) hx hb dX5_isRefused_67 (by decide) ?_
                  refine lv_goto (tgt := 72) hx hb dX5_isRefused_68 (by decide) ?_
                  refine tpi (y := fb (rfM u t k (i + 1))) (by first | exact t_fb yes | exact f_fb no) ?_
                  refine lv_istore_n (lv' := [(3, .int (fb (rfM u t k (i + 1)))), (4, .int (nI i)), (0, .ref (g 0)), (1, .int (nI t)), (2, .int (nI k))]) hx hb dX5_isRefused_72 rfl hl (by decide) rfl (fun ls hl => ?_)
                  refine lv_iinc (v := nI (i + 1)) (lv' := [(4, .int (nI (i + 1))), (3, .int (fb (rfM u t k (i + 1)))), (0, .ref (g 0)), (1, .int (nI t)), (2, .int (nI k))]) hx hb dX5_isRefused_73 hl (k := 1) rfl (nI_1 i) (by decide) rfl (fun ls hl => ?_)
                  refine lv_goto (tgt := 5) hx hb dX5_isRefused_76 (by decide) ?_
                  exact ih5 (i + 1) (by omega) (by omega) _ _ hP hS ls (lv_sub hl [0, 1, 2, 3, 4] rfl)
  exact loop5 _ 0 (by omega) (Nat.lt_succ_self _) _ _ hP hS ls (lv_sub hl [0, 1, 2, 3, 4] rfl)
def rmX5_free : Room := { frames := 0, cells := 0, slots := 0, locals := 0 }
theorem hdX5_free : yX5_free.cls = RX5 ∧ yX5_free.cls ≠ "java/lang/invoke/MethodHandle" ∧ yX5_free.cls ≠ "java/lang/invoke/VarHandle" ∧ (parseMethodDescriptor yX5_free.desc).map (fun d => d.parameters.length) = some 2 := by decide +kernel
set_option maxHeartbeats 4000000 in
set_option maxRecDepth 100000 in
theorem kX5_free {l : Launch} {D : va_G} {K : Nat → ClassId} {L : Nat → Prop} {g : Nat → Nat} (hg : gd L g 14) (u : MU) (a n : Nat) (han : a + n ≤ 32) : CI l yX5_free wsX5_free rmX5_free D K L [.ref (g 0), .int (nI a), .int (nI (a + n))] (wM K g u) (wM K g u) (lfm (m_us u) a n) := by
  refine CI.of (cc := cX5_free) (maxL := 4) (ret := (some .int)) (by decide +kernel) rfl (Nat.le_of_ble_eq_true rfl) ?_
  intro p e s m below meth c ls hen hP
  obtain ⟨hx, hb, hr, hts, hown, hlk, hml, hnm, hE, hl⟩ := hen
  have S : CallFix p m c cX5_free 4 s _ wsX5_free RX5 := ⟨hx, hb, hml, hown, hts⟩
  have hS : va_S (fr L s.heap.size) s.heap s.heap [] := va_S.rf
  have hl : lv_has ls 4 [(0, .ref (g 0)), (1, .int (nI a)), (2, .int (nI (a + n)))] := hl
  have i5 : ∀ w ∈ wsX50, w ∈ wsX5_free := fun _ h => List.mem_cons_of_mem _ (List.mem_append_right _ h)
  refine lv_iload_n hx hb dX5_free_0 rfl (lv_at hl 1 rfl) ?_
  refine lv_istore_n (lv' := [(3, .int (nI a)), (0, .ref (g 0)), (1, .int (nI a)), (2, .int (nI (a + n)))]) hx hb dX5_free_1 rfl hl (by decide) rfl (fun ls hl => ?_)
  have loop2 : ∀ (n2 : Nat) (i : Nat), (hi1 : a ≤ i) → (hi2 : i ≤ a + n) → (hr0 : lfm (m_us u) a n = lfm (m_us u) i (a + n - i)) → a + n - i < n2 → ∀ (H : Heap) (locs : List Loc), va_P D vwCl (wM K g u) H → va_S (fr L s.heap.size) s.heap H locs → ∀ (ls : Array Slot), lv_has ls 4 [(3, .int (nI i)), (0, .ref (g 0)), (1, .int (nI a)), (2, .int (nI (a + n)))] → W p l e rmX5_free s m ([.ref (g 0), .int (nI a), .int (nI (a + n))] : List Value).toArray below meth c H locs 0 0 (MQ below (va_Qi (fun (r9 : Int32) (_ : Unit) => r9 = lfm (m_us u) a n) (fun _ t => va_P D vwCl (wM K g u) t.heap) (fr L s.heap.size)) ([.ref (g 0), .int (nI a), .int (nI (a + n))] : List Value).toArray s rmX5_free.cells rmX5_free.slots (fr L s.heap.size)) (F0 m 2 ls []) := by
    intro n2
    induction n2 with
    | zero =>
      intro i hi1 hi2 hr0 hn2
      exact absurd hn2 (Nat.not_lt_zero _)
    | succ n2 ih2 =>
      intro i hi1 hi2 hr0 hn2 H locs hP hS ls hl
      refine lv_iload_n hx hb dX5_free_2 rfl (lv_at hl 0 rfl) ?_
      refine lv_iload_n hx hb dX5_free_3 rfl (lv_at hl 3 rfl) ?_
      refine lv_icmp_ge (tgt := 24) hx hb dX5_free_4 (by decide) (fun c1 => ?_) (fun c1 => ?_)
      · skip
        have e9 : i = a + n := by have := nge_i (a := i) (b := a + n) (by omega) (by omega) c1; omega
        refine lv_iconst (v := (-1)) hx hb dX5_free_24 (by decide) ?_
        exact ei hx hb hr hlk hS hP rfl (by rw [hr0, show a + n - i = 0 by omega]; rfl) (Nat.le_of_ble_eq_true rfl) (Nat.le_of_ble_eq_true rfl) dX5_free_25
      · skip
        have hlt : i < a + n := nlt_i (a := i) (b := a + n) (by omega) (by omega) c1
        refine lv_aload_n hx hb dX5_free_7 rfl (lv_at hl 1 rfl) ?_
        refine gw5_isUsed S i5 hE hP (hts _ (List.mem_of_getElem? (i := 1) rfl)) dX5_free_8 ?_
        refine lv_iload_n hx hb dX5_free_11 rfl (lv_at hl 0 rfl) ?_
        refine lM_us S hE hP (f := m_us u) rfl (j := i) (by omega) rfl dX5_free_12 ?_
        refine lv_if_ne (tgt := 18) hx hb dX5_free_13 (by decide) (fun c2 => ?_) (fun c2 => ?_)
        · skip
          refine lv_iinc (v := nI (i + 1)) (lv' := [(3, .int (nI (i + 1))), (0, .ref (g 0)), (1, .int (nI a)), (2, .int (nI (a + n)))]) hx hb dX5_free_18 hl (k := 0) rfl (nI_1 i) (by decide) rfl (fun ls hl => ?_)
          refine lv_goto (tgt := 2) hx hb dX5_free_21 (by decide) ?_
          exact ih2 (i + 1) (by omega) (by omega) (by rw [hr0, show a + n - i = (a + n - (i + 1)) + 1 by omega, lfm]; exact if_neg c2) (by omega) _ _ hP hS ls (lv_sub hl [0, 1, 2, 3] rfl)
        · skip
          refine lv_iload_n hx hb dX5_free_16 rfl (lv_at hl 0 rfl) ?_
          exact ei hx hb hr hlk hS hP rfl (by rw [hr0, show a + n - i = (a + n - (i + 1)) + 1 by omega, lfm]; exact (if_pos c2).symm) (Nat.le_of_ble_eq_true rfl) (Nat.le_of_ble_eq_true rfl) dX5_free_17
  exact loop2 _ a (by omega) (by omega) (by rw [show a + n - a = n by omega]) (Nat.lt_succ_self _) _ _ hP hS ls (lv_sub hl [0, 1, 2, 3] rfl)
def rmX5_puts : Room := { frames := 0, cells := 0, slots := 0, locals := 0 }
theorem hdX5_puts : yX5_puts.cls = RX5 ∧ yX5_puts.cls ≠ "java/lang/invoke/MethodHandle" ∧ yX5_puts.cls ≠ "java/lang/invoke/VarHandle" ∧ (parseMethodDescriptor yX5_puts.desc).map (fun d => d.parameters.length) = some 4 := by decide +kernel
set_option maxHeartbeats 4000000 in
set_option maxRecDepth 100000 in
theorem kX5_puts {l : Launch} {D : va_G} {K : Nat → ClassId} {L : Nat → Prop} {g : Nat → Nat} (hg : gd L g 14) (u : MU) (t q : Nat) (k z : Int32) (ht : t < 60) (hq : q < 32) : CV l yX5_puts wsX5_puts rmX5_puts D K L [.ref (g 0), .int (nI t), .int (nI q), .int k, .int z] (wM K g u) (wM K g (mpu u t q k z)) := by
  refine CV.of (cc := cX5_puts) (maxL := 5) (ret := none) (by decide +kernel) rfl (Nat.le_of_ble_eq_true rfl) ?_
  intro p e s m below meth c ls hen hP
  obtain ⟨hx, hb, hr, hts, hown, hlk, hml, hnm, hE, hl⟩ := hen
  have S : CallFix p m c cX5_puts 5 s _ wsX5_puts RX5 := ⟨hx, hb, hml, hown, hts⟩
  have hS : va_S (fr L s.heap.size) s.heap s.heap [] := va_S.rf
  have hl : lv_has ls 5 [(0, .ref (g 0)), (1, .int (nI t)), (2, .int (nI q)), (3, .int k), (4, .int z)] := hl
  have i5 : ∀ w ∈ wsX50, w ∈ wsX5_puts := fun _ h => List.mem_cons_of_mem _ (List.mem_append_right _ h)
  refine lv_aload_n hx hb dX5_puts_0 rfl (lv_at hl 0 rfl) ?_
  refine gw5_isUsed S i5 hE hP (hts _ (List.mem_of_getElem? (i := 1) rfl)) dX5_puts_1 ?_
  refine lv_iload_n hx hb dX5_puts_4 rfl (lv_at hl 2 rfl) ?_
  refine lv_iconst (v := 1) hx hb dX5_puts_5 (by decide) ?_
  refine sM_us S hE hP rfl hg hS (j := q) (by omega) rfl dX5_puts_6 (fun H locs hP hS => ?_)
  have hP : va_P D vwCl (wM K g (ms_us u (upd (m_us u) q 1))) H := hP
  refine lv_aload_n hx hb dX5_puts_7 rfl (lv_at hl 0 rfl) ?_
  refine gw5_key S i5 hE hP (hts _ (List.mem_of_getElem? (i := 2) rfl)) dX5_puts_8 ?_
  refine lv_iload_n hx hb dX5_puts_11 rfl (lv_at hl 2 rfl) ?_
  refine lv_iload_n hx hb dX5_puts_12 rfl (lv_at hl 3 rfl) ?_
  refine sM_k S hE hP hg hS (j := q) (by omega) rfl dX5_puts_13 (fun H locs hP hS => ?_)
  have hP : va_P D vwCl (wM K g (ms_k (ms_us u (upd (m_us u) q 1)) (upd (m_k u) q k))) H := hP
  refine lv_aload_n hx hb dX5_puts_14 rfl (lv_at hl 0 rfl) ?_
  refine gw5_value S i5 hE hP (hts _ (List.mem_of_getElem? (i := 3) rfl)) dX5_puts_15 ?_
  refine lv_iload_n hx hb dX5_puts_18 rfl (lv_at hl 2 rfl) ?_
  refine lv_iload hx hb dX5_puts_19 (lv_at hl 4 rfl) ?_
  refine sM_v S hE hP hg hS (j := q) (by omega) rfl dX5_puts_21 (fun H locs hP hS => ?_)
  have hP : va_P D vwCl (wM K g (ms_v (ms_k (ms_us u (upd (m_us u) q 1)) (upd (m_k u) q k)) (upd (m_v u) q z))) H := hP
  refine lv_aload_n hx hb dX5_puts_22 rfl (lv_at hl 0 rfl) ?_
  refine gw5_birth S i5 hE hP (hts _ (List.mem_of_getElem? (i := 4) rfl)) dX5_puts_23 ?_
  refine lv_iload_n hx hb dX5_puts_26 rfl (lv_at hl 2 rfl) ?_
  refine lv_iload_n hx hb dX5_puts_27 rfl (lv_at hl 1 rfl) ?_
  refine sM_b S hE hP hg hS (j := q) (by omega) rfl dX5_puts_28 (fun H locs hP hS => ?_)
  have hP : va_P D vwCl (wM K g (ms_b (ms_v (ms_k (ms_us u (upd (m_us u) q 1)) (upd (m_k u) q k)) (upd (m_v u) q z)) (upd (m_b u) q (nI t)))) H := hP
  refine lv_aload_n hx hb dX5_puts_29 rfl (lv_at hl 0 rfl) ?_
  refine gw5_isFrozen S i5 hE hP (hts _ (List.mem_of_getElem? (i := 5) rfl)) dX5_puts_30 ?_
  refine lv_iload_n hx hb dX5_puts_33 rfl (lv_at hl 2 rfl) ?_
  refine lv_iconst (v := 0) hx hb dX5_puts_34 (by decide) ?_
  refine sM_fr S hE hP rfl hg hS (j := q) (by omega) rfl dX5_puts_35 (fun H locs hP hS => ?_)
  have hP : va_P D vwCl (wM K g (ms_fr (ms_b (ms_v (ms_k (ms_us u (upd (m_us u) q 1)) (upd (m_k u) q k)) (upd (m_v u) q z)) (upd (m_b u) q (nI t))) (upd (m_fr u) q 0))) H := hP
  refine lv_aload_n hx hb dX5_puts_36 rfl (lv_at hl 0 rfl) ?_
  refine gw5_death S i5 hE hP (hts _ (List.mem_of_getElem? (i := 6) rfl)) dX5_puts_37 ?_
  refine lv_iload_n hx hb dX5_puts_40 rfl (lv_at hl 2 rfl) ?_
  refine lv_iconst (v := (-1)) hx hb dX5_puts_41 (by decide) ?_
  refine sM_d S hE hP hg hS (j := q) (by omega) rfl dX5_puts_42 (fun H locs hP hS => ?_)
  have hP : va_P D vwCl (wM K g (ms_d (ms_fr (ms_b (ms_v (ms_k (ms_us u (upd (m_us u) q 1)) (upd (m_k u) q k)) (upd (m_v u) q z)) (upd (m_b u) q (nI t))) (upd (m_fr u) q 0)) (upd (m_d u) q (-1)))) H := hP
  refine lv_aload_n hx hb dX5_puts_43 rfl (lv_at hl 0 rfl) ?_
  refine gw5_next S i5 hE hP (hts _ (List.mem_of_getElem? (i := 7) rfl)) dX5_puts_44 ?_
  refine lv_iload_n hx hb dX5_puts_47 rfl (lv_at hl 2 rfl) ?_
  refine lv_iconst (v := (-1)) hx hb dX5_puts_48 (by decide) ?_
  refine sM_n S hE hP hg hS (j := q) (by omega) rfl dX5_puts_49 (fun H locs hP hS => ?_)
  have hP : va_P D vwCl (wM K g (ms_n (ms_d (ms_fr (ms_b (ms_v (ms_k (ms_us u (upd (m_us u) q 1)) (upd (m_k u) q k)) (upd (m_v u) q z)) (upd (m_b u) q (nI t))) (upd (m_fr u) q 0)) (upd (m_d u) q (-1))) (upd (m_n u) q (-1)))) H := hP
  refine lv_aload_n hx hb dX5_puts_50 rfl (lv_at hl 0 rfl) ?_
  refine gw5_isMapped S i5 hE hP (hts _ (List.mem_of_getElem? (i := 8) rfl)) dX5_puts_51 ?_
  refine lv_iload_n hx hb dX5_puts_54 rfl (lv_at hl 2 rfl) ?_
  refine lv_bipush (v := 8) hx hb dX5_puts_55 (by decide) ?_
  refine lv_idiv hx hb dX5_puts_57 (by decide) ?_
  refine tpi (y := nI (q / 8)) (pk_div8 (by omega)) ?_
  refine lv_iconst (v := 0) hx hb dX5_puts_58 (by decide) ?_
  refine sM_mp S hE hP rfl hg hS (j := (q / 8)) (by omega) rfl dX5_puts_59 (fun H locs hP hS => ?_)
  have hP : va_P D vwCl (wM K g (ms_mp (ms_n (ms_d (ms_fr (ms_b (ms_v (ms_k (ms_us u (upd (m_us u) q 1)) (upd (m_k u) q k)) (upd (m_v u) q z)) (upd (m_b u) q (nI t))) (upd (m_fr u) q 0)) (upd (m_d u) q (-1))) (upd (m_n u) q (-1))) (upd (m_mp u) (q / 8) 0))) H := hP
  exact e0 hx hb hr hlk hS hP rfl (Nat.le_of_ble_eq_true rfl) (Nat.le_of_ble_eq_true rfl) dX5_puts_60
def rmX5_dies : Room := { frames := 0, cells := 0, slots := 0, locals := 0 }
theorem hdX5_dies : yX5_dies.cls = RX5 ∧ yX5_dies.cls ≠ "java/lang/invoke/MethodHandle" ∧ yX5_dies.cls ≠ "java/lang/invoke/VarHandle" ∧ (parseMethodDescriptor yX5_dies.desc).map (fun d => d.parameters.length) = some 2 := by decide +kernel
set_option maxHeartbeats 4000000 in
set_option maxRecDepth 100000 in
theorem kX5_dies {l : Launch} {D : va_G} {K : Nat → ClassId} {L : Nat → Prop} {g : Nat → Nat} (hg : gd L g 14) (u : MU) (t q : Nat) (ht : t < 60) (hq : q < 32) : CV l yX5_dies wsX5_dies rmX5_dies D K L [.ref (g 0), .int (nI t), .int (nI q)] (wM K g u) (wM K g (mdi u t q)) := by
  refine CV.of (cc := cX5_dies) (maxL := 3) (ret := none) (by decide +kernel) rfl (Nat.le_of_ble_eq_true rfl) ?_
  intro p e s m below meth c ls hen hP
  obtain ⟨hx, hb, hr, hts, hown, hlk, hml, hnm, hE, hl⟩ := hen
  have S : CallFix p m c cX5_dies 3 s _ wsX5_dies RX5 := ⟨hx, hb, hml, hown, hts⟩
  have hS : va_S (fr L s.heap.size) s.heap s.heap [] := va_S.rf
  have hl : lv_has ls 3 [(0, .ref (g 0)), (1, .int (nI t)), (2, .int (nI q))] := hl
  have i5 : ∀ w ∈ wsX50, w ∈ wsX5_dies := fun _ h => List.mem_cons_of_mem _ (List.mem_append_right _ h)
  refine lv_aload_n hx hb dX5_dies_0 rfl (lv_at hl 0 rfl) ?_
  refine gw5_death S i5 hE hP (hts _ (List.mem_of_getElem? (i := 1) rfl)) dX5_dies_1 ?_
  refine lv_iload_n hx hb dX5_dies_4 rfl (lv_at hl 2 rfl) ?_
  refine lv_iload_n hx hb dX5_dies_5 rfl (lv_at hl 1 rfl) ?_
  refine sM_d S hE hP hg hS (j := q) (by omega) rfl dX5_dies_6 (fun H locs hP hS => ?_)
  have hP : va_P D vwCl (wM K g (ms_d u (upd (m_d u) q (nI t)))) H := hP
  refine lv_aload_n hx hb dX5_dies_7 rfl (lv_at hl 0 rfl) ?_
  refine gw5_isMapped S i5 hE hP (hts _ (List.mem_of_getElem? (i := 2) rfl)) dX5_dies_8 ?_
  refine lv_iload_n hx hb dX5_dies_11 rfl (lv_at hl 2 rfl) ?_
  refine lv_bipush (v := 8) hx hb dX5_dies_12 (by decide) ?_
  refine lv_idiv hx hb dX5_dies_14 (by decide) ?_
  refine tpi (y := nI (q / 8)) (pk_div8 (by omega)) ?_
  refine lv_iconst (v := 0) hx hb dX5_dies_15 (by decide) ?_
  refine sM_mp S hE hP rfl hg hS (j := (q / 8)) (by omega) rfl dX5_dies_16 (fun H locs hP hS => ?_)
  have hP : va_P D vwCl (wM K g (ms_mp (ms_d u (upd (m_d u) q (nI t))) (upd (m_mp u) (q / 8) 0))) H := hP
  exact e0 hx hb hr hlk hS hP rfl (Nat.le_of_ble_eq_true rfl) (Nat.le_of_ble_eq_true rfl) dX5_dies_17
def rmX5_canGo : Room := { frames := 2, cells := 0, slots := 0, locals := 45 }
theorem hdX5_canGo : yX5_canGo.cls = RX5 ∧ yX5_canGo.cls ≠ "java/lang/invoke/MethodHandle" ∧ yX5_canGo.cls ≠ "java/lang/invoke/VarHandle" ∧ (parseMethodDescriptor yX5_canGo.desc).map (fun d => d.parameters.length) = some 1 := by decide +kernel
set_option maxHeartbeats 4000000 in
set_option maxRecDepth 100000 in
theorem kX5_canGo {l : Launch} {D : va_G} {K : Nat → ClassId} {L : Nat → Prop} {g : Nat → Nat} (hg : gd L g 14) (u : MU) (q : Nat) (hq : q < 32) (N : Nat) (hN : N ≤ 60) (hcn : m_cn u = nI N) (hr9 : rM u) : CI l yX5_canGo wsX5_canGo rmX5_canGo D K L [.ref (g 0), .int (nI q)] (wM K g u) (wM K g u) (fb (cgM u q N)) := by
  refine CI.of (cc := cX5_canGo) (maxL := 2) (ret := (some .boolean)) (by decide +kernel) rfl (Nat.le_of_ble_eq_true rfl) ?_
  intro p e s m below meth c ls hen hP
  obtain ⟨hx, hb, hr, hts, hown, hlk, hml, hnm, hE, hl⟩ := hen
  have S : CallFix p m c cX5_canGo 2 s _ wsX5_canGo RX5 := ⟨hx, hb, hml, hown, hts⟩
  have hS : va_S (fr L s.heap.size) s.heap s.heap [] := va_S.rf
  have hl : lv_has ls 2 [(0, .ref (g 0)), (1, .int (nI q))] := hl
  have i5 : ∀ w ∈ wsX50, w ∈ wsX5_canGo := fun _ h => List.mem_cons_of_mem _ (List.mem_append_right _ h)
  have hbo : m_b u q = nI (nat (m_b u q)) ∧ nat (m_b u q) < 60 := (hr9.2.1 q hq).1
  refine lv_aload_n hx hb dX5_canGo_0 rfl (lv_at hl 0 rfl) ?_
  refine gw5_isUsed S i5 hE hP (hts _ (List.mem_of_getElem? (i := 1) rfl)) dX5_canGo_1 ?_
  refine lv_iload_n hx hb dX5_canGo_4 rfl (lv_at hl 1 rfl) ?_
  refine lM_us S hE hP (f := m_us u) rfl (j := q) (by omega) rfl dX5_canGo_5 ?_
  refine lv_if_eq (tgt := 51) hx hb dX5_canGo_6 (by decide) (fun c1 => ?_) (fun c1 => ?_)
  · skip
    have no : ¬ cgM u q N := fun k => k.1 c1
    refine lv_iconst (v := 0) hx hb dX5_canGo_51 (by decide) ?_
    exact ez hx hb hr hlk hS hP rfl (by first | exact f_fb no | exact t_fb yes) rfl (Nat.le_of_ble_eq_true rfl) (Nat.le_of_ble_eq_true rfl) dX5_canGo_52
  · skip
    have us : ¬ m_us u q = 0 := c1
    refine lv_aload_n hx hb dX5_canGo_9 rfl (lv_at hl 0 rfl) ?_
    refine gw5_state S i5 hE hP (hts _ (List.mem_of_getElem? (i := 2) rfl)) dX5_canGo_10 ?_
    refine lv_aload_n hx hb dX5_canGo_13 rfl (lv_at hl 0 rfl) ?_
    refine gw5_birth S i5 hE hP (hts _ (List.mem_of_getElem? (i := 3) rfl)) dX5_canGo_14 ?_
    refine lv_iload_n hx hb dX5_canGo_17 rfl (lv_at hl 1 rfl) ?_
    refine lM_b S hE hP (f := m_b u) rfl (j := q) (by omega) rfl dX5_canGo_18 ?_
    refine tpi (y := nI (nat (m_b u q))) hbo.1 ?_
    refine lM_sta S hE hP (f := m_sta u) rfl (j := (nat (m_b u q))) (by omega) rfl dX5_canGo_19 ?_
    refine lv_iconst (v := 2) hx hb dX5_canGo_20 (by decide) ?_
    refine lv_icmp_eq (tgt := 47) hx hb dX5_canGo_21 (by decide) (fun c2 => ?_) (fun c2 => ?_)
    · skip
      have yes : cgM u q N := ⟨us, Or.inl c2⟩
      refine lv_iconst (v := 1) hx hb dX5_canGo_47 (by decide) ?_
      refine lv_goto (tgt := 52) hx hb dX5_canGo_48 (by decide) ?_
      exact ez hx hb hr hlk hS hP rfl (by first | exact f_fb no | exact t_fb yes) rfl (Nat.le_of_ble_eq_true rfl) (Nat.le_of_ble_eq_true rfl) dX5_canGo_52
    · skip
      have b2 : ¬ m_sta u (nat (m_b u q)) = 2 := c2
      refine lv_aload_n hx hb dX5_canGo_24 rfl (lv_at hl 0 rfl) ?_
      refine gw5_death S i5 hE hP (hts _ (List.mem_of_getElem? (i := 4) rfl)) dX5_canGo_25 ?_
      refine lv_iload_n hx hb dX5_canGo_28 rfl (lv_at hl 1 rfl) ?_
      refine lM_d S hE hP (f := m_d u) rfl (j := q) (by omega) rfl dX5_canGo_29 ?_
      refine lv_iconst (v := (-1)) hx hb dX5_canGo_30 (by decide) ?_
      refine lv_icmp_eq (tgt := 51) hx hb dX5_canGo_31 (by decide) (fun c3 => ?_) (fun c3 => ?_)
      · skip
        have no : ¬ cgM u q N := fun k => k.2.elim b2 (fun k => k.1 c3)
        refine lv_iconst (v := 0) hx hb dX5_canGo_51 (by decide) ?_
        exact ez hx hb hr hlk hS hP rfl (by first | exact f_fb no | exact t_fb yes) rfl (Nat.le_of_ble_eq_true rfl) (Nat.le_of_ble_eq_true rfl) dX5_canGo_52
      · skip
        have dn : ¬ m_d u q = -1 := c3
        have hdo : m_d u q = nI (nat (m_d u q)) ∧ nat (m_d u q) < 60 := rO (hr9.2.1 q hq).2.1 c3
        refine lv_aload_n hx hb dX5_canGo_34 rfl (lv_at hl 0 rfl) ?_
        refine lv_aload_n hx hb dX5_canGo_35 rfl (lv_at hl 0 rfl) ?_
        refine gw5_death S i5 hE hP (hts _ (List.mem_of_getElem? (i := 4) rfl)) dX5_canGo_36 ?_
        refine lv_iload_n hx hb dX5_canGo_39 rfl (lv_at hl 1 rfl) ?_
        refine lM_d S hE hP (f := m_d u) rfl (j := q) (by omega) rfl dX5_canGo_40 ?_
        refine tpi (y := nI (nat (m_d u q))) hdo.1 ?_
        refine kiV (As := [.int (nI (nat (m_d u q)))]) (rest := []) S (kX5_isPast hg u (nat (m_d u q)) (by omega) N hN hcn) (cwV 1 hts gX5_canGo_X5_isPast rfl rfl rfl hdX5_isPast ⟨Nat.le_of_ble_eq_true rfl, Nat.le_of_ble_eq_true rfl⟩) rfl rfl 0 rfl rfl hE hP hS (frs hS) rfl hl.1 rfl (Nat.le_of_ble_eq_true rfl) dX5_canGo_41 ⟨Nat.le_of_ble_eq_true rfl, Nat.le_of_ble_eq_true rfl⟩ (fun H locs hP _ _ hS => ?_)
        refine bzeq (tgt := 51) hx hb dX5_canGo_44 (by decide) (fun c4 => ?_) (fun c4 => ?_)
        · skip
          have no : ¬ cgM u q N := fun k => k.2.elim b2 (fun k => c4 k.2)
          refine lv_iconst (v := 0) hx hb dX5_canGo_51 (by decide) ?_
          exact ez hx hb hr hlk hS hP rfl (by first | exact f_fb no | exact t_fb yes) rfl (Nat.le_of_ble_eq_true rfl) (Nat.le_of_ble_eq_true rfl) dX5_canGo_52
        · skip
          have yes : cgM u q N := ⟨us, Or.inr ⟨dn, c4⟩⟩
          refine lv_iconst (v := 1) hx hb dX5_canGo_47 (by decide) ?_
          refine lv_goto (tgt := 52) hx hb dX5_canGo_48 (by decide) ?_
          exact ez hx hb hr hlk hS hP rfl (by first | exact f_fb no | exact t_fb yes) rfl (Nat.le_of_ble_eq_true rfl) (Nat.le_of_ble_eq_true rfl) dX5_canGo_52
def rmX5_isWholeNow : Room := { frames := 2, cells := 0, slots := 0, locals := 45 }
theorem hdX5_isWholeNow : yX5_isWholeNow.cls = RX5 ∧ yX5_isWholeNow.cls ≠ "java/lang/invoke/MethodHandle" ∧ yX5_isWholeNow.cls ≠ "java/lang/invoke/VarHandle" ∧ (parseMethodDescriptor yX5_isWholeNow.desc).map (fun d => d.parameters.length) = some 1 := by decide +kernel
set_option maxHeartbeats 4000000 in
set_option maxRecDepth 100000 in
theorem kX5_isWholeNow {l : Launch} {D : va_G} {K : Nat → ClassId} {L : Nat → Prop} {g : Nat → Nat} (hg : gd L g 14) (u : MU) (a : Nat) (ha : a < 4) (N : Nat) (hN : N ≤ 60) (hcn : m_cn u = nI N) (hr9 : rM u) : CI l yX5_isWholeNow wsX5_isWholeNow rmX5_isWholeNow D K L [.ref (g 0), .int (nI a)] (wM K g u) (wM K g u) (fb (whM u N a 8)) := by
  refine CI.of (cc := cX5_isWholeNow) (maxL := 4) (ret := (some .boolean)) (by decide +kernel) rfl (Nat.le_of_ble_eq_true rfl) ?_
  intro p e s m below meth c ls hen hP
  obtain ⟨hx, hb, hr, hts, hown, hlk, hml, hnm, hE, hl⟩ := hen
  have S : CallFix p m c cX5_isWholeNow 4 s _ wsX5_isWholeNow RX5 := ⟨hx, hb, hml, hown, hts⟩
  have hS : va_S (fr L s.heap.size) s.heap s.heap [] := va_S.rf
  have hl : lv_has ls 4 [(0, .ref (g 0)), (1, .int (nI a))] := hl
  have i5 : ∀ w ∈ wsX50, w ∈ wsX5_isWholeNow := fun _ h => List.mem_cons_of_mem _ (List.mem_append_right _ h)
  refine lv_iconst (v := 1) hx hb dX5_isWholeNow_0 (by decide) ?_
  refine tpi (y := fb (whM u N a 0)) (t_fb (fun j h => absurd h (Nat.not_lt_zero _))) ?_
  refine lv_istore_n (lv' := [(2, .int (fb (whM u N a 0))), (0, .ref (g 0)), (1, .int (nI a))]) hx hb dX5_isWholeNow_1 rfl hl (by decide) rfl (fun ls hl => ?_)
  refine lv_bipush (v := 8) hx hb dX5_isWholeNow_2 (by decide) ?_
  refine lv_iload_n hx hb dX5_isWholeNow_4 rfl (lv_at hl 2 rfl) ?_
  refine lv_imul hx hb dX5_isWholeNow_5 ?_
  refine tpi (y := nI (8 * a)) (pk_mul 8 a) ?_
  refine lv_istore_n (lv' := [(3, .int (nI (8 * a))), (2, .int (fb (whM u N a 0))), (0, .ref (g 0)), (1, .int (nI a))]) hx hb dX5_isWholeNow_6 rfl hl (by decide) rfl (fun ls hl => ?_)
  have loop7 : ∀ (n7 : Nat) (i : Nat), (hi : i ≤ 8) → 8 - i < n7 → ∀ (H : Heap) (locs : List Loc), va_P D vwCl (wM K g u) H → va_S (fr L s.heap.size) s.heap H locs → ∀ (ls : Array Slot), lv_has ls 4 [(3, .int (nI (8 * a + i))), (2, .int (fb (whM u N a i))), (0, .ref (g 0)), (1, .int (nI a))] → W p l e rmX5_isWholeNow s m ([.ref (g 0), .int (nI a)] : List Value).toArray below meth c H locs 0 0 (MQ below (va_Qi (fun (r9 : Int32) (_ : Unit) => r9 = fb (whM u N a 8)) (fun _ t => va_P D vwCl (wM K g u) t.heap) (fr L s.heap.size)) ([.ref (g 0), .int (nI a)] : List Value).toArray s rmX5_isWholeNow.cells rmX5_isWholeNow.slots (fr L s.heap.size)) (F0 m 7 ls []) := by
    intro n7
    induction n7 with
    | zero =>
      intro i hi hn7
      exact absurd hn7 (Nat.not_lt_zero _)
    | succ n7 ih7 =>
      intro i hi hn7 H locs hP hS ls hl
      refine lv_iload_n hx hb dX5_isWholeNow_7 rfl (lv_at hl 0 rfl) ?_
      refine lv_bipush (v := 8) hx hb dX5_isWholeNow_8 (by decide) ?_
      refine lv_iload_n hx hb dX5_isWholeNow_10 rfl (lv_at hl 3 rfl) ?_
      refine lv_imul hx hb dX5_isWholeNow_11 ?_
      refine tpi (y := nI (8 * a)) (pk_mul 8 a) ?_
      refine lv_bipush (v := 8) hx hb dX5_isWholeNow_12 (by decide) ?_
      refine lv_iadd hx hb dX5_isWholeNow_14 ?_
      refine tpi (y := nI (8 * a + 8)) (nI_add (8 * a) 8) ?_
      refine lv_icmp_ge (tgt := 75) hx hb dX5_isWholeNow_15 (by decide) (fun c1 => ?_) (fun c1 => ?_)
      · skip
        have e9 : i = 8 := by have := nge_i (a := 8 * a + i) (b := 8 * a + 8) (by omega) (by omega) c1; omega
        refine lv_iload_n hx hb dX5_isWholeNow_75 rfl (lv_at hl 1 rfl) ?_
        exact ez hx hb hr hlk hS hP rfl (by rw [e9]) fb_nar (Nat.le_of_ble_eq_true rfl) (Nat.le_of_ble_eq_true rfl) dX5_isWholeNow_76
      · skip
        have hlt : i < 8 := by have := nlt_i (a := 8 * a + i) (b := 8 * a + 8) (by omega) (by omega) c1; omega
        have hbo : m_b u (8 * a + i) = nI (nat (m_b u (8 * a + i))) ∧ nat (m_b u (8 * a + i)) < 60 := (hr9.2.1 (8 * a + i) (by omega)).1
        refine lv_iload_n hx hb dX5_isWholeNow_18 rfl (lv_at hl 1 rfl) ?_
        refine bzeq (tgt := 67) hx hb dX5_isWholeNow_19 (by decide) (fun c2 => ?_) (fun c2 => ?_)
        · skip
          have no : ¬ whM u N a (i + 1) := fun z => c2 (whM_s.mp z).1
          refine lv_iconst (v := 0) hx hb dX5_isWholeNow_67 (by decide) ?_
          refine tpi (y := fb (whM u N a (i + 1))) (by first | exact t_fb yes | exact f_fb no) ?_
          refine lv_istore_n (lv' := [(2, .int (fb (whM u N a (i + 1)))), (3, .int (nI (8 * a + i))), (0, .ref (g 0)), (1, .int (nI a))]) hx hb dX5_isWholeNow_68 rfl hl (by decide) rfl (fun ls hl => ?_)
          refine lv_iinc (v := nI ((8 * a + i) + 1)) (lv' := [(3, .int (nI ((8 * a + i) + 1))), (2, .int (fb (whM u N a (i + 1)))), (0, .ref (g 0)), (1, .int (nI a))]) hx hb dX5_isWholeNow_69 hl (k := 1) rfl (nI_1 (8 * a + i)) (by decide) rfl (fun ls hl => ?_)
          refine lv_goto (tgt := 7) hx hb dX5_isWholeNow_72 (by decide) ?_
          exact ih7 (i + 1) (by omega) (by omega) _ _ hP hS ls (lv_sub hl [0, 1, 2, 3] rfl)
        · skip
          have w0 : whM u N a i := c2
          refine lv_aload_n hx hb dX5_isWholeNow_22 rfl (lv_at hl 2 rfl) ?_
          refine gw5_isUsed S i5 hE hP (hts _ (List.mem_of_getElem? (i := 1) rfl)) dX5_isWholeNow_23 ?_
          refine lv_iload_n hx hb dX5_isWholeNow_26 rfl (lv_at hl 0 rfl) ?_
          refine lM_us S hE hP (f := m_us u) rfl (j := (8 * a + i)) (by omega) rfl dX5_isWholeNow_27 ?_
          refine lv_if_eq (tgt := 63) hx hb dX5_isWholeNow_28 (by decide) (fun c3 => ?_) (fun c3 => ?_)
          · skip
            have yes : whM u N a (i + 1) := whM_s.mpr ⟨w0, Or.inl c3⟩
            refine lv_iconst (v := 1) hx hb dX5_isWholeNow_63 (by decide) ?_
            refine lv_goto (tgt := 68) hx hb dX5_isWholeNow_64 (by decide) ?_
            refine tpi (y := fb (whM u N a (i + 1))) (by first | exact t_fb yes | exact f_fb no) ?_
            refine lv_istore_n (lv' := [(2, .int (fb (whM u N a (i + 1)))), (3, .int (nI (8 * a + i))), (0, .ref (g 0)), (1, .int (nI a))]) hx hb dX5_isWholeNow_68 rfl hl (by decide) rfl (fun ls hl => ?_)
            refine lv_iinc (v := nI ((8 * a + i) + 1)) (lv' := [(3, .int (nI ((8 * a + i) + 1))), (2, .int (fb (whM u N a (i + 1)))), (0, .ref (g 0)), (1, .int (nI a))]) hx hb dX5_isWholeNow_69 hl (k := 1) rfl (nI_1 (8 * a + i)) (by decide) rfl (fun ls hl => ?_)
            refine lv_goto (tgt := 7) hx hb dX5_isWholeNow_72 (by decide) ?_
            exact ih7 (i + 1) (by omega) (by omega) _ _ hP hS ls (lv_sub hl [0, 1, 2, 3] rfl)
          · skip
            have us : ¬ m_us u (8 * a + i) = 0 := c3
            refine lv_aload_n hx hb dX5_isWholeNow_31 rfl (lv_at hl 2 rfl) ?_
            refine gw5_death S i5 hE hP (hts _ (List.mem_of_getElem? (i := 2) rfl)) dX5_isWholeNow_32 ?_
            refine lv_iload_n hx hb dX5_isWholeNow_35 rfl (lv_at hl 0 rfl) ?_
            refine lM_d S hE hP (f := m_d u) rfl (j := (8 * a + i)) (by omega) rfl dX5_isWholeNow_36 ?_
            refine lv_iconst (v := (-1)) hx hb dX5_isWholeNow_37 (by decide) ?_
            refine lv_icmp_ne (tgt := 67) hx hb dX5_isWholeNow_38 (by decide) (fun c4 => ?_) (fun c4 => ?_)
            · skip
              have no : ¬ whM u N a (i + 1) := fun z => (whM_s.mp z).2.elim us (fun z => c4 z.1)
              refine lv_iconst (v := 0) hx hb dX5_isWholeNow_67 (by decide) ?_
              refine tpi (y := fb (whM u N a (i + 1))) (by first | exact t_fb yes | exact f_fb no) ?_
              refine lv_istore_n (lv' := [(2, .int (fb (whM u N a (i + 1)))), (3, .int (nI (8 * a + i))), (0, .ref (g 0)), (1, .int (nI a))]) hx hb dX5_isWholeNow_68 rfl hl (by decide) rfl (fun ls hl => ?_)
              refine lv_iinc (v := nI ((8 * a + i) + 1)) (lv' := [(3, .int (nI ((8 * a + i) + 1))), (2, .int (fb (whM u N a (i + 1)))), (0, .ref (g 0)), (1, .int (nI a))]) hx hb dX5_isWholeNow_69 hl (k := 1) rfl (nI_1 (8 * a + i)) (by decide) rfl (fun ls hl => ?_)
              refine lv_goto (tgt := 7) hx hb dX5_isWholeNow_72 (by decide) ?_
              exact ih7 (i + 1) (by omega) (by omega) _ _ hP hS ls (lv_sub hl [0, 1, 2, 3] rfl)
            · skip
              have d1 : m_d u (8 * a + i) = -1 := c4
              refine lv_aload_n hx hb dX5_isWholeNow_41 rfl (lv_at hl 2 rfl) ?_
              refine gw5_isFrozen S i5 hE hP (hts _ (List.mem_of_getElem? (i := 3) rfl)) dX5_isWholeNow_42 ?_
              refine lv_iload_n hx hb dX5_isWholeNow_45 rfl (lv_at hl 0 rfl) ?_
              refine lM_fr S hE hP (f := m_fr u) rfl (j := (8 * a + i)) (by omega) rfl dX5_isWholeNow_46 ?_
              refine lv_if_ne (tgt := 63) hx hb dX5_isWholeNow_47 (by decide) (fun c5 => ?_) (fun c5 => ?_)
              · skip
                have yes : whM u N a (i + 1) := whM_s.mpr ⟨w0, Or.inr ⟨d1, Or.inl c5⟩⟩
                refine lv_iconst (v := 1) hx hb dX5_isWholeNow_63 (by decide) ?_
                refine lv_goto (tgt := 68) hx hb dX5_isWholeNow_64 (by decide) ?_
                refine tpi (y := fb (whM u N a (i + 1))) (by first | exact t_fb yes | exact f_fb no) ?_
                refine lv_istore_n (lv' := [(2, .int (fb (whM u N a (i + 1)))), (3, .int (nI (8 * a + i))), (0, .ref (g 0)), (1, .int (nI a))]) hx hb dX5_isWholeNow_68 rfl hl (by decide) rfl (fun ls hl => ?_)
                refine lv_iinc (v := nI ((8 * a + i) + 1)) (lv' := [(3, .int (nI ((8 * a + i) + 1))), (2, .int (fb (whM u N a (i + 1)))), (0, .ref (g 0)), (1, .int (nI a))]) hx hb dX5_isWholeNow_69 hl (k := 1) rfl (nI_1 (8 * a + i)) (by decide) rfl (fun ls hl => ?_)
                refine lv_goto (tgt := 7) hx hb dX5_isWholeNow_72 (by decide) ?_
                exact ih7 (i + 1) (by omega) (by omega) _ _ hP hS ls (lv_sub hl [0, 1, 2, 3] rfl)
              · skip
                have f0 : m_fr u (8 * a + i) = 0 := c5
                refine lv_aload_n hx hb dX5_isWholeNow_50 rfl (lv_at hl 2 rfl) ?_
                refine lv_aload_n hx hb dX5_isWholeNow_51 rfl (lv_at hl 2 rfl) ?_
                refine gw5_birth S i5 hE hP (hts _ (List.mem_of_getElem? (i := 4) rfl)) dX5_isWholeNow_52 ?_
                refine lv_iload_n hx hb dX5_isWholeNow_55 rfl (lv_at hl 0 rfl) ?_
                refine lM_b S hE hP (f := m_b u) rfl (j := (8 * a + i)) (by omega) rfl dX5_isWholeNow_56 ?_
                refine tpi (y := nI (nat (m_b u (8 * a + i)))) hbo.1 ?_
                refine kiV (As := [.int (nI (nat (m_b u (8 * a + i))))]) (rest := []) S (kX5_isPast hg u (nat (m_b u (8 * a + i))) (by omega) N hN hcn) (cwV 1 hts gX5_isWholeNow_X5_isPast rfl rfl rfl hdX5_isPast ⟨Nat.le_of_ble_eq_true rfl, Nat.le_of_ble_eq_true rfl⟩) rfl rfl 0 rfl rfl hE hP hS (frs hS) rfl hl.1 rfl (Nat.le_of_ble_eq_true rfl) dX5_isWholeNow_57 ⟨Nat.le_of_ble_eq_true rfl, Nat.le_of_ble_eq_true rfl⟩ (fun H locs hP _ _ hS => ?_)
                refine bzeq (tgt := 67) hx hb dX5_isWholeNow_60 (by decide) (fun c6 => ?_) (fun c6 => ?_)
                · skip
                  have no : ¬ whM u N a (i + 1) := fun z => (whM_s.mp z).2.elim us (fun z => z.2.elim (fun z => z f0) c6)
                  refine lv_iconst (v := 0) hx hb dX5_isWholeNow_67 (by decide) ?_
                  refine tpi (y := fb (whM u N a (i + 1))) (by first | exact t_fb yes | exact f_fb no) ?_
                  refine lv_istore_n (lv' := [(2, .int (fb (whM u N a (i + 1)))), (3, .int (nI (8 * a + i))), (0, .ref (g 0)), (1, .int (nI a))]) hx hb dX5_isWholeNow_68 rfl hl (by decide) rfl (fun ls hl => ?_)
                  refine lv_iinc (v := nI ((8 * a + i) + 1)) (lv' := [(3, .int (nI ((8 * a + i) + 1))), (2, .int (fb (whM u N a (i + 1)))), (0, .ref (g 0)), (1, .int (nI a))]) hx hb dX5_isWholeNow_69 hl (k := 1) rfl (nI_1 (8 * a + i)) (by decide) rfl (fun ls hl => ?_)
                  refine lv_goto (tgt := 7) hx hb dX5_isWholeNow_72 (by decide) ?_
                  exact ih7 (i + 1) (by omega) (by omega) _ _ hP hS ls (lv_sub hl [0, 1, 2, 3] rfl)
                · skip
                  have yes : whM u N a (i + 1) := whM_s.mpr ⟨w0, Or.inr ⟨d1, Or.inr c6⟩⟩
                  refine lv_iconst (v := 1) hx hb dX5_isWholeNow_63 (by decide) ?_
                  refine lv_goto (tgt := 68) hx hb dX5_isWholeNow_64 (by decide) ?_
                  refine tpi (y := fb (whM u N a (i + 1))) (by first | exact t_fb yes | exact f_fb no) ?_
                  refine lv_istore_n (lv' := [(2, .int (fb (whM u N a (i + 1)))), (3, .int (nI (8 * a + i))), (0, .ref (g 0)), (1, .int (nI a))]) hx hb dX5_isWholeNow_68 rfl hl (by decide) rfl (fun ls hl => ?_)
                  refine lv_iinc (v := nI ((8 * a + i) + 1)) (lv' := [(3, .int (nI ((8 * a + i) + 1))), (2, .int (fb (whM u N a (i + 1)))), (0, .ref (g 0)), (1, .int (nI a))]) hx hb dX5_isWholeNow_69 hl (k := 1) rfl (nI_1 (8 * a + i)) (by decide) rfl (fun ls hl => ?_)
                  refine lv_goto (tgt := 7) hx hb dX5_isWholeNow_72 (by decide) ?_
                  exact ih7 (i + 1) (by omega) (by omega) _ _ hP hS ls (lv_sub hl [0, 1, 2, 3] rfl)
  exact loop7 _ 0 (by omega) (Nat.lt_succ_self _) _ _ hP hS ls (lv_sub hl [0, 1, 2, 3] rfl)

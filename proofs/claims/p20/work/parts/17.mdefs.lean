/-! ===== RowPagesModel: the inner methods ===== -/
noncomputable def cif {α : Type} (q : Prop) (a b : α) : α := @ite _ q (Classical.propDecidable q) a b
theorem cif_t {α : Type} {q : Prop} {a b : α} (h : q) : cif q a b = a := if_pos h
theorem cif_f {α : Type} {q : Prop} {a b : α} (h : ¬ q) : cif q a b = b := if_neg h
/-- one of the first n numbers; or -1 -/
def rng (x : Int32) (n : Nat) : Prop := x = nI (nat x) ∧ nat x < n
def rngO (x : Int32) (n : Nat) : Prop := x = -1 ∨ rng x n
theorem rO {x : Int32} {n : Nat} (h : rngO x n) (h2 : ¬ x = -1) : rng x n := h.elim (fun k => absurd k h2) id
theorem rng_nI {j n : Nat} (hn : n < 2 ^ 31) (h : j < n) : rng (nI j) n := ⟨by rw [nat_nI (by omega)], by rw [nat_nI (by omega)]; exact h⟩
theorem rng_o {x : Int32} {n : Nat} (h : rng x n) : ∃ j, j < n ∧ x = nI j := ⟨nat x, h.2, h.1⟩
/-- what the reference's rows hold, used or not -/
def rM (u : MU) : Prop := rng (m_cn u) 61 ∧ (∀ q, q < 32 → rng (m_b u q) 60 ∧ rngO (m_d u q) 60 ∧ rngO (m_n u q) 32 ∧ rng (m_k u q) 6) ∧ (∀ k, k < 6 → rng (m_ec u k) 33 ∧ ∀ e, e < nat (m_ec u k) → rng (m_en u (64 * k + e)) 32)
def inP (x a b : Int32) : Prop := ¬ x < a ∧ ¬ b < x
def trP (u : MU) (x : Int32) : Prop := inP x 0 (m_cn u - 1)
theorem tr_at {u : MU} {N : Nat} {x : Int32} (hN : N < 2 ^ 31) (hcn : m_cn u = nI N) (h : trP u x) : ∃ t : Nat, t < N ∧ x = nI t := by
  obtain ⟨h1, h2⟩ := h
  obtain ⟨j, hj, rfl⟩ := nI_of h1
  refine ⟨j, ?_, rfl⟩
  rw [hcn] at h2
  cases N with
  | zero =>
    have e : (nI 0 - 1 : Int32).toInt = -1 := by decide +kernel
    have h3 : nI 0 - 1 < nI j := by rw [i_lt, nI_toInt hj, e]; omega
    exact absurd h3 h2
  | succ n => rw [nI_pred] at h2; have := nnltI (a := n) (b := j) (by omega) hj h2; omega
theorem in_at {x : Int32} {n : Nat} (hn : n < 2 ^ 31) (h : inP x 0 (nI n)) : ∃ t : Nat, t < n + 1 ∧ x = nI t := by
  obtain ⟨j, hj, rfl⟩ := nI_of h.1
  exact ⟨j, by have := nnltI (a := n) (b := j) hn hj h.2; omega, rfl⟩
theorem sshr_bit {S : Int64} {j : Nat} (hj : j < 60) : (S >>> ((nI j).toInt64 &&& 63)) &&& 1 = 1 ↔ bitL S j := by
  rw [wb_c j (by omega)]
  unfold bitL
  rw [show ((S >>> lN j) &&& 1 = 1) ↔ ((S >>> lN j) &&& 1).toBitVec = (1 : Int64).toBitVec from ⟨fun h => by rw [h], fun h => Int64.toBitVec_inj.mp h⟩]
  rw [Int64.toBitVec_and, Int64.toBitVec_shiftRight]
  have e : ((lN j).toBitVec.smod 64).toNat = j := by
    rw [wb_tb, wb_sm j (by omega), BitVec.toNat_ofNat, Nat.mod_eq_of_lt (by omega)]
  have e2 : ∀ x : BitVec 64, x &&& (1 : Int64).toBitVec = (1 : Int64).toBitVec ↔ x.getLsbD 0 = true := by
    intro x
    have e3 : (1 : Int64).toBitVec = 1#64 := rfl
    rw [e3]
    constructor
    · intro h
      have := congrArg (fun z => BitVec.getLsbD z 0) h
      simpa using this
    · intro h
      apply BitVec.eq_of_getLsbD_eq
      intro i hi
      simp only [BitVec.getLsbD_and, BitVec.getLsbD_one]
      by_cases hi0 : i = 0
      · subst hi0; simp [h]
      · simp [hi0]
  rw [e2]
  first
    | (rw [show S.toBitVec.sshiftRight' ((lN j).toBitVec.smod 64) = S.toBitVec.sshiftRight j by unfold BitVec.sshiftRight'; rw [e]]; rw [BitVec.getLsbD_sshiftRight]; simp; omega)
    | (simp [BitVec.sshiftRight', e, BitVec.getLsbD_sshiftRight]; omega)
def ag (u : MU) (t : Nat) : Int32 := ((m_ns u - m_st u t) + 64) - ((m_ns u - m_st u t) + 64) / 64 * 64
def paP (u : MU) (t n : Nat) : Prop := m_sta u t = 1 ∧ ∀ a, a < n → m_sta u a = 0 → bitL (m_sn u a) t
theorem paP_y {u : MU} {t n : Nat} (h : paP u t n) (h2 : m_sta u n = 0 → bitL (m_sn u n) t) : paP u t (n + 1) := ⟨h.1, fun a ha ha0 => by
  by_cases e : a = n
  · subst e; exact h2 ha0
  · exact h.2 a (by omega) ha0⟩
theorem paP_d {u : MU} {t n : Nat} (h : paP u t (n + 1)) : paP u t n := ⟨h.1, fun a ha ha0 => h.2 a (by omega) ha0⟩
def mg (x y : Int32) : Int32 := if x ≤ y then y else x
noncomputable def bo (u : MU) (i : Nat) : Int32 := cif (¬ m_us u i = 0 ∧ m_fr u i = 0) (ag u (nat (m_b u i))) 0
noncomputable def di (u : MU) (i : Nat) : Int32 := cif (¬ m_us u i = 0 ∧ ¬ m_d u i = -1) (ag u (nat (m_d u i))) 0
noncomputable def og1 (u : MU) : Nat → Int32
  | 0 => 0
  | n + 1 => mg (di u n) (mg (bo u n) (og1 u n))
noncomputable def og2 (u : MU) : Nat → Int32
  | 0 => og1 u 32
  | n + 1 => cif (m_sta u n = 0 ∧ ¬ ag u n ≤ og2 u n) (ag u n) (og2 u n)
def knM (u : MU) (t : Nat) (x : Int32) : Prop := x = nI t ∨ bitL (m_sn u t) (nat x)
def seM (u : MU) (t q : Nat) : Prop := (¬ m_fr u q = 0 ∨ knM u t (m_b u q)) ∧ (m_d u q = -1 ∨ ¬ knM u t (m_d u q))
/-- the chain from x on ends within n steps -/
def ends (u : MU) : Nat → Int32 → Prop
  | 0, x => x = -1
  | n + 1, x => x = -1 ∨ (rng x 32 ∧ ends u n (m_n u (nat x)))
noncomputable def mch (u : MU) (t : Nat) : Nat → Int32 → Int32
  | 0, _ => -1
  | n + 1, x => cif (x = -1) (-1) (cif (seM u t (nat x)) x (mch u t n (m_n u (nat x))))
theorem mch_m {u : MU} {t n : Nat} : mch u t n (-1) = -1 := by
  cases n with
  | zero => rfl
  | succ n => rw [mch]; exact cif_t rfl
theorem mch_y {u : MU} {t n j : Nat} (hj : j < 32) (h : seM u t j) : mch u t (n + 1) (nI j) = nI j := by
  rw [mch, nat_nI (by omega), cif_f (nI_m1 j (by omega)), cif_t h]
theorem mch_n {u : MU} {t n j : Nat} (hj : j < 32) (h : ¬ seM u t j) : mch u t (n + 1) (nI j) = mch u t n (m_n u j) := by
  rw [mch, nat_nI (by omega), cif_f (nI_m1 j (by omega)), cif_f h]
noncomputable def msn (u : MU) (t k : Nat) : Nat → Int32
  | 0 => -1
  | n + 1 => cif (mch u t 8 (m_en u (64 * k + n)) = -1) (msn u t k n) (mch u t 8 (m_en u (64 * k + n)))
def baP (u : MU) (t : Nat) (x : Int32) : Prop := ¬ x = -1 ∧ ¬ x = nI t ∧ (m_sta u (nat x) = 0 ∨ (m_sta u (nat x) = 1 ∧ ¬ bitL (m_sn u t) (nat x)))
def rf1 (u : MU) (t k j : Nat) : Prop := ¬ m_us u j = 0 ∧ m_k u j = nI k ∧ (baP u t (m_b u j) ∨ baP u t (m_d u j))
def rfM (u : MU) (t k n : Nat) : Prop := ∃ j, j < n ∧ rf1 u t k j
theorem rfM_s {u : MU} {t k n : Nat} : rfM u t k (n + 1) ↔ rfM u t k n ∨ rf1 u t k n := by
  constructor
  · rintro ⟨j, hj, h⟩
    by_cases e : j = n
    · subst e; exact Or.inr h
    · exact Or.inl ⟨j, by omega, h⟩
  · rintro (⟨j, hj, h⟩ | h)
    · exact ⟨j, by omega, h⟩
    · exact ⟨n, by omega, h⟩
theorem rfM_0 {u : MU} {t k : Nat} : ¬ rfM u t k 0 := fun ⟨j, hj, _⟩ => absurd hj (Nat.not_lt_zero _)
/-- the lowest free of n places from a on -/
def lfm (f : AI) : Nat → Nat → Int32
  | _, 0 => -1
  | a, n + 1 => if f a = 0 then nI a else lfm f (a + 1) n
def mpu (u : MU) (t q : Nat) (k z : Int32) : MU := ms_mp (ms_n (ms_d (ms_fr (ms_b (ms_v (ms_k (ms_us u (upd (m_us u) q 1)) (upd (m_k u) q k)) (upd (m_v u) q z)) (upd (m_b u) q (nI t))) (upd (m_fr u) q 0)) (upd (m_d u) q (-1))) (upd (m_n u) q (-1))) (upd (m_mp u) (q / 8) 0)
def mdi (u : MU) (t q : Nat) : MU := ms_mp (ms_d u (upd (m_d u) q (nI t))) (upd (m_mp u) (q / 8) 0)
def cgM (u : MU) (q N : Nat) : Prop := ¬ m_us u q = 0 ∧ (m_sta u (nat (m_b u q)) = 2 ∨ (¬ m_d u q = -1 ∧ paP u (nat (m_d u q)) N))
def wh1 (u : MU) (N j : Nat) : Prop := m_us u j = 0 ∨ (m_d u j = -1 ∧ (¬ m_fr u j = 0 ∨ paP u (nat (m_b u j)) N))
def whM (u : MU) (N a n : Nat) : Prop := ∀ j, j < n → wh1 u N (8 * a + j)
theorem whM_s {u : MU} {N a n : Nat} : whM u N a (n + 1) ↔ whM u N a n ∧ wh1 u N (8 * a + n) := by
  constructor
  · exact fun h => ⟨fun j hj => h j (by omega), h n (by omega)⟩
  · intro h j hj
    by_cases e : j = n
    · subst e; exact h.2
    · exact h.1 j (by omega)

/-! ===== RowPagesModel: leaves ===== -/
def rplU (us f : AI) (x y : Int32) (n : Nat) : AI := fun j => if j < n ∧ ¬ us j = 0 ∧ f j = x then y else f j
theorem rplU_0 {us f : AI} {x y : Int32} : rplU us f x y 0 = f := by
  funext j; unfold rplU; rw [if_neg (fun k => absurd k.1 (Nat.not_lt_zero _))]
theorem rplU_at {us f : AI} {x y : Int32} {i : Nat} : rplU us f x y i i = f i := by
  unfold rplU; rw [if_neg (fun k => absurd k.1 (Nat.lt_irrefl _))]
theorem rplU_q {us f : AI} {x y : Int32} {i q : Nat} (h : ¬ f q = x) : rplU us f x y i q = f q := by
  unfold rplU; rw [if_neg (fun k => h k.2.2)]
theorem rplU_y {us f : AI} {x y : Int32} {i : Nat} (hu : ¬ us i = 0) (h : f i = x) : upd (rplU us f x y i) i y = rplU us f x y (i + 1) := by
  funext j
  unfold upd rplU
  by_cases hj : j = i
  · rw [if_pos hj, hj, if_pos ⟨by omega, hu, h⟩]
  · rw [if_neg hj]
    by_cases h2 : j < i ∧ ¬ us j = 0 ∧ f j = x
    · rw [if_pos h2, if_pos ⟨by omega, h2.2⟩]
    · rw [if_neg h2, if_neg (fun k => h2 ⟨by omega, k.2⟩)]
theorem rplU_n {us f : AI} {x y : Int32} {i : Nat} (h : ¬ (¬ us i = 0 ∧ f i = x)) : upd (rplU us f x y i) i (rplU us f x y i i) = rplU us f x y (i + 1) := by
  funext j
  rw [rplU_at]
  unfold upd rplU
  by_cases hj : j = i
  · rw [if_pos hj, hj, if_neg (fun k => h k.2)]
  · rw [if_neg hj]
    by_cases h2 : j < i ∧ ¬ us j = 0 ∧ f j = x
    · rw [if_pos h2, if_pos ⟨by omega, h2.2⟩]
    · rw [if_neg h2, if_neg (fun k => h2 ⟨by omega, k.2⟩)]
/-- from a on, ahead of b, each the one behind it -/
def shp (f : AI) (a b : Nat) : AI := fun j => if a ≤ j ∧ j < b then f (j + 1) else f j
theorem shp_0 {f : AI} {a : Nat} : shp f a a = f := by funext j; unfold shp; rw [if_neg (fun k => by omega)]
theorem shp_s {f : AI} {a b : Nat} (h : a ≤ b) : upd (shp f a b) b (shp f a b (b + 1)) = shp f a (b + 1) := by
  funext j
  have e : shp f a b (b + 1) = f (b + 1) := by unfold shp; rw [if_neg (fun k => by omega)]
  rw [e]
  unfold upd shp
  by_cases hj : j = b
  · rw [if_pos hj, hj, if_pos ⟨h, by omega⟩]
  · rw [if_neg hj]
    by_cases h2 : a ≤ j ∧ j < b
    · rw [if_pos h2, if_pos ⟨h2.1, by omega⟩]
    · rw [if_neg h2, if_neg (fun k => h2 ⟨k.1, by omega⟩)]
def lv1 (nx : Int32) (q a : Nat) (f : AI) : AI := if f a = nI q then upd f a nx else f
def lvs (nx : Int32) (q k : Nat) (s : AI × Nat) (e : Nat) : AI × Nat := if lv1 nx q (64 * k + e) s.1 (64 * k + e) = -1 then (shp (lv1 nx q (64 * k + e) s.1) (64 * k + e) (64 * k + (s.2 - 1)), s.2 - 1) else (lv1 nx q (64 * k + e) s.1, s.2)
/-- the entries below i, the last of them first: those that point to q turned or left out -/
def lve (nx : Int32) (q k : Nat) : Nat → AI × Nat → AI × Nat
  | 0, s => s
  | i + 1, s => lve nx q k i (lvs nx q k s i)
theorem lve_s {nx : Int32} {q k i d : Nat} {f f1 : AI} (e : f1 = lv1 nx q (64 * k + i) f) (h : ¬ f1 (64 * k + i) = -1) : lve nx q k (i + 1) (f, d) = lve nx q k i (f1, d) := by
  rw [lve, lvs]; dsimp only; rw [← e, if_neg h]
theorem lve_r {nx : Int32} {q k i d : Nat} {f f1 : AI} (e : f1 = lv1 nx q (64 * k + i) f) (h : f1 (64 * k + i) = -1) : lve nx q k (i + 1) (f, d) = lve nx q k i (shp f1 (64 * k + i) (64 * k + (d - 1)), d - 1) := by
  rw [lve, lvs]; dsimp only; rw [← e, if_pos h]
theorem upd_id {f : AI} {k : Nat} {x : Int32} (h : f k = x) : f = upd f k x := by
  funext j; unfold upd
  by_cases e : j = k
  · rw [if_pos e, e, h]
  · rw [if_neg e]
theorem e_sw {u : MU} {f a b c : AI} : ms_en (ms_ec (ms_en (ms_n u f) a) b) c = ms_ec (ms_en (ms_n u f) c) b := rfl
theorem c_sw {u : MU} {f a b c : AI} : ms_ec (ms_ec (ms_en (ms_n u f) a) b) c = ms_ec (ms_en (ms_n u f) a) c := rfl
def mlv (u : MU) (q k n : Nat) : MU :=
  let F := rplU (m_us u) (m_n u) (nI q) (m_n u q) 32
  let r := lve (m_n u q) q k n (m_en u, n)
  ms_us (ms_ec (ms_en (ms_n u F) r.1) (upd (m_ec u) k (nI r.2))) (upd (m_us u) q 0)

/-! ===== RowPagesModel: the face ===== -/
theorem msn_thr {u : MU} {x : Int32} {t k : Nat} : ∀ n, msn (ms_thr u x) t k n = msn u t k n := by
  have hm : ∀ n y, mch (ms_thr u x) t n y = mch u t n y := by
    intro n
    induction n with
    | zero => intro y; rfl
    | succ n ih => intro y; rw [mch, mch, ih]; rfl
  intro n
  induction n with
  | zero => rfl
  | succ n ih => rw [msn, msn, hm, ih]; rfl
theorem ends_thr {u : MU} {x : Int32} : ∀ n y, ends u n y → ends (ms_thr u x) n y := by
  intro n
  induction n with
  | zero => exact fun y h => h
  | succ n ih => exact fun y h => h.elim Or.inl (fun h => Or.inr ⟨h.1, ih _ h.2⟩)
theorem mch_rng {u : MU} {t : Nat} : ∀ n y, ends u n y → rngO (mch u t n y) 32 := by
  intro n
  induction n with
  | zero => exact fun y _ => Or.inl rfl
  | succ n ih =>
    intro y h
    rcases h with h | ⟨h1, h2⟩
    · rw [h, mch_m]; exact Or.inl rfl
    · obtain ⟨j, hj, rfl⟩ := rng_o h1
      rw [nat_nI (by omega)] at h2
      by_cases hs : seM u t j
      · rw [mch_y hj hs]; exact Or.inr h1
      · rw [mch_n hj hs]; exact ih _ h2
def enM (u : MU) : Prop := ∀ k, k < 6 → ∀ i, i < nat (m_ec u k) → ends u 8 (m_en u (64 * k + i))
theorem msn_rng {u : MU} {t k : Nat} : ∀ n, (∀ i, i < n → ends u 8 (m_en u (64 * k + i))) → rngO (msn u t k n) 32 := by
  intro n
  induction n with
  | zero => exact fun _ => Or.inl rfl
  | succ n ih =>
    intro h
    rw [msn]
    by_cases hq : mch u t 8 (m_en u (64 * k + n)) = -1
    · rw [cif_t hq]; exact ih (fun i hi => h i (by omega))
    · rw [cif_f hq]; exact mch_rng 8 _ (h n (by omega))
theorem lfm_rng {f : AI} : ∀ n a, a + n ≤ 32 → rngO (lfm f a n) 32 := by
  intro n
  induction n with
  | zero => exact fun a _ => Or.inl rfl
  | succ n ih =>
    intro a h
    rw [lfm]
    by_cases hq : f a = 0
    · rw [if_pos hq]; exact Or.inr (rng_nI (by omega) (by omega))
    · rw [if_neg hq]; exact ih _ (by omega)
noncomputable def mvs (u : MU) (x y : Int32) : Int32 := msn u (nat x) (nat y) (nat (m_ec u (nat y)))
noncomputable def mrd (u : MU) (v : Int32) : Int32 := cif (v = -1) (-1) (m_v u (nat v))
/-- which of a reading method's exceptions -/
noncomputable def co3 (a b c : Prop) : Int32 := cif a (cif b (cif c 0 3) 2) 1
noncomputable def co2 (a b : Prop) : Int32 := cif a (cif b 0 2) 1
noncomputable def co1 (a : Prop) : Int32 := cif a 0 1
/-- the committed ones, out of the first n -/
noncomputable def cmo (u : MU) : Nat → Int64
  | 0 => 0
  | n + 1 => cmo u n ||| cif (m_sta u n = 1) (1 <<< ((nI n).toInt64 &&& 63)) 0
noncomputable def mbg (u : MU) (N : Nat) : MU :=
  let v := ms_thr u 0
  ms_cn (ms_ns (ms_st (ms_sta (ms_sn v (vp_updL (m_sn v) N (cmo v N))) (upd (m_sta v) N 0)) (upd (m_st v) N (m_ns v))) ((m_ns v + 1) - (m_ns v + 1) / 64 * 64)) (nI (N + 1))
def msk (u : MU) (x : Int32) : Int32 := (m_ns u + x) - (m_ns u + x) / 64 * 64
/-- the deaths that are x's taken off, among the first n -/
noncomputable def tkM (us f : AI) (q : Prop) (x : Int32) (n : Nat) : AI := fun j => cif (j < n ∧ ¬ q ∧ ¬ us j = 0 ∧ f j = x) (-1) (f j)
theorem tkM_0 {us f : AI} {q : Prop} {x : Int32} : tkM us f q x 0 = f := by
  funext j; unfold tkM; exact cif_f (fun k => absurd k.1 (Nat.not_lt_zero _))
theorem tkM_at {us f : AI} {q : Prop} {x : Int32} {i : Nat} : tkM us f q x i i = f i := by
  unfold tkM; exact cif_f (fun k => absurd k.1 (Nat.lt_irrefl _))
theorem tkM_y {us f : AI} {q : Prop} {x : Int32} {i : Nat} (h : ¬ q ∧ ¬ us i = 0 ∧ f i = x) : upd (tkM us f q x i) i (-1) = tkM us f q x (i + 1) := by
  funext j
  unfold upd tkM
  by_cases hj : j = i
  · rw [if_pos hj, hj]; exact (cif_t ⟨by omega, h⟩).symm
  · rw [if_neg hj]
    by_cases h2 : j < i ∧ ¬ q ∧ ¬ us j = 0 ∧ f j = x
    · rw [cif_t h2]; exact (cif_t ⟨by omega, h2.2⟩).symm
    · rw [cif_f h2]; exact (cif_f (fun k => h2 ⟨by omega, k.2⟩)).symm
theorem tkM_n {us f : AI} {q : Prop} {x : Int32} {i : Nat} (h : ¬ (¬ q ∧ ¬ us i = 0 ∧ f i = x)) : upd (tkM us f q x i) i (tkM us f q x i i) = tkM us f q x (i + 1) := by
  funext j
  rw [tkM_at]
  unfold upd tkM
  by_cases hj : j = i
  · rw [if_pos hj, hj]; exact (cif_f (fun k => h k.2)).symm
  · rw [if_neg hj]
    by_cases h2 : j < i ∧ ¬ q ∧ ¬ us j = 0 ∧ f j = x
    · rw [cif_t h2]; exact (cif_t ⟨by omega, h2.2⟩).symm
    · rw [cif_f h2]; exact (cif_f (fun k => h2 ⟨by omega, k.2⟩)).symm
/-- how many of the first n are active -/
noncomputable def acM (u : MU) : Nat → Nat
  | 0 => 0
  | n + 1 => acM u n + cif (m_sta u n = 0) 1 0
noncomputable def men (u : MU) (t : Nat) (q : Prop) : MU :=
  let v := ms_thr u 0
  let v1 := ms_sta v (upd (m_sta v) t (cif q 1 2))
  ms_d v1 (tkM (m_us v1) (m_d v1) q (nI t) 32)
def ibM (x y : Int32) : Prop := ¬ x = y ∧ ¬ 32 ≤ ((y - x) + 64) - ((y - x) + 64) / 64 * 64
theorem inP_i {x a b : Int32} (h : ¬ x < a ∧ ¬ b < x) : inP x a b := h
noncomputable def msl (u : MU) (q : Nat) : Int32 := cif (m_us u q = 0) (-1) (m_k u q + cif (m_fr u q = 0) 0 10 + cif (m_d u q = -1) 0 20 + cif (m_n u q = -1) 0 (100 * (nI (nat (m_n u q) % 8) + 1)))
noncomputable def fuM (u : MU) (a : Nat) : Nat → Nat
  | 0 => 0
  | n + 1 => fuM u a n + cif (m_us u (8 * a + n) = 0) 0 1
theorem fuM_le {u : MU} {a : Nat} : ∀ n, fuM u a n ≤ n
  | 0 => Nat.le_refl _
  | n + 1 => by
    have ih := fuM_le (u := u) (a := a) n
    by_cases h : m_us u (8 * a + n) = 0
    · rw [fuM, cif_t h]; omega
    · rw [fuM, cif_f h]; omega

/-! ===== RowPagesModel: write, delete, clean, slot, fullness ===== -/
/-- may it be written -/
def wcP (u : MU) (t k : Nat) : Prop := m_sta u t = 0 ∧ ¬ lfm (m_us u) 0 32 = -1 ∧ ¬ rfM u t k 32
noncomputable def mnr (u : MU) (o : Int32) : Int32 := cif (o = -1) (-1) (lfm (m_us u) (nat o / 8 * 8) 8)
noncomputable def mpl (u : MU) (o : Int32) : Int32 := cif (mnr u o = -1) (lfm (m_us u) 0 32) (mnr u o)
noncomputable def mw1 (u : MU) (t q : Nat) (k z o : Int32) : MU := cif (o = -1) (mpu (ms_thr u 0) t q k z) (mdi (mpu (ms_thr u 0) t q k z) t (nat o))
noncomputable def mw2 (u : MU) (t k : Nat) (z o : Int32) : MU :=
  let q := nat (mpl u o)
  let v := mw1 u t q (nI k) z o
  cif (mnr u o = -1) (ms_ec (ms_en v (upd (m_en v) (64 * k + nat (m_ec v k)) (nI q))) (upd (m_ec v) k (nI (nat (m_ec v k) + 1)))) (ms_n v (upd (m_n v) (nat o) (nI q)))
noncomputable def mwr (u : MU) (o : Int32) : Int32 := nI (1000 * (nat (mpl u o) / 8) + nat (mpl u o) % 8) + cif (mnr u o = -1) 0 100000
theorem mnr_o {u : MU} : mnr u (-1) = -1 := cif_t rfl
theorem mnr_j {u : MU} {j : Nat} (hj : j < 32) : mnr u (nI j) = lfm (m_us u) (j / 8 * 8) 8 := by
  unfold mnr; rw [cif_f (nI_m1 j (by omega)), nat_nI (by omega)]
theorem mpl_f {u : MU} {o : Int32} {q : Nat} (h : mnr u o = -1) (h2 : lfm (m_us u) 0 32 = nI q) : mpl u o = nI q := by
  unfold mpl; rw [cif_t h, h2]
theorem mpl_n {u : MU} {o : Int32} {q : Nat} (hq : q < 32) (h : mnr u o = nI q) : mpl u o = nI q := by
  unfold mpl; rw [h, cif_f (nI_m1 q (by omega))]
theorem mw1_o {u : MU} {t q : Nat} {k z : Int32} : mw1 u t q k z (-1) = mpu (ms_thr u 0) t q k z := cif_t rfl
theorem mw1_j {u : MU} {t q j : Nat} {k z : Int32} (hj : j < 32) : mw1 u t q k z (nI j) = mdi (mpu (ms_thr u 0) t q k z) t j := by
  unfold mw1; rw [cif_f (nI_m1 j (by omega)), nat_nI (by omega)]
theorem mw2_e {u v : MU} {t k q n : Nat} {z o : Int32} (hq : q < 32) (h1 : mnr u o = -1) (h2 : mpl u o = nI q) (h3 : mw1 u t q (nI k) z o = v) (h4 : m_ec v k = nI n) (hn : n < 64) :
    mw2 u t k z o = ms_ec (ms_en v (upd (m_en v) (64 * k + n) (nI q))) (upd (m_ec v) k (nI (n + 1))) := by
  unfold mw2; rw [cif_t h1, h2, nat_nI (by omega), h3, h4, nat_nI (by omega)]
theorem mw2_n {u v : MU} {t k q j : Nat} {z : Int32} (hq : q < 32) (hj : j < 32) (h1 : mnr u (nI j) = nI q) (h2 : mpl u (nI j) = nI q) (h3 : mw1 u t q (nI k) z (nI j) = v) :
    mw2 u t k z (nI j) = ms_n v (upd (m_n v) j (nI q)) := by
  unfold mw2; rw [cif_f (by rw [h1]; exact nI_m1 q (by omega)), h2, nat_nI (by omega), h3, nat_nI (by omega)]
theorem mwr_e {u : MU} {q : Nat} {o : Int32} (hq : q < 32) (h1 : mnr u o = -1) (h2 : mpl u o = nI q) : mwr u o = nI (1000 * (q / 8) + q % 8) + 0 := by
  unfold mwr; rw [cif_t h1, h2, nat_nI (by omega)]
theorem mwr_n {u : MU} {q : Nat} {o : Int32} (hq : q < 32) (h1 : mnr u o = nI q) (h2 : mpl u o = nI q) : mwr u o = nI (1000 * (q / 8) + q % 8) + 100000 := by
  unfold mwr; rw [cif_f (by rw [h1]; exact nI_m1 q (by omega)), h2, nat_nI (by omega)]
def wrP (u : MU) (x y z : Int32) : Prop := trP u x ∧ (inP y 0 5 ∧ inP z 0 9999) ∧ wcP u (nat x) (nat y)
def deP (u : MU) (x y o : Int32) : Prop := trP u x ∧ inP y 0 5 ∧ (m_sta u (nat x) = 0 ∧ ¬ (¬ o = -1 ∧ rfM u (nat x) (nat y) 32))
/-- the going of what can go, in the first n places of a page; and how many went -/
noncomputable def clM (u : MU) (N a : Nat) : Nat → MU × Nat
  | 0 => (u, 0)
  | n + 1 => cif (cgM (clM u N a n).1 (8 * a + n) N) (mlv (clM u N a n).1 (8 * a + n) (nat (m_k (clM u N a n).1 (8 * a + n))) (nat (m_ec (clM u N a n).1 (nat (m_k (clM u N a n).1 (8 * a + n))))), (clM u N a n).2 + 1) (clM u N a n)
theorem clM_y {u v : MU} {N a n d : Nat} (h : clM u N a n = (v, d)) (hc : cgM v (8 * a + n) N) : clM u N a (n + 1) = (mlv v (8 * a + n) (nat (m_k v (8 * a + n))) (nat (m_ec v (nat (m_k v (8 * a + n))))), d + 1) := by
  rw [clM, h]; exact cif_t hc
theorem clM_n {u v : MU} {N a n d : Nat} (h : clM u N a n = (v, d)) (hc : ¬ cgM v (8 * a + n) N) : clM u N a (n + 1) = (v, d) := by
  rw [clM, h]; exact cif_f hc
theorem mlv_cn {u : MU} {q k n : Nat} : m_cn (mlv u q k n) = m_cn u := rfl
theorem clM_cn {u : MU} {N a : Nat} : ∀ n, m_cn (clM u N a n).1 = m_cn u := by
  intro n
  induction n with
  | zero => rfl
  | succ n ih =>
    by_cases h : cgM (clM u N a n).1 (8 * a + n) N
    · rw [clM, cif_t h]; exact ih
    · rw [clM, cif_f h]; exact ih
/-- is it to be frozen -/
def fzM (v : MU) (N j : Nat) : Prop := ¬ m_fr v j = 0 ∨ (¬ m_us v j = 0 ∧ ¬ ag v (nat (m_b v j)) < m_fz v ∧ paP v (nat (m_b v j)) N)
noncomputable def frM (v : MU) (N a : Nat) : Nat → AI
  | 0 => m_fr v
  | n + 1 => upd (frM v N a n) (8 * a + n) (fb (fzM v N (8 * a + n)))
theorem frM_at {v : MU} {N a : Nat} : ∀ n j, 8 * a + n ≤ j → frM v N a n j = m_fr v j := by
  intro n
  induction n with
  | zero => exact fun _ _ => rfl
  | succ n ih =>
    intro j hj
    rw [frM]; unfold upd; rw [if_neg (by omega)]; exact ih j (by omega)
noncomputable def mcl (u : MU) (N a : Nat) : MU :=
  let v := (clM (ms_thr u 0) N a 8).1
  let w := ms_fr v (frM v N a 8)
  ms_mp w (upd (m_mp w) a (fb (whM w N a 8)))
theorem rM_fr {u : MU} {f : AI} (h : rM u) : rM (ms_fr u f) := h

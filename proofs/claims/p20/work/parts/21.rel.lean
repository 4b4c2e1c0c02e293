/-! ===== the relation of the class and its reference ===== -/
/-- -1 for 0, n for n + 1 -/
def oi : Nat → Int32
  | 0 => -1
  | n + 1 => nI n
theorem oi_eq {a b : Nat} (ha : a < 2 ^ 31) (hb : b < 2 ^ 31) : oi a = oi b ↔ a = b := by
  cases a with
  | zero =>
    cases b with
    | zero => exact ⟨fun _ => rfl, fun _ => rfl⟩
    | succ b => exact ⟨fun h => absurd h.symm (nI_m1 b (by omega)), fun h => by omega⟩
  | succ a =>
    cases b with
    | zero => exact ⟨fun h => absurd h (nI_m1 a (by omega)), fun h => by omega⟩
    | succ b => exact (nI_eq (by omega) (by omega)).trans ⟨fun h => by omega, fun h => by omega⟩
theorem oi_0 {a : Nat} (ha : a < 2 ^ 31) : oi a = -1 ↔ a = 0 := oi_eq (b := 0) ha (by omega)
theorem oi_nI {a b : Nat} (ha : a < 2 ^ 31) (hb : b < 2 ^ 30) : oi a = nI b ↔ a = b + 1 := oi_eq (b := b + 1) ha (by omega)
theorem oi_rng {a n : Nat} (hn : n < 2 ^ 31) (h : a ≤ n) : rngO (oi a) n := by
  cases a with
  | zero => exact Or.inl rfl
  | succ a => exact Or.inr (rng_nI hn (by omega))
def TrB (N n : Nat) (st : Nat → Nat) : Prop := N ≤ 60 ∧ n < 64 ∧ ∀ t, t < N → st t < 64
def TrC (cn ns : Int32) (sp : AI) (sn : AL) (ac cm : Int64) (N n : Nat) (st S : Nat → Nat) (P : Nat → Nat → Prop) : Prop := cn = nI N ∧ ns = nI n ∧ (∀ t, t < N → sp t = nI (st t)) ∧ (∀ t, t < N → ∀ j, bitL (sn t) j ↔ P t j) ∧ (∀ j, bitL ac j ↔ j < N ∧ S j = 0) ∧ (∀ j, bitL cm j ↔ j < N ∧ S j = 1)
def TrM (cn ns : Int32) (sp sta : AI) (sn : AL) (N n : Nat) (st S : Nat → Nat) (P : Nat → Nat → Prop) : Prop := cn = nI N ∧ ns = nI n ∧ (∀ t, t < N → sp t = nI (st t)) ∧ (∀ t, t < N → sta t = nI (S t)) ∧ ∀ t, t < N → ∀ j, bitL (sn t) j ↔ P t j
def SlC (k b f d n r bs ds : AI) (st : Nat → Nat) (U : Nat → Prop) (K B D X R : Nat → Nat) (F : Nat → Prop) : Prop := ∀ q, q < 32 → (U q → k q = nI (K q) ∧ b q = nI (B q) ∧ (f q = 0 ↔ ¬ F q) ∧ d q = oi (D q) ∧ n q = oi (X q) ∧ r q = nI (R q) ∧ bs q = nI (st (B q)) ∧ ∀ e, D q = e + 1 → ds q = nI (st e)) ∧ (¬ U q → k q = -1 ∧ b q = -1 ∧ f q = 0 ∧ d q = -1 ∧ n q = -1)
def SlM (us k z b fr d n cz : AI) (U : Nat → Prop) (K B D X : Nat → Nat) (F : Nat → Prop) : Prop := ∀ q, q < 32 → (U q → ¬ us q = 0 ∧ k q = nI (K q) ∧ z q = cz q ∧ b q = nI (B q) ∧ (fr q = 0 ↔ ¬ F q) ∧ d q = oi (D q) ∧ n q = oi (X q)) ∧ (¬ U q → us q = 0)
def RgM (b d n k : AI) : Prop := ∀ q, q < 32 → rng (b q) 60 ∧ rngO (d q) 60 ∧ rngO (n q) 32 ∧ rng (k q) 6
def EnR (ct : AI) (pl : Nat → AI) (mec men : AI) (ec : Nat → Nat) (en : Nat → Nat → Nat) : Prop := ∀ k, k < 6 → ec k ≤ 32 ∧ ct k = nI (ec k) ∧ mec k = nI (ec k) ∧ ∀ e, e < ec k → pl k e = nI (en k e) ∧ men (64 * k + e) = nI (en k e)
def TbR (tk tv tb td : AI) (tc : Int32) (z : AI) (N T : Nat) (S : Nat → Nat) (P : Nat → Nat → Prop) (U : Nat → Prop) (K B D R : Nat → Nat) : Prop := tc = nI T ∧ (∀ q, U q → tk (R q) = nI (K q) ∧ tv (R q) = z q ∧ tb (R q) = nI (B q) ∧ td (R q) = oi (D q)) ∧ ∀ i, i < T → (∃ q, U q ∧ R q = i) ∨ ∃ b d, tb i = nI b ∧ td i = oi d ∧ b < N ∧ d ≤ N ∧ (S b = 2 ∨ ∃ e, d = e + 1 ∧ past N S P e)
def MpR (cmp mmp : AI) (cfz mfz : Int32) : Prop := cfz = mfz ∧ ∀ a, a < 4 → cmp a = mmp a ∧ (cmp a = 0 ∨ cmp a = 1)
def RlX (k : Nat) (u : CU) (v : MU) (N T n : Nat) (st S : Nat → Nat) (P : Nat → Nat → Prop) (U : Nat → Prop) (K B D X R : Nat → Nat) (F : Nat → Prop) (ec : Nat → Nat) (en : Nat → Nat → Nat) : Prop :=
  (TrB N n st ∧ TrI N S P ∧ TrC (c_cn u) (c_ns u) (c_sp u) (c_sn u) (c_ac u) (c_cm u) N n st S P ∧ TrM (m_cn v) (m_ns v) (m_st v) (m_sta v) (m_sn v) N n st S P) ∧
  (SlI N T S P U K B D X R F ∧ OrI S P U K B D R ∧ EnI S U K B X ec en) ∧
  (SlC (c_k u) (c_b u) (c_f u) (c_d u) (c_n u) (c_r u) (c_bs u) (c_ds u) st U K B D X R F ∧ SlM (m_us v) (m_k v) (m_v v) (m_b v) (m_fr v) (m_d v) (m_n v) (c_v u) U K B D X F ∧ RgM (m_b v) (m_d v) (m_n v) (m_k v) ∧ EnR (c_ct u) (c_pl u) (m_ec v) (m_en v) ec en) ∧
  (T ≤ k ∧ TbR (c_tk u) (c_tv u) (c_tb u) (c_td u) (c_tc u) (c_v u) N T S P U K B D R) ∧
  MpR (c_mp u) (m_mp v) (c_fz u) (m_fz v)
def Rl (k : Nat) (u : CU) (v : MU) : Prop := ∃ N T n st S P U K B D X R F ec en, RlX k u v N T n st S P U K B D X R F ec en
theorem Rl_up {k : Nat} {u : CU} {v : MU} {x : Int32} (h : Rl k u v) : Rl (k + 1) u (ms_thr v x) := by
  obtain ⟨N, T, n, st, S, P, U, K, B, D, X, R, F, ec, en, h1, h2, h3, ⟨h4, h5⟩, h6⟩ := h
  exact ⟨N, T, n, st, S, P, U, K, B, D, X, R, F, ec, en, h1, h2, h3, ⟨by omega, h5⟩, h6⟩
theorem Rl_up0 {k : Nat} {u : CU} {v : MU} (h : Rl k u v) : Rl (k + 1) u v := by
  obtain ⟨N, T, n, st, S, P, U, K, B, D, X, R, F, ec, en, h1, h2, h3, ⟨h4, h5⟩, h6⟩ := h
  exact ⟨N, T, n, st, S, P, U, K, B, D, X, R, F, ec, en, h1, h2, h3, ⟨by omega, h5⟩, h6⟩
/-- seen: F frozen, or known; and no death that is known -/
def seA (P : Nat → Nat → Prop) (B D : Nat → Nat) (F : Nat → Prop) (t q : Nat) : Prop := (F q ∨ B q = t ∨ P t (B q)) ∧ ∀ d, D q = d + 1 → ¬ (d = t ∨ P t d)
def baA (S : Nat → Nat) (P : Nat → Nat → Prop) (t x : Nat) : Prop := ¬ x = t ∧ (S x = 0 ∨ S x = 1) ∧ ¬ P t x
def rfA (S : Nat → Nat) (P : Nat → Nat → Prop) (U : Nat → Prop) (K B D : Nat → Nat) (t k : Nat) : Prop := ∃ q, U q ∧ K q = k ∧ (baA S P t (B q) ∨ ∃ d, D q = d + 1 ∧ baA S P t d)

section REL
variable {k N T n : Nat} {u : CU} {v : MU} {st S : Nat → Nat} {P : Nat → Nat → Prop} {U : Nat → Prop} {K B D X R : Nat → Nat} {F : Nat → Prop} {ec : Nat → Nat} {en : Nat → Nat → Nat} {t q : Nat}
theorem rl_N (H : RlX k u v N T n st S P U K B D X R F ec en) : N ≤ 60 ∧ c_cn u = nI N ∧ m_cn v = nI N := ⟨H.1.1.1, H.1.2.2.1.1, H.1.2.2.2.1⟩
theorem rl_T (H : RlX k u v N T n st S P U K B D X R F ec en) : T ≤ k ∧ c_tc u = nI T := ⟨H.2.2.2.1.1, H.2.2.2.1.2.1⟩
theorem rl_rM (H : RlX k u v N T n st S P U K B D X R F ec en) : rM v := by
  obtain ⟨⟨hB, hT, hC, hM⟩, ⟨hS, hO, hE⟩, ⟨sC, sM, rg, eR⟩, tR, mp⟩ := H
  refine ⟨by rw [hM.1]; exact rng_nI (by omega) (by have := hB.1; omega), rg, fun i hi => ?_⟩
  obtain ⟨a, b, c, d⟩ := eR i hi
  rw [c]
  refine ⟨rng_nI (by omega) (by omega), fun e he => ?_⟩
  rw [nat_nI (by omega)] at he
  rw [(d e he).2]
  exact rng_nI (by omega) (hS.1 _ (hE.1 i e hi he).1).1
theorem rl_ctP (H : RlX k u v N T n st S P U K B D X R F ec en) : ctP u := by
  intro i hi
  obtain ⟨a, b, c, d⟩ := H.2.2.1.2.2.2 i hi
  rw [b, nat_nI (by omega)]
  exact ⟨a, rfl⟩
theorem sn_lt {sn : AL} (h : ∀ t, t < N → ∀ j, bitL (sn t) j ↔ P t j) (hT : TrI N S P) (ht : t < N) {j : Nat} (hb : bitL (sn t) j) : j < t := (hT.2.1 t j ht ((h t ht j).mp hb)).1
theorem kn_C (H : RlX k u v N T n st S P U K B D X R F ec en) (ht : t < N) {x : Nat} (hx : x < 60) : knP u t (nI x) ↔ (x = t ∨ P t x) := by
  obtain ⟨⟨hB, hT, hC, hM⟩, -⟩ := H
  have h60 := hB.1
  unfold knP
  rw [has_at hx, hC.2.2.2.1 t ht x, nI_eq (by omega) (by omega)]
theorem kn_M (H : RlX k u v N T n st S P U K B D X R F ec en) (ht : t < N) {x : Nat} (hx : x < 60) : knM v t (nI x) ↔ (x = t ∨ P t x) := by
  obtain ⟨⟨hB, hT, hC, hM⟩, -⟩ := H
  have h60 := hB.1
  unfold knM
  rw [nat_nI (by omega), hM.2.2.2.2 t ht x, nI_eq (by omega) (by omega)]
theorem kn_Co (H : RlX k u v N T n st S P U K B D X R F ec en) (ht : t < N) {x : Nat} (hx : x ≤ 60) : knP u t (oi x) ↔ ∃ d, x = d + 1 ∧ (d = t ∨ P t d) := by
  cases x with
  | zero =>
    refine ⟨fun h => ?_, fun ⟨d, h, _⟩ => by omega⟩
    rcases h with h | h
    · exact absurd h.symm (nI_m1 t (by have := H.1.1.1; omega))
    · exact absurd h (has_neg (by decide))
  | succ x =>
    refine (kn_C H ht (x := x) (by omega)).trans ⟨fun h => ⟨x, rfl, h⟩, fun ⟨d, h, h2⟩ => ?_⟩
    have : d = x := by omega
    rw [← this]; exact h2
theorem rl_D (H : RlX k u v N T n st S P U K B D X R F ec en) (hq : U q) : D q ≤ N := by
  by_cases e : D q = 0
  · omega
  · have := (H.2.1.1.2.1 q (D q - 1) hq (by omega)).1; omega
theorem rl_X (H : RlX k u v N T n st S P U K B D X R F ec en) (hq : U q) : X q ≤ 32 := by
  by_cases e : X q = 0
  · omega
  · have := (H.2.1.1.1 _ (H.2.1.1.2.2.1 q (X q - 1) hq (by omega)).1).1; omega
theorem se_C (H : RlX k u v N T n st S P U K B D X R F ec en) (ht : t < N) (hq : U q) : seP u t q ↔ seA P B D F t q := by
  have h60 := H.1.1.1
  obtain ⟨q32, k6, bN, rT⟩ := H.2.1.1.1 q hq
  have hD := rl_D H hq
  obtain ⟨a1, a2, a3, a4, a5, a6, a7, a8⟩ := (H.2.2.1.1 q q32).1 hq
  unfold seP seA
  rw [a2, a4, a3, kn_C H ht (by omega), kn_Co H ht (by omega)]
  constructor
  · rintro ⟨h1, h2⟩
    refine ⟨h1.imp (fun h => Classical.byContradiction h) id, fun d hd hk => h2 ⟨d, hd, hk⟩⟩
  · rintro ⟨h1, h2⟩
    exact ⟨h1.imp (fun h k => k h) id, fun ⟨d, hd, hk⟩ => h2 d hd hk⟩
theorem se_M (H : RlX k u v N T n st S P U K B D X R F ec en) (ht : t < N) (hq : U q) : seM v t q ↔ seA P B D F t q := by
  have h60 := H.1.1.1
  obtain ⟨q32, k6, bN, rT⟩ := H.2.1.1.1 q hq
  have hD := rl_D H hq
  obtain ⟨a1, a2, a3, a4, a5, a6, a7⟩ := (H.2.2.1.2.1 q q32).1 hq
  unfold seM seA
  rw [a4, a6, a5, kn_M H ht (by omega), oi_0 (by omega)]
  constructor
  · rintro ⟨h1, h2⟩
    refine ⟨h1.imp (fun h => Classical.byContradiction h) id, fun d hd hk => ?_⟩
    rcases h2 with h2 | h2
    · omega
    · rw [hd] at h2
      exact h2 ((kn_M H ht (x := d) (by omega)).mpr hk)
  · rintro ⟨h1, h2⟩
    refine ⟨h1.imp (fun h k => k h) id, ?_⟩
    by_cases e : D q = 0
    · exact Or.inl e
    · obtain ⟨d, hd⟩ : ∃ d, D q = d + 1 := ⟨D q - 1, by omega⟩
      rw [hd]
      exact Or.inr (fun hk => h2 d hd ((kn_M H ht (x := d) (by omega)).mp hk))
/-- what an active one sees, it sees by what it knows -/
theorem se_vis (H : RlX k u v N T n st S P U K B D X R F ec en) (ht : t < N) (h0 : S t = 0) (hq : U q) : seA P B D F t q ↔ vis P B D t q := by
  unfold seA vis
  refine ⟨fun h => ⟨?_, h.2⟩, fun h => ⟨Or.inr h.1, h.2⟩⟩
  rcases h.1 with e | e
  · exact Or.inr (past_kn ht h0 (H.2.1.1.2.2.2.2 q hq e))
  · exact e
/-! the search -/
theorem sic_mch (H : RlX k u v N T n st S P U K B D X R F ec en) (ht : t < N) : ∀ m, (∀ q, U q → sic u t m (nI q) = mch v t m (nI q)) ∧ sic u t m (-1) = mch v t m (-1) := by
  intro m
  induction m with
  | zero => exact ⟨fun _ _ => rfl, rfl⟩
  | succ m ih =>
    refine ⟨fun q hq => ?_, by rw [sic_o pl_m1, mch_m]⟩
    obtain ⟨q32, k6, bN, rT⟩ := H.2.1.1.1 q hq
    have hX := rl_X H hq
    by_cases hs : seA P B D F t q
    · rw [sic_y q32 ((se_C H ht hq).mpr hs), mch_y q32 ((se_M H ht hq).mpr hs)]
    · rw [sic_n q32 (fun h => hs ((se_C H ht hq).mp h)), mch_n q32 (fun h => hs ((se_M H ht hq).mp h))]
      rw [((H.2.2.1.1 q q32).1 hq).2.2.2.2.1, ((H.2.2.1.2.1 q q32).1 hq).2.2.2.2.2.2]
      by_cases e : X q = 0
      · rw [e]; exact ih.2
      · obtain ⟨j, hj⟩ : ∃ j, X q = j + 1 := ⟨X q - 1, by omega⟩
        rw [hj]
        exact ih.1 j (H.2.1.1.2.2.1 q j hq hj).1
theorem spl_msn (H : RlX k u v N T n st S P U K B D X R F ec en) (ht : t < N) {i : Nat} (hi : i < 6) : ∀ m, m ≤ ec i → spl u t i m = msn v t i m := by
  intro m
  induction m with
  | zero => intro _; rfl
  | succ m ih =>
    intro hm
    obtain ⟨a, b, c, d⟩ := H.2.2.1.2.2.2 i hi
    obtain ⟨d1, d2⟩ := d m (by omega)
    rw [spl, msn, d1, d2, ih (by omega), (sic_mch H ht 8).1 _ (H.2.1.2.2.1 i m hi (by omega)).1]
    by_cases e : mch v t 8 (nI (en i m)) = -1
    · rw [if_pos e, cif_t e]
    · rw [if_neg e, cif_f e]
theorem mch_out (H : RlX k u v N T n st S P U K B D X R F ec en) (ht : t < N) : ∀ m q, U q → mch v t m (nI q) = -1 ∨ ∃ p, U p ∧ K p = K q ∧ seA P B D F t p ∧ mch v t m (nI q) = nI p := by
  intro m
  induction m with
  | zero => exact fun _ _ => Or.inl rfl
  | succ m ih =>
    intro q hq
    obtain ⟨q32, k6, bN, rT⟩ := H.2.1.1.1 q hq
    by_cases hs : seA P B D F t q
    · exact Or.inr ⟨q, hq, rfl, hs, mch_y q32 ((se_M H ht hq).mpr hs)⟩
    · rw [mch_n q32 (fun h => hs ((se_M H ht hq).mp h)), ((H.2.2.1.2.1 q q32).1 hq).2.2.2.2.2.2]
      by_cases e : X q = 0
      · rw [e]; exact Or.inl mch_m
      · obtain ⟨j, hj⟩ : ∃ j, X q = j + 1 := ⟨X q - 1, by omega⟩
        obtain ⟨z1, z2, z3, z4, z5⟩ := H.2.1.1.2.2.1 q j hq hj
        rw [hj]
        rcases ih j z1 with h | ⟨p, h1, h2, h3, h4⟩
        · exact Or.inl h
        · exact Or.inr ⟨p, h1, by rw [h2, z3], h3, h4⟩
theorem msn_out (H : RlX k u v N T n st S P U K B D X R F ec en) (ht : t < N) {i : Nat} (hi : i < 6) : ∀ m, m ≤ ec i → msn v t i m = -1 ∨ ∃ p, U p ∧ K p = i ∧ seA P B D F t p ∧ msn v t i m = nI p := by
  intro m
  induction m with
  | zero => exact fun _ => Or.inl rfl
  | succ m ih =>
    intro hm
    obtain ⟨a, b, c, d⟩ := H.2.2.1.2.2.2 i hi
    obtain ⟨ue, ke⟩ := H.2.1.2.2.1 i m hi (by omega)
    rw [msn, (d m (by omega)).2]
    by_cases e : mch v t 8 (nI (en i m)) = -1
    · rw [cif_t e]; exact ih (by omega)
    · rw [cif_f e]
      rcases mch_out H ht 8 _ ue with h | ⟨p, h1, h2, h3, h4⟩
      · exact absurd h e
      · exact Or.inr ⟨p, h1, by rw [h2, ke], h3, h4⟩
theorem msn_m1 {i : Nat} : ∀ m, msn v t i m = -1 → ∀ e, e < m → mch v t 8 (m_en v (64 * i + e)) = -1 := by
  intro m
  induction m with
  | zero => exact fun _ e he => absurd he (Nat.not_lt_zero _)
  | succ m ih =>
    intro h e he
    rw [msn] at h
    by_cases g : mch v t 8 (m_en v (64 * i + m)) = -1
    · rw [cif_t g] at h
      by_cases g2 : e = m
      · rw [g2]; exact g
      · exact ih h e (by omega)
    · rw [cif_f g] at h; exact absurd h g
/-! chains end: as many slots as a page has from a row of the table on -/
noncomputable def cnu (U : Nat → Prop) (R : Nat → Nat) (a r : Nat) : Nat := ctq (fun j => U (8 * a + j) ∧ r ≤ R (8 * a + j)) 8
theorem ctq_le {p q : Nat → Prop} (h : ∀ j, p j → q j) : ∀ m, ctq p m ≤ ctq q m := by
  intro m
  induction m with
  | zero => exact Nat.le_refl _
  | succ m ih =>
    rw [ctq, ctq]
    by_cases e : p m
    · rw [cif_t e, cif_t (h m e)]; omega
    · rw [cif_f e]; omega
theorem ctq_lt {p q : Nat → Prop} (h : ∀ j, p j → q j) {i : Nat} (h1 : ¬ p i) (h2 : q i) : ∀ m, i < m → ctq p m < ctq q m := by
  intro m
  induction m with
  | zero => intro hm; omega
  | succ m ih =>
    intro hm
    rw [ctq, ctq]
    by_cases e : i = m
    · rw [← e, cif_f h1, cif_t h2]
      have := ctq_le h i; omega
    · have := ih (by omega)
      by_cases g : p m
      · rw [cif_t g, cif_t (h m g)]; omega
      · rw [cif_f g]; omega
theorem ctq_b {p : Nat → Prop} : ∀ m, ctq p m ≤ m := by
  intro m
  induction m with
  | zero => exact Nat.le_refl _
  | succ m ih =>
    rw [ctq]
    by_cases e : p m
    · rw [cif_t e]; omega
    · rw [cif_f e]; omega
theorem cnu_lt {a r r2 q : Nat} (ha : q / 8 = a) (hq : U q) (hr : R q = r) (h : r < r2) : cnu U R a r2 < cnu U R a r := by
  have e : 8 * a + q % 8 = q := by omega
  refine ctq_lt (fun j hj => ⟨hj.1, by omega⟩) (i := q % 8) ?_ ?_ 8 (by omega)
  · rw [e]; intro h2; omega
  · rw [e]; exact ⟨hq, by omega⟩
theorem rl_ends (H : RlX k u v N T n st S P U K B D X R F ec en) : ∀ m q, U q → cnu U R (q / 8) (R q) ≤ m → ends v m (nI q) := by
  intro m
  induction m with
  | zero =>
    intro q hq h
    have := cnu_lt (U := U) (R := R) rfl hq rfl (show R q < R q + 1 by omega)
    omega
  | succ m ih =>
    intro q hq h
    obtain ⟨q32, k6, bN, rT⟩ := H.2.1.1.1 q hq
    refine Or.inr ⟨rng_nI (by omega) q32, ?_⟩
    rw [nat_nI (by omega), ((H.2.2.1.2.1 q q32).1 hq).2.2.2.2.2.2]
    by_cases e : X q = 0
    · rw [e]
      cases m with
      | zero => exact rfl
      | succ m => exact Or.inl rfl
    · obtain ⟨j, hj⟩ : ∃ j, X q = j + 1 := ⟨X q - 1, by omega⟩
      obtain ⟨z1, z2, z3, z4, z5⟩ := H.2.1.1.2.2.1 q j hq hj
      rw [hj]
      refine ih j z1 ?_
      have := cnu_lt (U := U) (R := R) rfl hq rfl z4
      rw [z2]; omega
theorem rl_enM (H : RlX k u v N T n st S P U K B D X R F ec en) : enM v := by
  intro i hi e he
  obtain ⟨a, b, c, d⟩ := H.2.2.1.2.2.2 i hi
  rw [c, nat_nI (by omega)] at he
  rw [(d e he).2]
  exact rl_ends H 8 _ (H.2.1.2.2.1 i e hi he).1 (ctq_b 8)
/-- whom the search doesn't find: no slot of a key that isn't taken back is seen -/
theorem rl_none (H : RlX k u v N T n st S P U K B D X R F ec en) (ht : t < N) {i : Nat} (hi : i < 6) (h : msn v t i (ec i) = -1) : ∀ r q, R q ≤ r → U q → K q = i → ¬ S (B q) = 2 → ¬ seA P B D F t q ∧ ∃ m, mch v t (m + 1) (nI q) = -1 ∧ ends v (m + 1) (nI q) := by
  have key : ∀ q, U q → (∃ m, mch v t (m + 1) (nI q) = -1 ∧ ends v (m + 1) (nI q)) → ¬ seA P B D F t q := by
    intro q hq ⟨m, h1, h2⟩ hs
    obtain ⟨q32, k6, bN, rT⟩ := H.2.1.1.1 q hq
    rw [mch_y q32 ((se_M H ht hq).mpr hs)] at h1
    exact nI_m1 q (by omega) h1
  intro r
  induction r with
  | zero =>
    intro q hr hq hk ha
    have hm : ∃ m, mch v t (m + 1) (nI q) = -1 ∧ ends v (m + 1) (nI q) := by
      rcases H.2.1.2.2.2.2.2.2 q hq ha with ⟨e, he, hee⟩ | ⟨p, hp, hx⟩
      · rw [hk] at he hee
        obtain ⟨a, b, c, d⟩ := H.2.2.1.2.2.2 i hi
        have := msn_m1 (ec i) h e he
        rw [(d e he).2, hee] at this
        exact ⟨7, this, rl_ends H 8 _ hq (ctq_b 8)⟩
      · have := (H.2.1.1.2.2.1 p q hp hx).2.2.2.1; omega
    exact ⟨key q hq hm, hm⟩
  | succ r ih =>
    intro q hr hq hk ha
    have hm : ∃ m, mch v t (m + 1) (nI q) = -1 ∧ ends v (m + 1) (nI q) := by
      rcases H.2.1.2.2.2.2.2.2 q hq ha with ⟨e, he, hee⟩ | ⟨p, hp, hx⟩
      · rw [hk] at he hee
        obtain ⟨a, b, c, d⟩ := H.2.2.1.2.2.2 i hi
        have := msn_m1 (ec i) h e he
        rw [(d e he).2, hee] at this
        exact ⟨7, this, rl_ends H 8 _ hq (ctq_b 8)⟩
      · obtain ⟨z1, z2, z3, z4, z5⟩ := H.2.1.1.2.2.1 p q hp hx
        have pa : ¬ S (B p) = 2 := by
          rcases z5 with z5 | z5
          · rw [z5]; exact ha
          · have := (H.1.2.1.2.1 _ _ (H.2.1.1.1 q hq).2.2.1 z5).2; omega
        obtain ⟨n1, m, m1, m2⟩ := ih p (by omega) hp (by omega) pa
        obtain ⟨p32, k6, bN, rT⟩ := H.2.1.1.1 p hp
        have xp := ((H.2.2.1.2.1 p p32).1 hp).2.2.2.2.2.2
        rw [hx] at xp
        rw [mch_n p32 (fun h => n1 ((se_M H ht hp).mp h)), xp] at m1
        rcases m2 with m2 | ⟨m2, m3⟩
        · exact absurd m2 (nI_m1 p (by omega))
        · rw [nat_nI (by omega), xp] at m3
          cases m with
          | zero => exact absurd m3 (nI_m1 q (by have := (H.2.1.1.1 q hq).1; omega))
          | succ m => exact ⟨m, m1, m3⟩
    exact ⟨key q hq hm, hm⟩
/-- what is seen, is found -/
theorem rl_found (H : RlX k u v N T n st S P U K B D X R F ec en) (ht : t < N) (h0 : S t = 0) {i : Nat} (hi : i < 6) {q : Nat} (hq : U q) (hk : K q = i) (hs : seA P B D F t q) : msn v t i (ec i) = nI q := by
  have hv := (se_vis H ht h0 hq).mp hs
  have ha := vis_alive H.1.2.1 ht h0 hv
  rcases msn_out H ht hi (ec i) (Nat.le_refl _) with h | ⟨p, h1, h2, h3, h4⟩
  · exact absurd hs (rl_none H ht hi h (R q) q (Nat.le_refl _) hq hk ha).1
  · rw [h4]
    have := vis_one H.1.2.1 H.2.1.1 H.2.1.2.1 ht h0 hq h1 (by rw [hk, h2]) hv ((se_vis H ht h0 h1).mp h3)
    rw [this]
end REL

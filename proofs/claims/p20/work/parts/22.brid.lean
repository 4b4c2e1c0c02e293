/-! ===== what both sides ask of their states, asked of the plain numbers ===== -/
theorem bitL_or {a b : Int64} {j : Nat} : bitL (a ||| b) j ↔ bitL a j ∨ bitL b j := by
  unfold bitL
  rw [Int64.toBitVec_or, BitVec.getLsbD_or, Bool.or_eq_true]
theorem bitL_and {a b : Int64} {j : Nat} : bitL (a &&& b) j ↔ bitL a j ∧ bitL b j := by
  unfold bitL
  rw [Int64.toBitVec_and, BitVec.getLsbD_and, Bool.and_eq_true]
def agA (n : Nat) (st : Nat → Nat) (t : Nat) : Nat := (n + 64 - st t) % 64
noncomputable def acA (n : Nat) (st S : Nat → Nat) (t : Nat) : Nat := cif (S t = 0) (agA n st t) 0
noncomputable def bA (n : Nat) (st : Nat → Nat) (U : Nat → Prop) (B : Nat → Nat) (F : Nat → Prop) (q : Nat) : Nat := cif (U q ∧ ¬ F q) (agA n st (B q)) 0
noncomputable def dA (n : Nat) (st : Nat → Nat) (U : Nat → Prop) (D : Nat → Nat) (q : Nat) : Nat := cif (U q ∧ ¬ D q = 0) (agA n st (D q - 1)) 0
def whA (N : Nat) (S : Nat → Nat) (P : Nat → Nat → Prop) (U : Nat → Prop) (B D : Nat → Nat) (F : Nat → Prop) (a : Nat) : Prop := ∀ q, U q → q / 8 = a → D q = 0 ∧ (F q ∨ past N S P (B q))
def cgA (N : Nat) (S : Nat → Nat) (P : Nat → Nat → Prop) (U : Nat → Prop) (B D : Nat → Nat) (q : Nat) : Prop := U q ∧ (S (B q) = 2 ∨ ∃ d, D q = d + 1 ∧ past N S P d)
theorem agA_lt {n : Nat} {st : Nat → Nat} {t : Nat} : agA n st t < 64 := Nat.mod_lt _ (by decide)
theorem cif_lt {q : Prop} {a b m : Nat} (ha : a < m) (hb : b < m) : cif q a b < m := by
  by_cases h : q
  · rw [cif_t h]; exact ha
  · rw [cif_f h]; exact hb
section BRID
variable {k N T n : Nat} {u : CU} {v : MU} {st S : Nat → Nat} {P : Nat → Nat → Prop} {U : Nat → Prop} {K B D X R : Nat → Nat} {F : Nat → Prop} {ec : Nat → Nat} {en : Nat → Nat → Nat} {t q : Nat}
theorem rl_wb (H : RlX k u v N T n st S P U K B D X R F ec en) {x : Int32} : wbP u x ↔ ∃ t, t < N ∧ x = nI t := by
  obtain ⟨h60, hc, hm⟩ := rl_N H
  refine ⟨fun h => wb_at h60 hc h, fun ⟨t, ht, e⟩ => ?_⟩
  rw [e]
  exact ⟨nI_pos (by omega), by rw [hc]; exact nI_ge ht (by omega)⟩
theorem rl_tr (H : RlX k u v N T n st S P U K B D X R F ec en) {x : Int32} : trP v x ↔ ∃ t, t < N ∧ x = nI t := by
  obtain ⟨h60, hc, hm⟩ := rl_N H
  refine ⟨fun h => tr_at (by omega) hm h, fun ⟨t, ht, e⟩ => ?_⟩
  rw [e]
  refine ⟨nI_pos (by omega), ?_⟩
  rw [hm]
  obtain ⟨N', rfl⟩ : ∃ N', N = N' + 1 := ⟨N - 1, by omega⟩
  rw [nI_pred]
  intro h
  have := (nI_ltI (by omega) (by omega)).mp h
  omega
theorem rl_ac (H : RlX k u v N T n st S P U K B D X R F ec en) (ht : t < N) : hasP (c_ac u) (nI t) ↔ S t = 0 := by
  obtain ⟨h60, hc, hm⟩ := rl_N H
  rw [has_at (by omega), H.1.2.2.1.2.2.2.2.1 t]
  exact ⟨fun h => h.2, fun h => ⟨ht, h⟩⟩
theorem rl_sta (H : RlX k u v N T n st S P U K B D X R F ec en) (ht : t < N) {c : Nat} (hc : c ≤ 2) : m_sta v t = nI c ↔ S t = c := by
  have := H.1.2.1.1 t ht
  rw [H.1.2.2.2.2.2.2.1 t ht, nI_eq (by omega) (by omega)]
theorem rl_acm (H : RlX k u v N T n st S P U K B D X R F ec en) {x : Nat} (hx : x < N) : hasP (c_ac u ||| c_cm u) (nI x) ↔ S x = 0 ∨ S x = 1 := by
  obtain ⟨h60, hc, hm⟩ := rl_N H
  rw [has_at (by omega), bitL_or, H.1.2.2.1.2.2.2.2.1 x, H.1.2.2.1.2.2.2.2.2 x]
  exact ⟨fun h => h.imp (fun h => h.2) (fun h => h.2), fun h => h.imp (fun h => ⟨hx, h⟩) (fun h => ⟨hx, h⟩)⟩
theorem rv_C (H : RlX k u v N T n st S P U K B D X R F ec en) (ht : t < N) {x : Nat} (hx : x < N) : rvP u t (nI x) ↔ baA S P t x := by
  obtain ⟨h60, hc, hm⟩ := rl_N H
  unfold rvP baA
  rw [rl_acm H hx, kn_C H ht (by omega)]
  exact ⟨fun ⟨a, b⟩ => ⟨fun e => b (Or.inl e), a, fun e => b (Or.inr e)⟩, fun ⟨a, b, c⟩ => ⟨b, fun e => e.elim a c⟩⟩
theorem rv_Co (H : RlX k u v N T n st S P U K B D X R F ec en) (ht : t < N) {x : Nat} (hx : x ≤ N) : rvP u t (oi x) ↔ ∃ d, x = d + 1 ∧ baA S P t d := by
  cases x with
  | zero => exact ⟨fun h => absurd h.1 (has_neg (by decide)), fun ⟨d, h, _⟩ => by omega⟩
  | succ x =>
    refine (rv_C H ht (x := x) (by omega)).trans ⟨fun h => ⟨x, rfl, h⟩, fun ⟨d, h, h2⟩ => ?_⟩
    have : d = x := by omega
    rw [← this]; exact h2
theorem ba_M (H : RlX k u v N T n st S P U K B D X R F ec en) (ht : t < N) {x : Nat} (hx : x < N) : baP v t (nI x) ↔ baA S P t x := by
  obtain ⟨h60, hc, hm⟩ := rl_N H
  unfold baP baA
  have e0 := rl_sta H hx (c := 0) (by omega)
  have e1 := rl_sta H hx (c := 1) (by omega)
  rw [nat_nI (by omega), show (m_sta v x = 0) = (S x = 0) from propext e0, show (m_sta v x = 1) = (S x = 1) from propext e1, H.1.2.2.2.2.2.2.2 t ht x, nI_eq (by omega) (by omega)]
  constructor
  · rintro ⟨_, a, b⟩
    refine ⟨a, b.imp id (fun h => h.1), fun p => ?_⟩
    rcases b with b | b
    · have := (H.1.2.1.2.1 t x ht p).2; omega
    · exact b.2 p
  · rintro ⟨a, b, c⟩
    exact ⟨nI_m1 x (by omega), a, b.imp id (fun h => ⟨h, c⟩)⟩
theorem ba_Mo (H : RlX k u v N T n st S P U K B D X R F ec en) (ht : t < N) {x : Nat} (hx : x ≤ N) : baP v t (oi x) ↔ ∃ d, x = d + 1 ∧ baA S P t d := by
  cases x with
  | zero => exact ⟨fun h => absurd rfl h.1, fun ⟨d, h, _⟩ => by omega⟩
  | succ x =>
    refine (ba_M H ht (x := x) (by omega)).trans ⟨fun h => ⟨x, rfl, h⟩, fun ⟨d, h, h2⟩ => ?_⟩
    have : d = x := by omega
    rw [← this]; exact h2
theorem rf_C (H : RlX k u v N T n st S P U K B D X R F ec en) (ht : t < N) {i : Nat} (hi : i < 6) : rfP u t i ↔ rfA S P U K B D t i := by
  constructor
  · rintro ⟨q, q32, hk, h⟩
    by_cases hq : U q
    · obtain ⟨a1, a2, a3, a4, a5, a6, a7, a8⟩ := (H.2.2.1.1 q q32).1 hq
      obtain ⟨-, k6, bN, rT⟩ := H.2.1.1.1 q hq
      rw [a1, nI_eq (by omega) (by omega)] at hk
      rw [a2, a4, rv_C H ht bN, rv_Co H ht (rl_D H hq)] at h
      exact ⟨q, hq, hk, h⟩
    · obtain ⟨a1, -⟩ := (H.2.2.1.1 q q32).2 hq
      rw [a1] at hk
      exact absurd hk.symm (nI_m1 i (by omega))
  · rintro ⟨q, hq, hk, h⟩
    obtain ⟨q32, k6, bN, rT⟩ := H.2.1.1.1 q hq
    obtain ⟨a1, a2, a3, a4, a5, a6, a7, a8⟩ := (H.2.2.1.1 q q32).1 hq
    refine ⟨q, q32, by rw [a1, hk], ?_⟩
    rw [a2, a4, rv_C H ht bN, rv_Co H ht (rl_D H hq)]
    exact h
theorem rf_M (H : RlX k u v N T n st S P U K B D X R F ec en) (ht : t < N) {i : Nat} (hi : i < 6) : rfM v t i 32 ↔ rfA S P U K B D t i := by
  constructor
  · rintro ⟨q, q32, hu, hk, h⟩
    by_cases hq : U q
    · obtain ⟨a1, a2, a3, a4, a5, a6, a7⟩ := (H.2.2.1.2.1 q q32).1 hq
      obtain ⟨-, k6, bN, rT⟩ := H.2.1.1.1 q hq
      rw [a2, nI_eq (by omega) (by omega)] at hk
      rw [a4, a6, ba_M H ht bN, ba_Mo H ht (rl_D H hq)] at h
      exact ⟨q, hq, hk, h⟩
    · exact absurd ((H.2.2.1.2.1 q q32).2 hq) hu
  · rintro ⟨q, hq, hk, h⟩
    obtain ⟨q32, k6, bN, rT⟩ := H.2.1.1.1 q hq
    obtain ⟨a1, a2, a3, a4, a5, a6, a7⟩ := (H.2.2.1.2.1 q q32).1 hq
    refine ⟨q, q32, a1, by rw [a2, hk], ?_⟩
    rw [a4, a6, ba_M H ht bN, ba_Mo H ht (rl_D H hq)]
    exact h
/-! free slots -/
theorem lf_lfm (H : RlX k u v N T n st S P U K B D X R F ec en) : ∀ m a, a + m ≤ 32 → lf (c_k u) a m = lfm (m_us v) a m := by
  intro m
  induction m with
  | zero => exact fun _ _ => rfl
  | succ m ih =>
    intro a h
    rw [lf, lfm, ih (a + 1) (by omega)]
    by_cases hq : U a
    · rw [if_neg (by rw [((H.2.2.1.1 a (by omega)).1 hq).1]; exact nI_m1 _ (by have := (H.2.1.1.1 a hq).2.1; omega)), if_neg ((H.2.2.1.2.1 a (by omega)).1 hq).1]
    · rw [if_pos ((H.2.2.1.1 a (by omega)).2 hq).1, if_pos ((H.2.2.1.2.1 a (by omega)).2 hq)]
theorem lf_out (H : RlX k u v N T n st S P U K B D X R F ec en) : ∀ m a, a + m ≤ 32 → (lf (c_k u) a m = -1 ∧ ∀ j, a ≤ j → j < a + m → U j) ∨ ∃ w, a ≤ w ∧ w < a + m ∧ ¬ U w ∧ lf (c_k u) a m = nI w := by
  intro m
  induction m with
  | zero => exact fun a _ => Or.inl ⟨rfl, fun j h1 h2 => by omega⟩
  | succ m ih =>
    intro a h
    by_cases hq : U a
    · rw [lf, if_neg (by rw [((H.2.2.1.1 a (by omega)).1 hq).1]; exact nI_m1 _ (by have := (H.2.1.1.1 a hq).2.1; omega))]
      rcases ih (a + 1) (by omega) with ⟨h1, h2⟩ | ⟨w, h1, h2, h3, h4⟩
      · refine Or.inl ⟨h1, fun j j1 j2 => ?_⟩
        by_cases e : j = a
        · rw [e]; exact hq
        · exact h2 j (by omega) (by omega)
      · exact Or.inr ⟨w, by omega, by omega, h3, h4⟩
    · rw [lf, if_pos ((H.2.2.1.1 a (by omega)).2 hq).1]
      exact Or.inr ⟨a, by omega, by omega, hq, rfl⟩
/-! ages -/
theorem age_C (H : RlX k u v N T n st S P U K B D X R F ec en) (ht : t < N) : fm (c_ns u - nI (st t)) = nI (agA n st t) := by
  rw [H.1.2.2.1.2.1]
  exact fm_n n H.1.1.2.1 (st t) (H.1.1.2.2 t ht)
theorem age_M (H : RlX k u v N T n st S P U K B D X R F ec en) (ht : t < N) : ag v t = nI (agA n st t) := by
  unfold ag
  rw [H.1.2.2.2.2.1, H.1.2.2.2.2.2.1 t ht]
  exact am_n n H.1.1.2.1 (st t) (H.1.1.2.2 t ht)
theorem acA_lt {t : Nat} : acA n st S t < 64 := cif_lt agA_lt (by omega)
theorem slA_lt {q : Nat} : max (dA n st U D q) (bA n st U B F q) < 64 := by
  have h1 : dA n st U D q < 64 := cif_lt agA_lt (by omega)
  have h2 : bA n st U B F q < 64 := cif_lt agA_lt (by omega)
  omega
theorem rl_oaa (H : RlX k u v N T n st S P U K B D X R F ec en) : ∀ m, m ≤ N → oaa u m = nI (amx (acA n st S) m) := by
  intro m
  induction m with
  | zero => intro _; rfl
  | succ m ih =>
    intro hm
    have hl := amx_lt (f := acA n st S) (m := 64) (by omega) (fun i => acA_lt) m
    by_cases e : S m = 0
    · rw [oaa_t ((rl_ac H (by omega)).mpr e), ih (by omega), H.1.2.2.1.2.2.1 m (by omega), age_C H (by omega), mx_n (by omega) (by have := @agA_lt n st m; omega), amx]
      rw [show acA n st S m = agA n st m from cif_t e, Nat.max_comm]
    · rw [oaa_f (fun h => e ((rl_ac H (by omega)).mp h)), ih (by omega), amx]
      rw [show acA n st S m = 0 from cif_f e, Nat.zero_max]
theorem rl_olg (H : RlX k u v N T n st S P U K B D X R F ec en) : ∀ m, m ≤ 32 → olg u N m = nI (max (amx (acA n st S) N) (amx (fun q => max (dA n st U D q) (bA n st U B F q)) m)) := by
  intro m
  induction m with
  | zero => intro _; rw [olg, amx, rl_oaa H N (Nat.le_refl _), Nat.max_zero]
  | succ m ih =>
    intro hm
    have l1 := amx_lt (f := acA n st S) (m := 64) (by omega) (fun i => acA_lt) N
    have l2 := amx_lt (f := fun q => max (dA n st U D q) (bA n st U B F q)) (m := 64) (by omega) (fun i => slA_lt) m
    rw [olg, ih (by omega), amx]
    generalize amx (acA n st S) N = x1 at l1
    generalize amx (fun q => max (dA n st U D q) (bA n st U B F q)) m = x2 at l2
    have hb : olb u m (nI (max x1 x2)) = nI (max (max x1 x2) (bA n st U B F m)) := by
      by_cases hq : U m
      · obtain ⟨a1, a2, a3, a4, a5, a6, a7, a8⟩ := (H.2.2.1.1 m (by omega)).1 hq
        obtain ⟨-, k6, bN, rT⟩ := H.2.1.1.1 m hq
        have hus : usP u m := by unfold usP; rw [a1]; exact nI_m1 _ (by omega)
        by_cases hf : F m
        · rw [olb_n (fun h => (a3.mp h.2) hf), show bA n st U B F m = 0 from cif_f (fun h => h.2 hf), Nat.max_zero]
        · rw [olb_y hus (a3.mpr hf), a7, age_C H bN, mx_n (by omega) (by have := @agA_lt n st (B m); omega), show bA n st U B F m = agA n st (B m) from cif_t ⟨hq, hf⟩]
      · rw [olb_n (fun h => h.1 ((H.2.2.1.1 m (by omega)).2 hq).1), show bA n st U B F m = 0 from cif_f (fun h => hq h.1), Nat.max_zero]
    have lb : bA n st U B F m < 64 := cif_lt agA_lt (by omega)
    rw [hb]
    have hd : old u m (nI (max (max x1 x2) (bA n st U B F m))) = nI (max (max (max x1 x2) (bA n st U B F m)) (dA n st U D m)) := by
      by_cases hq : U m
      · obtain ⟨a1, a2, a3, a4, a5, a6, a7, a8⟩ := (H.2.2.1.1 m (by omega)).1 hq
        have hDN := rl_D H hq
        have h60 := H.1.1.1
        by_cases hd : D m = 0
        · rw [old_n (by unfold hdP; rw [a4, hd]; exact fun h => h rfl), show dA n st U D m = 0 from cif_f (fun h => h.2 hd), Nat.max_zero]
        · obtain ⟨e, he⟩ : ∃ e, D m = e + 1 := ⟨D m - 1, by omega⟩
          rw [old_y (by unfold hdP; rw [a4, oi_0 (by omega)]; exact hd), a8 e he, age_C H (by omega), mx_n (by omega) (by have := @agA_lt n st e; omega), show dA n st U D m = agA n st (D m - 1) from cif_t ⟨hq, hd⟩, he]
          rfl
      · rw [old_n (by unfold hdP; rw [((H.2.2.1.1 m (by omega)).2 hq).2.2.2.1]; exact fun h => h rfl), show dA n st U D m = 0 from cif_f (fun h => hq h.1), Nat.max_zero]
    rw [hd]
    congr 1
    omega
theorem rl_og1 (H : RlX k u v N T n st S P U K B D X R F ec en) : ∀ m, m ≤ 32 → og1 v m = nI (amx (fun q => max (dA n st U D q) (bA n st U B F q)) m) := by
  intro m
  induction m with
  | zero => intro _; rfl
  | succ m ih =>
    intro hm
    have l2 := amx_lt (f := fun q => max (dA n st U D q) (bA n st U B F q)) (m := 64) (by omega) (fun i => slA_lt) m
    rw [og1, ih (by omega), amx]
    generalize amx (fun q => max (dA n st U D q) (bA n st U B F q)) m = x2 at l2
    have lb : bA n st U B F m < 64 := cif_lt agA_lt (by omega)
    have ld : dA n st U D m < 64 := cif_lt agA_lt (by omega)
    have hb : bo v m = nI (bA n st U B F m) := by
      by_cases hq : U m
      · obtain ⟨a1, a2, a3, a4, a5, a6, a7⟩ := (H.2.2.1.2.1 m (by omega)).1 hq
        obtain ⟨-, k6, bN, rT⟩ := H.2.1.1.1 m hq
        have h60 := H.1.1.1
        unfold bo
        by_cases hf : F m
        · rw [cif_f (fun h => (a5.mp h.2) hf), show bA n st U B F m = 0 from cif_f (fun h => h.2 hf)]; rfl
        · rw [cif_t ⟨a1, a5.mpr hf⟩, a4, nat_nI (by omega), age_M H bN, show bA n st U B F m = agA n st (B m) from cif_t ⟨hq, hf⟩]
      · unfold bo
        rw [cif_f (fun h => h.1 ((H.2.2.1.2.1 m (by omega)).2 hq)), show bA n st U B F m = 0 from cif_f (fun h => hq h.1)]; rfl
    have hd : di v m = nI (dA n st U D m) := by
      by_cases hq : U m
      · obtain ⟨a1, a2, a3, a4, a5, a6, a7⟩ := (H.2.2.1.2.1 m (by omega)).1 hq
        have hDN := rl_D H hq
        have h60 := H.1.1.1
        unfold di
        by_cases hd : D m = 0
        · rw [cif_f (by rw [a6, hd]; exact fun h => h.2 rfl), show dA n st U D m = 0 from cif_f (fun h => h.2 hd)]; rfl
        · obtain ⟨e, he⟩ : ∃ e, D m = e + 1 := ⟨D m - 1, by omega⟩
          rw [cif_t ⟨a1, by rw [a6, oi_0 (by omega)]; exact hd⟩, a6, he, show oi (e + 1) = nI e from rfl, nat_nI (by omega), age_M H (by omega), show dA n st U D m = agA n st (D m - 1) from cif_t ⟨hq, hd⟩, he]
          rfl
      · unfold di
        rw [cif_f (fun h => h.1 ((H.2.2.1.2.1 m (by omega)).2 hq)), show dA n st U D m = 0 from cif_f (fun h => hq h.1)]; rfl
    rw [hb, hd, mg_n (by omega) (by omega), mg_n (by omega) (by omega)]
    congr 1
    omega
theorem rl_og2 (H : RlX k u v N T n st S P U K B D X R F ec en) : ∀ m, m ≤ N → og2 v m = nI (max (amx (acA n st S) m) (amx (fun q => max (dA n st U D q) (bA n st U B F q)) 32)) := by
  intro m
  induction m with
  | zero => intro _; rw [og2, amx, rl_og1 H 32 (Nat.le_refl _), Nat.zero_max]
  | succ m ih =>
    intro hm
    have l1 := amx_lt (f := acA n st S) (m := 64) (by omega) (fun i => acA_lt) m
    have l2 := amx_lt (f := fun q => max (dA n st U D q) (bA n st U B F q)) (m := 64) (by omega) (fun i => slA_lt) 32
    have la := @agA_lt n st m
    rw [og2, ih (by omega), age_M H (by omega), show amx (acA n st S) (m + 1) = max (acA n st S m) (amx (acA n st S) m) from rfl]
    generalize amx (acA n st S) m = x1 at l1
    generalize amx (fun q => max (dA n st U D q) (bA n st U B F q)) 32 = x2 at l2
    by_cases e : S m = 0
    · rw [show acA n st S m = agA n st m from cif_t e]
      by_cases h : nI (agA n st m) ≤ nI (max x1 x2)
      · rw [cif_f (fun z => z.2 h)]
        rw [Int32.le_iff_toInt_le, nI_toInt (by omega), nI_toInt (by omega)] at h
        congr 1
        omega
      · rw [cif_t ⟨(rl_sta H (by omega) (c := 0) (by omega)).mpr e, h⟩]
        rw [Int32.le_iff_toInt_le, nI_toInt (by omega), nI_toInt (by omega)] at h
        congr 1
        omega
    · rw [cif_f (fun z => e ((rl_sta H (by omega) (c := 0) (by omega)).mp z.1)), show acA n st S m = 0 from cif_f e, Nat.zero_max]
theorem rl_og (H : RlX k u v N T n st S P U K B D X R F ec en) : ∃ a, a < 64 ∧ olg u N 32 = nI a ∧ og2 v N = nI a := by
  have l1 := amx_lt (f := acA n st S) (m := 64) (by omega) (fun i => acA_lt) N
  have l2 := amx_lt (f := fun q => max (dA n st U D q) (bA n st U B F q)) (m := 64) (by omega) (fun i => slA_lt) 32
  exact ⟨_, by omega, rl_olg H 32 (Nat.le_refl _), rl_og2 H N (Nat.le_refl _)⟩
/-! settled ones -/
theorem stl_bit (H : RlX k u v N T n st S P U K B D X R F ec en) (j : Nat) : ∀ m, m ≤ N → (bitL (stl u m) j ↔ (j < N ∧ S j = 1) ∧ ∀ a, a < m → S a = 0 → P a j) := by
  intro m
  induction m with
  | zero => intro _; exact (H.1.2.2.1.2.2.2.2.2 j).trans ⟨fun h => ⟨h, fun a ha => by omega⟩, fun h => h.1⟩
  | succ m ih =>
    intro hm
    by_cases e : S m = 0
    · rw [stl_t ((rl_ac H (by omega)).mpr e), bitL_and, ih (by omega), H.1.2.2.1.2.2.2.1 m (by omega) j]
      refine ⟨fun ⟨⟨h1, h2⟩, h3⟩ => ⟨h1, fun a ha h0 => ?_⟩, fun ⟨h1, h2⟩ => ⟨⟨h1, fun a ha => h2 a (by omega)⟩, h2 m (by omega) e⟩⟩
      by_cases g : a = m
      · rw [g]; exact h3
      · exact h2 a (by omega) h0
    · rw [stl_f (fun h => e ((rl_ac H (by omega)).mp h)), ih (by omega)]
      refine ⟨fun ⟨h1, h2⟩ => ⟨h1, fun a ha h0 => h2 a ?_ h0⟩, fun ⟨h1, h2⟩ => ⟨h1, fun a ha => h2 a (by omega)⟩⟩
      by_cases g : a = m
      · rw [g] at h0; exact absurd h0 e
      · omega
theorem stl_C (H : RlX k u v N T n st S P U K B D X R F ec en) {x : Nat} (hx : x < N) : hasP (stl u N) (nI x) ↔ past N S P x := by
  have h60 := H.1.1.1
  rw [has_at (by omega), stl_bit H x N (Nat.le_refl _)]
  exact ⟨fun h => ⟨h.1.2, h.2⟩, fun h => ⟨⟨hx, h.1⟩, h.2⟩⟩
theorem stl_Co (H : RlX k u v N T n st S P U K B D X R F ec en) {x : Nat} (hx : x ≤ N) : hasP (stl u N) (oi x) ↔ ∃ d, x = d + 1 ∧ past N S P d := by
  cases x with
  | zero => exact ⟨fun h => absurd h (has_neg (by decide)), fun ⟨d, h, _⟩ => by omega⟩
  | succ x =>
    refine (stl_C H (x := x) (by omega)).trans ⟨fun h => ⟨x, rfl, h⟩, fun ⟨d, h, h2⟩ => ?_⟩
    have : d = x := by omega
    rw [← this]; exact h2
theorem pa_M (H : RlX k u v N T n st S P U K B D X R F ec en) {x : Nat} (hx : x < N) : paP v x N ↔ past N S P x := by
  refine ⟨fun h => ⟨(rl_sta H hx (c := 1) (by omega)).mp h.1, fun a ha h0 => ?_⟩, fun h => ⟨(rl_sta H hx (c := 1) (by omega)).mpr h.1, fun a ha h0 => ?_⟩⟩
  · exact (H.1.2.2.2.2.2.2.2 a ha x).mp (h.2 a ha ((rl_sta H ha (c := 0) (by omega)).mpr h0))
  · exact (H.1.2.2.2.2.2.2.2 a ha x).mpr (h.2 a ha ((rl_sta H ha (c := 0) (by omega)).mp h0))
theorem us_C (H : RlX k u v N T n st S P U K B D X R F ec en) (q32 : q < 32) : usP u q ↔ U q := by
  unfold usP
  by_cases hq : U q
  · rw [((H.2.2.1.1 q q32).1 hq).1]
    exact ⟨fun _ => hq, fun _ => nI_m1 _ (by have := (H.2.1.1.1 q hq).2.1; omega)⟩
  · rw [((H.2.2.1.1 q q32).2 hq).1]
    exact ⟨fun h => absurd rfl h, fun h => absurd h hq⟩
theorem us_M (H : RlX k u v N T n st S P U K B D X R F ec en) (q32 : q < 32) : m_us v q = 0 ↔ ¬ U q := by
  by_cases hq : U q
  · exact ⟨fun h => absurd h ((H.2.2.1.2.1 q q32).1 hq).1, fun h => absurd hq h⟩
  · exact ⟨fun _ => hq, fun _ => (H.2.2.1.2.1 q q32).2 hq⟩
theorem cg_C (H : RlX k u v N T n st S P U K B D X R F ec en) (q32 : q < 32) : cgP u q (stl u N) ↔ cgA N S P U B D q := by
  unfold cgP cgA
  rw [us_C H q32]
  refine ⟨fun ⟨hq, h⟩ => ⟨hq, ?_⟩, fun ⟨hq, h⟩ => ⟨hq, ?_⟩⟩
  all_goals
    obtain ⟨a1, a2, a3, a4, a5, a6, a7, a8⟩ := (H.2.2.1.1 q q32).1 hq
    obtain ⟨-, k6, bN, rT⟩ := H.2.1.1.1 q hq
    have hS := H.1.2.1.1 _ bN
  · rw [a2, a4, stl_Co H (rl_D H hq)] at h
    refine h.imp (fun h => ?_) id
    have := h.2
    rw [rl_acm H bN] at this
    omega
  · rw [a2, a4, stl_Co H (rl_D H hq)]
    refine h.imp (fun h => ⟨(rl_wb H).mpr ⟨_, bN, rfl⟩, ?_⟩) id
    rw [rl_acm H bN]
    omega
theorem cg_M (H : RlX k u v N T n st S P U K B D X R F ec en) (q32 : q < 32) : cgM v q N ↔ cgA N S P U B D q := by
  unfold cgM cgA
  rw [us_M H q32]
  have h60 := H.1.1.1
  refine ⟨fun ⟨hq, h⟩ => ?_, fun ⟨hq, h⟩ => ⟨fun h => h hq, ?_⟩⟩
  · have hq : U q := Classical.byContradiction hq
    obtain ⟨a1, a2, a3, a4, a5, a6, a7⟩ := (H.2.2.1.2.1 q q32).1 hq
    obtain ⟨-, k6, bN, rT⟩ := H.2.1.1.1 q hq
    refine ⟨hq, ?_⟩
    rw [a4, a6, nat_nI (by omega)] at h
    rcases h with h | ⟨h1, h2⟩
    · exact Or.inl ((rl_sta H bN (c := 2) (by omega)).mp h)
    · have hDN := rl_D H hq
      rw [oi_0 (by omega)] at h1
      obtain ⟨e, he⟩ : ∃ e, D q = e + 1 := ⟨D q - 1, by omega⟩
      rw [he, show oi (e + 1) = nI e from rfl, nat_nI (by omega), pa_M H (by omega)] at h2
      exact Or.inr ⟨e, he, h2⟩
  · obtain ⟨a1, a2, a3, a4, a5, a6, a7⟩ := (H.2.2.1.2.1 q q32).1 hq
    obtain ⟨-, k6, bN, rT⟩ := H.2.1.1.1 q hq
    rw [a4, a6, nat_nI (by omega)]
    rcases h with h | ⟨e, he, h2⟩
    · exact Or.inl ((rl_sta H bN (c := 2) (by omega)).mpr h)
    · have hDN := rl_D H hq
      refine Or.inr ⟨by rw [oi_0 (by omega)]; omega, ?_⟩
      rw [he, show oi (e + 1) = nI e from rfl, nat_nI (by omega), pa_M H (by omega)]
      exact h2
theorem wh_C (H : RlX k u v N T n st S P U K B D X R F ec en) {a : Nat} (ha : a < 4) : whP u a (stl u N) ↔ whA N S P U B D F a := by
  have e : ∀ q, q < 32 → U q → (sbP u q (stl u N) ↔ D q = 0 ∧ (F q ∨ past N S P (B q))) := by
    intro q q32 hq
    obtain ⟨a1, a2, a3, a4, a5, a6, a7, a8⟩ := (H.2.2.1.1 q q32).1 hq
    obtain ⟨-, k6, bN, rT⟩ := H.2.1.1.1 q hq
    have hDN := rl_D H hq
    have h60 := H.1.1.1
    unfold sbP hdP
    rw [a2, a4, a3, stl_C H bN, oi_0 (by omega)]
    exact ⟨fun ⟨h1, h2⟩ => ⟨Classical.byContradiction h1, h2.imp (fun h => Classical.byContradiction h) id⟩, fun ⟨h1, h2⟩ => ⟨fun h => h h1, h2.imp (fun h z => z h) id⟩⟩
  constructor
  · intro h q hq hqa
    have q32 := (H.2.1.1.1 q hq).1
    exact (e q q32 hq).mp (h q (by omega) (by omega) ((us_C H q32).mpr hq))
  · intro h j j1 j2 hj
    have q32 : j < 32 := by omega
    have hq := (us_C H q32).mp hj
    exact (e j q32 hq).mpr (h j hq (by omega))
theorem wh_M (H : RlX k u v N T n st S P U K B D X R F ec en) {a : Nat} (ha : a < 4) : whM v N a 8 ↔ whA N S P U B D F a := by
  have e : ∀ q, q < 32 → (wh1 v N q ↔ (U q → D q = 0 ∧ (F q ∨ past N S P (B q)))) := by
    intro q q32
    unfold wh1
    rw [us_M H q32]
    by_cases hq : U q
    · obtain ⟨a1, a2, a3, a4, a5, a6, a7⟩ := (H.2.2.1.2.1 q q32).1 hq
      obtain ⟨-, k6, bN, rT⟩ := H.2.1.1.1 q hq
      have hDN := rl_D H hq
      have h60 := H.1.1.1
      rw [a4, a6, a5, nat_nI (by omega), pa_M H bN, oi_0 (by omega)]
      refine ⟨fun h _ => ?_, fun h => Or.inr ?_⟩
      · rcases h with h | ⟨h1, h2⟩
        · exact absurd hq h
        · exact ⟨h1, h2.imp (fun h => Classical.byContradiction h) id⟩
      · obtain ⟨h1, h2⟩ := h hq
        exact ⟨h1, h2.imp (fun h z => z h) id⟩
    · exact ⟨fun _ h => absurd h hq, fun _ => Or.inl hq⟩
  constructor
  · intro h q hq hqa
    have q32 := (H.2.1.1.1 q hq).1
    have := h (q % 8) (by omega)
    rw [show 8 * a + q % 8 = q by omega] at this
    exact (e q q32).mp this hq
  · intro h j hj
    exact (e (8 * a + j) (by omega)).mpr (fun hq => h _ hq (by omega))
end BRID

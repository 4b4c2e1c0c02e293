/-! ===== the law's own numbers: who is active, what each reads ===== -/
noncomputable def rdI (u : CU) (t i : Nat) : Int32 := rdv u (spl u t i (nat (c_ct u i)))
def LW (N : Nat) (S : Nat → Nat) (f : AI) : Prop := (∀ j, j < 6 → f j = -1 ∨ ∃ t, t < N ∧ S t = 0 ∧ f j = nI t) ∧ (∀ j j', j < 6 → j' < 6 → ¬ f j = -1 → f j = f j' → j = j') ∧ ∀ t, t < N → S t = 0 → ∃ j, j < 6 ∧ f j = nI t
def LH (u : CU) (N : Nat) (f h : AI) : Prop := ∀ j t i, j < 6 → t < N → f j = nI t → i < 6 → h (6 * j + i) = rdI u t i
def LZ (k : Nat) (u : CU) (N : Nat) (f h : AI) : Prop := ∃ (T : Nat) (S : Nat → Nat), ZI k u N T S ∧ LW N S f ∧ LH u N f h
theorem zi0 : ZI 0 u0C 0 0 (fun _ => 0) := by
  have n0 : ∀ t : Nat, ¬ t < 0 := Nat.not_lt_zero
  have e32 : ∀ q : Nat, q < 32 → eS 32 q = -1 := fun q hq => by unfold eS; exact if_pos hq
  refine ⟨u0M, 0, fun _ => 0, fun _ _ => False, fun _ => False, fun _ => 0, fun _ => 0, fun _ => 0, fun _ => 0, fun _ => 0, fun _ => False, fun _ => 0, fun _ _ => 0, ?_, ⟨fun t ht => absurd ht (n0 t), fun _ h => h.elim, fun _ _ h => h.elim⟩, fun a _ h => absurd rfl h, fun _ h => h.elim, ⟨20, by omega, by omega, rfl⟩⟩
  exact ⟨⟨⟨Nat.zero_le _, by decide, fun t ht => absurd ht (n0 t)⟩, ⟨fun t ht => absurd ht (n0 t), fun t _ ht => absurd ht (n0 t), fun t _ _ ht => absurd ht (n0 t)⟩, ⟨rfl, rfl, fun t ht => absurd ht (n0 t), fun t ht => absurd ht (n0 t), fun j => ⟨fun h => absurd h bitL_0, fun h => absurd h.1 (n0 j)⟩, fun j => ⟨fun h => absurd h bitL_0, fun h => absurd h.1 (n0 j)⟩⟩, ⟨rfl, rfl, fun t ht => absurd ht (n0 t), fun t ht => absurd ht (n0 t), fun t ht => absurd ht (n0 t)⟩⟩, ⟨⟨fun _ h => h.elim, fun _ _ h => h.elim, fun _ _ h => h.elim, fun _ _ h => h.elim, fun _ h => h.elim⟩, fun _ _ h => h.elim, ⟨fun _ e _ h => absurd h (n0 e), fun _ e _ _ h => absurd h (n0 e), fun _ _ _ h => h.elim, fun _ e _ _ h => absurd h (n0 e), fun _ h => h.elim⟩⟩, ⟨fun q hq => ⟨fun h => h.elim, fun _ => ⟨e32 q hq, e32 q hq, rfl, e32 q hq, e32 q hq⟩⟩, fun q hq => ⟨fun h => h.elim, fun _ => rfl⟩, fun q hq => ⟨rng_nI (j := 0) (by omega) (by omega), Or.inr (rng_nI (j := 0) (by omega) (by omega)), Or.inr (rng_nI (j := 0) (by omega) (by omega)), rng_nI (j := 0) (by omega) (by omega)⟩, fun k hk => ⟨Nat.zero_le _, rfl, rfl, fun e h => absurd h (n0 e)⟩⟩, ⟨Nat.le_refl _, rfl, fun _ h => h.elim, fun i h => absurd h (n0 i)⟩, rfl, fun a ha => ⟨rfl, Or.inl rfl⟩⟩
theorem lz0 {f h : AI} (hf : ∀ j, j < 6 → f j = -1) : LZ 0 u0C 0 f h :=
  ⟨0, fun _ => 0, zi0, ⟨fun j hj => Or.inl (hf j hj), fun j j' hj _ h => absurd (hf j hj) h, fun t ht => absurd ht (Nat.not_lt_zero t)⟩, fun j t i _ ht => absurd ht (Nat.not_lt_zero t)⟩
theorem zi_up {k N T : Nat} {u : CU} {S : Nat → Nat} (h : ZI k u N T S) : ZI (k + 1) u N T S := by
  obtain ⟨v, n, st, P, U, K, B, D, X, R, F, ec, en, H, h2⟩ := h
  exact ⟨v, n, st, P, U, K, B, D, X, R, F, ec, en, rlx_up H, h2⟩
theorem zi_N {k N T : Nat} {u : CU} {S : Nat → Nat} (h : ZI k u N T S) : N ≤ 60 ∧ c_cn u = nI N := by
  obtain ⟨v, n, st, P, U, K, B, D, X, R, F, ec, en, H, h2⟩ := h
  exact ⟨(rl_N H).1, (rl_N H).2.1⟩
theorem zi_T {k N T : Nat} {u : CU} {S : Nat → Nat} (h : ZI k u N T S) : T ≤ k ∧ c_tc u = nI T := by
  obtain ⟨v, n, st, P, U, K, B, D, X, R, F, ec, en, H, h2⟩ := h
  exact rl_T H
theorem zi_ct {k N T : Nat} {u : CU} {S : Nat → Nat} (h : ZI k u N T S) : ctP u := by
  obtain ⟨v, n, st, P, U, K, B, D, X, R, F, ec, en, H, h2⟩ := h
  exact rl_ctP H
theorem zi_wb {k N T t : Nat} {u : CU} {S : Nat → Nat} (h : ZI k u N T S) (ht : t < N) : wbP u (nI t) := by
  obtain ⟨v, n, st, P, U, K, B, D, X, R, F, ec, en, H, h2⟩ := h
  exact (rl_wb H).mpr ⟨t, ht, rfl⟩
theorem zi_ac {k N T t : Nat} {u : CU} {S : Nat → Nat} (h : ZI k u N T S) (ht : t < N) (h0 : S t = 0) : hasP (c_ac u) (nI t) := by
  obtain ⟨v, n, st, P, U, K, B, D, X, R, F, ec, en, H, h2⟩ := h
  exact (rl_ac H ht).mpr h0
theorem zi_mp {k N T : Nat} {u : CU} {S : Nat → Nat} (h : ZI k u N T S) {a : Nat} (ha : a < 4) : c_mp u a = 0 ∨ c_mp u a = 1 := by
  obtain ⟨v, n, st, P, U, K, B, D, X, R, F, ec, en, H, h2⟩ := h
  exact (H.2.2.2.2.2 a ha).2
theorem zi_rd {k N T t i : Nat} {u : CU} {S : Nat → Nat} (h : ZI k u N T S) (ht : t < N) (h0 : S t = 0) (hi : i < 6) : rdI u t i = rpw u t i 0 T := by
  obtain ⟨v, n, st, P, U, K, B, D, X, R, F, ec, en, H, h2⟩ := h
  exact z_rd H ht h0 hi
theorem zi_see {k N T t i : Nat} {u : CU} {S : Nat → Nat} (h : ZI k u N T S) (ht : t < N) (h0 : S t = 0) (hi : i < 6) : (spl u t i (nat (c_ct u i)) = -1 ∧ rdI u t i = -1) ∨ ∃ p z, p < 32 ∧ spl u t i (nat (c_ct u i)) = nI p ∧ z < 10000 ∧ rdI u t i = nI z := by
  rw [zi_rd h ht h0 hi]
  obtain ⟨v, n, st, P, U, K, B, D, X, R, F, ec, en, H, hA, hM, hV, hF⟩ := h
  rcases z_see H hV ht h0 hi with h | ⟨p, z, g1, g2, g3, g4, g5, g6⟩
  · exact Or.inl h
  · exact Or.inr ⟨p, z, (H.2.1.1.1 p g1).1, g4, g5, g6⟩
theorem zi_hrw {k N T : Nat} {u : CU} {S : Nat → Nat} (hk : k < 512) (h : ZI k u N T S) {x y : Int32} : wbP u x → kyP y → ∀ q, q < 32 → sv u x y = nI q → nat (c_r u q) < T ∧ c_r u q = nI (nat (c_r u q)) := by
  obtain ⟨v, n, st, P, U, K, B, D, X, R, F, ec, en, H, h2⟩ := h
  exact rl_hrw hk H
theorem zi_hca {k N T : Nat} {u : CU} {S : Nat → Nat} (h : ZI k u N T S) {x y : Int32} : kyP y → plP (pfn u (sv u x y)) → nat (c_ct u (nat y)) < 32 := by
  obtain ⟨v, n, st, P, U, K, B, D, X, R, F, ec, en, H, h2⟩ := h
  intro a b
  obtain ⟨i, hi, ei⟩ := ky_at a
  obtain ⟨s, s32, hs⟩ := rl_free H b
  rw [ei, nat_nI (n := i) (by omega), (H.2.2.1.2.2.2 i hi).2.1, nat_nI (by have := (H.2.2.1.2.2.2 i hi).1; omega)]
  exact rl_cap H hi s32 hs
theorem sv_nI {u : CU} {t i : Nat} (ht : t < 60) (hi : i < 6) : sv u (nI t) (nI i) = spl u t i (nat (c_ct u i)) := by
  unfold sv; rw [nat_nI (n := t) (by omega), nat_nI (n := i) (by omega)]
theorem ex_is {q : Prop} {X Y : String} (h : ex q X = some Y) : Y = X ∧ ¬ q := by
  by_cases a : q
  · rw [ex_t a] at h; cases h
  · rw [ex_f a] at h; cases h; exact ⟨rfl, a⟩
theorem thn_is {a b : Prop} {X Y : String} (h : thn none (thn none (thn none (thn none (thn (ex a X) (ex b X))))) = some Y) : Y = X := by
  have h2 : thn (ex a X) (ex b X) = some Y := h
  rw [ex_and] at h2
  exact (ex_is h2).1
theorem thn_no {a b : Prop} {X : String} (h : thn none (thn none (thn none (thn none (thn (ex a X) (ex b X))))) = none) : a ∧ b := by
  have h2 : thn (ex a X) (ex b X) = none := h
  rw [ex_and] at h2
  exact ex_n h2
theorem m1_lt {x : Int32} (h : x = -1) : x < 0 := by rw [h]; decide
theorem lw_t {N j : Nat} {S : Nat → Nat} {f : AI} (hW : LW N S f) (hj : j < 6) (hf : ¬ f j < 0) : ∃ t, t < N ∧ S t = 0 ∧ f j = nI t := (hW.1 j hj).resolve_left (fun z => hf (m1_lt z))
/-- what is told of the readers whom a call leaves as they were -/
theorem lh_keep {k k' N T T' : Nat} {u u' : CU} {S S' : Nat → Nat} {f h : AI} (hZ : ZI k u N T S) (hZ' : ZI k' u' N T' S') (hH : LH u N f h) (hW : LW N S f) (hS : ∀ t, t < N → S t = 0 → S' t = 0) (hr : ∀ t i, t < N → i < 6 → rpw u' t i 0 T' = rpw u t i 0 T) : LH u' N f h := by
  intro j t i hj ht hf hi
  have h0 : S t = 0 := by
    rcases hW.1 j hj with z | ⟨t', ht', h0', z⟩
    · rw [hf] at z; exact absurd z (nI_m1 t (by have := (zi_N hZ).1; omega))
    · rw [hf, nI_eq (by have := (zi_N hZ).1; omega) (by have := (zi_N hZ).1; omega)] at z
      rw [z]; exact h0'
  rw [hH j t i hj ht hf hi, zi_rd hZ ht h0 hi, zi_rd hZ' ht (hS t ht h0) hi, hr t i ht hi]
section LAWZ
variable {k N : Nat} {u : CU} {f h : AI} {i j t : Nat}
theorem lz_up (H : LZ k u N f h) : LZ (k + 1) u N f h := by
  obtain ⟨T, S, hZ, hW, hH⟩ := H
  exact ⟨T, S, zi_up hZ, hW, hH⟩
theorem lz_N (H : LZ k u N f h) : N ≤ 60 ∧ c_cn u = nI N := by
  obtain ⟨T, S, hZ, hW, hH⟩ := H
  exact zi_N hZ
theorem lz_t (H : LZ k u N f h) (hj : j < 6) (hf : ¬ f j < 0) : ∃ t, t < N ∧ f j = nI t := by
  obtain ⟨T, S, hZ, hW, hH⟩ := H
  obtain ⟨t, ht, h0, e⟩ := lw_t hW hj hf
  exact ⟨t, ht, e⟩
/-- reading, by an active one -/
theorem lz_read (H : LZ k u N f h) (hj : j < 6) (hf : ¬ f j < 0) (hi : i < 6) {l : Launch} {D : va_G} {K : Nat → ClassId} {L : Nat → Prop} {g : Nat → Nat} (hg : gd L g 29) : CI l yX4_read wsX4_read rmX4_read0 D K L [.ref (g 0), .int (f j), .int (nI i)] (wC K g u) (wC K g u) (h (6 * j + i)) := by
  obtain ⟨T, S, hZ, hW, hH⟩ := H
  obtain ⟨t, ht, h0, e⟩ := lw_t hW hj hf
  rw [hH j t i hj ht e hi, e]
  exact kX4_read0 hg u N (zi_N hZ).1 (zi_N hZ).2 t i ht hi (zi_wb hZ ht) (kyI hi) (zi_ac hZ ht h0) (zi_ct hZ)
theorem lz_isRead (H : LZ k u N f h) (hk : k ≤ 512) (hj : j < 6) (hf : ¬ f j < 0) {l : Launch} {D : va_G} {K : Nat → ClassId} {L : Nat → Prop} {g : Nat → Nat} (hg : gd L g 29) : CI l yL_isRead wsL_isRead rmL_isRead D K L [.ref (g 0), .int (f j)] (wC K g u) (wC K g u) 1 := by
  obtain ⟨T, S, hZ, hW, hH⟩ := H
  obtain ⟨t, ht, h0, e⟩ := lw_t hW hj hf
  rw [e]
  exact kL_isRead hg u N (zi_N hZ).1 (zi_N hZ).2 t ht (zi_wb hZ ht) (zi_ac hZ ht h0) (zi_ct hZ) T (by have := (zi_T hZ).1; omega) (zi_T hZ).2 (fun i hi => zi_rd hZ ht h0 hi)
theorem lz_arePages (H : LZ k u N f h) {l : Launch} {D : va_G} {K : Nat → ClassId} {L : Nat → Prop} {g : Nat → Nat} (hg : gd L g 29) : CI l yL_arePages wsL_arePages rmL_arePages D K L [.ref (g 0)] (wC K g u) (wC K g u) 1 := by
  obtain ⟨T, S, hZ, hW, hH⟩ := H
  obtain ⟨o, ho, ho2⟩ := z_old hZ
  obtain ⟨tn, ec, hP⟩ := z_pages hZ
  exact kL_arePages hg u N (zi_N hZ).1 (zi_N hZ).2 o ho ho2 tn ec hP
theorem lz_oldest (H : LZ k u N f h) : ∃ a, a < 64 ∧ olg u N 32 = nI a := by
  obtain ⟨T, S, hZ, hW, hH⟩ := H
  exact z_old hZ
/-- one begins -/
theorem lz_begin (H : LZ k u N f h) (hj : j < 6) (hf : f j < 0) (hN : N < 60) (ho : olg u N 32 < 28) : ∃ g : AI, (∀ i, i < 6 → g i = rdI (cst u N) N i) ∧ LZ (k + 1) (cst u N) (N + 1) (upd f j (nI N)) (fb_put h g (6 * j) 6) := by
  obtain ⟨T, S, hZ, hW, hH⟩ := H
  obtain ⟨S', hZ', e1, e2, e3⟩ := z_begin hZ hN ho
  have n1 : ∀ t, t ≤ N → ¬ nI t = -1 := fun t ht => nI_m1 t (by omega)
  have fj : f j = -1 := (hW.1 j hj).resolve_right (fun ⟨t, ht, _, z⟩ => by rw [z] at hf; exact nI_pos (by omega) hf)
  have hW' : LW (N + 1) S' (upd f j (nI N)) := by
    refine ⟨fun x hx => ?_, fun x y hx hy hxm e => ?_, fun t ht h0 => ?_⟩
    · unfold upd
      by_cases e : x = j
      · rw [if_pos e]; exact Or.inr ⟨N, by omega, e1, rfl⟩
      · rw [if_neg e]
        exact (hW.1 x hx).imp id (fun ⟨t, ht, h0, z⟩ => ⟨t, by omega, by rw [e2 t ht]; exact h0, z⟩)
    · unfold upd at e hxm
      have old : ∀ y, y < 6 → ¬ f y = nI N := fun y hy z => by
        rcases hW.1 y hy with z2 | ⟨t, ht, _, z2⟩
        · rw [z] at z2; exact n1 N (Nat.le_refl _) z2
        · rw [z, nI_eq (by omega) (by omega)] at z2; omega
      by_cases g1 : x = j
      · by_cases g2 : y = j
        · rw [g1, g2]
        · rw [if_pos g1, if_neg g2] at e; exact absurd e.symm (old y hy)
      · rw [if_neg g1] at e hxm
        by_cases g2 : y = j
        · rw [if_pos g2] at e; exact absurd e (old x hx)
        · rw [if_neg g2] at e; exact hW.2.1 x y hx hy hxm e
    · by_cases g : t = N
      · exact ⟨j, hj, by unfold upd; rw [if_pos rfl, g]⟩
      · rw [e2 t (by omega)] at h0
        obtain ⟨x, hx, z⟩ := hW.2.2 t (by omega) h0
        refine ⟨x, hx, ?_⟩
        unfold upd
        rw [if_neg (fun y => by rw [y, fj] at z; exact n1 t (by omega) z.symm)]; exact z
  have hH' : LH (cst u N) (N + 1) (upd f j (nI N)) (fb_put h (fun i => rdI (cst u N) N i) (6 * j) 6) := by
    intro x t i hx ht e hi
    unfold upd at e
    by_cases g : x = j
    · rw [if_pos g, nI_eq (by omega) (by omega)] at e
      rw [g, fb_put_in (by omega) (by omega), show 6 * j + i - 6 * j = i by omega, e]
    · rw [if_neg g] at e
      rw [fb_put_out (by omega)]
      rcases hW.1 x hx with z | ⟨t', ht', h0, z⟩
      · rw [e] at z; exact absurd z (n1 t (by omega))
      · have et : t = t' := by rw [e, nI_eq (by omega) (by omega)] at z; exact z
        rw [← et] at ht' h0
        rw [hH x t i hx ht' e hi, zi_rd hZ ht' h0 hi, zi_rd hZ' ht (by rw [e2 t ht']; exact h0) hi, e3 t i ht']
  exact ⟨fun i => rdI (cst u N) N i, fun i hi => rfl, ⟨T, S', zi_up hZ', hW', hH'⟩⟩
/-- the one that began reads -/
theorem lz_read1 (H : LZ k u N f h) (hN : N < 60) (ho : olg u N 32 < 28) (hi : i < 6) {l : Launch} {D : va_G} {K : Nat → ClassId} {L : Nat → Prop} {g : Nat → Nat} (hg : gd L g 29) : CI l yX4_read wsX4_read rmX4_read0 D K L [.ref (g 0), .int (nI N), .int (nI i)] (wC K g (cst u N)) (wC K g (cst u N)) (rdI (cst u N) N i) := by
  obtain ⟨T, S, hZ, hW, hH⟩ := H
  obtain ⟨S', hZ', e1, e2, e3⟩ := z_begin hZ hN ho
  exact kX4_read0 hg (cst u N) (N + 1) (zi_N hZ').1 (zi_N hZ').2 N i (by omega) hi (zi_wb hZ' (by omega)) (kyI hi) (zi_ac hZ' (by omega) e1) (zi_ct hZ')
/-- one ends: how many are active is told by who -/
theorem lw_cnt {S : Nat → Nat} (hN : N ≤ 60) (hW : LW N S f) : ctq (fun j => ¬ f j < 0) 6 = ctq (fun t => t < N ∧ S t = 0) N := by
  have pos : ∀ t, t < N → ¬ nI t < 0 := fun t ht => nI_pos (by omega)
  refine Nat.le_antisymm ?_ ?_
  · refine ctq_inj (f := fun j => nat (f j)) 6 _ (fun j hj hp => ?_) (fun a b ha hb hp hq e => ?_)
    · obtain ⟨t, ht, h0, e⟩ := lw_t hW hj hp
      show nat (f j) < N ∧ nat (f j) < N ∧ S (nat (f j)) = 0
      rw [e, nat_nI (by omega)]; exact ⟨ht, ht, h0⟩
    · obtain ⟨t, ht, h0, e1⟩ := lw_t hW ha hp
      obtain ⟨t', ht', h0', e2⟩ := lw_t hW hb hq
      have e3 : nat (f a) = nat (f b) := e
      rw [e1, e2, nat_nI (by omega), nat_nI (by omega)] at e3
      refine hW.2.1 a b ha hb (fun z => hp (m1_lt z)) ?_
      rw [e1, e2, e3]
  · have hc : ∀ t, ∃ j, (t < N ∧ S t = 0) → j < 6 ∧ f j = nI t := fun t => by
      by_cases h : t < N ∧ S t = 0
      · obtain ⟨j, hj, e⟩ := hW.2.2 t h.1 h.2
        exact ⟨j, fun _ => ⟨hj, e⟩⟩
      · exact ⟨0, fun z => absurd z h⟩
    refine ctq_inj (f := fun t => Classical.choose (hc t)) N _ (fun t ht hp => ?_) (fun a b ha hb hp hq e => ?_)
    · obtain ⟨z1, z2⟩ := Classical.choose_spec (hc t) hp
      exact ⟨z1, by show ¬ f (Classical.choose (hc t)) < 0; rw [z2]; exact pos t ht⟩
    · have z1 := (Classical.choose_spec (hc a) hp).2
      have z2 := (Classical.choose_spec (hc b) hq).2
      have e2 : Classical.choose (hc a) = Classical.choose (hc b) := e
      rw [e2, z2, nI_eq (by omega) (by omega)] at z1
      exact z1.symm
theorem lz_end (H : LZ k u N f h) (hk : k ≤ 512) (hj : j < 6) (hf : ¬ f j < 0) (q : Prop) : ∃ (u2 : CU) (c : Nat), ctq (fun j => ¬ f j < 0) 6 = c + 1 ∧ LZ (k + 1) u2 N (upd f j (-1)) h ∧ ∀ {l : Launch} {D : va_G} {K : Nat → ClassId} {L : Nat → Prop} {g : Nat → Nat} (hg : gd L g 29), CI l yX4_end wsX4_end rmX4_end0 D K L [.ref (g 0), .int (f j), .int (fb q)] (wC K g u) (wC K g u2) (nI c) := by
  obtain ⟨T, S, hZ, hW, hH⟩ := H
  obtain ⟨t, ht, h0, e⟩ := lw_t hW hj hf
  obtain ⟨h60, hcn⟩ := zi_N hZ
  obtain ⟨S', hZ', e1, e2, e3, e4⟩ := z_end hZ ht h0 q
  have n1 : ∀ t, t < N → ¬ nI t = -1 := fun t ht => nI_m1 t (by omega)
  have hW' : LW N S' (upd f j (-1)) := by
    refine ⟨fun x hx => ?_, fun x y hx hy hxm exy => ?_, fun t2 ht2 h02 => ?_⟩
    · unfold upd
      by_cases g : x = j
      · rw [if_pos g]; exact Or.inl rfl
      · rw [if_neg g]
        refine (hW.1 x hx).imp id (fun ⟨t2, ht2, h02, z⟩ => ⟨t2, ht2, ?_, z⟩)
        rw [e2 t2 (fun y => g (hW.2.1 x j hx hj (by rw [z]; exact n1 t2 ht2) (by rw [z, e, y])))]; exact h02
    · unfold upd at exy hxm
      by_cases g : x = j
      · rw [if_pos g] at hxm; exact absurd rfl hxm
      · rw [if_neg g] at exy hxm
        by_cases g2 : y = j
        · rw [if_pos g2] at exy; exact absurd exy hxm
        · rw [if_neg g2] at exy; exact hW.2.1 x y hx hy hxm exy
    · have hne : ¬ t2 = t := fun y => e1 (y ▸ h02)
      rw [e2 t2 hne] at h02
      obtain ⟨x, hx, z⟩ := hW.2.2 t2 ht2 h02
      refine ⟨x, hx, ?_⟩
      unfold upd
      rw [if_neg (fun y => hne (by rw [y, e, nI_eq (by omega) (by omega)] at z; exact z.symm))]; exact z
  have hH' : LH (cen u t T q) N (upd f j (-1)) h := by
    intro x t2 i hx ht2 e5 hi
    unfold upd at e5
    by_cases g : x = j
    · rw [if_pos g] at e5; exact absurd e5.symm (n1 t2 ht2)
    · rw [if_neg g] at e5
      have hne : ¬ t2 = t := fun y => g (hW.2.1 x j hx hj (by rw [e5]; exact n1 t2 ht2) (by rw [e5, e, y]))
      rcases hW.1 x hx with z | ⟨t3, ht3, h03, z⟩
      · rw [e5] at z; exact absurd z (n1 t2 ht2)
      · have et : t2 = t3 := by rw [e5, nI_eq (by omega) (by omega)] at z; exact z
        rw [← et] at h03
        rw [hH x t2 i hx ht2 e5 hi, zi_rd hZ ht2 h03 hi, zi_rd hZ' ht2 (by rw [e2 t2 hne]; exact h03) hi, e3 t2 i ht2 hne]
  refine ⟨cen u t T q, ctq (fun x => (x < N ∧ S x = 0) ∧ ¬ x = t) N, ?_, ⟨T, S', zi_up hZ', hW', hH'⟩, fun hg => ?_⟩
  · rw [lw_cnt h60 hW]
    exact ctq_out ht ⟨ht, h0⟩ (fun x => Iff.rfl)
  · rw [e, ← e4]
    exact kX4_end0 hg u t q N h60 hcn (zi_wb hZ ht) (by omega) (zi_ac hZ ht h0) T (by have := (zi_T hZ).1; omega) (zi_T hZ).2
/-- one writes -/
theorem lz_write (H : LZ k u N f h) (hk : k < 512) (hj : j < 6) (hf : ¬ f j < 0) (hi : i < 6) {z : Nat} (hz : z < 10000) : ∃ (u2 : CU) (E : Option String) (r : Int32),
    (∀ {l : Launch} {D : va_G} {K : Nat → ClassId} {L : Nat → Prop} {g : Nat → Nat} (hg : gd L g 29) (hfl : l.stackTraces = false), XI l yX4_write wsX4_write rmX4_write D K L [.ref (g 0), .int (f j), .int (nI i), .int (nI z)] (wC K g u) (wC K g u2) E r) ∧
    (∀ X, E = some X → X = xIS) ∧ (E = none → ∃ s y, s < 32 ∧ (y = 0 ∨ (y = 1 ∧ ∃ m, m < 10000 ∧ h (6 * j + i) = nI m)) ∧ r = nI (1000 * (s / 8) + s % 8 + 100000 * y) ∧ slv u2 s = nI i ∧ LZ (k + 1) u2 N f (upd h (6 * j + i) (nI z))) := by
  obtain ⟨T, S, hZ, hW, hH⟩ := H
  obtain ⟨t, ht, h0, e⟩ := lw_t hW hj hf
  obtain ⟨h60, hcn⟩ := zi_N hZ
  obtain ⟨hT, htc⟩ := zi_T hZ
  have esv := sv_nI (u := u) (t := t) (i := i) (by omega) hi
  have hwb := zi_wb hZ ht
  have hac := zi_ac hZ ht h0
  have hva : vaP (nI z) := ⟨nI_pos (by omega), (nI_ltI (a := z) (b := 10000) (by omega) (by omega)).mpr hz⟩
  refine ⟨_, _, _, fun hg hfl => by rw [e]; exact kX4_write hg hfl u (nI t) (nI i) (nI z) N h60 hcn (zi_ct hZ) T (by omega) htc (zi_hrw hk hZ) (zi_hca hZ), fun X hX => ?_, fun hE => ?_⟩
  · rw [ex_t hwb, ex_t (kyI hi), ex_t hva, ex_t hac] at hX
    exact thn_is hX
  · rw [ex_t hwb, ex_t (kyI hi), ex_t hva, ex_t hac] at hE
    obtain ⟨hr, hp⟩ := thn_no hE
    rw [nat_nI (n := t) (by omega), nat_nI (n := i) (by omega)] at hr
    rw [esv] at hp
    rw [esv, nat_nI (n := t) (by omega), nat_nI (n := i) (by omega)]
    obtain ⟨hZ', g1, g2, s, y, g3, g4, g5, g6⟩ := z_wr hk hZ ht h0 hi hz hr hp
    refine ⟨s, y, g3, g4.imp id (fun ⟨a, m, b, c⟩ => ⟨a, m, b, by rw [hH j t i hj ht e hi, zi_rd hZ ht h0 hi]; exact c⟩), g5, g6, T + 1, S, hZ', hW, fun x t2 i2 hx ht2 e2 hi2 => ?_⟩
    have h02 : S t2 = 0 := by
      rcases hW.1 x hx with y2 | ⟨t3, ht3, h03, y2⟩
      · rw [e2] at y2; exact absurd y2 (nI_m1 t2 (by omega))
      · rw [e2, nI_eq (by omega) (by omega)] at y2
        rw [y2]; exact h03
    rw [zi_rd hZ' ht2 h02 hi2]
    unfold upd
    by_cases c : 6 * x + i2 = 6 * j + i
    · rw [if_pos c]
      have c1 : x = j := by omega
      have c2 : i2 = i := by omega
      have c3 : t2 = t := by rw [c1, e, nI_eq (by omega) (by omega)] at e2; exact e2.symm
      rw [c2, c3]; exact g2.symm
    · rw [if_neg c, hH x t2 i2 hx ht2 e2 hi2, zi_rd hZ ht2 h02 hi2]
      refine (g1 t2 i2 ht2 hi2 ?_).symm
      by_cases c1 : t2 = t
      · refine Or.inr (fun c2 => c ?_)
        have : x = j := hW.2.1 x j hx hj (by rw [e2]; exact nI_m1 t2 (by omega)) (by rw [e2, e, c1])
        rw [this, c2]
      · exact Or.inl c1
/-- one deletes -/
theorem lz_delete (H : LZ k u N f h) (hk : k < 512) (hj : j < 6) (hf : ¬ f j < 0) (hi : i < 6) : ∃ (u2 : CU) (E : Option String) (q : Prop),
    (∀ {l : Launch} {D : va_G} {K : Nat → ClassId} {L : Nat → Prop} {g : Nat → Nat} (hg : gd L g 29) (hfl : l.stackTraces = false), XI l yX4_delete wsX4_delete rmX4_delete D K L [.ref (g 0), .int (f j), .int (nI i)] (wC K g u) (wC K g u2) E (fb q)) ∧
    (∀ X, E = some X → X = xIS ∧ ¬ h (6 * j + i) < 0) ∧ (E = none → (q ↔ ¬ h (6 * j + i) < 0) ∧ (q → LZ (k + 1) u2 N f (upd h (6 * j + i) (-1))) ∧ (¬ q → u2 = u)) := by
  obtain ⟨T, S, hZ, hW, hH⟩ := H
  obtain ⟨t, ht, h0, e⟩ := lw_t hW hj hf
  obtain ⟨h60, hcn⟩ := zi_N hZ
  obtain ⟨hT, htc⟩ := zi_T hZ
  have esv := sv_nI (u := u) (t := t) (i := i) (by omega) hi
  have hwb := zi_wb hZ ht
  have hac := zi_ac hZ ht h0
  have hpl : plP (spl u t i (nat (c_ct u i))) ↔ ¬ h (6 * j + i) < 0 := by
    rw [hH j t i hj ht e hi]
    rcases zi_see hZ ht h0 hi with ⟨z1, z2⟩ | ⟨p, z, p32, z1, z2, z3⟩
    · rw [z1, z2]; exact ⟨fun z => absurd z pl_m1, fun z => absurd (by decide) z⟩
    · rw [z1, z3]; exact ⟨fun _ => nI_pos (by omega), fun _ => pl_nI p32⟩
  refine ⟨_, _, plP (spl u t i (nat (c_ct u i))), fun hg hfl => by rw [e, ← esv]; exact kX4_delete hg hfl u (nI t) (nI i) N h60 hcn (zi_ct hZ) T (by omega) htc (zi_hrw hk hZ), fun X hX => ?_, fun hE => ⟨hpl, fun hq => ?_, fun hq => ?_⟩⟩
  · rw [ex_t hwb, ex_t (kyI hi), ex_t hac] at hX
    have h9 := ex_is hX
    refine ⟨h9.1, hpl.mp ?_⟩
    rw [← esv]
    exact Classical.byContradiction (fun z => h9.2 (fun y => absurd y z))
  · rw [ex_t hwb, ex_t (kyI hi), ex_t hac] at hE
    have hr : ¬ rfP u t i := by
      have z := ex_n (show ex (plP (sv u (nI t) (nI i)) → ¬ rfP u (nat (nI t)) (nat (nI i))) xIS = none from hE)
      rw [esv, nat_nI (n := t) (by omega), nat_nI (n := i) (by omega)] at z
      exact z hq
    rcases zi_see hZ ht h0 hi with ⟨z1, z2⟩ | ⟨p, z, p32, z1, z2, z3⟩
    · rw [z1] at hq; exact absurd hq pl_m1
    · obtain ⟨hZ', g1, g2⟩ := z_del hk hZ ht h0 hi p32 z1 hr
      rw [esv, nat_nI (n := t) (by omega), z1, wu1_y p32]
      refine ⟨T, S, zi_up hZ', hW, fun x t2 i2 hx ht2 e2 hi2 => ?_⟩
      have h02 : S t2 = 0 := by
        rcases hW.1 x hx with y2 | ⟨t3, ht3, h03, y2⟩
        · rw [e2] at y2; exact absurd y2 (nI_m1 t2 (by omega))
        · rw [e2, nI_eq (by omega) (by omega)] at y2
          rw [y2]; exact h03
      rw [zi_rd hZ' ht2 h02 hi2]
      unfold upd
      by_cases c : 6 * x + i2 = 6 * j + i
      · rw [if_pos c]
        have c1 : x = j := by omega
        have c2 : i2 = i := by omega
        have c3 : t2 = t := by rw [c1, e, nI_eq (by omega) (by omega)] at e2; exact e2.symm
        rw [c2, c3]; exact g2.symm
      · rw [if_neg c, hH x t2 i2 hx ht2 e2 hi2, zi_rd hZ ht2 h02 hi2]
        refine (g1 t2 i2 ht2 hi2 ?_).symm
        by_cases c1 : t2 = t
        · refine Or.inr (fun c2 => c ?_)
          have : x = j := hW.2.1 x j hx hj (by rw [e2]; exact nI_m1 t2 (by omega)) (by rw [e2, e, c1])
          rw [this, c2]
        · exact Or.inl c1
  · rw [esv]; exact wu1_n hq
/-- a page is cleaned -/
theorem lz_clean (H : LZ k u N f h) {a : Nat} (ha : a < 4) : LZ k (ccl u N a) N f h ∧ ful u a 8 = ful (ccl u N a) a 8 + (cln u (stl u N) a 8).2 ∧ c_mp (ccl u N a) a = fb (whP (ccl u N a) a (stl (ccl u N a) N)) ∧ cln (ccl u N a) (stl (ccl u N a) N) a 8 = (ccl u N a, 0) ∧ ∀ {l : Launch} {D : va_G} {K : Nat → ClassId} {L : Nat → Prop} {g : Nat → Nat} (hg : gd L g 29), CI l yX4_clean wsX4_clean rmX4_clean0 D K L [.ref (g 0), .int (nI a)] (wC K g u) (wC K g (ccl u N a)) (nI (cln u (stl u N) a 8).2) := by
  obtain ⟨T, S, hZ, hW, hH⟩ := H
  obtain ⟨h60, hcn⟩ := zi_N hZ
  obtain ⟨g1, hZ', g2, g3, g4, g5⟩ := z_clean hZ ha
  exact ⟨⟨T, S, hZ', hW, lh_keep hZ hZ' hH hW (fun _ _ z => z) (fun t i _ _ => g2 t i)⟩, g3, g4, g5, fun hg => kX4_clean0 hg u a ha (pgI ha) N h60 hcn g1⟩
theorem lz_mp (H : LZ k u N f h) {a : Nat} (ha : a < 4) : c_mp u a = 0 ∨ c_mp u a = 1 := by
  obtain ⟨T, S, hZ, hW, hH⟩ := H
  exact zi_mp hZ ha
/-- stamps jump -/
theorem lz_jump (H : LZ k u N f h) {s a : Nat} (h2 : s ≤ 20) (a64 : a < 64) (ho : olg u N 32 = nI a) (hj : a = 0 ∨ a + s < 32) : LZ (k + 1) (s_ns u (skn u (nI s))) N f h ∧ olg (s_ns u (skn u (nI s))) N 32 = nI (if a = 0 then 0 else a + s) := by
  obtain ⟨T, S, hZ, hW, hH⟩ := H
  obtain ⟨hZ', g1, g2⟩ := z_jump hZ h2 a64 ho hj
  exact ⟨⟨T, S, zi_up hZ', hW, lh_keep hZ hZ' hH hW (fun _ _ z => z) (fun t i _ _ => g1 t i)⟩, g2⟩
/-- a freezing age -/
theorem lz_fz (H : LZ k u N f h) {a : Nat} (h1 : 1 ≤ a) (h2 : a ≤ 27) : LZ k (s_fz u (nI a)) N f h ∧ ∃ z, 1 ≤ z ∧ z ≤ 27 ∧ c_fz u = nI z := by
  obtain ⟨T, S, hZ, hW, hH⟩ := H
  obtain ⟨hZ', g1⟩ := z_fz hZ h1 h2
  exact ⟨⟨T, S, hZ', hW, lh_keep hZ hZ' hH hW (fun _ _ z => z) (fun t i _ _ => g1 t i)⟩, z_fz0 hZ⟩
end LAWZ

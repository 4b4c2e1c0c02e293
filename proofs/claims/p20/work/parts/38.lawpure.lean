/-! ===== the law's calls that may be refused ===== -/
section LAWP
variable {k N : Nat} {u : CU} {f h : AI} {i j t : Nat} {l : Launch} {D : va_G} {K : Nat → ClassId} {L : Nat → Prop} {g : Nat → Nat}
theorem lz_neg (H : LZ k u N f h) (hj : j < 6) (hf : f j < 0) : f j = -1 := by
  obtain ⟨T, S, hZ, hW, hH⟩ := H
  have h60 := (zi_N hZ).1
  exact (hW.1 j hj).resolve_right (fun ⟨t, ht, _, z⟩ => by rw [z] at hf; exact nI_pos (by omega) hf)
theorem lz_same (H : LZ k u N f h) (hj : j < 6) (hf : f j < 0) : LZ (k + 1) u N (upd f j (-1)) h := by
  rw [upd_same (lz_neg H hj hf)]; exact lz_up H
theorem lz_beginsY (H : LZ k u N f h) (hN : N < 60) {a : Nat} (ho : olg u N 32 = nI a) (ha : a < 28) (hg : gd L g 29) (hfl : l.stackTraces = false) : CI l yL_begins wsL_begins rmL_begins D K L [.ref (g 0)] (wC K g u) (wC K g (cst u N)) (nI N) := by
  obtain ⟨h60, hcn⟩ := lz_N H
  have e1 : c_cn u < 60 := by rw [hcn]; exact (nI_ltI (a := N) (b := 60) (by omega) (by omega)).mpr hN
  have e2 : olg u N 32 < 28 := by rw [ho]; exact (nI_ltI (a := a) (b := 28) (by omega) (by omega)).mpr ha
  have z := kX4_begin (l := l) (D := D) (K := K) hg hfl u N h60 hcn
  rw [ex_t e1, ex_t e2] at z
  exact kL_begins hg z (fun X h => by cases h)
theorem lz_beginsN (H : LZ k u N f h) {a : Nat} (a64 : a < 64) (ho : olg u N 32 = nI a) (hn : ¬ (N < 60 ∧ a < 28)) (hg : gd L g 29) (hfl : l.stackTraces = false) : CI l yL_begins wsL_begins rmL_begins D K L [.ref (g 0)] (wC K g u) (wC K g u) (-3) := by
  obtain ⟨h60, hcn⟩ := lz_N H
  have e1 : ¬ (c_cn u < 60 ∧ olg u N 32 < 28) := by
    rw [hcn, ho, show (60 : Int32) = nI 60 from rfl, show (28 : Int32) = nI 28 from rfl, nI_ltI (by omega) (by omega), nI_ltI (by omega) (by omega)]; exact hn
  have z := kX4_begin (l := l) (D := D) (K := K) hg hfl u N h60 hcn
  rw [ex_and, ex_f e1] at z
  exact kL_begins hg z (fun X h => by cases h; rfl)
theorem lz_skn (H : LZ k u N f h) {s : Nat} (hs : s ≤ 20) : ∃ m, m < 64 ∧ skn u (nI s) = nI m := by
  obtain ⟨T, S, ⟨v, n, st, P, U, K, B, D, X, R, F, ec, en, H, -⟩, -⟩ := H
  have hn := H.1.1.2.1
  refine ⟨(n + s) % 64, Nat.mod_lt _ (by decide), ?_⟩
  unfold skn; rw [H.1.2.2.1.2.1, nI_add, rem64 (by omega)]
theorem lz_jumpsY (H : LZ k u N f h) {s a : Nat} (s1 : 1 ≤ s) (s2 : s ≤ 20) (a64 : a < 64) (ho : olg u N 32 = nI a) (hj : a = 0 ∨ a + s < 32) (hg : gd L g 29) (hfl : l.stackTraces = false) : CI l yL_jumps wsL_jumps rmL_jumps D K L [.ref (g 0), .int (nI s)] (wC K g u) (wC K g (s_ns u (skn u (nI s)))) (skn u (nI s)) := by
  obtain ⟨h60, hcn⟩ := lz_N H
  have z := kX4_jump (l := l) (D := D) (K := K) hg hfl u (nI s) N h60 hcn
  rw [ex_t (jm_nI s1 s2), ho, ex_t ((jo_iff a64 s2).mpr hj)] at z
  exact kL_jumps hg (nI s) z (fun X h => by cases h)
theorem lz_jumpsN (H : LZ k u N f h) {s a : Nat} (s1 : 1 ≤ s) (s2 : s ≤ 20) (a64 : a < 64) (ho : olg u N 32 = nI a) (hj : ¬ (a = 0 ∨ a + s < 32)) (hg : gd L g 29) (hfl : l.stackTraces = false) : CI l yL_jumps wsL_jumps rmL_jumps D K L [.ref (g 0), .int (nI s)] (wC K g u) (wC K g u) (-3) := by
  obtain ⟨h60, hcn⟩ := lz_N H
  have z := kX4_jump (l := l) (D := D) (K := K) hg hfl u (nI s) N h60 hcn
  rw [ex_t (jm_nI s1 s2), ho, ex_f (fun y => hj ((jo_iff a64 s2).mp y))] at z
  exact kL_jumps hg (nI s) z (fun X h => by cases h; rfl)
theorem lz_writes (H : LZ k u N f h) (hk : k < 512) (hj : j < 6) (hf : ¬ f j < 0) (hi : i < 6) {z : Nat} (hz : z < 10000) (hg : gd L g 29) (hfl : l.stackTraces = false) :
    (∃ (u2 : CU) (s y : Nat), s < 32 ∧ (y = 0 ∨ (y = 1 ∧ ∃ m, m < 10000 ∧ h (6 * j + i) = nI m)) ∧ slv u2 s = nI i ∧ LZ (k + 1) u2 N f (upd h (6 * j + i) (nI z)) ∧ CI l yL_writes wsL_writes rmL_writes D K L [.ref (g 0), .int (f j), .int (nI i), .int (nI z)] (wC K g u) (wC K g u2) (nI (1000 * (s / 8) + s % 8 + 100000 * y))) ∨
    CI l yL_writes wsL_writes rmL_writes D K L [.ref (g 0), .int (f j), .int (nI i), .int (nI z)] (wC K g u) (wC K g u) (-3) := by
  obtain ⟨u2, E, r, h1, h2, h3⟩ := lz_write H hk hj hf hi hz
  have z9 := kL_writes (l := l) (D := D) (K := K) hg _ _ _ (h1 hg hfl) h2
  cases E with
  | none =>
    obtain ⟨s, y, a1, a2, a3, a4, a5⟩ := h3 rfl
    rw [a3] at z9
    exact Or.inl ⟨u2, s, y, a1, a2, a4, a5, z9⟩
  | some X => exact Or.inr z9
theorem lz_deletes (H : LZ k u N f h) (hk : k < 512) (hj : j < 6) (hf : ¬ f j < 0) (hi : i < 6) (hg : gd L g 29) (hfl : l.stackTraces = false) :
    (∃ u2 : CU, ¬ h (6 * j + i) < 0 ∧ LZ (k + 1) u2 N f (upd h (6 * j + i) (-1)) ∧ CI l yL_deletes wsL_deletes rmL_deletes D K L [.ref (g 0), .int (f j), .int (nI i)] (wC K g u) (wC K g u2) 1) ∨
    (h (6 * j + i) < 0 ∧ CI l yL_deletes wsL_deletes rmL_deletes D K L [.ref (g 0), .int (f j), .int (nI i)] (wC K g u) (wC K g u) 0) ∨
    (¬ h (6 * j + i) < 0 ∧ CI l yL_deletes wsL_deletes rmL_deletes D K L [.ref (g 0), .int (f j), .int (nI i)] (wC K g u) (wC K g u) (-3)) := by
  obtain ⟨u2, E, q, h1, h2, h3⟩ := lz_delete H hk hj hf hi
  have z9 := kL_deletes (l := l) (D := D) (K := K) hg _ _ (h1 hg hfl) (fun X hX => (h2 X hX).1)
  cases E with
  | none =>
    obtain ⟨a1, a2, a3⟩ := h3 rfl
    by_cases hq : q
    · have e : eu none (fb q) (-3) = 1 := fb_t hq
      rw [e] at z9
      exact Or.inl ⟨u2, a1.mp hq, a2 hq, z9⟩
    · have e : eu none (fb q) (-3) = 0 := fb_f hq
      rw [e, a3 hq] at z9
      exact Or.inr (Or.inl ⟨Classical.byContradiction (fun y => hq (a1.mpr y)), z9⟩)
  | some X => exact Or.inr (Or.inr ⟨(h2 X rfl).2, z9⟩)
end LAWP

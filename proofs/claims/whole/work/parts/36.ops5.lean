/-! ===== write, on both sides ===== -/
section OPS5
variable {l : Launch} {D9 : va_G} {K9 : Nat → ClassId} {k : Nat} {u : CU} {v : MU} {N T n : Nat} {st S : Nat → Nat} {P : Nat → Nat → Prop} {U : Nat → Prop} {K B D X R : Nat → Nat} {F : Nat → Prop} {ec : Nat → Nat} {en : Nat → Nat → Nat} {t q i : Nat}
/-- where writing isn't refused, the versions of the key are known, and those without a death are the one that is seen -/
theorem rl_known (H : RlX k u v N T n st S P U K B D X R F ec en) (ht : t < N) (h0 : S t = 0) (hi : i < 6) (hr : ¬ rfA S P U K B D t i) {q : Nat} (hq : U q) (hk : K q = i) (ha : ¬ S (B q) = 2) : (∃ d, D q = d + 1 ∧ (d = t ∨ P t d)) ∨ (D q = 0 ∧ msn v t i (ec i) = nI q) := by
  have hb := nba H (H.2.1.1.1 q hq).2.2.1 ha (fun z => hr ⟨q, hq, hk, Or.inl z⟩)
  by_cases e : D q = 0
  · refine Or.inr ⟨e, rl_found H ht h0 hi hq hk ⟨Or.inr hb, fun d hd => by omega⟩⟩
  · obtain ⟨d, hd⟩ : ∃ d, D q = d + 1 := ⟨D q - 1, by omega⟩
    obtain ⟨h1, h2⟩ := H.2.1.1.2.1 q d hq hd
    exact Or.inl ⟨d, hd, nba H h1 h2 (fun z => hr ⟨q, hq, hk, Or.inr ⟨d, hd, z⟩⟩)⟩
theorem rl_write (hk5 : k < 512) (H : RlX k u v N T n st S P U K B D X R F ec en) (ht : t < N) (h0 : S t = 0) (hi : i < 6) (hr : ¬ rfA S P U K B D t i) {z w : Int32} (hw : w = msn v t i (ec i)) {s : Nat} (s32 : s < 32) (hs : ¬ U s) (hp : pfn u w = nI s) (hm : mpl v w = nI s)
    (hpl : (∃ p, U p ∧ w = nI p ∧ p / 8 = s / 8 ∧ mnr v w = nI s) ∨ ((w = -1 ∨ ∃ p, U p ∧ w = nI p ∧ ¬ p / 8 = s / 8) ∧ mnr v w = -1)) : Rl (k + 1) (cwr u t i T w z) (mw2 v t i z w) ∧ wrr u w = mwr v w := by
  have hcap := rl_cap H hi s32 hs
  obtain ⟨e1, e2, e3, e4⟩ := H.2.2.1.2.2.2 i hi
  have hct : nat (c_ct u i) = ec i := by rw [e2, nat_nI (by omega)]
  rcases msn_out H ht hi (ec i) (Nat.le_refl _) with h | ⟨p, h1, h2, h3, h4⟩
  · -- none is seen
    rw [← hw] at h
    rw [h] at hp hm hpl hw ⊢
    have hmn : mnr v (-1) = -1 := mnr_o
    refine ⟨?_, by rw [wrr_o pl_m1 hp s32, mwr_e s32 hmn hm]⟩
    rw [cwr_o pl_m1 hp s32, hct, mw2_e s32 hmn hm mw1_o (n := ec i) e3 (by omega)]
    refine rl_putE hk5 (rlx_thr (x := 0) H) ht hi hs s32 hcap (fun q hq hkq ha => ?_)
    rcases rl_known H ht h0 hi hr hq hkq ha with g | ⟨_, g⟩
    · exact g
    · rw [← hw] at g
      exact absurd g.symm (nI_m1 q (by have := (H.2.1.1.1 q hq).1; omega))
  · have p32 := (H.2.1.1.1 p h1).1
    have hv := (se_vis H ht h0 h1).mp h3
    have hD := rl_D0 H hr h1 h2 h3
    have ps : ¬ p = s := fun e => hs (e ▸ h1)
    have H' := rl_die hk5 (rlx_thr (x := 0) H) ht h0 h1 hD
    have hold : ∀ q, U q → K q = i → ¬ S (B q) = 2 → ∃ d, (fun j => if j = p then t + 1 else D j) q = d + 1 ∧ (d = t ∨ P t d) := by
      intro q hq hkq ha
      show ∃ d, (if q = p then t + 1 else D q) = d + 1 ∧ (d = t ∨ P t d)
      by_cases e : q = p
      · rw [if_pos e]; exact ⟨t, rfl, Or.inl rfl⟩
      · rw [if_neg e]
        rcases rl_known H ht h0 hi hr hq hkq ha with g | ⟨_, g⟩
        · exact g
        · rw [h4, nI_eq (by omega) (by have := (H.2.1.1.1 q hq).1; omega)] at g
          exact absurd g.symm e
    rw [← hw] at h4
    rw [h4] at hp hm hpl ⊢
    rcases hpl with ⟨p2, g1, g2, g3, g4⟩ | ⟨g1, g4⟩
    · have e : p = p2 := (nI_eq (by omega) (by have := (H.2.1.1.1 p2 g1).1; omega)).mp g2
      rw [← e] at g3
      refine ⟨?_, by rw [wrr_y p32 hp s32 g3, mwr_n s32 g4 hm]⟩
      rw [cwr_y p32 hp s32 g3, mw2_n s32 p32 g4 hm (mw1_j p32), mdi_mpu ps]
      refine rl_putN hk5 H' ht hi hs s32 h1 g3.symm h2 hv.1 (fun j hj => ?_) hold
      obtain ⟨z1, z2, z3, z4, z5⟩ := H.2.1.1.2.2.1 p j h1 hj
      refine Classical.byContradiction fun ha => ?_
      obtain ⟨d, hd, _⟩ := H.2.1.2.1 p j h1 z1 z3.symm (vis_alive H.1.2.1 ht h0 hv) ha z4
      omega
    · have e : ¬ p / 8 = s / 8 := by
        rcases g1 with g1 | ⟨p2, a, b, c⟩
        · exact absurd g1 (nI_m1 p (by omega))
        · have e : p = p2 := (nI_eq (by omega) (by have := (H.2.1.1.1 p2 a).1; omega)).mp b
          rw [e]; exact c
      refine ⟨?_, by rw [wrr_n p32 hp s32 e, mwr_e s32 g4 hm]⟩
      rw [cwr_n p32 hp s32 e, hct, mw2_e s32 g4 hm (mw1_j p32) (n := ec i) e3 (by omega), mdi_mpu ps]
      exact rl_putE hk5 H' ht hi hs s32 hcap hold
theorem op_write (hfl : l.stackTraces = false) (hk5 : k < 512) (h : Rl k u v) : OP_write l D9 K9 (Rl (k + 1)) u v := by
  intro x y z
  have h9 := h
  obtain ⟨N, T, n, st, S, P, U, K, B, D, X, R, F, ec, en, H⟩ := h9
  obtain ⟨h60, hc, hm⟩ := rl_N H
  obtain ⟨hT, htc⟩ := rl_T H
  have hca : kyP y → plP (pfn u (sv u x y)) → nat (c_ct u (nat y)) < 32 := fun a b => by
    obtain ⟨i, hi, ei⟩ := ky_at a
    obtain ⟨s, s32, hs⟩ := rl_free H b
    rw [ei, nat_nI (n := i) (by omega), (H.2.2.1.2.2.2 i hi).2.1, nat_nI (by have := (H.2.2.1.2.2.2 i hi).1; omega)]
    exact rl_cap H hi s32 hs
  have hk := fun g hg => kX4_write (L := Lg g) (D := D9) (K := K9) (g := g) hg hfl u x y z N h60 hc (rl_ctP H) T (by omega) htc (rl_hrw hk5 H) hca
  have hk2 := fun g hg => kX5_write (L := Lm g) (D := D9) (K := K9) (l := l) (g := g) hg v x y z N h60 hm (rl_rM H) (rl_enM H)
  rw [ex_and, ex_and, ex_and3] at hk
  have hw3 : wbP u x → kyP y → ∃ t i, t < N ∧ i < 6 ∧ x = nI t ∧ y = nI i := fun a b => by
    obtain ⟨t, ht, e⟩ := (rl_wb H).mp a
    obtain ⟨i, hi, ei⟩ := ky_at b
    exact ⟨t, i, ht, hi, e, ei⟩
  have hpo : ∀ t i, t < N → i < 6 → (msn v t i (ec i) = -1 ∨ ∃ p, U p ∧ msn v t i (ec i) = nI p) := fun t i ht hi =>
    (msn_out H ht hi (ec i) (Nat.le_refl _)).imp id (fun ⟨p, h1, _, _, h4⟩ => ⟨p, h1, h4⟩)
  have hC : wbP u x → (kyP y ∧ vaP z) → ((hasP (c_ac u) x ∧ (¬ rfP u (nat x) (nat y) ∧ plP (pfn u (sv u x y)))) ↔ wcP v (nat x) (nat y)) := fun a b => by
    rw [rl_act H a]
    obtain ⟨t, i, ht, hi, e, ei⟩ := hw3 a b.1
    unfold wcP
    rw [e, ei, nat_nI (n := t) (by omega), nat_nI (n := i) (by omega), (rl_sv H ht hi).1, rf_C H ht hi, rf_M H ht hi]
    rcases rl_place H (hpo t i ht hi) with ⟨g1, g2⟩ | ⟨s, s32, g1, g2, g3, g4, g5⟩
    · rw [g1, g2]
      exact ⟨fun ⟨_, _, z⟩ => absurd z pl_m1, fun ⟨_, z, _⟩ => absurd rfl z⟩
    · rw [g2]
      exact ⟨fun ⟨a1, a2, _⟩ => ⟨a1, g4, a2⟩, fun ⟨a1, _, a2⟩ => ⟨a1, a2, pl_nI s32⟩⟩
  have hB : (kyP y ∧ vaP z) ↔ (inP y 0 5 ∧ inP z 0 9999) := ⟨fun a => ⟨ky_in.mp a.1, va_in.mp a.2⟩, fun a => ⟨ky_in.mpr a.1, va_in.mpr a.2⟩⟩
  have hde : wrP v x y z ↔ (wbP u x ∧ (kyP y ∧ vaP z) ∧ (hasP (c_ac u) x ∧ (¬ rfP u (nat x) (nat y) ∧ plP (pfn u (sv u x y))))) := by
    unfold wrP
    refine ⟨fun ⟨a, b, c⟩ => ?_, fun ⟨a, b, c⟩ => ⟨(rl_tr H).mpr ((rl_wb H).mp a), hB.mp b, (hC a b).mp c⟩⟩
    have a' := (rl_wb H).mpr ((rl_tr H).mp a)
    exact ⟨a', hB.mpr b, (hC a' (hB.mpr b)).mpr c⟩
  change ∀ g hg, XI l _ _ _ _ _ _ _ _ _ (e3 (wbP u x) (kyP y ∧ vaP z) (hasP (c_ac u) x ∧ (¬ rfP u (nat x) (nat y) ∧ plP (pfn u (sv u x y)))) xIO xIA xIS) _ at hk
  by_cases hd : wrP v x y z
  · obtain ⟨hw, hy, hc9⟩ := hde.mp hd
    rw [e3_t hw hy hc9] at hk
    rw [cif_t hd, cif_t hd] at hk2
    obtain ⟨t, i, ht, hi, e, ei⟩ := hw3 hw hy.1
    have h0 : S t = 0 := (rl_ac H ht).mp (by rw [← e]; exact hc9.1)
    have hrf := hc9.2.1
    have hpf := hc9.2.2
    rw [e, ei, nat_nI (n := t) (by omega), nat_nI (n := i) (by omega)] at hrf
    rw [e, ei, (rl_sv H ht hi).1] at hpf
    have hr : ¬ rfA S P U K B D t i := fun z => hrf ((rf_C H ht hi).mpr z)
    have hend : Rl (k + 1) (cwr u (nat x) (nat y) T (sv u x y) z) (mw2 v (nat x) (nat y) z (mvs v x y)) ∧ wrr u (sv u x y) = mwr v (mvs v x y) := by
      rw [e, ei, nat_nI (n := t) (by omega), nat_nI (n := i) (by omega), (rl_sv H ht hi).1, (rl_sv H ht hi).2]
      rcases rl_place H (hpo t i ht hi) with ⟨g1, g2⟩ | ⟨s, s32, g1, g2, g3, g4, g5⟩
      · rw [g1] at hpf; exact absurd hpf pl_m1
      · exact rl_write hk5 H ht h0 hi hr rfl s32 g1 g2 g3 g5
    have hthr : m_thr (mw2 v (nat x) (nat y) z (mvs v x y)) = 0 := by
      unfold mw2 mw1
      by_cases a : mnr v (mvs v x y) = -1
      · by_cases b : mvs v x y = -1
        · simp only [cif_t a, cif_t b]; rfl
        · simp only [cif_t a, cif_f b]; rfl
      · by_cases b : mvs v x y = -1
        · simp only [cif_f a, cif_t b]; rfl
        · simp only [cif_f a, cif_f b]; rfl
    exact ⟨_, _, none, _, _, hk, hk2, (fun X h => by cases h), hthr, fun _ => hend.2, hend.1⟩
  · rw [cif_f hd, cif_f hd] at hk2
    have hthr := thr3 ((rl_wb H).trans (rl_tr H).symm) hB hC
    refine ⟨_, _, _, _, _, hk, hk2, mem3, hthr, fun hE => absurd (hde.mpr (none3 hE)) hd, ?_⟩
    cases hE : e3 (wbP u x) (kyP y ∧ vaP z) (hasP (c_ac u) x ∧ (¬ rfP u (nat x) (nat y) ∧ plP (pfn u (sv u x y)))) xIO xIA xIS with
    | none => exact absurd (hde.mpr (none3 hE)) hd
    | some Y => exact Rl_up h
end OPS5

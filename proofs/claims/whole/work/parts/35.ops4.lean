/-! ===== delete and write, on both sides ===== -/
section OPS4
variable {l : Launch} {D9 : va_G} {K9 : Nat → ClassId} {k : Nat} {u : CU} {v : MU} {N T n : Nat} {st S : Nat → Nat} {P : Nat → Nat → Prop} {U : Nat → Prop} {K B D X R : Nat → Nat} {F : Nat → Prop} {ec : Nat → Nat} {en : Nat → Nat → Nat} {t q i : Nat}
theorem rl_hrw (hk : k < 512) (H : RlX k u v N T n st S P U K B D X R F ec en) {x y : Int32} : wbP u x → kyP y → ∀ q, q < 32 → sv u x y = nI q → nat (c_r u q) < T ∧ c_r u q = nI (nat (c_r u q)) := by
  intro hw hy q q32 e
  have hT := H.2.2.2.1.1
  obtain ⟨t, ht, ex⟩ := (rl_wb H).mp hw
  obtain ⟨i, hi, ei⟩ := ky_at hy
  rw [ex, ei, (rl_sv H ht hi).1] at e
  rcases msn_out H ht hi (ec i) (Nat.le_refl _) with h | ⟨p, h1, h2, h3, h4⟩
  · rw [h] at e
    exact absurd e.symm (nI_m1 q (by omega))
  · obtain ⟨p32, -, -, rT⟩ := H.2.1.1.1 p h1
    rw [h4, nI_eq (by omega) (by omega)] at e
    rw [← e, ((H.2.2.1.1 p p32).1 h1).2.2.2.2.2.1, nat_nI (by omega)]
    exact ⟨rT, rfl⟩
theorem rl_cap (H : RlX k u v N T n st S P U K B D X R F ec en) (hi : i < 6) {s : Nat} (s32 : s < 32) (hs : ¬ U s) : ec i < 32 := by
  have hE := H.2.1.2.2
  have := fb_holes 32 (ec i + 1) (fun e => if e < ec i then en i e else s) (fun e he => by
    show (if e < ec i then en i e else s) < 32
    by_cases g : e < ec i
    · rw [if_pos g]; exact (H.2.1.1.1 _ (hE.1 i e hi g).1).1
    · rw [if_neg g]; exact s32) (fun a b hab hb => by
    show ¬ (if a < ec i then en i a else s) = (if b < ec i then en i b else s)
    rw [if_pos (show a < ec i by omega)]
    by_cases g : b < ec i
    · rw [if_pos g]
      intro z
      have := hE.2.1 i a b hi (by omega) g z
      omega
    · rw [if_neg g]
      intro z
      exact hs (z ▸ (hE.1 i a hi (by omega)).1))
  omega
theorem rl_free (H : RlX k u v N T n st S P U K B D X R F ec en) {w : Int32} (h : plP (pfn u w)) : ∃ s, s < 32 ∧ ¬ U s := by
  have z32 : ∀ a m, a + m ≤ 32 → plP (lf (c_k u) a m) → ∃ s, s < 32 ∧ ¬ U s := by
    intro a m ham hp
    rcases lf_out H m a ham with ⟨h1, h2⟩ | ⟨s, h1, h2, h3, h4⟩
    · rw [h1] at hp; exact absurd hp pl_m1
    · exact ⟨s, by omega, h3⟩
  by_cases hw : plP w
  · obtain ⟨p, p32, e⟩ := pl_at hw
    rw [e] at h
    by_cases g : lf (c_k u) (p / 8 * 8) 8 = -1
    · rw [pfn_n p32 g] at h; exact z32 0 32 (by omega) h
    · rw [pfn_y p32 g] at h; exact z32 _ 8 (by omega) h
  · rw [pfn_o hw] at h; exact z32 0 32 (by omega) h
theorem rl_place (H : RlX k u v N T n st S P U K B D X R F ec en) {w : Int32} (hw : w = -1 ∨ ∃ p, U p ∧ w = nI p) :
    (pfn u w = -1 ∧ lfm (m_us v) 0 32 = -1) ∨ ∃ s, s < 32 ∧ ¬ U s ∧ pfn u w = nI s ∧ mpl v w = nI s ∧ ¬ lfm (m_us v) 0 32 = -1 ∧ ((∃ p, U p ∧ w = nI p ∧ p / 8 = s / 8 ∧ mnr v w = nI s) ∨ ((w = -1 ∨ ∃ p, U p ∧ w = nI p ∧ ¬ p / 8 = s / 8) ∧ mnr v w = -1)) := by
  have hl := lf_lfm H 32 0 (by omega)
  rcases hw with hw | ⟨p, hp, hw⟩
  · rw [hw, pfn_o pl_m1, ← hl]
    rcases lf_out H 32 0 (by omega) with ⟨h1, h2⟩ | ⟨s, h1, h2, h3, h4⟩
    · exact Or.inl ⟨h1, h1⟩
    · refine Or.inr ⟨s, by omega, h3, h4, mpl_f mnr_o (by rw [← hl]; exact h4), by rw [h4]; exact nI_m1 s (by omega), Or.inr ⟨Or.inl rfl, mnr_o⟩⟩
  · have p32 := (H.2.1.1.1 p hp).1
    have h8 := lf_lfm H 8 (p / 8 * 8) (by omega)
    rw [hw, ← hl]
    rcases lf_out H 8 (p / 8 * 8) (by omega) with ⟨h1, h2⟩ | ⟨s, h1, h2, h3, h4⟩
    · rw [pfn_n p32 h1]
      have hm : mnr v (nI p) = -1 := by rw [mnr_j p32, ← h8]; exact h1
      rcases lf_out H 32 0 (by omega) with ⟨g1, g2⟩ | ⟨s, g1, g2, g3, g4⟩
      · exact Or.inl ⟨g1, g1⟩
      · refine Or.inr ⟨s, by omega, g3, g4, mpl_f hm (by rw [← hl]; exact g4), by rw [g4]; exact nI_m1 s (by omega), Or.inr ⟨Or.inr ⟨p, hp, rfl, fun e => g3 (h2 s (by omega) (by omega))⟩, hm⟩⟩
    · have hm : mnr v (nI p) = nI s := by rw [mnr_j p32, ← h8]; exact h4
      refine Or.inr ⟨s, by omega, h3, ?_, mpl_n (by omega) hm, ?_, Or.inl ⟨p, hp, rfl, by omega, hm⟩⟩
      · rw [pfn_y p32 (by rw [h4]; exact nI_m1 s (by omega))]; exact h4
      · rcases lf_out H 32 0 (by omega) with ⟨g1, g2⟩ | ⟨s2, g1, g2, g3, g4⟩
        · exact absurd (g2 s (by omega) (by omega)) h3
        · rw [g4]; exact nI_m1 s2 (by omega)
theorem mdi_mpu {p s : Nat} {z kk : Int32} (h : ¬ p = s) : mdi (mpu v t s kk z) t p = mpu (mdi v t p) t s kk z := by
  have e1 : upd (upd (m_d v) s (-1)) p (nI t) = upd (upd (m_d v) p (nI t)) s (-1) := by
    funext j; unfold upd
    by_cases a : j = p
    · rw [if_pos a, if_neg (fun b => h (a.symm.trans b)), if_pos a]
    · rw [if_neg a]
      by_cases b : j = s
      · rw [if_pos b, if_pos b]
      · rw [if_neg b, if_neg b, if_neg a]
  have e2 : upd (upd (m_mp v) (s / 8) 0) (p / 8) 0 = upd (upd (m_mp v) (p / 8) 0) (s / 8) 0 := by
    funext j; unfold upd
    by_cases a : j = p / 8
    · rw [if_pos a]
      by_cases b : j = s / 8
      · rw [if_pos b]
      · rw [if_neg b, if_pos a]
    · rw [if_neg a]
      by_cases b : j = s / 8
      · rw [if_pos b, if_pos b]
      · rw [if_neg b, if_neg b, if_neg a]
  have e3 : mdi (mpu v t s kk z) t p = ms_mp (ms_d (mpu (mdi v t p) t s kk z) (upd (upd (m_d v) s (-1)) p (nI t))) (upd (upd (m_mp v) (s / 8) 0) (p / 8) 0) := rfl
  rw [e3, e1, e2]
  rfl
theorem op_delete (hfl : l.stackTraces = false) (hk5 : k < 512) (h : Rl k u v) : OP_delete l D9 K9 (Rl (k + 1)) u v := by
  intro x y
  have h9 := h
  obtain ⟨N, T, n, st, S, P, U, K, B, D, X, R, F, ec, en, H⟩ := h9
  obtain ⟨h60, hc, hm⟩ := rl_N H
  obtain ⟨hT, htc⟩ := rl_T H
  have hk := fun g hg => kX4_delete (L := Lg g) (D := D9) (K := K9) (g := g) hg hfl u x y N h60 hc (rl_ctP H) T (by omega) htc (rl_hrw hk5 H)
  have hk2 := fun g hg => kX5_delete (L := Lm g) (D := D9) (K := K9) (l := l) (g := g) hg v x y N h60 hm (rl_rM H) (rl_enM H)
  rw [ex_and] at hk
  have hw3 : wbP u x → kyP y → ∃ t i, t < N ∧ i < 6 ∧ x = nI t ∧ y = nI i := fun a b => by
    obtain ⟨t, ht, e⟩ := (rl_wb H).mp a
    obtain ⟨i, hi, ei⟩ := ky_at b
    exact ⟨t, i, ht, hi, e, ei⟩
  have hpl : ∀ t i, t < N → i < 6 → (plP (msn v t i (ec i)) ↔ ¬ msn v t i (ec i) = -1) := fun t i ht hi => by
    rcases msn_out H ht hi (ec i) (Nat.le_refl _) with h | ⟨p, h1, h2, h3, h4⟩
    · rw [h]; exact ⟨fun z => absurd z pl_m1, fun z => absurd rfl z⟩
    · have p32 := (H.2.1.1.1 p h1).1
      rw [h4]; exact ⟨fun _ => nI_m1 p (by omega), fun _ => pl_nI p32⟩
  have hC : wbP u x → kyP y → ((hasP (c_ac u) x ∧ (plP (sv u x y) → ¬ rfP u (nat x) (nat y))) ↔ (m_sta v (nat x) = 0 ∧ ¬ (¬ mvs v x y = -1 ∧ rfM v (nat x) (nat y) 32))) := fun a b => by
    rw [rl_act H a]
    obtain ⟨t, i, ht, hi, e, ei⟩ := hw3 a b
    rw [e, ei, nat_nI (n := t) (by omega), nat_nI (n := i) (by omega), (rl_sv H ht hi).1, (rl_sv H ht hi).2, hpl t i ht hi, rf_C H ht hi, rf_M H ht hi]
    exact ⟨fun ⟨a1, a2⟩ => ⟨a1, fun ⟨b1, b2⟩ => a2 b1 b2⟩, fun ⟨a1, a2⟩ => ⟨a1, fun b1 b2 => a2 ⟨b1, b2⟩⟩⟩
  have hde : deP v x y (mvs v x y) ↔ (wbP u x ∧ kyP y ∧ (hasP (c_ac u) x ∧ (plP (sv u x y) → ¬ rfP u (nat x) (nat y)))) := by
    unfold deP
    refine ⟨fun ⟨a, b, c⟩ => ?_, fun ⟨a, b, c⟩ => ⟨(rl_tr H).mpr ((rl_wb H).mp a), ky_in.mp b, (hC a b).mp c⟩⟩
    have a' := (rl_wb H).mpr ((rl_tr H).mp a)
    exact ⟨a', ky_in.mpr b, (hC a' (ky_in.mpr b)).mpr c⟩
  by_cases hd : deP v x y (mvs v x y)
  · obtain ⟨hw, hy, hc9⟩ := hde.mp hd
    have hE : e3 (wbP u x) (kyP y) (hasP (c_ac u) x ∧ (plP (sv u x y) → ¬ rfP u (nat x) (nat y))) xIO xIA xIS = none := e3_t hw hy hc9
    rw [cif_t hd] at hk2
    change ∀ g hg, XI l _ _ _ _ _ _ _ _ _ (e3 (wbP u x) (kyP y) (hasP (c_ac u) x ∧ (plP (sv u x y) → ¬ rfP u (nat x) (nat y))) xIO xIA xIS) _ at hk
    rw [hE] at hk
    refine ⟨_, _, none, _, _, hk, hk2, (fun X h => by cases h), ?_, fun _ => ?_, ?_⟩
    · by_cases g : mvs v x y = -1
      · rw [cif_t g]; rfl
      · rw [cif_f g]; rfl
    · obtain ⟨t, i, ht, hi, e, ei⟩ := hw3 hw hy
      refine fb_c ?_
      rw [e, ei, (rl_sv H ht hi).1, hpl t i ht hi, ← (rl_sv H ht hi).2, ← e, ← ei]
      exact ⟨fun z => ⟨hd, z⟩, fun z => z.2⟩
    · obtain ⟨t, i, ht, hi, e, ei⟩ := hw3 hw hy
      have h0 : S t = 0 := (rl_ac H ht).mp (by rw [← e]; exact hc9.1)
      have hrf := hc9.2
      show Rl (k + 1) (wu1 u (nat x) (sv u x y)) _
      rw [e, ei, nat_nI (n := t) (by omega)] at *
      rw [nat_nI (n := i) (by omega)] at hrf
      rw [(rl_sv H ht hi).1] at hrf ⊢
      rw [(rl_sv H ht hi).2]
      rcases msn_out H ht hi (ec i) (Nat.le_refl _) with h | ⟨p, h1, h2, h3, h4⟩
      · rw [h, wu1_n pl_m1, cif_t rfl]; exact Rl_up (rlx_rl H)
      · have p32 := (H.2.1.1.1 p h1).1
        rw [h4] at hrf ⊢
        rw [wu1_y p32, cif_f (nI_m1 p (by omega)), nat_nI (by omega)]
        have hr : ¬ rfA S P U K B D t i := fun z => hrf (pl_nI p32) ((rf_C H ht hi).mpr z)
        exact rlx_rl (rlx_up (rl_die hk5 (rlx_thr (x := 0) H) ht h0 h1 (rl_D0 H hr h1 h2 h3)))
  · rw [cif_f hd] at hk2
    have hthr := thr3 ((rl_wb H).trans (rl_tr H).symm) (ky_in (y := y)) hC
    refine ⟨_, _, e3 (wbP u x) (kyP y) (hasP (c_ac u) x ∧ (plP (sv u x y) → ¬ rfP u (nat x) (nat y))) xIO xIA xIS, _, _, hk, hk2, mem3, hthr, fun hE => absurd (hde.mpr (none3 hE)) hd, ?_⟩
    cases hE : e3 (wbP u x) (kyP y) (hasP (c_ac u) x ∧ (plP (sv u x y) → ¬ rfP u (nat x) (nat y))) xIO xIA xIS with
    | none => exact absurd (hde.mpr (none3 hE)) hd
    | some Y => exact Rl_up h
end OPS4

/-! ===== delete and write, on both sides ===== -/
section OPS4
variable {l : Launch} {D9 : va_G} {K9 : Nat → ClassId} {k : Nat} {u : CU} {v : MU} {N T n : Nat} {st S : Nat → Nat} {P : Nat → Nat → Prop} {U : Nat → Prop} {K B D X R : Nat → Nat} {F : Nat → Prop} {ec : Nat → Nat} {en : Nat → Nat → Nat} {t q i : Nat}
theorem rl_hrw (hk : k < 512) (H : RlX k u v N T n st S P U K B D X R F ec en) {x y : Int32} : wbP u x → kyP y → ∀ q, q < 32 → sv u x y = nI q → nat (c_r u q) < T ∧ c_r u q = nI (nat (c_r u q)) := by
  intro hw hy q q32 e
  have hT := H.2.2.2.1.1
  obtain ⟨t, ht, ex⟩ := (rl_wb H).mp hw
  obtain ⟨i, hi, ei⟩ := ky_at hy
  rw [ex, ei, (rl_sv H ht hi).1] at e
  rcases msn_out H ht hi (ec i) (Nat.le_refl _) with h | ⟨p, h1, h2, h3, h4⟩
  · rw [h] at e
    exact absurd e.symm (nI_m1 q (by omega))
  · obtain ⟨p32, -, -, rT⟩ := H.2.1.1.1 p h1
    rw [h4, nI_eq (by omega) (by omega)] at e
    rw [← e, ((H.2.2.1.1 p p32).1 h1).2.2.2.2.2.1, nat_nI (by omega)]
    exact ⟨rT, rfl⟩
theorem rl_cap (H : RlX k u v N T n st S P U K B D X R F ec en) (hi : i < 6) {s : Nat} (s32 : s < 32) (hs : ¬ U s) : ec i < 32 := by
  have hE := H.2.1.2.2
  have := fb_holes 32 (ec i + 1) (fun e => if e < ec i then en i e else s) (fun e he => by
    show (if e < ec i then en i e else s) < 32
    by_cases g : e < ec i
    · rw [if_pos g]; exact (H.2.1.1.1 _ (hE.1 i e hi g).1).1
    · rw [if_neg g]; exact s32) (fun a b hab hb => by
    show ¬ (if a < ec i then en i a else s) = (if b < ec i then en i b else s)
    rw [if_pos (show a < ec i by omega)]
    by_cases g : b < ec i
    · rw [if_pos g]
      intro z
      have := hE.2.1 i a b hi (by omega) g z
      omega
    · rw [if_neg g]
      intro z
      exact hs (z ▸ (hE.1 i a hi (by omega)).1))
  omega
theorem rl_free (H : RlX k u v N T n st S P U K B D X R F ec en) {w : Int32} (h : plP (pfn u w)) : ∃ s, s < 32 ∧ ¬ U s := by
  have z32 : ∀ a m, a + m ≤ 32 → plP (lf (c_k u) a m) → ∃ s, s < 32 ∧ ¬ U s := by
    intro a m ham hp
    rcases lf_out H m a ham with ⟨h1, h2⟩ | ⟨s, h1, h2, h3, h4⟩
    · rw [h1] at hp; exact absurd hp pl_m1
    · exact ⟨s, by omega, h3⟩
  by_cases hw : plP w
  · obtain ⟨p, p32, e⟩ := pl_at hw
    rw [e] at h
    by_cases g : lf (c_k u) (p / 8 * 8) 8 = -1
    · rw [pfn_n p32 g] at h; exact z32 0 32 (by omega) h
    · rw [pfn_y p32 g] at h; exact z32 _ 8 (by omega) h
  · rw [pfn_o hw] at h; exact z32 0 32 (by omega) h
theorem rl_place (H : RlX k u v N T n st S P U K B D X R F ec en) {w : Int32} (hw : w = -1 ∨ ∃ p, U p ∧ w = nI p) :
    (pfn u w = -1 ∧ lfm (m_us v) 0 32 = -1) ∨ ∃ s, s < 32 ∧ ¬ U s ∧ pfn u w = nI s ∧ mpl v w = nI s ∧ ¬ lfm (m_us v) 0 32 = -1 ∧ ((∃ p, U p ∧ w = nI p ∧ p / 8 = s / 8 ∧ mnr v w = nI s) ∨ ((w = -1 ∨ ∃ p, U p ∧ w = nI p ∧ ¬ p / 8 = s / 8) ∧ mnr v w = -1)) := by
  have hl := lf_lfm H 32 0 (by omega)
  rcases hw with hw | ⟨p, hp, hw⟩
  · rw [hw, pfn_o pl_m1, ← hl]
    rcases lf_out H 32 0 (by omega) with ⟨h1, h2⟩ | ⟨s, h1, h2, h3, h4⟩
    · exact Or.inl ⟨h1, h1⟩
    · refine Or.inr ⟨s, by omega, h3, h4, mpl_f mnr_o (by rw [← hl]; exact h4), by rw [h4]; exact nI_m1 s (by omega), Or.inr ⟨Or.inl rfl, mnr_o⟩⟩
  · have p32 := (H.2.1.1.1 p hp).1
    have h8 := lf_lfm H 8 (p / 8 * 8) (by omega)
    rw [hw, ← hl]
    rcases lf_out H 8 (p / 8 * 8) (by omega) with ⟨h1, h2⟩ | ⟨s, h1, h2, h3, h4⟩
    · rw [pfn_n p32 h1]
      have hm : mnr v (nI p) = -1 := by rw [mnr_j p32, ← h8]; exact h1
      rcases lf_out H 32 0 (by omega) with ⟨g1, g2⟩ | ⟨s, g1, g2, g3, g4⟩
      · exact Or.inl ⟨g1, g1⟩
      · refine Or.inr ⟨s, by omega, g3, g4, mpl_f hm (by rw [← hl]; exact g4), by rw [g4]; exact nI_m1 s (by omega), Or.inr ⟨Or.inr ⟨p, hp, rfl, fun e => g3 (h2 s (by omega) (by omega))⟩, hm⟩⟩
    · have hm : mnr v (nI p) = nI s := by rw [mnr_j p32, ← h8]; exact h4
      refine Or.inr ⟨s, by omega, h3, ?_, mpl_n (by omega) hm, ?_, Or.inl ⟨p, hp, rfl, by omega, hm⟩⟩
      · rw [pfn_y p32 (by rw [h4]; exact nI_m1 s (by omega))]; exact h4
      · rcases lf_out H 32 0 (by omega) with ⟨g1, g2⟩ | ⟨s2, g1, g2, g3, g4⟩
        · exact absurd (g2 s (by omega) (by omega)) h3
        · rw [g4]; exact nI_m1 s2 (by omega)
theorem mdi_mpu {p s : Nat} {z kk : Int32} (h : ¬ p = s) : mdi (mpu v t s kk z) t p = mpu (mdi v t p) t s kk z := by
  have e1 : upd (upd (m_d v) s (-1)) p (nI t) = upd (upd (m_d v) p (nI t)) s (-1) := by
    funext j; unfold upd
    by_cases a : j = p
    · rw [if_pos a, if_neg (fun b => h (a.symm.trans b)), if_pos a]
    · rw [if_neg a]
      by_cases b : j = s
      · rw [if_pos b, if_pos b]
      · rw [if_neg b, if_neg b, if_neg a]
  have e2 : upd (upd (m_mp v) (s / 8) 0) (p / 8) 0 = upd (upd (m_mp v) (p / 8) 0) (s / 8) 0 := by
    funext j; unfold upd
    by_cases a : j = p / 8
    · rw [if_pos a]
      by_cases b : j = s / 8
      · rw [if_pos b]
      · rw [if_neg b, if_pos a]
    · rw [if_neg a]
      by_cases b : j = s / 8
      · rw [if_pos b, if_pos b]
      · rw [if_neg b, if_neg b, if_neg a]
  have e3 : mdi (mpu v t s kk z) t p = ms_mp (ms_d (mpu (mdi v t p) t s kk z) (upd (upd (m_d v) s (-1)) p (nI t))) (upd (upd (m_mp v) (s / 8) 0) (p / 8) 0) := rfl
  rw [e3, e1, e2]
  rfl
end OPS4

/-! ===== write, on both sides ===== -/
section OPS5
variable {l : Launch} {D9 : va_G} {K9 : Nat → ClassId} {k : Nat} {u : CU} {v : MU} {N T n : Nat} {st S : Nat → Nat} {P : Nat → Nat → Prop} {U : Nat → Prop} {K B D X R : Nat → Nat} {F : Nat → Prop} {ec : Nat → Nat} {en : Nat → Nat → Nat} {t q i : Nat}
/-- where writing isn't refused, the versions of the key are known, and those without a death are the one that is seen -/
theorem rl_known (H : RlX k u v N T n st S P U K B D X R F ec en) (ht : t < N) (h0 : S t = 0) (hi : i < 6) (hr : ¬ rfA S P U K B D t i) {q : Nat} (hq : U q) (hk : K q = i) (ha : ¬ S (B q) = 2) : (∃ d, D q = d + 1 ∧ (d = t ∨ P t d)) ∨ (D q = 0 ∧ msn v t i (ec i) = nI q) := by
  have hb := nba H (H.2.1.1.1 q hq).2.2.1 ha (fun z => hr ⟨q, hq, hk, Or.inl z⟩)
  by_cases e : D q = 0
  · refine Or.inr ⟨e, rl_found H ht h0 hi hq hk ⟨Or.inr hb, fun d hd => by omega⟩⟩
  · obtain ⟨d, hd⟩ : ∃ d, D q = d + 1 := ⟨D q - 1, by omega⟩
    obtain ⟨h1, h2⟩ := H.2.1.1.2.1 q d hq hd
    exact Or.inl ⟨d, hd, nba H h1 h2 (fun z => hr ⟨q, hq, hk, Or.inr ⟨d, hd, z⟩⟩)⟩
theorem rl_write (hk5 : k < 512) (H : RlX k u v N T n st S P U K B D X R F ec en) (ht : t < N) (h0 : S t = 0) (hi : i < 6) (hr : ¬ rfA S P U K B D t i) {z w : Int32} (hw : w = msn v t i (ec i)) {s : Nat} (s32 : s < 32) (hs : ¬ U s) (hp : pfn u w = nI s) (hm : mpl v w = nI s)
    (hpl : (∃ p, U p ∧ w = nI p ∧ p / 8 = s / 8 ∧ mnr v w = nI s) ∨ ((w = -1 ∨ ∃ p, U p ∧ w = nI p ∧ ¬ p / 8 = s / 8) ∧ mnr v w = -1)) : (∃ (D1 X' ec' : Nat → Nat) (en' : Nat → Nat → Nat), RlX (k + 1) (cwr u t i T w z) (mw2 v t i z w) N (T + 1) n st S P (fun j => U j ∨ j = s) (fun j => if j = s then i else K j) (fun j => if j = s then t else B j) (fun j => if j = s then 0 else D1 j) X' (fun j => if j = s then T else R j) (fun j => F j ∧ ¬ j = s) ec' en' ∧ X' s = 0 ∧ (∀ j, D1 j = D j ∨ ((U j ∧ K j = i ∧ seA P B D F t j) ∧ D1 j = t + 1 ∧ w = nI j))) ∧ wrr u w = mwr v w := by
  have hcap := rl_cap H hi s32 hs
  obtain ⟨e1, e2, e3, e4⟩ := H.2.2.1.2.2.2 i hi
  have hct : nat (c_ct u i) = ec i := by rw [e2, nat_nI (by omega)]
  rcases msn_out H ht hi (ec i) (Nat.le_refl _) with h | ⟨p, h1, h2, h3, h4⟩
  · -- none is seen
    rw [← hw] at h
    rw [h] at hp hm hpl hw ⊢
    have hmn : mnr v (-1) = -1 := mnr_o
    refine ⟨?_, by rw [wrr_o pl_m1 hp s32, mwr_e s32 hmn hm]⟩
    rw [cwr_o pl_m1 hp s32, hct, mw2_e s32 hmn hm mw1_o (n := ec i) e3 (by omega)]
    refine (rl_putE hk5 (rlx_thr (x := 0) H) ht hi hs s32 hcap (fun q hq hkq ha => ?_)).elim (fun X' h9 => h9.elim (fun ec' h9 => h9.elim (fun en' h9 => ⟨D, X', ec', en', h9.1, h9.2, fun j => Or.inl rfl⟩)))
    rcases rl_known H ht h0 hi hr hq hkq ha with g | ⟨_, g⟩
    · exact g
    · rw [← hw] at g
      exact absurd g.symm (nI_m1 q (by have := (H.2.1.1.1 q hq).1; omega))
  · have p32 := (H.2.1.1.1 p h1).1
    have hv := (se_vis H ht h0 h1).mp h3
    have hD := rl_D0 H hr h1 h2 h3
    have ps : ¬ p = s := fun e => hs (e ▸ h1)
    have H' := rl_die hk5 (rlx_thr (x := 0) H) ht h0 h1 hD
    have hold : ∀ q, U q → K q = i → ¬ S (B q) = 2 → ∃ d, (fun j => if j = p then t + 1 else D j) q = d + 1 ∧ (d = t ∨ P t d) := by
      intro q hq hkq ha
      show ∃ d, (if q = p then t + 1 else D q) = d + 1 ∧ (d = t ∨ P t d)
      by_cases e : q = p
      · rw [if_pos e]; exact ⟨t, rfl, Or.inl rfl⟩
      · rw [if_neg e]
        rcases rl_known H ht h0 hi hr hq hkq ha with g | ⟨_, g⟩
        · exact g
        · rw [h4, nI_eq (by omega) (by have := (H.2.1.1.1 q hq).1; omega)] at g
          exact absurd g.symm e
    have hD1 : ∀ j, (fun j => if j = p then t + 1 else D j) j = D j ∨ ((U j ∧ K j = i ∧ seA P B D F t j) ∧ (fun j => if j = p then t + 1 else D j) j = t + 1 ∧ nI p = nI j) := by
      intro j
      by_cases e : j = p
      · rw [e]; exact Or.inr ⟨⟨h1, h2, h3⟩, if_pos rfl, rfl⟩
      · exact Or.inl (if_neg e)
    rw [← hw] at h4
    rw [h4] at hp hm hpl ⊢
    rcases hpl with ⟨p2, g1, g2, g3, g4⟩ | ⟨g1, g4⟩
    · have e : p = p2 := (nI_eq (by omega) (by have := (H.2.1.1.1 p2 g1).1; omega)).mp g2
      rw [← e] at g3
      refine ⟨?_, by rw [wrr_y p32 hp s32 g3, mwr_n s32 g4 hm]⟩
      rw [cwr_y p32 hp s32 g3, mw2_n s32 p32 g4 hm (mw1_j p32), mdi_mpu ps]
      refine (rl_putN hk5 H' ht hi hs s32 h1 g3.symm h2 hv.1 (fun j hj => ?_) hold).elim (fun X' h9 => h9.elim (fun ec' h9 => h9.elim (fun en' h9 => ⟨_, X', ec', en', h9.1, h9.2, hD1⟩)))
      obtain ⟨z1, z2, z3, z4, z5⟩ := H.2.1.1.2.2.1 p j h1 hj
      refine Classical.byContradiction fun ha => ?_
      obtain ⟨d, hd, _⟩ := H.2.1.2.1 p j h1 z1 z3.symm (vis_alive H.1.2.1 ht h0 hv) ha z4
      omega
    · have e : ¬ p / 8 = s / 8 := by
        rcases g1 with g1 | ⟨p2, a, b, c⟩
        · exact absurd g1 (nI_m1 p (by omega))
        · have e : p = p2 := (nI_eq (by omega) (by have := (H.2.1.1.1 p2 a).1; omega)).mp b
          rw [e]; exact c
      refine ⟨?_, by rw [wrr_n p32 hp s32 e, mwr_e s32 g4 hm]⟩
      rw [cwr_n p32 hp s32 e, hct, mw2_e s32 g4 hm (mw1_j p32) (n := ec i) e3 (by omega), mdi_mpu ps]
      exact (rl_putE hk5 H' ht hi hs s32 hcap hold).elim (fun X' h9 => h9.elim (fun ec' h9 => h9.elim (fun en' h9 => ⟨_, X', ec', en', h9.1, h9.2, hD1⟩)))
end OPS5

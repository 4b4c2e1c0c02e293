/-! ===== clean, on both sides ===== -/
section CLEAN2
variable {l : Launch} {D9 : va_G} {K9 : Nat → ClassId} {k N T n : Nat} {u : CU} {v : MU} {st S : Nat → Nat} {P : Nat → Nat → Prop} {U : Nat → Prop} {K B D X R : Nat → Nat} {F : Nat → Prop} {ec : Nat → Nat} {en : Nat → Nat → Nat} {q : Nat}
/-- the first m slots of a page cleaned -/
theorem rl_cln (H : RlX k u v N T n st S P U K B D X R F ec en) {a : Nat} (ha : a < 4) : ∀ m, m ≤ 8 → ∃ (U' : Nat → Prop) (X' ec' : Nat → Nat) (en' : Nat → Nat → Nat), RlX k (cln u (stl u N) a m).1 (clM v N a m).1 N T n st S P U' K B D X' R F ec' en' ∧ stl (cln u (stl u N) a m).1 N = stl u N ∧ (cln u (stl u N) a m).2 = (clM v N a m).2 := by
  intro m
  induction m with
  | zero => intro _; exact ⟨U, X, ec, en, H, rfl, rfl⟩
  | succ m ih =>
    intro hm
    obtain ⟨U', X', ec', en', H', h1, h2⟩ := ih (by omega)
    have e8 : a * 8 + m = 8 * a + m := by omega
    have q32 : a * 8 + m < 32 := by omega
    have gC := cg_C H' q32
    have gM := cg_M H' q32
    rw [h1] at gC
    by_cases hc : cgA N S P U' B D (a * 8 + m)
    · obtain ⟨ec2, en2, H2⟩ := rl_go H' hc
      have gM' : cgM (clM v N a m).1 (8 * a + m) N := by rw [← e8]; exact gM.mpr hc
      refine ⟨fun j => U' j ∧ ¬ j = a * 8 + m, fun j => if X' j = a * 8 + m + 1 then X' (a * 8 + m) else X' j, ec2, en2, ?_, ?_, ?_⟩
      · rw [cln_y rfl (gC.mpr hc), clM_y rfl gM', ← e8]
        exact H2
      · rw [cln_y rfl (gC.mpr hc)]
        show stl (cto _ _ _ _) N = _
        rw [stl_cto]; exact h1
      · rw [cln_y rfl (gC.mpr hc), clM_y rfl gM']
        show _ + 1 = _ + 1
        rw [h2]
    · have gC' := fun z => hc (gC.mp z)
      have gM' : ¬ cgM (clM v N a m).1 (8 * a + m) N := fun z => hc (gM.mp (by rw [e8]; exact z))
      refine ⟨U', X', ec', en', ?_, ?_, ?_⟩
      · rw [cln_n rfl gC', clM_n rfl gM']; exact H'
      · rw [cln_n rfl gC']; exact h1
      · rw [cln_n rfl gC', clM_n rfl gM']; exact h2
theorem frM_in {N a : Nat} : ∀ m i, i < m → frM v N a m (8 * a + i) = fb (fzM v N (8 * a + i)) := by
  intro m
  induction m with
  | zero => intro i hi; omega
  | succ m ih =>
    intro i hi
    rw [frM]
    unfold upd
    by_cases e : i = m
    · rw [if_pos (by omega), e]
    · rw [if_neg (by omega)]; exact ih i (by omega)
theorem frM_out {N a j : Nat} (hj : j < 8 * a ∨ 8 * a + 8 ≤ j) : ∀ m, m ≤ 8 → frM v N a m j = m_fr v j := by
  intro m
  induction m with
  | zero => intro _; rfl
  | succ m ih =>
    intro hm
    rw [frM]
    unfold upd
    rw [if_neg (by omega)]
    exact ih (by omega)
/-- old births frozen -/
theorem rl_frz (H : RlX k u v N T n st S P U K B D X R F ec en) {a : Nat} (ha : a < 4) {S9 : Int64} (h9 : S9 = stl u N) : ∃ F' : Nat → Prop, RlX k (s_f u (fzn u S9 (a * 8) (a * 8 + 8))) (ms_fr v (frM v N a 8)) N T n st S P U K B D X R F' ec en := by
  have H9 := H
  obtain ⟨⟨hB9, hT, hC, hM⟩, ⟨hS, hO, hE⟩, ⟨sC, sM, rg, eR⟩, ⟨hTk, tR⟩, mp⟩ := H
  have h60 := hB9.1
  let F' : Nat → Prop := fun j => F j ∨ (j / 8 = a ∧ ¬ nI (agA n st (B j)) < c_fz u ∧ past N S P (B j))
  have f1 : ∀ j, F' j ↔ F j ∨ (j / 8 = a ∧ ¬ nI (agA n st (B j)) < c_fz u ∧ past N S P (B j)) := fun j => Iff.rfl
  clear_value F'
  have hfz : ∀ j, j < 32 → (U j → (fzP u S9 j ↔ ¬ nI (agA n st (B j)) < c_fz u ∧ past N S P (B j))) ∧ (¬ U j → ¬ fzP u S9 j) := by
    intro j j32
    refine ⟨fun hj => ?_, fun hj z => hj ((us_C H9 j32).mp z.1)⟩
    obtain ⟨a1, a2, a3, a4, a5, a6, a7, a8⟩ := (sC j j32).1 hj
    obtain ⟨-, k6, bN, rT⟩ := hS.1 j hj
    unfold fzP
    rw [a7, a2, h9, age_C H9 bN, stl_C H9 bN]
    exact ⟨fun z => z.2, fun z => ⟨(us_C H9 j32).mpr hj, z⟩⟩
  have sC' : SlC (c_k u) (c_b u) (fzn u S9 (a * 8) (a * 8 + 8)) (c_d u) (c_n u) (c_r u) (c_bs u) (c_ds u) st U K B D X R F' := by
    intro j j32
    refine ⟨fun hj => ?_, fun hj => ?_⟩
    · obtain ⟨a1, a2, a3, a4, a5, a6, a7, a8⟩ := (sC j j32).1 hj
      refine ⟨a1, a2, ?_, a4, a5, a6, a7, a8⟩
      unfold fzn
      by_cases g : a * 8 ≤ j ∧ j < a * 8 + 8 ∧ fzP u S9 j
      · have e : (@ite _ (a * 8 ≤ j ∧ j < a * 8 + 8 ∧ fzP u S9 j) (Classical.propDecidable _) (1 : Int32) (c_f u j)) = 1 := if_pos g
        rw [e, f1]
        exact ⟨fun z => absurd z (by decide), fun z => absurd (Or.inr ⟨by omega, ((hfz j j32).1 hj).mp g.2.2⟩) z⟩
      · have e : (@ite _ (a * 8 ≤ j ∧ j < a * 8 + 8 ∧ fzP u S9 j) (Classical.propDecidable _) (1 : Int32) (c_f u j)) = c_f u j := if_neg g
        rw [e, a3, f1]
        refine ⟨fun z y => ?_, fun z y => z (Or.inl y)⟩
        rcases y with y | ⟨y1, y2⟩
        · exact z y
        · exact g ⟨by omega, by omega, ((hfz j j32).1 hj).mpr y2⟩
    · obtain ⟨a1, a2, a3, a4, a5⟩ := (sC j j32).2 hj
      refine ⟨a1, a2, ?_, a4, a5⟩
      unfold fzn
      exact (if_neg (fun z => (hfz j j32).2 hj z.2.2)).trans a3
  have sM' : SlM (m_us v) (m_k v) (m_v v) (m_b v) (frM v N a 8) (m_d v) (m_n v) (c_v u) U K B D X F' := by
    intro j j32
    refine ⟨fun hj => ?_, (sM j j32).2⟩
    obtain ⟨b1, b2, b3, b4, b5, b6, b7⟩ := (sM j j32).1 hj
    obtain ⟨-, k6, bN, rT⟩ := hS.1 j hj
    refine ⟨b1, b2, b3, b4, ?_, b6, b7⟩
    by_cases g : j / 8 = a
    · have e : j = 8 * a + j % 8 := by omega
      rw [e, frM_in 8 (j % 8) (by omega), ← e, fb_z, f1]
      unfold fzM
      rw [b4, b5, nat_nI (by omega), age_M H9 bN, pa_M H9 bN, ← mp.1]
      refine ⟨fun z y => ?_, fun z y => ?_⟩
      · rcases y with y | y
        · exact z (Or.inl (fun x => x y))
        · exact z (Or.inr ⟨b1, y.2⟩)
      · rcases y with y | y
        · exact z (Or.inl (Classical.byContradiction y))
        · exact z (Or.inr ⟨g, y.2⟩)
    · rw [frM_out (by omega) 8 (Nat.le_refl _), b5, f1]
      refine ⟨fun z y => ?_, fun z y => z (Or.inl y)⟩
      rcases y with y | y
      · exact z y
      · exact g y.1
  exact ⟨F', ⟨hB9, hT, hC, hM⟩, ⟨⟨hS.1, hS.2.1, hS.2.2.1, hS.2.2.2.1, fun j hj hf => by
    rcases (f1 j).mp hf with z | z
    · exact hS.2.2.2.2 j hj z
    · exact z.2.2⟩, hO, hE⟩, ⟨sC', sM', rg, eR⟩, ⟨hTk, tR⟩, mp⟩
theorem rl_clean (H : RlX k u v N T n st S P U K B D X R F ec en) {a : Nat} (ha : a < 4) : Rl (k + 1) (ccl u N a) (mcl v N a) ∧ nI (cln u (stl u N) a 8).2 = nI (clM (ms_thr v 0) N a 8).2 := by
  obtain ⟨U', X', ec', en', H1, h1, h2⟩ := rl_cln (rlx_thr (x := 0) H) ha 8 (Nat.le_refl _)
  obtain ⟨F', H2⟩ := rl_frz H1 ha h1.symm
  have wC9 := wh_C H2 ha
  have wM9 := wh_M H2 ha
  refine ⟨?_, by rw [h2]⟩
  obtain ⟨g1, g2, g3, ⟨g4, g5⟩, g6⟩ := H2
  refine ⟨N, T, n, st, S, P, U', K, B, D, X', R, F', ec', en', g1, g2, g3, ⟨by omega, g5⟩, g6.1, fun j hj => ?_⟩
  have hm : MpR (upd (c_mp (cln u (stl u N) a 8).1) a (fb (whA N S P U' B D F' a))) (upd (m_mp (clM (ms_thr v 0) N a 8).1) a (fb (whA N S P U' B D F' a))) 0 0 := by
    refine ⟨rfl, fun i hi => ?_⟩
    unfold upd
    by_cases e : i = a
    · rw [if_pos e, if_pos e]
      refine ⟨rfl, ?_⟩
      by_cases y : whA N S P U' B D F' a
      · exact Or.inr (fb_t y)
      · exact Or.inl (fb_f y)
    · rw [if_neg e, if_neg e]; exact g6.2 i hi
  have z := hm.2 j hj
  have zc : c_mp (ccl u N a) = upd (c_mp (cln u (stl u N) a 8).1) a (fb (whA N S P U' B D F' a)) := by
    rw [← fb_c wC9]; rfl
  have zm : m_mp (mcl v N a) = upd (m_mp (clM (ms_thr v 0) N a 8).1) a (fb (whA N S P U' B D F' a)) := by
    rw [← fb_c wM9]; rfl
  rw [zc, zm]; exact z
theorem op_clean (hfl : l.stackTraces = false) (h : Rl k u v) : OP_clean l D9 K9 (Rl (k + 1)) u v := by
  intro x
  have h9 := h
  obtain ⟨N, T, n, st, S, P, U, K, B, D, X, R, F, ec, en, H⟩ := h9
  obtain ⟨h60, hc, hm⟩ := rl_N H
  have ok1 : ∀ a i, a < 4 → i < 8 → cgP (cln u (stl u N) a i).1 (a * 8 + i) (stl u N) → okT (cln u (stl u N) a i).1 (a * 8 + i) := by
    intro a i ha hi hg
    obtain ⟨U', X', ec', en', H1, h1, h2⟩ := rl_cln (rlx_thr (x := 0) H) ha i (by omega)
    have q32 : a * 8 + i < 32 := by omega
    have gC := cg_C H1 q32
    rw [h1] at gC
    have hq := (gC.mp hg).1
    obtain ⟨-, k6, bN, rT⟩ := H1.2.1.1.1 _ hq
    have e := ((H1.2.2.1.1 _ q32).1 hq).1
    unfold okT
    rw [e, nat_nI (by omega)]
    obtain ⟨c1, c2, c3, c4⟩ := H1.2.2.1.2.2.2 _ k6
    rw [c2, nat_nI (by omega)]
    exact ⟨k6, rfl, c1, rfl⟩
  have ok2 : ∀ a i, a < 4 → i ≤ 8 → rM (clM (ms_thr v 0) N a i).1 ∧ (i < 8 → cgM (clM (ms_thr v 0) N a i).1 (8 * a + i) N → ¬ m_n (clM (ms_thr v 0) N a i).1 (8 * a + i) = nI (8 * a + i)) := by
    intro a i ha hi
    obtain ⟨U', X', ec', en', H1, h1, h2⟩ := rl_cln (rlx_thr (x := 0) H) ha i hi
    refine ⟨rl_rM H1, fun hi8 hg => ?_⟩
    have q32 : 8 * a + i < 32 := by omega
    have hq := ((cg_M H1 q32).mp hg).1
    have hX := rl_X H1 hq
    rw [((H1.2.2.1.2.1 _ q32).1 hq).2.2.2.2.2.2, oi_nI (by omega) (by omega)]
    intro z
    have := (H1.2.1.1.2.2.1 _ _ hq z).2.2.2.1
    omega
  have hk := fun g hg => kX4_clean (L := Lg g) (D := D9) (K := K9) (g := g) hg hfl u x N h60 hc ok1
  have hk2 := fun g hg => kX5_clean (L := Lm g) (D := D9) (K := K9) (l := l) (g := g) hg v x N h60 hm ok2
  by_cases hp : pgP x
  · obtain ⟨a, ha, e⟩ := pg_at hp
    rw [ex_t hp] at hk
    rw [cif_t (pg_in.mp hp), cif_t (pg_in.mp hp)] at hk2
    have z := rl_clean H ha
    refine ⟨_, _, none, _, _, hk, hk2, (fun X h => by cases h), ?_, fun _ => ?_, ?_⟩
    · show m_thr (mcl v N (nat x)) = 0
      have : ∀ a m, m_thr (clM (ms_thr v 0) N a m).1 = 0 := by
        intro a m
        induction m with
        | zero => rfl
        | succ m ih =>
          by_cases g : cgM (clM (ms_thr v 0) N a m).1 (8 * a + m) N
          · rw [clM_y rfl g]; exact ih
          · rw [clM_n rfl g]; exact ih
      exact this _ 8
    · rw [e, nat_nI (by omega)]; exact z.2
    · show Rl (k + 1) (ccl u N (nat x)) (mcl v N (nat x))
      rw [e, nat_nI (by omega)]; exact z.1
  · rw [ex_f hp] at hk
    rw [cif_f (fun z => hp (pg_in.mpr z)), cif_f (fun z => hp (pg_in.mpr z))] at hk2
    exact ⟨_, _, some xIA, _, _, hk, hk2, (fun X h => by cases h; exact List.mem_cons_self), cE_c1.symm, fun h => (by cases h), Rl_up h⟩
end CLEAN2

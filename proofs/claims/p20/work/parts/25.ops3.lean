/-! ===== delete and write ===== -/
section OPS3
variable {l : Launch} {D9 : va_G} {K9 : Nat → ClassId} {k : Nat} {u : CU} {v : MU} {N T n : Nat} {st S : Nat → Nat} {P : Nat → Nat → Prop} {U : Nat → Prop} {K B D X R : Nat → Nat} {F : Nat → Prop} {ec : Nat → Nat} {en : Nat → Nat → Nat} {t q i : Nat}
theorem rlx_thr {x : Int32} (H : RlX k u v N T n st S P U K B D X R F ec en) : RlX k u (ms_thr v x) N T n st S P U K B D X R F ec en := H
theorem rlx_up (H : RlX k u v N T n st S P U K B D X R F ec en) : RlX (k + 1) u v N T n st S P U K B D X R F ec en := by
  obtain ⟨h1, h2, h3, ⟨h4, h5⟩, h6⟩ := H
  exact ⟨h1, h2, h3, ⟨by omega, h5⟩, h6⟩
theorem rlx_rl (H : RlX k u v N T n st S P U K B D X R F ec en) : Rl k u v := ⟨N, T, n, st, S, P, U, K, B, D, X, R, F, ec, en, H⟩
theorem mp_0 {cmp mmp : AI} {a b : Int32} {p : Nat} (h : MpR cmp mmp a b) : MpR (upd cmp p 0) (upd mmp p 0) a b := by
  refine ⟨h.1, fun j hj => ?_⟩
  unfold upd
  by_cases e : j = p
  · rw [if_pos e, if_pos e]; exact ⟨rfl, Or.inl rfl⟩
  · rw [if_neg e, if_neg e]; exact h.2 j hj
/-- who isn't barred has to do with known ones alone -/
theorem nba (H : RlX k u v N T n st S P U K B D X R F ec en) {x : Nat} (hx : x < N) (h2 : ¬ S x = 2) (h : ¬ baA S P t x) : x = t ∨ P t x := by
  have := H.1.2.1.1 x hx
  by_cases e : x = t
  · exact Or.inl e
  · by_cases g : P t x
    · exact Or.inr g
    · exact absurd ⟨e, by omega, g⟩ h
theorem rl_D0 (H : RlX k u v N T n st S P U K B D X R F ec en) (hr : ¬ rfA S P U K B D t i) {p : Nat} (hp : U p) (hk : K p = i) (hs : seA P B D F t p) : D p = 0 := by
  by_cases e : D p = 0
  · exact e
  · obtain ⟨d, hd⟩ : ∃ d, D p = d + 1 := ⟨D p - 1, by omega⟩
    obtain ⟨h1, h2⟩ := H.2.1.1.2.1 p d hp hd
    exact absurd (nba H h1 h2 (fun z => hr ⟨p, hp, hk, Or.inr ⟨d, hd, z⟩⟩)) (hs.2 d hd)
theorem rl_die (hk : k < 512) (H : RlX k u v N T n st S P U K B D X R F ec en) (ht : t < N) (h0 : S t = 0) {p : Nat} (hp : U p) (hD : D p = 0) : RlX k (cpd u t p (nat (c_r u p))) (mdi v t p) N T n st S P U K B (fun j => if j = p then t + 1 else D j) X R F ec en := by
  obtain ⟨⟨hB, hT, hC, hM⟩, ⟨hS, hO, hE⟩, ⟨sC, sM, rg, eR⟩, ⟨hTk, tR⟩, mp⟩ := H
  have h60 := hB.1
  obtain ⟨p32, -, -, rT⟩ := hS.1 p hp
  have e1 : (fun j => if j = p then t + 1 else D j) p = t + 1 := if_pos rfl
  have e2 : ∀ j, ¬ j = p → (fun j => if j = p then t + 1 else D j) j = D j := fun j hj => if_neg hj
  generalize (fun j => if j = p then t + 1 else D j) = D' at e1 e2 ⊢
  have sC' : SlC (c_k u) (c_b u) (c_f u) (upd (c_d u) p (nI t)) (c_n u) (c_r u) (c_bs u) (upd (c_ds u) p (c_sp u t)) st U K B D' X R F := by
    intro j j32
    unfold upd
    by_cases e : j = p
    · rw [if_pos e, if_pos e]
      refine ⟨fun hj => ?_, fun hj => absurd (e ▸ hp) hj⟩
      obtain ⟨a1, a2, a3, a4, a5, a6, a7, a8⟩ := (sC j j32).1 hj
      refine ⟨a1, a2, a3, by rw [e, e1]; rfl, a5, a6, a7, fun x hx => ?_⟩
      rw [e, e1] at hx
      rw [show x = t by omega]; exact hC.2.2.1 t ht
    · rw [if_neg e, if_neg e, e2 j e]; exact sC j j32
  have sM' : SlM (m_us v) (m_k v) (m_v v) (m_b v) (m_fr v) (upd (m_d v) p (nI t)) (m_n v) (c_v u) U K B D' X F := by
    intro j j32
    unfold upd
    by_cases e : j = p
    · rw [if_pos e]
      refine ⟨fun hj => ?_, (sM j j32).2⟩
      obtain ⟨a1, a2, a3, a4, a5, a6, a7⟩ := (sM j j32).1 hj
      exact ⟨a1, a2, a3, a4, a5, by rw [e, e1]; rfl, a7⟩
    · rw [if_neg e, e2 j e]; exact sM j j32
  have rg' : RgM (m_b v) (upd (m_d v) p (nI t)) (m_n v) (m_k v) := by
    intro j j32
    obtain ⟨a1, a2, a3, a4⟩ := rg j j32
    refine ⟨a1, ?_, a3, a4⟩
    unfold upd
    by_cases e : j = p
    · rw [if_pos e]; exact Or.inr (rng_nI (by omega) (by omega))
    · rw [if_neg e]; exact a2
  have tR' : TbR (c_tk u) (c_tv u) (c_tb u) (upd (c_td u) (nat (c_r u p)) (nI t)) (c_tc u) (c_v u) N T S P U K B D' R := by
    have er : nat (c_r u p) = R p := by
      rw [((sC p p32).1 hp).2.2.2.2.2.1, nat_nI (by omega)]
    rw [er]
    refine ⟨tR.1, fun j hj => ?_, fun a ha => ?_⟩
    · obtain ⟨a1, a2, a3, a4⟩ := tR.2.1 j hj
      refine ⟨a1, a2, a3, ?_⟩
      unfold upd
      by_cases e : j = p
      · rw [e, if_pos rfl, e1]; rfl
      · rw [if_neg (fun z => e (hS.2.2.2.1 j p hj hp z)), e2 j e]; exact a4
    · rcases tR.2.2 a ha with z | ⟨b, d, z1, z2, z3⟩
      · exact Or.inl z
      · by_cases e : a = R p
        · exact Or.inl ⟨p, hp, e.symm⟩
        · refine Or.inr ⟨b, d, z1, ?_, z3⟩
          unfold upd
          rw [if_neg e]; exact z2
  exact ⟨⟨hB, hT, hC, hM⟩, ⟨SlI_d hS ht h0 e1 e2, OrI_d hO hD e2, hE⟩, ⟨sC', sM', rg', eR⟩, ⟨hTk, tR'⟩, mp_0 mp⟩
/-- a version put into a free slot -/
theorem rl_put (hk : k < 512) (H : RlX k u v N T n st S P U K B D X R F ec en) (ht : t < N) (hi : i < 6) {s : Nat} (hs : ¬ U s) (s32 : s < 32) {z : Int32} {nC nM : AI} {U' : Nat → Prop} {K' B' D' X' R' : Nat → Nat} {F' : Nat → Prop}
    (hU : ∀ j, U' j ↔ U j ∨ j = s) (hK : ∀ j, K' j = if j = s then i else K j) (hB : ∀ j, B' j = if j = s then t else B j) (hD : ∀ j, D' j = if j = s then 0 else D j) (hR : ∀ j, R' j = if j = s then T else R j) (hF : ∀ j, F' j ↔ F j ∧ ¬ j = s) (xs : X' s = 0)
    (hX : ∀ j, U j → X' j = X j ∨ (X' j = s + 1 ∧ s / 8 = j / 8 ∧ K j = i ∧ (B j = t ∨ P t (B j))))
    (hn : ∀ j, j < 32 → (U' j → nC j = oi (X' j) ∧ nM j = oi (X' j)) ∧ (¬ U' j → nC j = -1) ∧ rngO (nM j) 32)
    (hold : ∀ q, U q → K q = i → ¬ S (B q) = 2 → ∃ d, D q = d + 1 ∧ (d = t ∨ P t d)) :
    (SlI N (T + 1) S P U' K' B' D' X' R' F' ∧ OrI S P U' K' B' D' R') ∧
    SlC (upd (c_k u) s (nI i)) (upd (c_b u) s (nI t)) (c_f u) (c_d u) nC (upd (c_r u) s (nI T)) (upd (c_bs u) s (c_sp u t)) (c_ds u) st U' K' B' D' X' R' F' ∧
    SlM (upd (m_us v) s 1) (upd (m_k v) s (nI i)) (upd (m_v v) s z) (upd (m_b v) s (nI t)) (upd (m_fr v) s 0) (upd (m_d v) s (-1)) nM (upd (c_v u) s z) U' K' B' D' X' F' ∧
    RgM (upd (m_b v) s (nI t)) (upd (m_d v) s (-1)) nM (upd (m_k v) s (nI i)) ∧
    TbR (upd (c_tk u) T (nI i)) (upd (c_tv u) T z) (upd (c_tb u) T (nI t)) (upd (c_td u) T (-1)) (nI (T + 1)) (upd (c_v u) s z) N (T + 1) S P U' K' B' D' R' := by
  obtain ⟨⟨hB9, hT, hC, hM⟩, ⟨hS, hO, hE⟩, ⟨sC, sM, rg, eR⟩, ⟨hTk, tR⟩, mp⟩ := H
  have h60 := hB9.1
  have ne : ∀ j, U j → ¬ j = s := fun j hj e => hs (e ▸ hj)
  have hK1 : ∀ j, U j → K' j = K j := fun j hj => by rw [hK, if_neg (ne j hj)]
  have hB1 : ∀ j, U j → B' j = B j := fun j hj => by rw [hB, if_neg (ne j hj)]
  have hD1 : ∀ j, U j → D' j = D j := fun j hj => by rw [hD, if_neg (ne j hj)]
  have hR1 : ∀ j, U j → R' j = R j := fun j hj => by rw [hR, if_neg (ne j hj)]
  have hF1 : ∀ j, U j → (F' j ↔ F j) := fun j hj => (hF j).trans ⟨fun z => z.1, fun z => ⟨z, ne j hj⟩⟩
  have hK2 : K' s = i := by rw [hK, if_pos rfl]
  have hB2 : B' s = t := by rw [hB, if_pos rfl]
  have hD2 : D' s = 0 := by rw [hD, if_pos rfl]
  have hR2 : R' s = T := by rw [hR, if_pos rfl]
  have hF2 : ¬ F' s := fun z => ((hF s).mp z).2 rfl
  have us : U' s := (hU s).mpr (Or.inr rfl)
  refine ⟨⟨SlI_i hS hU hs s32 hi ht hK1 hB1 hD1 hR1 hF1 hX hK2 hB2 hD2 xs hR2 hF2, OrI_i hS hO hU hK1 hB1 hD1 hR1 hK2 hB2 hR2 hold⟩, fun j j32 => ?_, fun j j32 => ?_, fun j j32 => ?_, rfl, fun j hj => ?_, fun a ha => ?_⟩
  · unfold upd
    by_cases e : j = s
    · rw [if_pos e, if_pos e, if_pos e, if_pos e]
      refine ⟨fun hj => ?_, fun hj => absurd (e ▸ us) hj⟩
      obtain ⟨a1, a2, a3, a4, a5⟩ := (sC s s32).2 hs
      rw [e]
      refine ⟨by rw [hK2], by rw [hB2], by rw [a3]; exact ⟨fun _ => hF2, fun _ => rfl⟩, by rw [a4, hD2]; rfl, ((hn s s32).1 us).1, by rw [hR2], by rw [hB2]; exact hC.2.2.1 t ht, fun x hx => by rw [hD2] at hx; omega⟩
    · rw [if_neg e, if_neg e, if_neg e, if_neg e]
      refine ⟨fun hj => ?_, fun hj => ?_⟩
      · have uj : U j := ((hU j).mp hj).elim id (fun z => absurd z e)
        obtain ⟨a1, a2, a3, a4, a5, a6, a7, a8⟩ := (sC j j32).1 uj
        rw [hK1 j uj, hB1 j uj, hD1 j uj, hR1 j uj, hF1 j uj]
        exact ⟨a1, a2, a3, a4, ((hn j j32).1 hj).1, a6, a7, a8⟩
      · obtain ⟨a1, a2, a3, a4, a5⟩ := (sC j j32).2 (fun z => hj ((hU j).mpr (Or.inl z)))
        exact ⟨a1, a2, a3, a4, (hn j j32).2.1 hj⟩
  · unfold upd
    by_cases e : j = s
    · rw [if_pos e, if_pos e, if_pos e, if_pos e, if_pos e, if_pos e, if_pos e]
      refine ⟨fun hj => ?_, fun hj => absurd (e ▸ us) hj⟩
      rw [e]
      exact ⟨by decide, by rw [hK2], rfl, by rw [hB2], ⟨fun _ => hF2, fun _ => rfl⟩, by rw [hD2]; rfl, ((hn s s32).1 us).2⟩
    · rw [if_neg e, if_neg e, if_neg e, if_neg e, if_neg e, if_neg e, if_neg e]
      refine ⟨fun hj => ?_, fun hj => ?_⟩
      · have uj : U j := ((hU j).mp hj).elim id (fun z => absurd z e)
        obtain ⟨a1, a2, a3, a4, a5, a6, a7⟩ := (sM j j32).1 uj
        rw [hK1 j uj, hB1 j uj, hD1 j uj, hF1 j uj]
        exact ⟨a1, a2, a3, a4, a5, a6, ((hn j j32).1 hj).2⟩
      · exact (sM j j32).2 (fun z => hj ((hU j).mpr (Or.inl z)))
  · obtain ⟨a1, a2, a3, a4⟩ := rg j j32
    unfold upd
    by_cases e : j = s
    · rw [if_pos e, if_pos e, if_pos e]
      exact ⟨rng_nI (by omega) (by omega), Or.inl rfl, (hn j j32).2.2, rng_nI (by omega) hi⟩
    · rw [if_neg e, if_neg e, if_neg e]
      exact ⟨a1, a2, (hn j j32).2.2, a4⟩
  · unfold upd
    rcases (hU j).mp hj with uj | e
    · obtain ⟨a1, a2, a3, a4⟩ := tR.2.1 j uj
      have rT := (hS.1 j uj).2.2.2
      rw [hR1 j uj, hK1 j uj, hB1 j uj, hD1 j uj, if_neg (show ¬ R j = T by omega), if_neg (show ¬ R j = T by omega), if_neg (show ¬ R j = T by omega), if_neg (show ¬ R j = T by omega), if_neg (ne j uj)]
      exact ⟨a1, a2, a3, a4⟩
    · rw [e, hR2, hK2, hB2, hD2, if_pos rfl, if_pos rfl, if_pos rfl, if_pos rfl, if_pos rfl]
      exact ⟨rfl, rfl, rfl, rfl⟩
  · by_cases e : a = T
    · exact Or.inl ⟨s, us, by rw [hR2, e]⟩
    · rcases tR.2.2 a (by omega) with ⟨p, hp, y⟩ | ⟨b, d, z1, z2, z3⟩
      · exact Or.inl ⟨p, (hU p).mpr (Or.inl hp), by rw [hR1 p hp]; exact y⟩
      · refine Or.inr ⟨b, d, ?_, ?_, z3⟩
        · unfold upd; rw [if_neg e]; exact z1
        · unfold upd; rw [if_neg e]; exact z2
/-- .. as the next one of another -/
theorem rl_putN (hk : k < 512) (H : RlX k u v N T n st S P U K B D X R F ec en) (ht : t < N) (hi : i < 6) {s o : Nat} (hs : ¬ U s) (s32 : s < 32) {z : Int32} (ho : U o) (hpg : s / 8 = o / 8) (hko : K o = i) (hkn : B o = t ∨ P t (B o)) (hdead : ∀ j, X o = j + 1 → S (B j) = 2)
    (hold : ∀ q, U q → K q = i → ¬ S (B q) = 2 → ∃ d, D q = d + 1 ∧ (d = t ∨ P t d)) : ∃ (X' ec' : Nat → Nat) (en' : Nat → Nat → Nat), RlX (k + 1) (s_n (cpv u t (nI i) z s T) (upd (c_n u) o (nI s))) (ms_n (mpu v t s (nI i) z) (upd (upd (m_n v) s (-1)) o (nI s))) N (T + 1) n st S P (fun j => U j ∨ j = s) (fun j => if j = s then i else K j) (fun j => if j = s then t else B j) (fun j => if j = s then 0 else D j) X' (fun j => if j = s then T else R j) (fun j => F j ∧ ¬ j = s) ec' en' ∧ X' s = 0 := by
  have H9 := H
  obtain ⟨⟨hB9, hT, hC, hM⟩, ⟨hS, hO, hE⟩, ⟨sC, sM, rg, eR⟩, ⟨hTk, tR⟩, mp⟩ := H
  have os : ¬ o = s := fun e => hs (e ▸ ho)
  have o32 := (hS.1 o ho).1
  let X' : Nat → Nat := fun j => if j = o then s + 1 else if j = s then 0 else X j
  have x1 : X' o = s + 1 := if_pos rfl
  have x2 : X' s = 0 := by show (if s = o then s + 1 else if s = s then 0 else X s) = 0; rw [if_neg (fun e => os e.symm), if_pos rfl]
  have x3 : ∀ j, ¬ j = o → ¬ j = s → X' j = X j := fun j a b => by show (if j = o then s + 1 else if j = s then 0 else X j) = X j; rw [if_neg a, if_neg b]
  clear_value X'
  have ne : ∀ j, U j → ¬ j = s := fun j hj e => hs (e ▸ hj)
  obtain ⟨⟨p1, p2⟩, p3, p4, p5, p6⟩ := rl_put (z := z) (U' := fun j => U j ∨ j = s) (K' := fun j => if j = s then i else K j) (B' := fun j => if j = s then t else B j) (D' := fun j => if j = s then 0 else D j) (X' := X') (R' := fun j => if j = s then T else R j) (F' := fun j => F j ∧ ¬ j = s) (nC := upd (c_n u) o (nI s)) (nM := upd (upd (m_n v) s (-1)) o (nI s)) hk H9 ht hi hs s32 (fun _ => Iff.rfl) (fun _ => rfl) (fun _ => rfl) (fun _ => rfl) (fun _ => rfl) (fun _ => Iff.rfl) x2
    (fun j hj => by
      by_cases e : j = o
      · rw [e]; exact Or.inr ⟨x1, hpg, hko, hkn⟩
      · exact Or.inl (x3 j e (ne j hj)))
    (fun j j32 => by
      unfold upd
      by_cases e : j = o
      · rw [if_pos e, if_pos e, e, x1]
        exact ⟨fun _ => ⟨rfl, rfl⟩, fun z => absurd (Or.inl ho) z, Or.inr (rng_nI (by omega) s32)⟩
      · rw [if_neg e, if_neg e]
        by_cases g : j = s
        · rw [if_pos g, g, x2]
          exact ⟨fun _ => ⟨((sC s s32).2 hs).2.2.2.2, rfl⟩, fun z => absurd (Or.inr rfl) z, Or.inl rfl⟩
        · rw [if_neg g, x3 j e g]
          refine ⟨fun hj => ?_, fun hj => ((sC j j32).2 (fun z => hj (Or.inl z))).2.2.2.2, (rg j j32).2.2.1⟩
          have uj : U j := hj.elim id (fun z => absurd z g)
          exact ⟨((sC j j32).1 uj).2.2.2.2.1, ((sM j j32).1 uj).2.2.2.2.2.2⟩) hold
  have hE' : EnI S (fun j => U j ∨ j = s) (fun j => if j = s then i else K j) (fun j => if j = s then t else B j) X' ec en := EnI_iN hS hE (fun _ => Iff.rfl) hs (fun j hj => if_neg (ne j hj)) (fun j hj => if_neg (ne j hj)) ho x1 (fun j hj e => x3 j e (ne j hj)) x2 hdead
  exact ⟨X', ec, en, ⟨⟨hB9, hT, hC, hM⟩, ⟨p1, p2, hE'⟩, ⟨p3, p4, p5, eR⟩, ⟨by omega, p6⟩, mp_0 mp⟩, x2⟩
/-- .. with an entry of its own -/
theorem rl_putE (hk : k < 512) (H : RlX k u v N T n st S P U K B D X R F ec en) (ht : t < N) (hi : i < 6) {s : Nat} (hs : ¬ U s) (s32 : s < 32) {z : Int32} (hc : ec i < 32)
    (hold : ∀ q, U q → K q = i → ¬ S (B q) = 2 → ∃ d, D q = d + 1 ∧ (d = t ∨ P t d)) : ∃ (X' ec' : Nat → Nat) (en' : Nat → Nat → Nat), RlX (k + 1) (cia (cpv u t (nI i) z s T) i (ec i) (nI s)) (ms_ec (ms_en (mpu v t s (nI i) z) (upd (m_en v) (64 * i + ec i) (nI s))) (upd (m_ec v) i (nI (ec i + 1)))) N (T + 1) n st S P (fun j => U j ∨ j = s) (fun j => if j = s then i else K j) (fun j => if j = s then t else B j) (fun j => if j = s then 0 else D j) X' (fun j => if j = s then T else R j) (fun j => F j ∧ ¬ j = s) ec' en' ∧ X' s = 0 := by
  have H9 := H
  obtain ⟨⟨hB9, hT, hC, hM⟩, ⟨hS, hO, hE⟩, ⟨sC, sM, rg, eR⟩, ⟨hTk, tR⟩, mp⟩ := H
  let X' : Nat → Nat := fun j => if j = s then 0 else X j
  have x2 : X' s = 0 := if_pos rfl
  have x3 : ∀ j, ¬ j = s → X' j = X j := fun j a => if_neg a
  clear_value X'
  let ec' : Nat → Nat := fun j => if j = i then ec i + 1 else ec j
  have c1 : ec' i = ec i + 1 := if_pos rfl
  have c2 : ∀ j, ¬ j = i → ec' j = ec j := fun j a => if_neg a
  clear_value ec'
  let en' : Nat → Nat → Nat := fun a e => if a = i ∧ e = ec i then s else en a e
  have d1 : en' i (ec i) = s := if_pos ⟨rfl, rfl⟩
  have d2 : ∀ a e, e < ec a → en' a e = en a e := fun a e h => if_neg (fun z => by rw [z.1, z.2] at h; omega)
  clear_value en'
  have ne : ∀ j, U j → ¬ j = s := fun j hj e => hs (e ▸ hj)
  obtain ⟨⟨p1, p2⟩, p3, p4, p5, p6⟩ := rl_put (z := z) (U' := fun j => U j ∨ j = s) (K' := fun j => if j = s then i else K j) (B' := fun j => if j = s then t else B j) (D' := fun j => if j = s then 0 else D j) (X' := X') (R' := fun j => if j = s then T else R j) (F' := fun j => F j ∧ ¬ j = s) (nC := c_n u) (nM := upd (m_n v) s (-1)) hk H9 ht hi hs s32 (fun _ => Iff.rfl) (fun _ => rfl) (fun _ => rfl) (fun _ => rfl) (fun _ => rfl) (fun _ => Iff.rfl) x2
    (fun j hj => Or.inl (x3 j (ne j hj)))
    (fun j j32 => by
      unfold upd
      by_cases g : j = s
      · rw [if_pos g, g, x2]
        exact ⟨fun _ => ⟨((sC s s32).2 hs).2.2.2.2, rfl⟩, fun z => absurd (Or.inr rfl) z, Or.inl rfl⟩
      · rw [if_neg g, x3 j g]
        refine ⟨fun hj => ?_, fun hj => ((sC j j32).2 (fun z => hj (Or.inl z))).2.2.2.2, (rg j j32).2.2.1⟩
        have uj : U j := hj.elim id (fun z => absurd z g)
        exact ⟨((sC j j32).1 uj).2.2.2.2.1, ((sM j j32).1 uj).2.2.2.2.2.2⟩) hold
  have hE' : EnI S (fun j => U j ∨ j = s) (fun j => if j = s then i else K j) (fun j => if j = s then t else B j) X' ec' en' := EnI_iE hS hE (fun _ => Iff.rfl) hs hi (fun j hj => if_neg (ne j hj)) (fun j hj => if_neg (ne j hj)) (fun j hj => x3 j (ne j hj)) (if_pos rfl) x2 c1 c2 d1 d2
  have eR' : EnR (upd (c_ct u) i (nI (ec i + 1))) (va_up (c_pl u) i (upd (c_pl u i) (ec i) (nI s))) (upd (m_ec v) i (nI (ec i + 1))) (upd (m_en v) (64 * i + ec i) (nI s)) ec' en' := by
    intro a ha
    obtain ⟨a1, a2, a3, a4⟩ := eR a ha
    by_cases e : a = i
    · rw [e] at a1 a2 a3 a4 ⊢
      rw [c1]
      refine ⟨by omega, by unfold upd; rw [if_pos rfl], by unfold upd; rw [if_pos rfl], fun x hx => ?_⟩
      unfold va_up
      rw [if_pos rfl]
      unfold upd
      by_cases g : x = ec i
      · rw [if_pos g, if_pos (by omega), g, d1]; exact ⟨rfl, rfl⟩
      · rw [if_neg g, if_neg (by omega), d2 i x (by omega)]; exact a4 x (by omega)
    · rw [c2 a e]
      refine ⟨a1, by unfold upd; rw [if_neg e]; exact a2, by unfold upd; rw [if_neg e]; exact a3, fun x hx => ?_⟩
      unfold va_up
      rw [if_neg e, d2 a x hx]
      unfold upd
      rw [if_neg (by omega)]
      exact a4 x hx
  exact ⟨X', ec', en', ⟨⟨hB9, hT, hC, hM⟩, ⟨p1, p2, hE'⟩, ⟨p3, p4, p5, eR'⟩, ⟨by omega, p6⟩, mp_0 mp⟩, x2⟩
end OPS3

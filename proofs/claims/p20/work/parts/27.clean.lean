/-! ===== clean: the entries ===== -/
theorem upd_at {f : AI} {k : Nat} : upd f k (f k) = f := by
  funext j; unfold upd
  by_cases e : j = k
  · rw [if_pos e, e]
  · rw [if_neg e]
theorem mv_k {f : AI} {x y : Int32} : ∀ n, (∀ e, e < n → ¬ mvv x y (f e) = -1) → mv f x y n = (rpl f x y n, n) := by
  intro n
  induction n with
  | zero => intro _; rw [rpl_0]; rfl
  | succ n ih =>
    intro h
    have hn := ih (fun e he => h e (by omega))
    have e0 : rpl f x y n n = f n := by unfold rpl; rw [if_neg (fun k => absurd k.1 (Nat.lt_irrefl _))]
    rw [mv_n hn rfl (by rw [e0]; exact h n (by omega)), e0]
    unfold mvv
    by_cases g : f n = x
    · rw [if_pos g, rpl_y (by rw [e0]; exact g)]
    · rw [if_neg g]
      have e1 : upd (rpl f x y n) n (f n) = rpl f x y n := by
        have := @upd_at (rpl f x y n) n
        rw [e0] at this; exact this
      rw [e1, rpl_n (by rw [e0]; exact g)]
theorem mv_d {f : AI} {x : Int32} {e0 : Nat} (h0 : f e0 = x) : ∀ m, (∀ e, e < e0 + 1 + m → ¬ e = e0 → ¬ f e = x ∧ ¬ f e = -1) → mv f x (-1) (e0 + 1 + m) = (shp f e0 (e0 + m), e0 + m) := by
  intro m
  induction m with
  | zero =>
    intro h
    have h1 : mv f x (-1) e0 = (f, e0) := by
      rw [mv_k e0 (fun e he => by
        unfold mvv
        rw [if_neg (h e (by omega) (by omega)).1]; exact (h e (by omega) (by omega)).2)]
      have : rpl f x (-1) e0 = f := by
        funext j; unfold rpl
        by_cases g : j < e0 ∧ f j = x
        · exact absurd g.2 (h j (by omega) (by omega)).1
        · rw [if_neg g]
      rw [this]
    show mv f x (-1) (e0 + 1) = (shp f e0 e0, e0)
    rw [mv_y h1 rfl (by unfold mvv; rw [if_pos h0]), shp_0]
  | succ m ih =>
    intro h
    have hn := ih (fun e he hne => h e (by omega) hne)
    have e1 : shp f e0 (e0 + m) (e0 + 1 + m) = f (e0 + 1 + m) := by unfold shp; rw [if_neg (fun z => by omega)]
    obtain ⟨g1, g2⟩ := h (e0 + 1 + m) (by omega) (by omega)
    have e2 : mvv x (-1) (shp f e0 (e0 + m) (e0 + 1 + m)) = f (e0 + 1 + m) := by unfold mvv; rw [e1, if_neg g1]
    rw [show e0 + 1 + (m + 1) = (e0 + 1 + m) + 1 by omega, mv_n hn rfl (by rw [e2]; exact g2), e2, ← e1, show e0 + 1 + m = (e0 + m) + 1 by omega, shp_s (by omega), show e0 + (m + 1) = e0 + m + 1 by omega]
theorem lve_k {nx : Int32} {q k d : Nat} : ∀ i f, (∀ e, e < i → ¬ f (64 * k + e) = -1 ∧ (nx = -1 → ¬ f (64 * k + e) = nI q)) → lve nx q k i (f, d) = (fun a => if 64 * k ≤ a ∧ a < 64 * k + i ∧ f a = nI q then nx else f a, d) := by
  intro i
  induction i with
  | zero =>
    intro f _
    rw [lve]
    congr 1
    funext a
    rw [if_neg (fun z => by omega)]
  | succ i ih =>
    intro f h
    have l1 : ∀ a, ¬ a = 64 * k + i → lv1 nx q (64 * k + i) f a = f a := by
      intro a ha
      unfold lv1
      by_cases g : f (64 * k + i) = nI q
      · rw [if_pos g]; unfold upd; rw [if_neg ha]
      · rw [if_neg g]
    have l2 : lv1 nx q (64 * k + i) f (64 * k + i) = if f (64 * k + i) = nI q then nx else f (64 * k + i) := by
      unfold lv1
      by_cases g : f (64 * k + i) = nI q
      · rw [if_pos g, if_pos g]; unfold upd; rw [if_pos rfl]
      · rw [if_neg g, if_neg g]
    have l3 : ¬ lv1 nx q (64 * k + i) f (64 * k + i) = -1 := by
      rw [l2]
      by_cases g : f (64 * k + i) = nI q
      · rw [if_pos g]; exact fun z => (h i (by omega)).2 z g
      · rw [if_neg g]; exact (h i (by omega)).1
    rw [lve_s rfl l3, ih _ (fun e he => by rw [l1 _ (by omega)]; exact h e (by omega))]
    congr 1
    funext a
    by_cases g : a = 64 * k + i
    · rw [if_neg (fun z => by omega), g, l2]
      by_cases g2 : f (64 * k + i) = nI q
      · rw [if_pos g2, if_pos ⟨by omega, by omega, g2⟩]
      · rw [if_neg g2, if_neg (fun z => g2 z.2.2)]
    · rw [l1 a g]
      by_cases g2 : 64 * k ≤ a ∧ a < 64 * k + i ∧ f a = nI q
      · rw [if_pos g2, if_pos ⟨g2.1, by omega, g2.2.2⟩]
      · rw [if_neg g2, if_neg (fun z => g2 ⟨z.1, by omega, z.2.2⟩)]
theorem lve_d {q k d e0 : Nat} {f : AI} (h0 : f (64 * k + e0) = nI q) (hd : e0 < d) : ∀ m, (∀ e, e < e0 + 1 + m → ¬ e = e0 → ¬ f (64 * k + e) = -1 ∧ ¬ f (64 * k + e) = nI q) → ∃ g, lve (-1) q k (e0 + 1 + m) (f, d) = (g, d - 1) ∧ (∀ a, 64 * k + e0 ≤ a → a < 64 * k + (d - 1) → g a = f (a + 1)) ∧ (∀ a, a < 64 * k + e0 → g a = f a) ∧ (∀ a, 64 * k + d ≤ a → g a = f a) := by
  intro m
  induction m with
  | zero =>
    intro h
    have f1 : lv1 (-1) q (64 * k + e0) f = upd f (64 * k + e0) (-1) := by unfold lv1; rw [if_pos h0]
    have f2 : lv1 (-1) q (64 * k + e0) f (64 * k + e0) = -1 := by rw [f1]; unfold upd; rw [if_pos rfl]
    rw [Nat.add_zero, lve_r rfl f2, f1]
    have s1 : ∀ a, a < 64 * k + e0 → shp (upd f (64 * k + e0) (-1)) (64 * k + e0) (64 * k + (d - 1)) a = f a := by
      intro a ha
      unfold shp upd
      rw [if_neg (fun z => by omega), if_neg (by omega)]
    rw [lve_k e0 _ (fun e he => by
      rw [s1 _ (by omega)]
      exact ⟨(h e (by omega) (by omega)).1, fun _ => (h e (by omega) (by omega)).2⟩)]
    refine ⟨_, rfl, fun a h1 h2 => ?_, fun a h1 => ?_, fun a h1 => ?_⟩
    · rw [if_neg (fun z => by omega)]
      unfold shp upd
      rw [if_pos ⟨h1, h2⟩, if_neg (by omega)]
    · rw [s1 a h1]
      by_cases g : 64 * k ≤ a ∧ a < 64 * k + e0 ∧ f a = nI q
      · have := (h (a - 64 * k) (by omega) (by omega)).2
        rw [show 64 * k + (a - 64 * k) = a by omega] at this
        exact absurd g.2.2 this
      · rw [if_neg g]
    · rw [if_neg (fun z => by omega)]
      unfold shp upd
      rw [if_neg (fun z => by omega), if_neg (by omega)]
  | succ m ih =>
    intro h
    obtain ⟨g1, g2⟩ := h (e0 + 1 + m) (by omega) (by omega)
    have f1 : lv1 (-1) q (64 * k + (e0 + 1 + m)) f = f := by unfold lv1; rw [if_neg g2]
    rw [show e0 + 1 + (m + 1) = (e0 + 1 + m) + 1 by omega, lve_s f1.symm g1]
    exact ih (fun e he hne => h e (by omega) hne)
section CLEAN1
variable {k N T n : Nat} {u : CU} {v : MU} {st S : Nat → Nat} {P : Nat → Nat → Prop} {U : Nat → Prop} {K B D X R : Nat → Nat} {F : Nat → Prop} {ec : Nat → Nat} {en : Nat → Nat → Nat} {q kq : Nat}
/-- the entries of a key where a slot is left -/
theorem rl_ent (H : RlX k u v N T n st S P U K B D X R F ec en) (hq : U q) (hkq : K q = kq) : ∃ ec' en', EnG X q kq ec en ec' en' ∧ EnR (upd (c_ct u) kq (nI (mv (c_pl u kq) (nI q) (oi (X q)) (ec kq)).2)) (va_up (c_pl u) kq (mv (c_pl u kq) (nI q) (oi (X q)) (ec kq)).1) (upd (m_ec v) kq (nI (lve (oi (X q)) q kq (ec kq) (m_en v, ec kq)).2)) (lve (oi (X q)) q kq (ec kq) (m_en v, ec kq)).1 ec' en' := by
  obtain ⟨q32, k6, bN, rT⟩ := H.2.1.1.1 q hq
  rw [hkq] at k6
  have hE := H.2.1.2.2
  have eR := H.2.2.1.2.2.2
  obtain ⟨a1, a2, a3, a4⟩ := eR kq k6
  have e32 : ∀ i e, i < 6 → e < ec i → en i e < 32 := fun i e hi he => (H.2.1.1.1 _ (hE.1 i e hi he).1).1
  have enq : ∀ i e, i < 6 → e < ec i → (nI (en i e) = nI q ↔ en i e = q) := fun i e hi he => nI_eq (by have := e32 i e hi he; omega) (by omega)
  have enm : ∀ i e, i < 6 → e < ec i → ¬ nI (en i e) = -1 := fun i e hi he => nI_m1 _ (by have := e32 i e hi he; omega)
  have hX := rl_X H hq
  by_cases hno : ∃ e0, e0 < ec kq ∧ en kq e0 = q
  · obtain ⟨e0, he0, hee⟩ := hno
    have uni : ∀ e, e < ec kq → ¬ e = e0 → ¬ en kq e = q := fun e he hne z => hne (hE.2.1 kq e e0 k6 he he0 (z.trans hee.symm))
    by_cases hx0 : X q = 0
    · -- the entry goes
      obtain ⟨m, hm⟩ : ∃ m, ec kq = e0 + 1 + m := ⟨ec kq - (e0 + 1), by omega⟩
      have m1 : mv (c_pl u kq) (nI q) (-1) (ec kq) = (shp (c_pl u kq) e0 (e0 + m), e0 + m) := by
        rw [hm]
        refine mv_d (by rw [(a4 e0 he0).1, hee]) m (fun e he hne => ?_)
        rw [(a4 e (by omega)).1, enq kq e k6 (by omega)]
        exact ⟨uni e (by omega) hne, enm kq e k6 (by omega)⟩
      obtain ⟨g, m2, g1, g2, g3⟩ := lve_d (q := q) (k := kq) (d := ec kq) (e0 := e0) (f := m_en v) (by rw [(a4 e0 he0).2, hee]) he0 m (fun e he hne => by
        rw [(a4 e (by omega)).2, enq kq e k6 (by omega)]
        exact ⟨enm kq e k6 (by omega), uni e (by omega) hne⟩)
      rw [← hm] at m2
      refine ⟨fun i => if i = kq then ec kq - 1 else ec i, fun i e => if i = kq ∧ e0 ≤ e then en kq (e + 1) else en i e, Or.inr (Or.inr ⟨e0, he0, hee, hx0, fun _ => rfl, fun _ _ _ _ => rfl⟩), ?_⟩
      rw [hx0, show oi 0 = -1 from rfl, m1, m2]
      intro i hi
      obtain ⟨b1, b2, b3, b4⟩ := eR i hi
      dsimp only
      by_cases e : i = kq
      · rw [e]
        unfold upd va_up
        rw [if_pos rfl, if_pos rfl, if_pos rfl, if_pos rfl]
        refine ⟨by omega, by rw [show e0 + m = ec kq - 1 by omega], rfl, fun x hx => ?_⟩
        by_cases y : e0 ≤ x
        · rw [if_pos ⟨rfl, y⟩, g1 _ (by omega) (by omega), show 64 * kq + x + 1 = 64 * kq + (x + 1) by omega]
          unfold shp
          rw [if_pos ⟨y, by omega⟩]
          exact a4 (x + 1) (by omega)
        · rw [if_neg (fun z => y z.2), g2 _ (by omega)]
          unfold shp
          rw [if_neg (fun z => y z.1)]
          exact a4 x (by omega)
      · unfold upd va_up
        rw [if_neg e, if_neg e, if_neg e, if_neg e]
        refine ⟨b1, b2, b3, fun x hx => ?_⟩
        rw [if_neg (fun z => e z.1)]
        refine ⟨(b4 x hx).1, ?_⟩
        by_cases y : i < kq
        · rw [g2 _ (by omega)]; exact (b4 x hx).2
        · rw [g3 _ (by omega)]; exact (b4 x hx).2
    · -- the entry turns
      obtain ⟨j, hj⟩ : ∃ j, X q = j + 1 := ⟨X q - 1, by omega⟩
      have yj : ¬ nI j = -1 := nI_m1 j (by omega)
      have m1 : mv (c_pl u kq) (nI q) (nI j) (ec kq) = (rpl (c_pl u kq) (nI q) (nI j) (ec kq), ec kq) := by
        refine mv_k _ (fun e he => ?_)
        unfold mvv
        rw [(a4 e he).1]
        by_cases y : nI (en kq e) = nI q
        · rw [if_pos y]; exact yj
        · rw [if_neg y]; exact enm kq e k6 he
      have m2 := lve_k (nx := nI j) (q := q) (k := kq) (d := ec kq) (ec kq) (m_en v) (fun e he => by
        rw [(a4 e he).2]
        exact ⟨enm kq e k6 he, fun z => absurd z yj⟩)
      refine ⟨ec, fun i e => if i = kq ∧ e = e0 then j else en i e, Or.inr (Or.inl ⟨e0, j, he0, hee, hj, fun _ => rfl, fun _ _ _ _ => rfl⟩), ?_⟩
      rw [hj, show oi (j + 1) = nI j from rfl, m1, m2]
      intro i hi
      obtain ⟨b1, b2, b3, b4⟩ := eR i hi
      dsimp only
      by_cases e : i = kq
      · rw [e]
        unfold upd va_up
        rw [if_pos rfl, if_pos rfl, if_pos rfl]
        refine ⟨a1, rfl, rfl, fun x hx => ?_⟩
        unfold rpl
        rw [(a4 x hx).1, (a4 x hx).2]
        by_cases y : x = e0
        · have : nI (en kq x) = nI q := by rw [y, hee]
          rw [if_pos ⟨hx, this⟩, if_pos ⟨rfl, y⟩, if_pos ⟨by omega, by omega, this⟩]
          exact ⟨rfl, rfl⟩
        · have : ¬ nI (en kq x) = nI q := fun z => uni x hx y ((enq kq x k6 hx).mp z)
          rw [if_neg (fun z => this z.2), if_neg (fun z => y z.2), if_neg (fun z => this z.2.2)]
          exact ⟨rfl, rfl⟩
      · unfold upd va_up
        rw [if_neg e, if_neg e, if_neg e]
        refine ⟨b1, b2, b3, fun x hx => ?_⟩
        rw [if_neg (fun z => e z.1)]
        refine ⟨(b4 x hx).1, ?_⟩
        rw [if_neg (fun z => by omega)]
        exact (b4 x hx).2
  · -- none points to it
    have no : ∀ e, e < ec kq → ¬ en kq e = q := fun e he z => hno ⟨e, he, z⟩
    have m1 : mv (c_pl u kq) (nI q) (oi (X q)) (ec kq) = (rpl (c_pl u kq) (nI q) (oi (X q)) (ec kq), ec kq) := by
      refine mv_k _ (fun e he => ?_)
      unfold mvv
      rw [(a4 e he).1, if_neg (fun z => no e he ((enq kq e k6 he).mp z))]
      exact enm kq e k6 he
    have m2 := lve_k (nx := oi (X q)) (q := q) (k := kq) (d := ec kq) (ec kq) (m_en v) (fun e he => by
      rw [(a4 e he).2]
      exact ⟨enm kq e k6 he, fun _ z => no e he ((enq kq e k6 he).mp z)⟩)
    refine ⟨ec, en, Or.inl ⟨no, fun _ => rfl, fun _ _ _ _ => rfl⟩, ?_⟩
    rw [m1, m2]
    intro i hi
    obtain ⟨b1, b2, b3, b4⟩ := eR i hi
    dsimp only
    by_cases e : i = kq
    · rw [e]
      unfold upd va_up
      rw [if_pos rfl, if_pos rfl, if_pos rfl]
      refine ⟨a1, rfl, rfl, fun x hx => ?_⟩
      unfold rpl
      rw [(a4 x hx).1, (a4 x hx).2]
      have : ¬ nI (en kq x) = nI q := fun z => no x hx ((enq kq x k6 hx).mp z)
      rw [if_neg (fun z => this z.2), if_neg (fun z => this z.2.2)]
      exact ⟨rfl, rfl⟩
    · unfold upd va_up
      rw [if_neg e, if_neg e, if_neg e]
      refine ⟨b1, b2, b3, fun x hx => ⟨(b4 x hx).1, ?_⟩⟩
      rw [if_neg (fun z => by omega)]
      exact (b4 x hx).2
/-- a version goes, on both sides -/
theorem rl_go (H : RlX k u v N T n st S P U K B D X R F ec en) (hc : cgA N S P U B D q) : ∃ ec' en', RlX k (cto u q (nat (c_k u q)) (nat (c_ct u (nat (c_k u q))))) (mlv v q (nat (m_k v q)) (nat (m_ec v (nat (m_k v q))))) N T n st S P (fun j => U j ∧ ¬ j = q) K B D (fun j => if X j = q + 1 then X q else X j) R F ec' en' := by
  have H9 := H
  have hq := hc.1
  obtain ⟨⟨hB9, hT, hC, hM⟩, ⟨hS, hO, hE⟩, ⟨sC, sM, rg, eR⟩, ⟨hTk, tR⟩, mp⟩ := H
  have h60 := hB9.1
  obtain ⟨q32, k6, bN, rT⟩ := hS.1 q hq
  obtain ⟨a1, a2, a3, a4, a5, a6, a7, a8⟩ := (sC q q32).1 hq
  obtain ⟨b1, b2, b3, b4, b5, b6, b7⟩ := (sM q q32).1 hq
  obtain ⟨e1, e2, e3, e4⟩ := eR (K q) k6
  obtain ⟨ec', en', hG, hR⟩ := rl_ent H9 hq rfl
  have hX := rl_X H9 hq
  rw [show nat (c_k u q) = K q by rw [a1, nat_nI (by omega)], show nat (m_k v q) = K q by rw [b2, nat_nI (by omega)], show nat (c_ct u (K q)) = ec (K q) by rw [e2, nat_nI (by omega)], show nat (m_ec v (K q)) = ec (K q) by rw [e3, nat_nI (by omega)]]
  rw [← a5] at hR
  have hR2 : EnR (upd (c_ct u) (K q) (nI (mv (c_pl u (K q)) (nI q) (c_n u q) (ec (K q))).2)) (va_up (c_pl u) (K q) (mv (c_pl u (K q)) (nI q) (c_n u q) (ec (K q))).1) (upd (m_ec v) (K q) (nI (lve (m_n v q) q (K q) (ec (K q)) (m_en v, ec (K q))).2)) (lve (m_n v q) q (K q) (ec (K q)) (m_en v, ec (K q))).1 ec' en' := by
    rw [show m_n v q = c_n u q by rw [a5, b7]]; exact hR
  have hXe : ∀ j, U j → (oi (X j) = nI q ↔ X j = q + 1) := fun j hj => oi_nI (by have := rl_X H9 hj; omega) (by omega)
  have sC' : SlC (upd (c_k u) q (-1)) (upd (c_b u) q (-1)) (upd (c_f u) q 0) (upd (c_d u) q (-1)) (upd (rpl (c_n u) (nI q) (c_n u q) 32) q (-1)) (upd (c_r u) q (-1)) (c_bs u) (c_ds u) st (fun j => U j ∧ ¬ j = q) K B D (fun j => if X j = q + 1 then X q else X j) R F := by
    intro j j32
    unfold upd
    by_cases e : j = q
    · rw [if_pos e, if_pos e, if_pos e, if_pos e, if_pos e, if_pos e]
      exact ⟨fun z => absurd e z.2, fun _ => ⟨rfl, rfl, rfl, rfl, rfl⟩⟩
    · rw [if_neg e, if_neg e, if_neg e, if_neg e, if_neg e, if_neg e]
      unfold rpl
      refine ⟨fun hj => ?_, fun hj => ?_⟩
      · obtain ⟨z1, z2, z3, z4, z5, z6, z7, z8⟩ := (sC j j32).1 hj.1
        refine ⟨z1, z2, z3, z4, ?_, z6, z7, z8⟩
        rw [z5]
        show _ = oi (if X j = q + 1 then X q else X j)
        by_cases g : X j = q + 1
        · rw [if_pos ⟨j32, (hXe j hj.1).mpr g⟩, if_pos g, a5]
        · rw [if_neg (fun z => g ((hXe j hj.1).mp z.2)), if_neg g]
      · obtain ⟨z1, z2, z3, z4, z5⟩ := (sC j j32).2 (fun z => hj ⟨z, e⟩)
        refine ⟨z1, z2, z3, z4, ?_⟩
        rw [z5, if_neg (fun z => nI_m1 q (by omega) z.2.symm)]
  have sM' : SlM (upd (m_us v) q 0) (m_k v) (m_v v) (m_b v) (m_fr v) (m_d v) (rplU (m_us v) (m_n v) (nI q) (m_n v q) 32) (c_v u) (fun j => U j ∧ ¬ j = q) K B D (fun j => if X j = q + 1 then X q else X j) F := by
    intro j j32
    unfold upd rplU
    by_cases e : j = q
    · rw [if_pos e]
      exact ⟨fun z => absurd e z.2, fun _ => rfl⟩
    · rw [if_neg e]
      refine ⟨fun hj => ?_, fun hj => (sM j j32).2 (fun z => hj ⟨z, e⟩)⟩
      obtain ⟨z1, z2, z3, z4, z5, z6, z7⟩ := (sM j j32).1 hj.1
      refine ⟨z1, z2, z3, z4, z5, z6, ?_⟩
      rw [z7]
      show _ = oi (if X j = q + 1 then X q else X j)
      by_cases g : X j = q + 1
      · rw [if_pos ⟨j32, z1, (hXe j hj.1).mpr g⟩, if_pos g, b7]
      · rw [if_neg (fun z => g ((hXe j hj.1).mp z.2.2)), if_neg g]
  have rg' : RgM (m_b v) (m_d v) (rplU (m_us v) (m_n v) (nI q) (m_n v q) 32) (m_k v) := by
    intro j j32
    obtain ⟨z1, z2, z3, z4⟩ := rg j j32
    refine ⟨z1, z2, ?_, z4⟩
    unfold rplU
    by_cases g : j < 32 ∧ ¬ m_us v j = 0 ∧ m_n v j = nI q
    · rw [if_pos g]; exact (rg q q32).2.2.1
    · rw [if_neg g]; exact z3
  have tR' : TbR (c_tk u) (c_tv u) (c_tb u) (c_td u) (c_tc u) (c_v u) N T S P (fun j => U j ∧ ¬ j = q) K B D R := by
    refine ⟨tR.1, fun j hj => tR.2.1 j hj.1, fun i hi => ?_⟩
    rcases tR.2.2 i hi with ⟨p, hp, z⟩ | z
    · by_cases e : p = q
      · obtain ⟨y1, y2, y3, y4⟩ := tR.2.1 p hp
        rw [z, e] at y3 y4
        exact Or.inr ⟨B q, D q, y3, y4, bN, rl_D H9 hq, hc.2⟩
      · exact Or.inl ⟨p, ⟨hp, e⟩, z⟩
    · exact Or.inr z
  exact ⟨ec', en', ⟨hB9, hT, hC, hM⟩, ⟨SlI_g hT hS (fun _ => Iff.rfl) hq (fun _ _ => rfl), OrI_g hO (fun _ => Iff.rfl), EnI_g hT hS hE (fun _ => Iff.rfl) hq (fun _ _ => rfl) hG⟩, ⟨sC', sM', rg', hR2⟩, ⟨hTk, tR'⟩, mp⟩
end CLEAN1

/-! ===== clean, on both sides ===== -/
section CLEAN2
variable {l : Launch} {D9 : va_G} {K9 : Nat → ClassId} {k N T n : Nat} {u : CU} {v : MU} {st S : Nat → Nat} {P : Nat → Nat → Prop} {U : Nat → Prop} {K B D X R : Nat → Nat} {F : Nat → Prop} {ec : Nat → Nat} {en : Nat → Nat → Nat} {q : Nat}
theorem ctq_ext {p q : Nat → Prop} : ∀ m, (∀ j, j < m → (p j ↔ q j)) → ctq p m = ctq q m := by
  intro m
  induction m with
  | zero => intro _; rfl
  | succ m ih =>
    intro h
    rw [ctq, ctq, ih (fun j hj => h j (by omega)), propext (h m (by omega))]
theorem ctq_out {p q : Nat → Prop} {i m : Nat} (hi : i < m) (hp : p i) (h : ∀ j, q j ↔ p j ∧ ¬ j = i) : ctq p m = ctq q m + 1 := by
  induction m with
  | zero => omega
  | succ m ih =>
    rw [ctq, ctq]
    by_cases e : i = m
    · have e1 := ctq_ext (p := p) (q := q) i (fun j hj => ⟨fun z => (h j).mpr ⟨z, by omega⟩, fun z => ((h j).mp z).1⟩)
      rw [← e, cif_t hp, cif_f (fun z => ((h i).mp z).2 rfl)]
      omega
    · rw [ih (by omega), propext (⟨fun z => (h m).mpr ⟨z, fun y => e y.symm⟩, fun z => ((h m).mp z).1⟩ : p m ↔ q m)]
      omega
/-- the first m slots of a page cleaned -/
theorem rl_cln (H : RlX k u v N T n st S P U K B D X R F ec en) {a : Nat} (ha : a < 4) : ∀ m, m ≤ 8 → ∃ (U' : Nat → Prop) (X' ec' : Nat → Nat) (en' : Nat → Nat → Nat), RlX k (cln u (stl u N) a m).1 (clM v N a m).1 N T n st S P U' K B D X' R F ec' en' ∧ stl (cln u (stl u N) a m).1 N = stl u N ∧ (cln u (stl u N) a m).2 = (clM v N a m).2 ∧ (∀ j, U' j → U j) ∧ (∀ i, i < m → ¬ cgA N S P U' B D (a * 8 + i)) ∧ ctq (fun j => U (a * 8 + j)) 8 = ctq (fun j => U' (a * 8 + j)) 8 + (cln u (stl u N) a m).2 ∧ ∀ j, ¬ j / 8 = a → (U' j ↔ U j) := by
  intro m
  induction m with
  | zero => intro _; exact ⟨U, X, ec, en, H, rfl, rfl, fun _ h => h, fun i hi => by omega, rfl, fun _ _ => Iff.rfl⟩
  | succ m ih =>
    intro hm
    obtain ⟨U', X', ec', en', H', h1, h2, h3, h4, h5, h6⟩ := ih (by omega)
    have e8 : a * 8 + m = 8 * a + m := by omega
    have q32 : a * 8 + m < 32 := by omega
    have gC := cg_C H' q32
    have gM := cg_M H' q32
    rw [h1] at gC
    by_cases hc : cgA N S P U' B D (a * 8 + m)
    · obtain ⟨ec2, en2, H2⟩ := rl_go H' hc
      have gM' : cgM (clM v N a m).1 (8 * a + m) N := by rw [← e8]; exact gM.mpr hc
      refine ⟨fun j => U' j ∧ ¬ j = a * 8 + m, fun j => if X' j = a * 8 + m + 1 then X' (a * 8 + m) else X' j, ec2, en2, ?_, ?_, ?_, fun j hj => h3 j hj.1, fun i hi hg => ?_, ?_, fun j hj => ⟨fun z => (h6 j hj).mp z.1, fun z => ⟨(h6 j hj).mpr z, fun e => hj (by omega)⟩⟩⟩
      · rw [cln_y rfl (gC.mpr hc), clM_y rfl gM', ← e8]
        exact H2
      · rw [cln_y rfl (gC.mpr hc)]
        show stl (cto _ _ _ _) N = _
        rw [stl_cto]; exact h1
      · rw [cln_y rfl (gC.mpr hc), clM_y rfl gM']
        show _ + 1 = _ + 1
        rw [h2]
      · by_cases e : i = m
        · rw [e] at hg; exact hg.1.2 rfl
        · exact h4 i (by omega) ⟨hg.1.1, hg.2⟩
      · rw [cln_y rfl (gC.mpr hc), h5, ctq_out (p := fun j => U' (a * 8 + j)) (i := m) (by omega) hc.1 (q := fun j => U' (a * 8 + j) ∧ ¬ a * 8 + j = a * 8 + m) (fun j => ⟨fun z => ⟨z.1, fun e => z.2 (by omega)⟩, fun z => ⟨z.1, fun e => z.2 (by omega)⟩⟩)]
        show ctq (fun j => U' (a * 8 + j) ∧ ¬ a * 8 + j = a * 8 + m) 8 + 1 + (cln u (stl u N) a m).2 = ctq (fun j => U' (a * 8 + j) ∧ ¬ a * 8 + j = a * 8 + m) 8 + ((cln u (stl u N) a m).2 + 1)
        omega
    · have gC' := fun z => hc (gC.mp z)
      have gM' : ¬ cgM (clM v N a m).1 (8 * a + m) N := fun z => hc (gM.mp (by rw [e8]; exact z))
      refine ⟨U', X', ec', en', ?_, ?_, ?_, h3, fun i hi hg => ?_, ?_, h6⟩
      · rw [cln_n rfl gC', clM_n rfl gM']; exact H'
      · rw [cln_n rfl gC']; exact h1
      · rw [cln_n rfl gC', clM_n rfl gM']; exact h2
      · by_cases e : i = m
        · rw [e] at hg; exact hc hg
        · exact h4 i (by omega) hg
      · rw [cln_n rfl gC']; exact h5
theorem frM_in {N a : Nat} : ∀ m i, i < m → frM v N a m (8 * a + i) = fb (fzM v N (8 * a + i)) := by
  intro m
  induction m with
  | zero => intro i hi; omega
  | succ m ih =>
    intro i hi
    rw [frM]
    unfold upd
    by_cases e : i = m
    · rw [if_pos (by omega), e]
    · rw [if_neg (by omega)]; exact ih i (by omega)
theorem frM_out {N a j : Nat} (hj : j < 8 * a ∨ 8 * a + 8 ≤ j) : ∀ m, m ≤ 8 → frM v N a m j = m_fr v j := by
  intro m
  induction m with
  | zero => intro _; rfl
  | succ m ih =>
    intro hm
    rw [frM]
    unfold upd
    rw [if_neg (by omega)]
    exact ih (by omega)
/-- old births frozen -/
theorem rl_frz (H : RlX k u v N T n st S P U K B D X R F ec en) {a : Nat} (ha : a < 4) {S9 : Int64} (h9 : S9 = stl u N) : ∃ F' : Nat → Prop, RlX k (s_f u (fzn u S9 (a * 8) (a * 8 + 8))) (ms_fr v (frM v N a 8)) N T n st S P U K B D X R F' ec en ∧ ∀ j, F j → F' j := by
  have H9 := H
  obtain ⟨⟨hB9, hT, hC, hM⟩, ⟨hS, hO, hE⟩, ⟨sC, sM, rg, eR⟩, ⟨hTk, tR⟩, mp⟩ := H
  have h60 := hB9.1
  let F' : Nat → Prop := fun j => F j ∨ (j / 8 = a ∧ ¬ nI (agA n st (B j)) < c_fz u ∧ past N S P (B j))
  have f1 : ∀ j, F' j ↔ F j ∨ (j / 8 = a ∧ ¬ nI (agA n st (B j)) < c_fz u ∧ past N S P (B j)) := fun j => Iff.rfl
  clear_value F'
  have hfz : ∀ j, j < 32 → (U j → (fzP u S9 j ↔ ¬ nI (agA n st (B j)) < c_fz u ∧ past N S P (B j))) ∧ (¬ U j → ¬ fzP u S9 j) := by
    intro j j32
    refine ⟨fun hj => ?_, fun hj z => hj ((us_C H9 j32).mp z.1)⟩
    obtain ⟨a1, a2, a3, a4, a5, a6, a7, a8⟩ := (sC j j32).1 hj
    obtain ⟨-, k6, bN, rT⟩ := hS.1 j hj
    unfold fzP
    rw [a7, a2, h9, age_C H9 bN, stl_C H9 bN]
    exact ⟨fun z => z.2, fun z => ⟨(us_C H9 j32).mpr hj, z⟩⟩
  have sC' : SlC (c_k u) (c_b u) (fzn u S9 (a * 8) (a * 8 + 8)) (c_d u) (c_n u) (c_r u) (c_bs u) (c_ds u) st U K B D X R F' := by
    intro j j32
    refine ⟨fun hj => ?_, fun hj => ?_⟩
    · obtain ⟨a1, a2, a3, a4, a5, a6, a7, a8⟩ := (sC j j32).1 hj
      refine ⟨a1, a2, ?_, a4, a5, a6, a7, a8⟩
      unfold fzn
      by_cases g : a * 8 ≤ j ∧ j < a * 8 + 8 ∧ fzP u S9 j
      · have e : (@ite _ (a * 8 ≤ j ∧ j < a * 8 + 8 ∧ fzP u S9 j) (Classical.propDecidable _) (1 : Int32) (c_f u j)) = 1 := if_pos g
        rw [e, f1]
        exact ⟨fun z => absurd z (by decide), fun z => absurd (Or.inr ⟨by omega, ((hfz j j32).1 hj).mp g.2.2⟩) z⟩
      · have e : (@ite _ (a * 8 ≤ j ∧ j < a * 8 + 8 ∧ fzP u S9 j) (Classical.propDecidable _) (1 : Int32) (c_f u j)) = c_f u j := if_neg g
        rw [e, a3, f1]
        refine ⟨fun z y => ?_, fun z y => z (Or.inl y)⟩
        rcases y with y | ⟨y1, y2⟩
        · exact z y
        · exact g ⟨by omega, by omega, ((hfz j j32).1 hj).mpr y2⟩
    · obtain ⟨a1, a2, a3, a4, a5⟩ := (sC j j32).2 hj
      refine ⟨a1, a2, ?_, a4, a5⟩
      unfold fzn
      exact (if_neg (fun z => (hfz j j32).2 hj z.2.2)).trans a3
  have sM' : SlM (m_us v) (m_k v) (m_v v) (m_b v) (frM v N a 8) (m_d v) (m_n v) (c_v u) U K B D X F' := by
    intro j j32
    refine ⟨fun hj => ?_, (sM j j32).2⟩
    obtain ⟨b1, b2, b3, b4, b5, b6, b7⟩ := (sM j j32).1 hj
    obtain ⟨-, k6, bN, rT⟩ := hS.1 j hj
    refine ⟨b1, b2, b3, b4, ?_, b6, b7⟩
    by_cases g : j / 8 = a
    · have e : j = 8 * a + j % 8 := by omega
      rw [e, frM_in 8 (j % 8) (by omega), ← e, fb_z, f1]
      unfold fzM
      rw [b4, b5, nat_nI (by omega), age_M H9 bN, pa_M H9 bN, ← mp.1]
      refine ⟨fun z y => ?_, fun z y => ?_⟩
      · rcases y with y | y
        · exact z (Or.inl (fun x => x y))
        · exact z (Or.inr ⟨b1, y.2⟩)
      · rcases y with y | y
        · exact z (Or.inl (Classical.byContradiction y))
        · exact z (Or.inr ⟨g, y.2⟩)
    · rw [frM_out (by omega) 8 (Nat.le_refl _), b5, f1]
      refine ⟨fun z y => ?_, fun z y => z (Or.inl y)⟩
      rcases y with y | y
      · exact z y
      · exact g y.1
  refine ⟨F', ?_, fun j hj => (f1 j).mpr (Or.inl hj)⟩
  exact ⟨⟨hB9, hT, hC, hM⟩, ⟨⟨hS.1, hS.2.1, hS.2.2.1, hS.2.2.2.1, fun j hj hf => by
    rcases (f1 j).mp hf with z | z
    · exact hS.2.2.2.2 j hj z
    · exact z.2.2⟩, hO, hE⟩, ⟨sC', sM', rg, eR⟩, ⟨hTk, tR⟩, mp⟩
theorem cln_mp {u : CU} {S9 : Int64} {a : Nat} : ∀ m, c_mp (cln u S9 a m).1 = c_mp u := by
  intro m
  induction m with
  | zero => rfl
  | succ m ih =>
    by_cases g : cgP (cln u S9 a m).1 (a * 8 + m) S9
    · rw [cln_y rfl g]; exact ih
    · rw [cln_n rfl g]; exact ih
theorem rl_clean (H : RlX k u v N T n st S P U K B D X R F ec en) {a : Nat} (ha : a < 4) : ∃ (U' : Nat → Prop) (X' : Nat → Nat) (F' : Nat → Prop) (ec' : Nat → Nat) (en' : Nat → Nat → Nat), RlX k (ccl u N a) (mcl v N a) N T n st S P U' K B D X' R F' ec' en' ∧ (∀ j, U' j → U j) ∧ (∀ i, i < 8 → ¬ cgA N S P U' B D (a * 8 + i)) ∧ ctq (fun j => U (a * 8 + j)) 8 = ctq (fun j => U' (a * 8 + j)) 8 + (cln u (stl u N) a 8).2 ∧ (∀ j, F j → F' j) ∧ c_mp (ccl u N a) = upd (c_mp u) a (fb (whA N S P U' B D F' a)) := by
  obtain ⟨U', X', ec', en', H1, h1, h2, h3, h4, h5, h6⟩ := rl_cln (rlx_thr (x := 0) H) ha 8 (Nat.le_refl _)
  obtain ⟨F', H2, hF⟩ := rl_frz H1 ha h1.symm
  have wC9 := wh_C H2 ha
  have wM9 := wh_M H2 ha
  have zmp : c_mp (ccl u N a) = upd (c_mp u) a (fb (whA N S P U' B D F' a)) := by
    rw [← cln_mp (u := u) (S9 := stl u N) (a := a) 8, ← fb_c wC9]; rfl
  refine ⟨U', X', F', ec', en', ?_, h3, h4, h5, hF, zmp⟩
  obtain ⟨g1, g2, g3, ⟨g4, g5⟩, g6⟩ := H2
  refine ⟨g1, g2, g3, ⟨g4, g5⟩, g6.1, fun j hj => ?_⟩
  have hm : MpR (upd (c_mp (cln u (stl u N) a 8).1) a (fb (whA N S P U' B D F' a))) (upd (m_mp (clM (ms_thr v 0) N a 8).1) a (fb (whA N S P U' B D F' a))) 0 0 := by
    refine ⟨rfl, fun i hi => ?_⟩
    unfold upd
    by_cases e : i = a
    · rw [if_pos e, if_pos e]
      refine ⟨rfl, ?_⟩
      by_cases y : whA N S P U' B D F' a
      · exact Or.inr (fb_t y)
      · exact Or.inl (fb_f y)
    · rw [if_neg e, if_neg e]; exact g6.2 i hi
  have z := hm.2 j hj
  have zc : c_mp (ccl u N a) = upd (c_mp (cln u (stl u N) a 8).1) a (fb (whA N S P U' B D F' a)) := by
    rw [← fb_c wC9]; rfl
  have zm : m_mp (mcl v N a) = upd (m_mp (clM (ms_thr v 0) N a 8).1) a (fb (whA N S P U' B D F' a)) := by
    rw [← fb_c wM9]; rfl
  rw [zc, zm]; exact z
end CLEAN2

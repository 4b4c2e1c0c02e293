/-! ===== delete, write, clean ===== -/
noncomputable def tnA (U : Nat → Prop) (K D X : Nat → Nat) (F : Nat → Prop) (q : Nat) : Nat := cif (U q) (1 + K q + cif (F q) 10 0 + cif (D q = 0) 0 20 + cif (X q = 0) 0 (100 * ((X q - 1) % 8 + 1))) 0
section ZWRITE
variable {k N T n : Nat} {u : CU} {v : MU} {st S : Nat → Nat} {P : Nat → Nat → Prop} {U : Nat → Prop} {K B D X R : Nat → Nat} {F : Nat → Prop} {ec : Nat → Nat} {en : Nat → Nat → Nat} {t q i : Nat}
theorem tn_u (hq : U q) : ∃ f d x, tnA U K D X F q = (K q + f + d + x) + 1 ∧ (f = 0 ∨ f = 10) ∧ ((D q = 0 ∧ d = 0) ∨ (¬ D q = 0 ∧ d = 20)) ∧ ((X q = 0 ∧ x = 0) ∨ ∃ j, X q = j + 1 ∧ x = 100 * (j % 8 + 1)) := by
  unfold tnA
  rw [cif_t hq]
  refine ⟨cif (F q) 10 0, cif (D q = 0) 0 20, cif (X q = 0) 0 (100 * ((X q - 1) % 8 + 1)), by omega, ?_, ?_, ?_⟩
  · by_cases h : F q
    · rw [cif_t h]; exact Or.inr rfl
    · rw [cif_f h]; exact Or.inl rfl
  · by_cases h : D q = 0
    · rw [cif_t h]; exact Or.inl ⟨h, rfl⟩
    · rw [cif_f h]; exact Or.inr ⟨h, rfl⟩
  · by_cases h : X q = 0
    · rw [cif_t h]; exact Or.inl ⟨h, rfl⟩
    · rw [cif_f h]; exact Or.inr ⟨X q - 1, by omega, rfl⟩
theorem tn_new (hq : U q) (hk : K q = i) (hf : ¬ F q) (hd : D q = 0) (hx : X q = 0) : tnA U K D X F q = i + 1 := by
  unfold tnA
  rw [cif_t hq, hk, cif_f hf, cif_t hd, cif_t hx]; omega
theorem tn_n (hq : ¬ U q) : tnA U K D X F q = 0 := cif_f hq
theorem slv_at (H : RlX k u v N T n st S P U K B D X R F ec en) (q32 : q < 32) : slv u q = oi (tnA U K D X F q) := by
  unfold slv
  by_cases hq : U q
  · obtain ⟨a1, a2, a3, a4, a5, a6, a7, a8⟩ := (H.2.2.1.1 q q32).1 hq
    have hDN := rl_D H hq
    have hX := rl_X H hq
    have h60 := H.1.1.1
    refine Eq.trans (if_pos ((us_C H q32).mpr hq)) ?_
    have e1 : sl1 u q = nI (K q + cif (F q) 10 0) := by
      unfold sl1
      by_cases hf : F q
      · rw [cif_t hf]
        refine Eq.trans (if_neg (fun z => a3.mp z hf)) ?_
        rw [a1]; exact nI_add (K q) 10
      · rw [cif_f hf]
        refine Eq.trans (if_pos (a3.mpr hf)) ?_
        rw [a1]; rfl
    have e2 : ∀ m, sl2 u q (nI m) = nI (m + cif (D q = 0) 0 20) := by
      intro m
      unfold sl2 hdP
      rw [a4]
      by_cases hd : D q = 0
      · rw [cif_t hd]
        exact if_neg (fun z => z ((oi_0 (by omega)).mpr hd))
      · rw [cif_f hd]
        refine Eq.trans (if_pos (fun z => hd ((oi_0 (by omega)).mp z))) ?_
        exact nI_add m 20
    have e3 : ∀ m, sl3 u q (nI m) = nI (m + cif (X q = 0) 0 (100 * ((X q - 1) % 8 + 1))) := by
      intro m
      unfold sl3
      rw [a5]
      by_cases hx : X q = 0
      · rw [cif_t hx, hx]
        exact if_neg pl_m1
      · obtain ⟨j, hj⟩ : ∃ j, X q = j + 1 := ⟨X q - 1, by omega⟩
        rw [cif_f hx, hj, show oi (j + 1) = nI j from rfl, nat_nI (by omega)]
        refine Eq.trans (if_pos (pl_nI (by omega))) ?_
        rw [show (1 : Int32) + nI (j % 8) = nI (1 + j % 8) from nI_add 1 (j % 8), show (100 : Int32) * nI (1 + j % 8) = nI (100 * (1 + j % 8)) from pk_mul 100 (1 + j % 8), nI_add, show j + 1 - 1 = j by omega, Nat.add_comm 1 (j % 8)]
    rw [e1, e2, e3]
    unfold tnA
    rw [cif_t hq, show 1 + K q + cif (F q) 10 0 + cif (D q = 0) 0 20 + cif (X q = 0) 0 (100 * ((X q - 1) % 8 + 1)) = (K q + cif (F q) 10 0 + cif (D q = 0) 0 20 + cif (X q = 0) 0 (100 * ((X q - 1) % 8 + 1))) + 1 by omega]
    rfl
  · rw [tn_n hq]
    exact if_neg (fun z => hq ((us_C H q32).mp z))
/-- rows where one version died, read by others or of another key -/
theorem rw_die (hk5 : k < 512) (H : RlX k u v N T n st S P U K B D X R F ec en) (ht : t < N) (h0 : S t = 0) (hi : i < 6) {p : Nat} (hp : U p) (hk : K p = i) (hD : D p = 0) {u2 : CU} {t2 i2 r : Nat} (ht2 : t2 < N) (hi2 : i2 < 6) (hne : ¬ t2 = t ∨ ¬ i2 = i) (hsn : c_sn u2 t2 = c_sn u t2) (htk : c_tk u2 r = c_tk u r) (htb : c_tb u2 r = c_tb u r) (htd : c_td u2 r = upd (c_td u) (nat (c_r u p)) (nI t) r) : rwP u2 t2 i2 r ↔ rwP u t2 i2 r := by
  have h60 := H.1.1.1
  have er : nat (c_r u p) = R p := by rw [((H.2.2.1.1 p (H.2.1.1.1 p hp).1).1 hp).2.2.2.2.2.1, nat_nI (by have := (H.2.1.1.1 p hp).2.2.2; have := (rl_T H).1; omega)]
  unfold rwP
  rw [htk, htb, htd, kn_eq hsn, kn_eq hsn, er]
  unfold upd
  by_cases e : r = R p
  · rw [if_pos e, e]
    obtain ⟨a1, a2, a3, a4⟩ := H.2.2.2.1.2.2.1 p hp
    rw [a1, a4, hD, hk]
    rcases hne with hne | hne
    · have n1 := kn_no H ht2 ht h0 hne
      have n2 : ¬ knP u t2 (-1) := (kn_m1 (u := u) (t := t2)).resolve_right (fun z => z (by omega))
      exact ⟨fun z => ⟨z.1, z.2.1, n2⟩, fun z => ⟨z.1, z.2.1, n1⟩⟩
    · have n1 : ¬ nI i = nI i2 := fun z => hne ((nI_eq (by omega) (by omega)).mp z).symm
      exact ⟨fun z => absurd z.1 n1, fun z => absurd z.1 n1⟩
  · rw [if_neg e]
/-- what is seen has no death, where writing isn't refused -/
theorem z_del (hk : k < 512) (h : ZI k u N T S) (ht : t < N) (h0 : S t = 0) (hi : i < 6) {p : Nat} (p32 : p < 32) (hw : spl u t i (nat (c_ct u i)) = nI p) (hr : ¬ rfP u t i) :
    ZI k (cpd u t p (nat (c_r u p))) N T S ∧ (∀ t2 i2, t2 < N → i2 < 6 → (¬ t2 = t ∨ ¬ i2 = i) → rpw (cpd u t p (nat (c_r u p))) t2 i2 0 T = rpw u t2 i2 0 T) ∧ rpw (cpd u t p (nat (c_r u p))) t i 0 T = -1 := by
  obtain ⟨v, n, st, P, U, K, B, D, X, R, F, ec, en, H, hA, hM, hV, hF⟩ := h
  have hr' : ¬ rfA S P U K B D t i := fun z => hr ((rf_C H ht hi).mpr z)
  rcases z_see H hV ht h0 hi with ⟨z1, z2⟩ | ⟨p', z, g1, g2, g3, g4, g5, g6⟩
  · rw [hw] at z1; exact absurd z1 (nI_m1 p (by omega))
  · have ep : p' = p := by
      rw [hw] at g4
      exact ((nI_eq (by omega) (by have := (H.2.1.1.1 p' g1).1; omega)).mp g4).symm
    rw [ep] at g1 g2 g3
    have hD := rl_D0 H hr' g1 g2 g3
    have H' := rl_die hk H ht h0 g1 hD
    have hV' : VlI (c_v (cpd u t p (nat (c_r u p)))) U := hV
    have hA' : AgI N n st S U B (fun j => if j = p then t + 1 else D j) F := ⟨hA.1, hA.2.1, fun x d hx hd => by
      have hd2 : (if x = p then t + 1 else D x) = d + 1 := hd
      by_cases e : x = p
      · rw [if_pos e] at hd2
        rw [show d = t by omega]; exact hA.1 t ht h0
      · rw [if_neg e] at hd2; exact hA.2.2 x d hx hd2⟩
    refine ⟨⟨_, n, st, P, U, K, B, _, X, R, F, ec, en, H', hA', fun a ha hm x hx hxa => ?_, hV', hF⟩, fun t2 i2 ht2 hi2 hne => rpw_eq T 0 (fun r _ _ => ⟨rw_die hk H ht h0 hi g1 g2 hD ht2 hi2 hne rfl rfl rfl rfl, fun _ => rfl⟩), ?_⟩
    · have hm2 : ¬ upd (c_mp u) (p / 8) 0 a = 0 := hm
      unfold upd at hm2
      by_cases e : a = p / 8
      · rw [if_pos e] at hm2; exact absurd rfl hm2
      · rw [if_neg e] at hm2
        obtain ⟨y1, y2⟩ := hM a ha hm2 x hx hxa
        refine ⟨?_, y2⟩
        show (if x = p then t + 1 else D x) = 0
        rw [if_neg (fun y => e (by rw [← hxa, y]))]; exact y1
    · rcases z_see H' hV' ht h0 hi with ⟨z1, z2⟩ | ⟨p2, z', f1, f2, f3, f4, f5, f6⟩
      · exact z2
      · exfalso
        by_cases e : p2 = p
        · exact f3.2 t (by show (if p2 = p then t + 1 else D p2) = t + 1; rw [if_pos e]) (Or.inl rfl)
        · have s2 : seA P B D F t p2 := ⟨f3.1, fun d hd => f3.2 d (by show (if p2 = p then t + 1 else D p2) = d + 1; rw [if_neg e]; exact hd)⟩
          exact e (vis_one H.1.2.1 H.2.1.1 H.2.1.2.1 ht h0 f1 g1 (by rw [f2, g2]) ((se_vis H ht h0 f1).mp s2) ((se_vis H ht h0 g1).mp g3))
/-- what a write does to the table, the values, the map -/
theorem cwr_fr {w z : Int32} {s : Nat} (hp : pfn u w = nI s) (s32 : s < 32) (hw : w = -1 ∨ ∃ p, p < 32 ∧ w = nI p) :
    (c_sn (cwr u t i T w z) = c_sn u ∧ c_tk (cwr u t i T w z) = upd (c_tk u) T (nI i) ∧ c_tv (cwr u t i T w z) = upd (c_tv u) T z ∧ c_tb (cwr u t i T w z) = upd (c_tb u) T (nI t) ∧ c_v (cwr u t i T w z) = upd (c_v u) s z ∧ c_fz (cwr u t i T w z) = c_fz u) ∧
    ((w = -1 ∧ c_td (cwr u t i T w z) = upd (c_td u) T (-1) ∧ c_mp (cwr u t i T w z) = upd (c_mp u) (s / 8) 0) ∨ ∃ p, p < 32 ∧ w = nI p ∧ c_td (cwr u t i T w z) = upd (upd (c_td u) (nat (c_r u p)) (nI t)) T (-1) ∧ c_mp (cwr u t i T w z) = upd (upd (c_mp u) (p / 8) 0) (s / 8) 0) := by
  rcases hw with hw | ⟨p, p32, hw⟩
  · rw [hw] at hp ⊢
    rw [cwr_o pl_m1 hp s32]
    exact ⟨⟨rfl, rfl, rfl, rfl, rfl, rfl⟩, Or.inl ⟨rfl, rfl, rfl⟩⟩
  · rw [hw] at hp ⊢
    by_cases e : p / 8 = s / 8
    · rw [cwr_y p32 hp s32 e]
      exact ⟨⟨rfl, rfl, rfl, rfl, rfl, rfl⟩, Or.inr ⟨p, p32, rfl, rfl, rfl⟩⟩
    · rw [cwr_n p32 hp s32 e]
      exact ⟨⟨rfl, rfl, rfl, rfl, rfl, rfl⟩, Or.inr ⟨p, p32, rfl, rfl, rfl⟩⟩
theorem z_wr (hk : k < 512) (h : ZI k u N T S) (ht : t < N) (h0 : S t = 0) (hi : i < 6) {z : Nat} (hz : z < 10000) (hr : ¬ rfP u t i) (hp : plP (pfn u (spl u t i (nat (c_ct u i))))) :
    ZI (k + 1) (cwr u t i T (spl u t i (nat (c_ct u i))) (nI z)) N (T + 1) S ∧
    (∀ t2 i2, t2 < N → i2 < 6 → (¬ t2 = t ∨ ¬ i2 = i) → rpw (cwr u t i T (spl u t i (nat (c_ct u i))) (nI z)) t2 i2 0 (T + 1) = rpw u t2 i2 0 T) ∧
    rpw (cwr u t i T (spl u t i (nat (c_ct u i))) (nI z)) t i 0 (T + 1) = nI z ∧
    ∃ s y, s < 32 ∧ (y = 0 ∨ (y = 1 ∧ ∃ m, m < 10000 ∧ rpw u t i 0 T = nI m)) ∧ wrr u (spl u t i (nat (c_ct u i))) = nI (1000 * (s / 8) + s % 8 + 100000 * y) ∧ slv (cwr u t i T (spl u t i (nat (c_ct u i))) (nI z)) s = nI i := by
  obtain ⟨v, n, st, P, U, K, B, D, X, R, F, ec, en, H, hA, hM, hV, hF⟩ := h
  have h60 := H.1.1.1
  have hS := H.2.1.1
  have hr' : ¬ rfA S P U K B D t i := fun z => hr ((rf_C H ht hi).mpr z)
  have hsee := z_see H hV ht h0 hi
  have h1 := (rl_sv H ht hi).1
  unfold sv at h1
  rw [nat_nI (n := t) (by omega), nat_nI (n := i) (by omega)] at h1
  generalize spl u t i (nat (c_ct u i)) = w at hp hsee h1 ⊢
  have hw1 : w = -1 ∨ ∃ p, U p ∧ w = nI p := hsee.imp (fun z => z.1) (fun ⟨p, z, g1, g2, g3, g4, g5, g6⟩ => ⟨p, g1, g4⟩)
  have hw2 : w = -1 ∨ ∃ p, p < 32 ∧ w = nI p := hw1.imp id (fun ⟨p, a, b⟩ => ⟨p, (hS.1 p a).1, b⟩)
  rcases rl_place H hw1 with ⟨y1, y2⟩ | ⟨s, s32, hs, hps, hm, -, hpl⟩
  · rw [y1] at hp; exact absurd hp pl_m1
  · obtain ⟨⟨D1, X', ec', en', H', xs, hD1⟩, hwr⟩ := rl_write hk H ht h0 hi hr' (z := nI z) h1 s32 hs hps hm hpl
    obtain ⟨⟨f1, f2, f3, f4, f5, f6⟩, f7⟩ := cwr_fr (t := t) (i := i) (T := T) (z := nI z) hps s32 hw2
    have hV' : VlI (c_v (cwr u t i T w (nI z))) (fun j => U j ∨ j = s) := by
      rw [f5]
      intro x hx
      unfold upd
      by_cases e : x = s
      · rw [if_pos e]; exact ⟨z, hz, rfl⟩
      · rw [if_neg e]; exact hV x (hx.resolve_right e)
    have hA' : AgI N n st S (fun j => U j ∨ j = s) (fun j => if j = s then t else B j) (fun j => if j = s then 0 else D1 j) (fun j => F j ∧ ¬ j = s) := by
      refine ⟨hA.1, fun x hx hf => ?_, fun x d hx hd => ?_⟩
      · show AgB (agA n st (if x = s then t else B x))
        by_cases e : x = s
        · rw [if_pos e]; exact hA.1 t ht h0
        · rw [if_neg e]; exact hA.2.1 x (hx.resolve_right e) (fun y => hf ⟨y, e⟩)
      · have hd2 : (if x = s then 0 else D1 x) = d + 1 := hd
        by_cases e : x = s
        · rw [if_pos e] at hd2; omega
        · rw [if_neg e] at hd2
          rcases hD1 x with y | ⟨-, y, -⟩
          · exact hA.2.2 x d (hx.resolve_right e) (by omega)
          · rw [show d = t by omega]; exact hA.1 t ht h0
    have hM' : MpI (c_mp (cwr u t i T w (nI z))) N S P (fun j => U j ∨ j = s) (fun j => if j = s then t else B j) (fun j => if j = s then 0 else D1 j) (fun j => F j ∧ ¬ j = s) := by
      intro a ha hma x hx hxa
      have hz2 : ¬ c_mp u a = 0 ∧ ¬ a = s / 8 ∧ ∀ p, w = nI p → p < 32 → ¬ a = p / 8 := by
        rcases f7 with ⟨y1, y2, y3⟩ | ⟨p, p32, y1, y2, y3⟩
        · rw [y3] at hma
          unfold upd at hma
          by_cases e : a = s / 8
          · rw [if_pos e] at hma; exact absurd rfl hma
          · rw [if_neg e] at hma
            exact ⟨hma, e, fun p hp' p32 => absurd (y1.symm.trans hp').symm (nI_m1 p (by omega))⟩
        · rw [y3] at hma
          unfold upd at hma
          by_cases e : a = s / 8
          · rw [if_pos e] at hma; exact absurd rfl hma
          · rw [if_neg e] at hma
            by_cases e2 : a = p / 8
            · rw [if_pos e2] at hma; exact absurd rfl hma
            · rw [if_neg e2] at hma
              exact ⟨hma, e, fun p2 hp' p32' => by rw [(nI_eq (by omega) (by omega)).mp (hp'.symm.trans y1)]; exact e2⟩
      have xns : ¬ x = s := fun y => hz2.2.1 (by rw [← hxa, y])
      have ux : U x := hx.resolve_right xns
      obtain ⟨y1, y2⟩ := hM a ha hz2.1 x ux hxa
      show (if x = s then 0 else D1 x) = 0 ∧ ((F x ∧ ¬ x = s) ∨ past N S P (if x = s then t else B x))
      rw [if_neg xns, if_neg xns]
      refine ⟨?_, y2.imp (fun y => ⟨y, xns⟩) id⟩
      rcases hD1 x with y | ⟨-, -, y⟩
      · rw [y]; exact y1
      · exact absurd hxa.symm (hz2.2.2 x y (hS.1 x ux).1)
    have hZ : ZI (k + 1) (cwr u t i T w (nI z)) N (T + 1) S := ⟨_, n, st, P, _, _, _, _, X', _, _, ec', en', H', hA', hM', hV', by rw [f6]; exact hF⟩
    have us : (fun j => U j ∨ j = s) s := Or.inr rfl
    have ks : (fun j => if j = s then i else K j) s = i := if_pos rfl
    have bs : (fun j => if j = s then t else B j) s = t := if_pos rfl
    have ds : (fun j => if j = s then 0 else D1 j) s = 0 := if_pos rfl
    refine ⟨hZ, fun t2 i2 ht2 hi2 hne => ?_, ?_, s, ?_⟩
    · rw [rpw_snoc T 0 (by
        rw [Nat.zero_add]
        rintro ⟨y1, y2, -⟩
        rw [f2] at y1
        rw [kn_eq (u := u) (congrFun f1 t2), f4] at y2
        unfold upd at y1 y2
        rw [if_pos rfl] at y1 y2
        rcases hne with hne | hne
        · exact kn_no H ht2 ht h0 hne y2
        · exact hne ((nI_eq (by omega) (by omega)).mp y1).symm)]
      refine rpw_eq T 0 (fun r _ hrT => ?_)
      have rT : ¬ r = T := by omega
      have g2 : c_tk (cwr u t i T w (nI z)) r = c_tk u r := by rw [f2]; exact if_neg rT
      have g3 : c_tv (cwr u t i T w (nI z)) r = c_tv u r := by rw [f3]; exact if_neg rT
      have g4 : c_tb (cwr u t i T w (nI z)) r = c_tb u r := by rw [f4]; exact if_neg rT
      refine ⟨?_, fun _ => g3⟩
      rcases f7 with ⟨y1, y2, y3⟩ | ⟨p, p32, y1, y2, y3⟩
      · exact rw_fr (by rw [f1]) g2 g4 (by rw [y2]; exact if_neg rT)
      · rcases hsee with ⟨y4, -⟩ | ⟨p', zz, a1, a2, a3, a4, a5, a6⟩
        · rw [y1] at y4; exact absurd y4 (nI_m1 p (by omega))
        · have ep : p' = p := (nI_eq (by have := (hS.1 p' a1).1; omega) (by omega)).mp (a4.symm.trans y1)
          rw [ep] at a1 a2 a3
          exact rw_die hk H ht h0 hi a1 a2 (rl_D0 H hr' a1 a2 a3) ht2 hi2 hne (by rw [f1]) g2 g4 (by rw [y2]; exact if_neg rT)
    · have hf := rl_found H' ht h0 hi us ks ⟨Or.inr (Or.inl bs), fun d hd => by rw [ds] at hd; omega⟩
      rw [rl_plain H' ht h0 hi, ← rl_rdv H' ht hi, hf, rdv_y s32, f5]
      exact if_pos rfl
    · have hsl : slv (cwr u t i T w (nI z)) s = nI i := by
        rw [slv_at H' s32, tn_new (U := fun j => U j ∨ j = s) (K := fun j => if j = s then i else K j) (D := fun j => if j = s then 0 else D1 j) (F := fun j => F j ∧ ¬ j = s) us ks (fun y => y.2 rfl) ds xs]
        rfl
      have hmod : s % 8 < 8 := Nat.mod_lt _ (by decide)
      rcases hsee with ⟨y4, -⟩ | ⟨p, zz, a1, a2, a3, a4, a5, a6⟩
      · refine ⟨0, s32, Or.inl rfl, ?_, hsl⟩
        rw [y4] at hps ⊢
        rw [wrr_o pl_m1 hps s32]
        exact nI_add _ 0
      · have p32 := (hS.1 p a1).1
        rw [a4] at hps
        by_cases e : p / 8 = s / 8
        · refine ⟨1, s32, Or.inr ⟨rfl, zz, a5, a6⟩, ?_, hsl⟩
          rw [a4, wrr_y p32 hps s32 e]
          exact nI_add _ 100000
        · refine ⟨0, s32, Or.inl rfl, ?_, hsl⟩
          rw [a4, wrr_n p32 hps s32 e]
          exact nI_add _ 0
end ZWRITE

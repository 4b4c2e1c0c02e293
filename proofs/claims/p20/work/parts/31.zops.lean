/-! ===== each operation of the class keeps it, and what others read ===== -/
section ZOPS
variable {k N T n : Nat} {u : CU} {v : MU} {st S : Nat → Nat} {P : Nat → Nat → Prop} {U : Nat → Prop} {K B D X R : Nat → Nat} {F : Nat → Prop} {ec : Nat → Nat} {en : Nat → Nat → Nat} {t q i : Nat}
theorem rw_fr {u2 : CU} {t2 r : Nat} (hsn : c_sn u2 t2 = c_sn u t2) (hk : c_tk u2 r = c_tk u r) (hb : c_tb u2 r = c_tb u r) (hd : c_td u2 r = c_td u r) : rwP u2 t2 i r ↔ rwP u t2 i r := by
  unfold rwP; rw [hk, hb, hd, kn_eq hsn, kn_eq hsn]
/-- a transaction begins -/
theorem z_begin (h : ZI k u N T S) (hN : N < 60) (ho : olg u N 32 < 28) : ∃ S' : Nat → Nat, ZI k (cst u N) (N + 1) T S' ∧ S' N = 0 ∧ (∀ t, t < N → S' t = S t) ∧ ∀ t i, t < N → rpw (cst u N) t i 0 T = rpw u t i 0 T := by
  obtain ⟨v, n, st, P, U, K, B, D, X, R, F, ec, en, H, hA, hM, hV, hF⟩ := h
  obtain ⟨st', S', P', H', e1, e2, e3, e4, e5, e6⟩ := rl_begin H hN
  have hn := H.1.1.2.1
  have hst := H.1.1.2.2
  have hS := H.2.1.1
  have l64 := oa_lt (N := N) (n := n) (st := st) (S := S) (U := U) (B := B) (D := D) (F := F)
  rw [oa_ol H] at ho
  have lo : OA N n st S U B D F < 28 := nltI (b := 28) (by omega) (by omega) ho
  have up : ∀ x, x < N → AgB (agA n st x) → agA n st x ≤ OA N n st S U B D F → AgB (agA ((n + 1) % 64) st' x) := by
    intro x hx hb hl
    rw [ag_at hn (hst x hx) (e5 x hx) (by omega)]
    exact ⟨by omega, by omega⟩
  refine ⟨S', ⟨mbg v N, (n + 1) % 64, st', P', U, K, B, D, X, R, F, ec, en, H', ⟨fun x hx h0 => ?_, fun x hx hf => ?_, fun x d hx hd => ?_⟩, fun a ha hm x hx hxa => ?_, hV, hF⟩, e2, e1, fun t i ht => ?_⟩
  · by_cases e : x = N
    · have : agA ((n + 1) % 64) st' x = 1 := by unfold agA; rw [e, e6]; omega
      rw [this]; exact ⟨by omega, by omega⟩
    · have hxN : x < N := by omega
      rw [e1 x hxN] at h0
      exact up x hxN (hA.1 x hxN h0) (oa_a hxN h0)
  · exact up _ (hS.1 x hx).2.2.1 (hA.2.1 x hx hf) (oa_b (hS.1 x hx).1 hx hf)
  · exact up _ (hS.2.1 x d hx hd).1 (hA.2.2 x d hx hd) (oa_d (hS.1 x hx).1 hx hd)
  · obtain ⟨z1, z2⟩ := hM a ha hm x hx hxa
    exact ⟨z1, z2.imp id (fun z => past_b e1 e3 e4 (hS.1 x hx).2.2.1 z)⟩
  · refine rpw_eq T 0 (fun r _ _ => ⟨rw_fr ?_ rfl rfl rfl, fun _ => rfl⟩)
    show vp_updL (c_sn u) N (c_cm u) t = _
    unfold vp_updL; rw [if_neg (by omega)]
/-- stamps jump -/
theorem jo_iff {a s : Nat} (ha : a < 64) (hs : s ≤ 20) : joP (nI a) (nI s) ↔ (a = 0 ∨ a + s < 32) := by
  unfold joP
  rw [nI_add, show (0 : Int32) = nI 0 from rfl, show (32 : Int32) = nI 32 from rfl, nI_ltI (by omega) (by omega), nI_ltI (by omega) (by omega)]
  omega
theorem jm_nI {s : Nat} (h1 : 1 ≤ s) (h2 : s ≤ 20) : jmP (nI s) := by
  refine ⟨?_, ?_⟩
  · rw [show (1 : Int32) = nI 1 from rfl, nI_ltI (by omega) (by omega)]; omega
  · rw [show (20 : Int32) = nI 20 from rfl, nI_leI (by omega) (by omega)]; exact h2
theorem z_old (h : ZI k u N T S) : ∃ a, a < 64 ∧ olg u N 32 = nI a := by
  obtain ⟨v, n, st, P, U, K, B, D, X, R, F, ec, en, H, -⟩ := h
  exact ⟨_, oa_lt, oa_ol H⟩
theorem z_jump (h : ZI k u N T S) {s a : Nat} (h2 : s ≤ 20) (a64 : a < 64) (ho : olg u N 32 = nI a) (hj : a = 0 ∨ a + s < 32) :
    ZI k (s_ns u (skn u (nI s))) N T S ∧ (∀ t i, rpw (s_ns u (skn u (nI s))) t i 0 T = rpw u t i 0 T) ∧ olg (s_ns u (skn u (nI s))) N 32 = nI (if a = 0 then 0 else a + s) := by
  obtain ⟨v, n, st, P, U, K, B, D, X, R, F, ec, en, H, hA, hM, hV, hF⟩ := h
  have l64 := oa_lt (N := N) (n := n) (st := st) (S := S) (U := U) (B := B) (D := D) (F := F)
  have ea : OA N n st S U B D F = a := (nI_eq (by omega) (by omega)).mp ((oa_ol H).symm.trans ho)
  have hn := H.1.1.2.1
  obtain ⟨g1, g2⟩ := ag_jump H hA (s := s) (by omega)
  have s1 : skn u (nI s) = nI ((n + s) % 64) := by unfold skn; rw [H.1.2.2.1.2.1, nI_add, rem64 (by omega)]
  have H' : RlX k (s_ns u (skn u (nI s))) (ms_ns v (nI ((n + s) % 64))) N T ((n + s) % 64) st S P U K B D X R F ec en := by
    obtain ⟨⟨h1, h2, h3, h4⟩, h5, h6, ⟨h7, h8⟩, h9⟩ := H
    exact ⟨⟨⟨h1.1, Nat.mod_lt _ (by decide), h1.2.2⟩, h2, ⟨h3.1, s1, h3.2.2⟩, ⟨h4.1, rfl, h4.2.2⟩⟩, h5, h6, ⟨h7, h8⟩, h9⟩
  refine ⟨⟨_, _, st, P, U, K, B, D, X, R, F, ec, en, H', g1, hM, hV, hF⟩, fun t i => rpw_eq T 0 (fun r _ _ => ⟨rw_fr rfl rfl rfl rfl, fun _ => rfl⟩), ?_⟩
  rw [oa_ol H']
  rcases g2 with ⟨z1, z2⟩ | ⟨z1, z2⟩
  · rw [z2, if_pos (by omega)]
  · rw [z2, if_neg (by omega), ea]
/-- a transaction ends -/
theorem z_many (H : RlX k u v N T n st S P U K B D X R F ec en) (q : Prop) : bcn (c_ac (cfi u t q)) = nI (ctq (fun j => (j < N ∧ S j = 0) ∧ ¬ j = t) N) ∨ ¬ t < N := by
  by_cases ht : t < N
  · left
    obtain ⟨⟨hB, hT, hC, hM⟩, -⟩ := H
    have h60 := hB.1
    rw [cfi_ac, bcn_ctq (q := fun j => (j < N ∧ S j = 0) ∧ ¬ j = t) (N := N) (by omega) (fun j => by rw [not_bit, one_bit (by omega), hC.2.2.2.2.1 j]) (fun j hj z => by omega)]
  · exact Or.inr ht
theorem z_end (h : ZI k u N T S) (ht : t < N) (h0 : S t = 0) (q : Prop) : ∃ S' : Nat → Nat, ZI k (cen u t T q) N T S' ∧ ¬ S' t = 0 ∧ (∀ j, ¬ j = t → S' j = S j) ∧ (∀ t2 i, t2 < N → ¬ t2 = t → rpw (cen u t T q) t2 i 0 T = rpw u t2 i 0 T) ∧ bcn (c_ac (cfi u t q)) = nI (ctq (fun j => (j < N ∧ S j = 0) ∧ ¬ j = t) N) := by
  obtain ⟨v, n, st, P, U, K, B, D, X, R, F, ec, en, H, hA, hM, hV, hF⟩ := h
  have hmany := (z_many (t := t) H q).resolve_right (fun z => z ht)
  by_cases hq : q
  · obtain ⟨S', H', e1, e2⟩ := rl_end1 H ht h0 hq
    have wh : ∀ a, whA N S P U B D F a → whA N S' P U B D F a := fun a hw x hx hxa => by
      obtain ⟨z1, z2⟩ := hw x hx hxa
      exact ⟨z1, z2.imp id (fun z => past_e h0 (Nat.le_refl 1) e1 e2 z)⟩
    have hu : cen u t T q = s_cm (s_ac u (c_ac u &&& ((1 <<< ((nI t).toInt64 &&& 63)) ^^^ (-1)))) (c_cm u ||| (1 <<< ((nI t).toInt64 &&& 63))) := by rw [cen_t hq, cfi_t hq]
    refine ⟨S', ⟨_, n, st, P, U, K, B, D, X, R, F, ec, en, H', ⟨fun x hx hx0 => hA.1 x hx (by
      by_cases e : x = t
      · rw [e]; exact h0
      · rw [← e2 x e]; exact hx0), hA.2.1, hA.2.2⟩, ?_, ?_, ?_⟩, by omega, e2, fun t2 i ht2 hne => ?_, hmany⟩
    · rw [hu]; exact fun a ha hm => wh a (hM a ha hm)
    · rw [hu]; exact hV
    · rw [hu]; exact hF
    · rw [hu]; exact rpw_eq T 0 (fun r _ _ => ⟨rw_fr rfl rfl rfl rfl, fun _ => rfl⟩)
  · obtain ⟨S', D', H', e1, e2, e3⟩ := rl_end2 H ht h0 hq
    have dd : ∀ x d, D' x = d + 1 → D x = d + 1 := fun x d hd => by
      rw [e3] at hd
      by_cases e : D x = t + 1
      · rw [if_pos e] at hd; omega
      · rw [if_neg e] at hd; exact hd
    have wh : ∀ a, whA N S P U B D F a → whA N S' P U B D' F a := fun a hw x hx hxa => by
      obtain ⟨z1, z2⟩ := hw x hx hxa
      refine ⟨?_, z2.imp id (fun z => past_e h0 (by omega) e1 e2 z)⟩
      rw [e3, z1, if_neg (by omega)]
    have hu : cen u t T q = s_td (s_d (s_ac u (c_ac u &&& ((1 <<< ((nI t).toInt64 &&& 63)) ^^^ (-1)))) (rpl (c_d u) (nI t) (-1) 32)) (rpl (c_td u) (nI t) (-1) T) := by rw [cen_f hq, cfi_f hq]; rfl
    refine ⟨S', ⟨_, n, st, P, U, K, B, D', X, R, F, ec, en, H', ⟨fun x hx hx0 => hA.1 x hx (by
      by_cases e : x = t
      · rw [e]; exact h0
      · rw [← e2 x e]; exact hx0), hA.2.1, fun x d hx hd => hA.2.2 x d hx (dd x d hd)⟩, ?_, ?_, ?_⟩, by omega, e2, fun t2 i ht2 hne => ?_, hmany⟩
    · rw [hu]; exact fun a ha hm => wh a (hM a ha hm)
    · rw [hu]; exact hV
    · rw [hu]; exact hF
    · rw [hu]
      have h60 := H.1.1.1
      refine rpw_eq T 0 (fun r _ _ => ⟨?_, fun _ => rfl⟩)
      unfold rwP
      rw [kn_eq (u := u) rfl, kn_eq (u := u) rfl]
      show (c_tk u r = nI i ∧ knP u t2 (c_tb u r) ∧ ¬ knP u t2 (rpl (c_td u) (nI t) (-1) T r)) ↔ _
      unfold rpl
      by_cases e : r < T ∧ c_td u r = nI t
      · rw [if_pos e, e.2]
        have n1 := kn_no H ht2 ht h0 hne
        have n2 : ¬ knP u t2 (-1) := (kn_m1 (u := u) (t := t2)).resolve_right (fun z => z (by omega))
        exact ⟨fun z => ⟨z.1, z.2.1, n1⟩, fun z => ⟨z.1, z.2.1, n2⟩⟩
      · rw [if_neg e]
/-- a freezing age -/
theorem z_fz (h : ZI k u N T S) {a : Nat} (h1 : 1 ≤ a) (h2 : a ≤ 27) : ZI k (s_fz u (nI a)) N T S ∧ ∀ t i, rpw (s_fz u (nI a)) t i 0 T = rpw u t i 0 T := by
  obtain ⟨v, n, st, P, U, K, B, D, X, R, F, ec, en, H, hA, hM, hV, hF⟩ := h
  have H' : RlX k (s_fz u (nI a)) (ms_fz v (nI a)) N T n st S P U K B D X R F ec en := by
    obtain ⟨h1, h2, h3, ⟨h4, h5⟩, h6⟩ := H
    exact ⟨h1, h2, h3, ⟨h4, h5⟩, ⟨rfl, h6.2⟩⟩
  exact ⟨⟨_, n, st, P, U, K, B, D, X, R, F, ec, en, H', hA, hM, hV, ⟨a, h1, h2, rfl⟩⟩, fun t i => rpw_eq T 0 (fun r _ _ => ⟨rw_fr rfl rfl rfl rfl, fun _ => rfl⟩)⟩
theorem z_fz0 (h : ZI k u N T S) : FzI (c_fz u) := by
  obtain ⟨v, n, st, P, U, K, B, D, X, R, F, ec, en, H, hA, hM, hV, hF⟩ := h
  exact hF
end ZOPS

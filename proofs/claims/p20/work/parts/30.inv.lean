/-! ===== what p20 wants beyond the relation: ages, the map, values; each operation keeps it ===== -/
def AgB (a : Nat) : Prop := 1 ≤ a ∧ a ≤ 31
/-- all ages that count lie in 1 .. 31 -/
def AgI (N n : Nat) (st S : Nat → Nat) (U : Nat → Prop) (B D : Nat → Nat) (F : Nat → Prop) : Prop := (∀ t, t < N → S t = 0 → AgB (agA n st t)) ∧ (∀ q, U q → ¬ F q → AgB (agA n st (B q))) ∧ ∀ q d, U q → D q = d + 1 → AgB (agA n st d)
/-- what the map tells is so -/
def MpI (mp : AI) (N : Nat) (S : Nat → Nat) (P : Nat → Nat → Prop) (U : Nat → Prop) (B D : Nat → Nat) (F : Nat → Prop) : Prop := ∀ a, a < 4 → ¬ mp a = 0 → whA N S P U B D F a
def VlI (cz : AI) (U : Nat → Prop) : Prop := ∀ q, U q → ∃ z, z < 10000 ∧ cz q = nI z
def FzI (fz : Int32) : Prop := ∃ z, 1 ≤ z ∧ z ≤ 27 ∧ fz = nI z
def ZX (k : Nat) (u : CU) (v : MU) (N T n : Nat) (st S : Nat → Nat) (P : Nat → Nat → Prop) (U : Nat → Prop) (K B D X R : Nat → Nat) (F : Nat → Prop) (ec : Nat → Nat) (en : Nat → Nat → Nat) : Prop :=
  RlX k u v N T n st S P U K B D X R F ec en ∧ AgI N n st S U B D F ∧ MpI (c_mp u) N S P U B D F ∧ VlI (c_v u) U ∧ FzI (c_fz u)
def ZI (k : Nat) (u : CU) (N T : Nat) (S : Nat → Nat) : Prop := ∃ v n st P U K B D X R F ec en, ZX k u v N T n st S P U K B D X R F ec en
/-! the greatest age -/
theorem amx_ge {f : Nat → Nat} {i : Nat} : ∀ m, i < m → f i ≤ amx f m := by
  intro m
  induction m with
  | zero => intro h; omega
  | succ m ih =>
    intro h
    rw [amx]
    by_cases e : i = m
    · rw [e]; omega
    · have := ih (by omega); omega
theorem amx_le {f : Nat → Nat} {b : Nat} : ∀ m, (∀ i, i < m → f i ≤ b) → amx f m ≤ b := by
  intro m
  induction m with
  | zero => intro _; exact Nat.zero_le _
  | succ m ih =>
    intro h
    rw [amx]
    have h1 := h m (by omega)
    have h2 := ih (fun i hi => h i (by omega))
    omega
theorem amx_up {f g : Nat → Nat} {s : Nat} : ∀ m, (∀ i, i < m → (f i = 0 ∧ g i = 0) ∨ (1 ≤ f i ∧ g i = f i + s)) → (amx f m = 0 ∧ amx g m = 0) ∨ (1 ≤ amx f m ∧ amx g m = amx f m + s) := by
  intro m
  induction m with
  | zero => intro _; exact Or.inl ⟨rfl, rfl⟩
  | succ m ih =>
    intro h
    rw [amx, amx]
    have h1 := h m (by omega)
    have h2 := ih (fun i hi => h i (by omega))
    omega
/-- the oldest age in plain numbers -/
noncomputable def OA (N n : Nat) (st S : Nat → Nat) (U : Nat → Prop) (B D : Nat → Nat) (F : Nat → Prop) : Nat := max (amx (acA n st S) N) (amx (fun q => max (dA n st U D q) (bA n st U B F q)) 32)
section INV
variable {k N T n : Nat} {u : CU} {v : MU} {st S : Nat → Nat} {P : Nat → Nat → Prop} {U : Nat → Prop} {K B D X R : Nat → Nat} {F : Nat → Prop} {ec : Nat → Nat} {en : Nat → Nat → Nat} {t q i : Nat}
theorem oa_ol (H : RlX k u v N T n st S P U K B D X R F ec en) : olg u N 32 = nI (OA N n st S U B D F) := rl_olg H 32 (Nat.le_refl _)
theorem oa_lt : OA N n st S U B D F < 64 := by
  have l1 := amx_lt (f := acA n st S) (m := 64) (by omega) (fun i => acA_lt) N
  have l2 := amx_lt (f := fun q => max (dA n st U D q) (bA n st U B F q)) (m := 64) (by omega) (fun i => slA_lt) 32
  unfold OA; omega
theorem oa_a (ht : t < N) (h0 : S t = 0) : agA n st t ≤ OA N n st S U B D F := by
  have h := amx_ge (f := acA n st S) (i := t) N ht
  rw [show acA n st S t = agA n st t from cif_t h0] at h
  unfold OA; omega
theorem oa_b (q32 : q < 32) (hq : U q) (hf : ¬ F q) : agA n st (B q) ≤ OA N n st S U B D F := by
  have h := amx_ge (f := fun q => max (dA n st U D q) (bA n st U B F q)) (i := q) 32 q32
  have e : bA n st U B F q = agA n st (B q) := cif_t ⟨hq, hf⟩
  have h2 : max (dA n st U D q) (bA n st U B F q) ≤ amx (fun q => max (dA n st U D q) (bA n st U B F q)) 32 := h
  unfold OA; omega
theorem oa_d (q32 : q < 32) (hq : U q) {d : Nat} (hd : D q = d + 1) : agA n st d ≤ OA N n st S U B D F := by
  have h := amx_ge (f := fun q => max (dA n st U D q) (bA n st U B F q)) (i := q) 32 q32
  have e : dA n st U D q = agA n st (D q - 1) := cif_t ⟨hq, by omega⟩
  rw [show D q - 1 = d by omega] at e
  have h2 : max (dA n st U D q) (bA n st U B F q) ≤ amx (fun q => max (dA n st U D q) (bA n st U B F q)) 32 := h
  unfold OA; omega
theorem ag_up {s b : Nat} (hn : n < 64) (hb : b < 64) (h : (n + 64 - b) % 64 + s < 64) : ((n + s) % 64 + 64 - b) % 64 = (n + 64 - b) % 64 + s := by omega
theorem ag_at {st' : Nat → Nat} {s : Nat} (hn : n < 64) (hb : st t < 64) (e : st' t = st t) (h : agA n st t + s < 64) : agA ((n + s) % 64) st' t = agA n st t + s := by
  unfold agA at h ⊢
  rw [e]; exact ag_up hn hb h
/-! a jump -/
theorem ag_jump (H : RlX k u v N T n st S P U K B D X R F ec en) (hA : AgI N n st S U B D F) {s : Nat} (hs : OA N n st S U B D F = 0 ∨ OA N n st S U B D F + s < 32) :
    AgI N ((n + s) % 64) st S U B D F ∧ ((OA N n st S U B D F = 0 ∧ OA N ((n + s) % 64) st S U B D F = 0) ∨ (1 ≤ OA N n st S U B D F ∧ OA N ((n + s) % 64) st S U B D F = OA N n st S U B D F + s)) := by
  have hn := H.1.1.2.1
  have hst := H.1.1.2.2
  have hS := H.2.1.1
  have key : ∀ x, x < N → AgB (agA n st x) → agA n st x ≤ OA N n st S U B D F → agA ((n + s) % 64) st x = agA n st x + s ∧ agA n st x + s ≤ 31 := by
    intro x hx hb hl
    have := hb.1
    have hl2 : agA n st x + s ≤ 31 := by omega
    exact ⟨ag_at hn (hst x hx) rfl (by omega), hl2⟩
  have ka : ∀ x, x < N → S x = 0 → agA ((n + s) % 64) st x = agA n st x + s ∧ agA n st x + s ≤ 31 := fun x hx h0 => key x hx (hA.1 x hx h0) (oa_a hx h0)
  have kb : ∀ x, U x → ¬ F x → agA ((n + s) % 64) st (B x) = agA n st (B x) + s ∧ agA n st (B x) + s ≤ 31 := fun x hx hf => key _ (hS.1 x hx).2.2.1 (hA.2.1 x hx hf) (oa_b (hS.1 x hx).1 hx hf)
  have kd : ∀ x d, U x → D x = d + 1 → agA ((n + s) % 64) st d = agA n st d + s ∧ agA n st d + s ≤ 31 := fun x d hx hd => key _ (hS.2.1 x d hx hd).1 (hA.2.2 x d hx hd) (oa_d (hS.1 x hx).1 hx hd)
  refine ⟨⟨fun x hx h0 => ?_, fun x hx hf => ?_, fun x d hx hd => ?_⟩, ?_⟩
  · obtain ⟨a, b⟩ := ka x hx h0
    have := (hA.1 x hx h0).1
    rw [a]; exact ⟨by omega, b⟩
  · obtain ⟨a, b⟩ := kb x hx hf
    have := (hA.2.1 x hx hf).1
    rw [a]; exact ⟨by omega, b⟩
  · obtain ⟨a, b⟩ := kd x d hx hd
    have := (hA.2.2 x d hx hd).1
    rw [a]; exact ⟨by omega, b⟩
  · have h1 := amx_up (f := acA n st S) (g := acA ((n + s) % 64) st S) (s := s) N (fun x hx => by
      by_cases e : S x = 0
      · rw [show acA n st S x = agA n st x from cif_t e, show acA ((n + s) % 64) st S x = agA ((n + s) % 64) st x from cif_t e, (ka x hx e).1]
        exact Or.inr ⟨(hA.1 x hx e).1, rfl⟩
      · exact Or.inl ⟨cif_f e, cif_f e⟩)
    have h2 := amx_up (f := fun q => max (dA n st U D q) (bA n st U B F q)) (g := fun q => max (dA ((n + s) % 64) st U D q) (bA ((n + s) % 64) st U B F q)) (s := s) 32 (fun x hx => by
      have d1 : (dA n st U D x = 0 ∧ dA ((n + s) % 64) st U D x = 0) ∨ (1 ≤ dA n st U D x ∧ dA ((n + s) % 64) st U D x = dA n st U D x + s) := by
        by_cases e : U x ∧ ¬ D x = 0
        · rw [show dA n st U D x = agA n st (D x - 1) from cif_t e, show dA ((n + s) % 64) st U D x = agA ((n + s) % 64) st (D x - 1) from cif_t e, (kd x (D x - 1) e.1 (by omega)).1]
          exact Or.inr ⟨(hA.2.2 x (D x - 1) e.1 (by omega)).1, rfl⟩
        · exact Or.inl ⟨cif_f e, cif_f e⟩
      have b1 : (bA n st U B F x = 0 ∧ bA ((n + s) % 64) st U B F x = 0) ∨ (1 ≤ bA n st U B F x ∧ bA ((n + s) % 64) st U B F x = bA n st U B F x + s) := by
        by_cases e : U x ∧ ¬ F x
        · rw [show bA n st U B F x = agA n st (B x) from cif_t e, show bA ((n + s) % 64) st U B F x = agA ((n + s) % 64) st (B x) from cif_t e, (kb x e.1 e.2).1]
          exact Or.inr ⟨(hA.2.1 x e.1 e.2).1, rfl⟩
        · exact Or.inl ⟨cif_f e, cif_f e⟩
      show (max (dA n st U D x) (bA n st U B F x) = 0 ∧ max (dA ((n + s) % 64) st U D x) (bA ((n + s) % 64) st U B F x) = 0) ∨ (1 ≤ max (dA n st U D x) (bA n st U B F x) ∧ max (dA ((n + s) % 64) st U D x) (bA ((n + s) % 64) st U B F x) = max (dA n st U D x) (bA n st U B F x) + s)
      omega)
    unfold OA
    omega
/-! rows of the table -/
theorem rpw_eq {u2 : CU} {t2 : Nat} : ∀ m a, (∀ r, a ≤ r → r < a + m → (rwP u2 t2 i r ↔ rwP u t2 i r) ∧ (rwP u t2 i r → c_tv u2 r = c_tv u r)) → rpw u2 t2 i a m = rpw u t2 i a m := by
  intro m
  induction m with
  | zero => exact fun _ _ => rfl
  | succ m ih =>
    intro a h
    obtain ⟨h1, h2⟩ := h a (by omega) (by omega)
    by_cases e : rwP u t2 i a
    · rw [rpw_y (h1.mpr e), rpw_y e, h2 e]
    · rw [rpw_n (fun z => e (h1.mp z)), rpw_n e]
      exact ih (a + 1) (fun r r1 r2 => h r (by omega) (by omega))
theorem rpw_snoc {t2 : Nat} : ∀ m a, ¬ rwP u t2 i (a + m) → rpw u t2 i a (m + 1) = rpw u t2 i a m := by
  intro m
  induction m with
  | zero => intro a h; exact rpw_n h
  | succ m ih =>
    intro a h
    by_cases e : rwP u t2 i a
    · rw [rpw_y e, rpw_y e]
    · rw [rpw_n e, rpw_n (n := m) e]
      exact ih (a + 1) (by rw [show a + 1 + m = a + (m + 1) by omega]; exact h)
/-- what an active one reads is what its search finds -/
theorem z_rd (H : RlX k u v N T n st S P U K B D X R F ec en) (ht : t < N) (h0 : S t = 0) (hi : i < 6) : rdv u (spl u t i (nat (c_ct u i))) = rpw u t i 0 T := by
  have h1 := (rl_sv H ht hi).1
  unfold sv at h1
  rw [nat_nI (n := t) (by have := H.1.1.1; omega), nat_nI (n := i) (by omega)] at h1
  rw [h1, rl_rdv H ht hi, rl_plain H ht h0 hi]
/-- .. none, or the value of a slot -/
theorem z_see (H : RlX k u v N T n st S P U K B D X R F ec en) (hV : VlI (c_v u) U) (ht : t < N) (h0 : S t = 0) (hi : i < 6) :
    (spl u t i (nat (c_ct u i)) = -1 ∧ rpw u t i 0 T = -1) ∨ ∃ p z, U p ∧ K p = i ∧ seA P B D F t p ∧ spl u t i (nat (c_ct u i)) = nI p ∧ z < 10000 ∧ rpw u t i 0 T = nI z := by
  have h1 := (rl_sv H ht hi).1
  unfold sv at h1
  rw [nat_nI (n := t) (by have := H.1.1.1; omega), nat_nI (n := i) (by omega)] at h1
  rw [← z_rd H ht h0 hi, h1]
  rcases msn_out H ht hi (ec i) (Nat.le_refl _) with h | ⟨p, a, b, c, d⟩
  · rw [h]; exact Or.inl ⟨rfl, rdv_n pl_m1⟩
  · obtain ⟨z, z1, z2⟩ := hV p a
    rw [d, rdv_y (H.2.1.1.1 p a).1]
    exact Or.inr ⟨p, z, a, b, c, rfl, z1, z2⟩
theorem kn_no (H : RlX k u v N T n st S P U K B D X R F ec en) {t2 : Nat} (ht2 : t2 < N) (ht : t < N) (h0 : S t = 0) (hne : ¬ t2 = t) : ¬ knP u t2 (nI t) := by
  rw [kn_C H ht2 (by have := H.1.1.1; omega)]
  rintro (e | e)
  · exact hne e.symm
  · have := (H.1.2.1.2.1 t2 t ht2 e).2; omega
theorem kn_m1 : ¬ knP u t (-1) ∨ ¬ t < 2 ^ 31 := by
  by_cases h : t < 2 ^ 31
  · refine Or.inl (fun z => ?_)
    rcases z with z | z
    · exact nI_m1 t h z.symm
    · exact has_neg (by decide) z
  · exact Or.inr h
theorem kn_eq {u2 : CU} {t2 : Nat} {x : Int32} (h : c_sn u2 t2 = c_sn u t2) : knP u2 t2 x ↔ knP u t2 x := by unfold knP; rw [h]
end INV

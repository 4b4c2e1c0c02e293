/-! ===== what holds of transactions, slots, chains and entries, in plain numbers ===== -/
def past (N : Nat) (S : Nat → Nat) (P : Nat → Nat → Prop) (t : Nat) : Prop := S t = 1 ∧ ∀ a, a < N → S a = 0 → P a t
def TrI (N : Nat) (S : Nat → Nat) (P : Nat → Nat → Prop) : Prop := (∀ t, t < N → S t ≤ 2) ∧ (∀ t j, t < N → P t j → j < t ∧ S j = 1) ∧ (∀ t j i, t < N → P t j → P j i → P t i)
/-- slots: U used, K key, B birth, D death (one more; 0 without), X next (one more; 0 without), R row of the table, F frozen -/
def SlI (N T : Nat) (S : Nat → Nat) (P : Nat → Nat → Prop) (U : Nat → Prop) (K B D X R : Nat → Nat) (F : Nat → Prop) : Prop :=
  (∀ q, U q → q < 32 ∧ K q < 6 ∧ B q < N ∧ R q < T) ∧
  (∀ q d, U q → D q = d + 1 → d < N ∧ ¬ S d = 2) ∧
  (∀ q j, U q → X q = j + 1 → U j ∧ j / 8 = q / 8 ∧ K j = K q ∧ R q < R j ∧ (B q = B j ∨ P (B j) (B q))) ∧
  (∀ q p, U q → U p → R q = R p → q = p) ∧
  (∀ q, U q → F q → past N S P (B q))
/-- of two versions of a key the elder one died by what the younger one's writer knew -/
def OrI (S : Nat → Nat) (P : Nat → Nat → Prop) (U : Nat → Prop) (K B D R : Nat → Nat) : Prop := ∀ q p, U q → U p → K q = K p → ¬ S (B q) = 2 → ¬ S (B p) = 2 → R q < R p → ∃ d, D q = d + 1 ∧ (d = B p ∨ P (B p) d)
def EnI (S : Nat → Nat) (U : Nat → Prop) (K B X ec : Nat → Nat) (en : Nat → Nat → Nat) : Prop :=
  (∀ k e, k < 6 → e < ec k → U (en k e) ∧ K (en k e) = k) ∧
  (∀ k e e', k < 6 → e < ec k → e' < ec k → en k e = en k e' → e = e') ∧
  (∀ q p j, U q → U p → X q = j + 1 → X p = j + 1 → q = p) ∧
  (∀ k e q, k < 6 → e < ec k → U q → ¬ X q = en k e + 1) ∧
  (∀ q, U q → ¬ S (B q) = 2 → (∃ e, e < ec (K q) ∧ en (K q) e = q) ∨ ∃ p, U p ∧ X p = q + 1)
def vis (P : Nat → Nat → Prop) (B D : Nat → Nat) (t q : Nat) : Prop := (B q = t ∨ P t (B q)) ∧ ∀ d, D q = d + 1 → ¬ (d = t ∨ P t d)

section CORE
variable {N T : Nat} {S S' : Nat → Nat} {P P' : Nat → Nat → Prop} {U U' : Nat → Prop} {K B D X R K' B' D' X' R' ec ec' : Nat → Nat} {F F' : Nat → Prop} {en en' : Nat → Nat → Nat} {t q w k : Nat}
theorem vis_alive (h : TrI N S P) (ht : t < N) (h0 : S t = 0) (hv : vis P B D t q) : ¬ S (B q) = 2 := by
  rcases hv.1 with e | e
  · rw [e]; omega
  · have := (h.2.1 t _ ht e).2; omega
theorem vis_lt (h : TrI N S P) (hO : OrI S P U K B D R) (ht : t < N) (h0 : S t = 0) {q p : Nat} (hq : U q) (hp : U p) (hk : K q = K p) (vq : vis P B D t q) (vp : vis P B D t p) : ¬ R q < R p := by
  intro hlt
  obtain ⟨d, hd, hdp⟩ := hO q p hq hp hk (vis_alive h ht h0 vq) (vis_alive h ht h0 vp) hlt
  refine vq.2 d hd ?_
  rcases hdp with e | e
  · rw [e]; exact vp.1
  · rcases vp.1 with e2 | e2
    · rw [e2] at e; exact Or.inr e
    · exact Or.inr (h.2.2 t _ d ht e2 e)
theorem vis_one (h : TrI N S P) (hS : SlI N T S P U K B D X R F) (hO : OrI S P U K B D R) (ht : t < N) (h0 : S t = 0) {q p : Nat} (hq : U q) (hp : U p) (hk : K q = K p) (vq : vis P B D t q) (vp : vis P B D t p) : q = p := by
  have h1 := vis_lt h hO ht h0 hq hp hk vq vp
  have h2 := vis_lt h hO ht h0 hp hq hk.symm vp vq
  exact hS.2.2.2.1 q p hq hp (by omega)
/-- what is settled is known to each active one -/
theorem past_kn (ht : t < N) (h0 : S t = 0) {x : Nat} (h : past N S P x) : P t x := h.2 t ht h0
/-! a transaction begins -/
theorem TrI_b (h : TrI N S P) (hS : ∀ t, t < N → S' t = S t) (hN : S' N = 0) (hP : ∀ t j, t < N → (P' t j ↔ P t j)) (hPN : ∀ j, P' N j ↔ j < N ∧ S j = 1) : TrI (N + 1) S' P' := by
  obtain ⟨h1, h2, h3⟩ := h
  refine ⟨fun t ht => ?_, fun t j ht hp => ?_, fun t j i ht hp hq => ?_⟩
  · by_cases e : t = N
    · rw [e, hN]; omega
    · rw [hS t (by omega)]; exact h1 t (by omega)
  · by_cases e : t = N
    · rw [e] at hp ⊢
      obtain ⟨a, b⟩ := (hPN j).mp hp
      exact ⟨a, by rw [hS j a]; exact b⟩
    · obtain ⟨a, b⟩ := h2 t j (by omega) ((hP t j (by omega)).mp hp)
      exact ⟨a, by rw [hS j (by omega)]; exact b⟩
  · by_cases e : t = N
    · rw [e] at hp ⊢
      obtain ⟨a, b⟩ := (hPN j).mp hp
      obtain ⟨c, d⟩ := h2 j i a ((hP j i a).mp hq)
      exact (hPN i).mpr ⟨by omega, d⟩
    · have p1 := (hP t j (by omega)).mp hp
      obtain ⟨a, b⟩ := h2 t j (by omega) p1
      exact (hP t i (by omega)).mpr (h3 t j i (by omega) p1 ((hP j i (by omega)).mp hq))
theorem past_b (hS : ∀ t, t < N → S' t = S t) (hP : ∀ t j, t < N → (P' t j ↔ P t j)) (hPN : ∀ j, P' N j ↔ j < N ∧ S j = 1) {x : Nat} (hx : x < N) (h : past N S P x) : past (N + 1) S' P' x := by
  refine ⟨by rw [hS x hx]; exact h.1, fun a ha h0 => ?_⟩
  by_cases e : a = N
  · rw [e]; exact (hPN x).mpr ⟨hx, h.1⟩
  · rw [hS a (by omega)] at h0
    exact (hP a x (by omega)).mpr (h.2 a (by omega) h0)
theorem SlI_b (h : SlI N T S P U K B D X R F) (hS : ∀ t, t < N → S' t = S t) (hP : ∀ t j, t < N → (P' t j ↔ P t j)) (hPN : ∀ j, P' N j ↔ j < N ∧ S j = 1) : SlI (N + 1) T S' P' U K B D X R F := by
  obtain ⟨h1, h2, h3, h4, h5⟩ := h
  refine ⟨fun q hq => ?_, fun q d hq hd => ?_, fun q j hq hj => ?_, h4, fun q hq hf => past_b hS hP hPN (h1 q hq).2.2.1 (h5 q hq hf)⟩
  · obtain ⟨a, b, c, d⟩ := h1 q hq
    exact ⟨a, b, by omega, d⟩
  · obtain ⟨a, b⟩ := h2 q d hq hd
    exact ⟨by omega, by rw [hS d a]; exact b⟩
  · obtain ⟨a, b, c, d, e⟩ := h3 q j hq hj
    exact ⟨a, b, c, d, e.imp id (fun e => (hP _ _ (h1 j a).2.2.1).mpr e)⟩
theorem OrI_b (hs : SlI N T S P U K B D X R F) (h : OrI S P U K B D R) (hS : ∀ t, t < N → S' t = S t) (hP : ∀ t j, t < N → (P' t j ↔ P t j)) : OrI S' P' U K B D R := by
  intro q p hq hp hk a b hR
  have lq := (hs.1 q hq).2.2.1
  have lp := (hs.1 p hp).2.2.1
  rw [hS _ lq] at a
  rw [hS _ lp] at b
  obtain ⟨d, h1, h2⟩ := h q p hq hp hk a b hR
  exact ⟨d, h1, h2.imp id (fun e => (hP _ _ lp).mpr e)⟩
theorem EnI_b (hs : SlI N T S P U K B D X R F) (h : EnI S U K B X ec en) (hS : ∀ t, t < N → S' t = S t) : EnI S' U K B X ec en := by
  obtain ⟨h1, h2, h3, h4, h5⟩ := h
  exact ⟨h1, h2, h3, h4, fun q hq a => h5 q hq (by rw [hS _ (hs.1 q hq).2.2.1] at a; exact a)⟩
/-! a transaction ends -/
theorem TrI_e (h : TrI N S P) (h0 : S t = 0) {c : Nat} (hc : c ≤ 2) (ht : S' t = c) (hS : ∀ j, ¬ j = t → S' j = S j) : TrI N S' P := by
  obtain ⟨h1, h2, h3⟩ := h
  refine ⟨fun j hj => ?_, fun x j hx hp => ?_, h3⟩
  · by_cases e : j = t
    · rw [e]; omega
    · rw [hS j e]; exact h1 j hj
  · obtain ⟨a, b⟩ := h2 x j hx hp
    exact ⟨a, by rw [hS j (fun e => by rw [e] at b; omega)]; exact b⟩
theorem past_e (h0 : S t = 0) {c : Nat} (hc : 1 ≤ c) (ht : S' t = c) (hS : ∀ j, ¬ j = t → S' j = S j) {x : Nat} (h : past N S P x) : past N S' P x := by
  refine ⟨by rw [hS x (fun e => by rw [e] at h; have := h.1; omega)]; exact h.1, fun a ha hb => h.2 a ha ?_⟩
  rw [hS a (fun e => by rw [e] at hb; omega)] at hb
  exact hb
theorem SlI_e1 (h : SlI N T S P U K B D X R F) (h0 : S t = 0) (ht : S' t = 1) (hS : ∀ j, ¬ j = t → S' j = S j) : SlI N T S' P U K B D X R F := by
  obtain ⟨h1, h2, h3, h4, h5⟩ := h
  refine ⟨h1, fun q d hq hd => ?_, h3, h4, fun q hq hf => past_e h0 (Nat.le_refl 1) ht hS (h5 q hq hf)⟩
  obtain ⟨a, b⟩ := h2 q d hq hd
  refine ⟨a, ?_⟩
  by_cases e : d = t
  · rw [e]; omega
  · rw [hS d e]; exact b
theorem SlI_e2 (h : SlI N T S P U K B D X R F) (h0 : S t = 0) (ht : S' t = 2) (hS : ∀ j, ¬ j = t → S' j = S j) (hD : ∀ q, U q → D' q = if D q = t + 1 then 0 else D q) : SlI N T S' P U K B D' X R F := by
  obtain ⟨h1, h2, h3, h4, h5⟩ := h
  refine ⟨h1, fun q d hq hd => ?_, h3, h4, fun q hq hf => past_e h0 (by omega) ht hS (h5 q hq hf)⟩
  rw [hD q hq] at hd
  by_cases e : D q = t + 1
  · rw [if_pos e] at hd; omega
  · rw [if_neg e] at hd
    obtain ⟨a, b⟩ := h2 q d hq hd
    exact ⟨a, by rw [hS d (fun e2 => e (by omega))]; exact b⟩
theorem OrI_e1 (h : OrI S P U K B D R) (h0 : S t = 0) (hS : ∀ j, ¬ j = t → S' j = S j) : OrI S' P U K B D R := by
  intro q p hq hp hk a b hR
  have z : ∀ x, ¬ S' x = 2 → ¬ S x = 2 := by
    intro x hx
    by_cases e : x = t
    · rw [e]; omega
    · rw [← hS x e]; exact hx
  exact h q p hq hp hk (z _ a) (z _ b) hR
theorem OrI_e2 (hs : SlI N T S P U K B D X R F) (hT : TrI N S P) (h : OrI S P U K B D R) (h0 : S t = 0) (ht : S' t = 2) (hS : ∀ j, ¬ j = t → S' j = S j) (hD : ∀ q, U q → D' q = if D q = t + 1 then 0 else D q) : OrI S' P U K B D' R := by
  intro q p hq hp hk a b hR
  have z : ∀ x, ¬ S' x = 2 → ¬ x = t ∧ ¬ S x = 2 := by
    intro x hx
    have e : ¬ x = t := fun e => hx (by rw [e]; exact ht)
    exact ⟨e, by rw [← hS x e]; exact hx⟩
  obtain ⟨d, h1, h2⟩ := h q p hq hp hk (z _ a).2 (z _ b).2 hR
  refine ⟨d, ?_, h2⟩
  have hdt : ¬ d = t := by
    rcases h2 with e | e
    · rw [e]; exact (z _ b).1
    · intro e2
      have := (hT.2.1 _ d (hs.1 p hp).2.2.1 e).2
      rw [e2] at this; omega
  rw [hD q hq, if_neg (by omega)]
  exact h1
theorem EnI_e (h : EnI S U K B X ec en) (h0 : S t = 0) (hS : ∀ j, ¬ j = t → S' j = S j) : EnI S' U K B X ec en := by
  obtain ⟨h1, h2, h3, h4, h5⟩ := h
  refine ⟨h1, h2, h3, h4, fun q hq a => h5 q hq ?_⟩
  by_cases e : B q = t
  · rw [e]; omega
  · rw [← hS _ e]; exact a
/-! a version dies -/
theorem SlI_d (h : SlI N T S P U K B D X R F) (ht : t < N) (h0 : S t = 0) (hq : D' q = t + 1) (hD : ∀ j, ¬ j = q → D' j = D j) : SlI N T S P U K B D' X R F := by
  obtain ⟨h1, h2, h3, h4, h5⟩ := h
  refine ⟨h1, fun p d hp hd => ?_, h3, h4, h5⟩
  by_cases e : p = q
  · rw [e, hq] at hd
    have : d = t := by omega
    rw [this]; exact ⟨ht, by omega⟩
  · rw [hD p e] at hd; exact h2 p d hp hd
theorem OrI_d (h : OrI S P U K B D R) (h0 : D q = 0) (hD : ∀ j, ¬ j = q → D' j = D j) : OrI S P U K B D' R := by
  intro r p hr hp hk a b hR
  obtain ⟨d, h1, h2⟩ := h r p hr hp hk a b hR
  refine ⟨d, ?_, h2⟩
  rw [hD r (fun e => by rw [e] at h1; omega)]; exact h1
/-! a version is made -/
theorem SlI_i (h : SlI N T S P U K B D X R F) (hU : ∀ j, U' j ↔ U j ∨ j = w) (hw : ¬ U w) (hw32 : w < 32) (hk6 : k < 6) (ht : t < N)
    (hK : ∀ j, U j → K' j = K j) (hB : ∀ j, U j → B' j = B j) (hD : ∀ j, U j → D' j = D j) (hR : ∀ j, U j → R' j = R j) (hF : ∀ j, U j → (F' j ↔ F j))
    (hX : ∀ j, U j → X' j = X j ∨ (X' j = w + 1 ∧ w / 8 = j / 8 ∧ K j = k ∧ (B j = t ∨ P t (B j))))
    (kw : K' w = k) (bw : B' w = t) (dw : D' w = 0) (xw : X' w = 0) (rw' : R' w = T) (fw : ¬ F' w) : SlI N (T + 1) S P U' K' B' D' X' R' F' := by
  obtain ⟨h1, h2, h3, h4, h5⟩ := h
  have hne : ∀ j, U j → ¬ j = w := fun j hj e => hw (e ▸ hj)
  refine ⟨fun q hq => ?_, fun q d hq hd => ?_, fun q j hq hj => ?_, fun q p hq hp e => ?_, fun q hq hf => ?_⟩
  · rcases (hU q).mp hq with hq | e
    · obtain ⟨a, b, c, d⟩ := h1 q hq
      rw [hK q hq, hB q hq, hR q hq]
      exact ⟨a, b, c, by omega⟩
    · rw [e, kw, bw, rw']; exact ⟨hw32, hk6, ht, by omega⟩
  · rcases (hU q).mp hq with hq | e
    · rw [hD q hq] at hd; exact h2 q d hq hd
    · rw [e, dw] at hd; omega
  · rcases (hU q).mp hq with hq | e
    · rcases hX q hq with e | ⟨e1, e2, e3, e4⟩
      · rw [e] at hj
        obtain ⟨a, b, c, d, f⟩ := h3 q j hq hj
        refine ⟨(hU j).mpr (Or.inl a), b, by rw [hK j a, hK q hq]; exact c, by rw [hR j a, hR q hq]; exact d, ?_⟩
        rw [hB j a, hB q hq]; exact f
      · have ej : j = w := by omega
        rw [ej]
        refine ⟨(hU w).mpr (Or.inr rfl), e2, by rw [kw, hK q hq]; exact e3.symm, by rw [rw', hR q hq]; exact (h1 q hq).2.2.2, ?_⟩
        rw [bw, hB q hq]; exact e4
    · rw [e, xw] at hj; omega
  · rcases (hU q).mp hq with hq | eq
    · rcases (hU p).mp hp with hp | ep
      · rw [hR q hq, hR p hp] at e; exact h4 q p hq hp e
      · rw [hR q hq, ep, rw'] at e
        have := (h1 q hq).2.2.2; omega
    · rcases (hU p).mp hp with hp | ep
      · rw [hR p hp, eq, rw'] at e
        have := (h1 p hp).2.2.2; omega
      · rw [eq, ep]
  · rcases (hU q).mp hq with hq | e
    · rw [hB q hq]; exact h5 q hq ((hF q hq).mp hf)
    · rw [e] at hf; exact absurd hf fw
theorem OrI_i (hs : SlI N T S P U K B D X R F) (h : OrI S P U K B D R) (hU : ∀ j, U' j ↔ U j ∨ j = w)
    (hK : ∀ j, U j → K' j = K j) (hB : ∀ j, U j → B' j = B j) (hD : ∀ j, U j → D' j = D j) (hR : ∀ j, U j → R' j = R j)
    (kw : K' w = k) (bw : B' w = t) (rw' : R' w = T) (hold : ∀ q, U q → K q = k → ¬ S (B q) = 2 → ∃ d, D q = d + 1 ∧ (d = t ∨ P t d)) : OrI S P U' K' B' D' R' := by
  intro q p hq hp hk a b hlt
  rcases (hU q).mp hq with hq | eq
  · rw [hB q hq] at a
    rw [hR q hq] at hlt
    rw [hD q hq]
    rcases (hU p).mp hp with hp | ep
    · rw [hB p hp] at b ⊢
      rw [hR p hp] at hlt
      rw [hK q hq, hK p hp] at hk
      exact h q p hq hp hk a b hlt
    · rw [ep, bw]
      rw [ep, kw, hK q hq] at hk
      exact hold q hq hk a
  · rw [eq, rw'] at hlt
    rcases (hU p).mp hp with hp | ep
    · rw [hR p hp] at hlt
      have := (hs.1 p hp).2.2.2; omega
    · rw [ep, rw'] at hlt; omega
theorem EnI_iE (hs : SlI N T S P U K B D X R F) (h : EnI S U K B X ec en) (hU : ∀ j, U' j ↔ U j ∨ j = w) (hw : ¬ U w) (hk6 : k < 6)
    (hK : ∀ j, U j → K' j = K j) (hB : ∀ j, U j → B' j = B j) (hX : ∀ j, U j → X' j = X j) (kw : K' w = k) (xw : X' w = 0)
    (hc : ec' k = ec k + 1) (hc' : ∀ i, ¬ i = k → ec' i = ec i) (hn : en' k (ec k) = w) (hn' : ∀ i e, e < ec i → en' i e = en i e) : EnI S U' K' B' X' ec' en' := by
  obtain ⟨h1, h2, h3, h4, h5⟩ := h
  have hX2 : ∀ q j, U q → X q = j + 1 → ¬ j = w := fun q j hq hj e => hw (e ▸ (hs.2.2.1 q j hq hj).1)
  have hent : ∀ i e, i < 6 → e < ec' i → (i = k ∧ e = ec k ∧ en' i e = w) ∨ (e < ec i ∧ en' i e = en i e ∧ ¬ en i e = w) := by
    intro i e hi he
    by_cases g : e < ec i
    · exact Or.inr ⟨g, hn' i e g, fun z => hw (z ▸ (h1 i e hi g).1)⟩
    · by_cases g2 : i = k
      · rw [g2, hc] at he
        rw [g2] at g ⊢
        have : e = ec k := by omega
        rw [this]
        exact Or.inl ⟨rfl, rfl, hn⟩
      · rw [hc' i g2] at he; exact absurd he g
  have hXo : ∀ q j, U' q → X' q = j + 1 → U q ∧ X q = j + 1 := by
    intro q j hq hj
    rcases (hU q).mp hq with hq | e
    · rw [hX q hq] at hj; exact ⟨hq, hj⟩
    · rw [e, xw] at hj; omega
  refine ⟨fun i e hi he => ?_, fun i e e' hi he he' hq => ?_, fun q p j hq hp eq ep => ?_, fun i e q hi he hq hx => ?_, fun q hq a => ?_⟩
  · rcases hent i e hi he with ⟨a, b, c⟩ | ⟨a, b, c⟩
    · rw [c, kw, a]; exact ⟨(hU w).mpr (Or.inr rfl), rfl⟩
    · rw [b]
      have z := h1 i e hi a
      exact ⟨(hU _).mpr (Or.inl z.1), by rw [hK _ z.1]; exact z.2⟩
  · rcases hent i e hi he with ⟨a, b, c⟩ | ⟨a, b, c⟩
    · rcases hent i e' hi he' with ⟨a', b', c'⟩ | ⟨a', b', c'⟩
      · rw [b, b']
      · rw [c, b'] at hq; exact absurd hq.symm c'
    · rcases hent i e' hi he' with ⟨a', b', c'⟩ | ⟨a', b', c'⟩
      · rw [b, c'] at hq; exact absurd hq c
      · rw [b, b'] at hq; exact h2 i e e' hi a a' hq
  · obtain ⟨uq, xq⟩ := hXo q j hq eq
    obtain ⟨up, xp⟩ := hXo p j hp ep
    exact h3 q p j uq up xq xp
  · obtain ⟨uq, xq⟩ := hXo q _ hq hx
    rcases hent i e hi he with ⟨a, b, c⟩ | ⟨a, b, c⟩
    · exact hX2 q _ uq xq c
    · rw [b] at xq; exact h4 i e q hi a uq xq
  · rcases (hU q).mp hq with hq | e
    · rw [hB q hq] at a
      rw [hK q hq]
      rcases h5 q hq a with ⟨e, he, hee⟩ | ⟨p, hp, hx⟩
      · refine Or.inl ⟨e, ?_, by rw [hn' _ _ he]; exact hee⟩
        by_cases g : K q = k
        · rw [g, hc]; rw [g] at he; omega
        · rw [hc' _ g]; exact he
      · exact Or.inr ⟨p, (hU p).mpr (Or.inl hp), by rw [hX p hp]; exact hx⟩
    · rw [e, kw]
      exact Or.inl ⟨ec k, by rw [hc]; omega, hn⟩
theorem EnI_iN {o : Nat} (hs : SlI N T S P U K B D X R F) (h : EnI S U K B X ec en) (hU : ∀ j, U' j ↔ U j ∨ j = w) (hw : ¬ U w)
    (hK : ∀ j, U j → K' j = K j) (hB : ∀ j, U j → B' j = B j) (ho : U o) (hXo : X' o = w + 1) (hX : ∀ j, U j → ¬ j = o → X' j = X j) (xw : X' w = 0)
    (hdead : ∀ j, X o = j + 1 → S (B j) = 2) : EnI S U' K' B' X' ec en := by
  obtain ⟨h1, h2, h3, h4, h5⟩ := h
  have hX2 : ∀ q j, U q → X q = j + 1 → ¬ j = w := fun q j hq hj e => hw (e ▸ (hs.2.2.1 q j hq hj).1)
  have hc : ∀ q j, U' q → X' q = j + 1 → (q = o ∧ j = w) ∨ (U q ∧ X q = j + 1 ∧ ¬ j = w) := by
    intro q j hq hj
    rcases (hU q).mp hq with hq | e
    · by_cases g : q = o
      · rw [g, hXo] at hj; exact Or.inl ⟨g, by omega⟩
      · rw [hX q hq g] at hj; exact Or.inr ⟨hq, hj, hX2 q j hq hj⟩
    · rw [e, xw] at hj; omega
  refine ⟨fun i e hi he => ?_, h2, fun q p j hq hp eq ep => ?_, fun i e q hi he hq hx => ?_, fun q hq a => ?_⟩
  · have z := h1 i e hi he
    exact ⟨(hU _).mpr (Or.inl z.1), by rw [hK _ z.1]; exact z.2⟩
  · rcases hc q j hq eq with ⟨a, b⟩ | ⟨a, b, c⟩
    · rcases hc p j hp ep with ⟨a', b'⟩ | ⟨a', b', c'⟩
      · rw [a, a']
      · exact absurd b c'
    · rcases hc p j hp ep with ⟨a', b'⟩ | ⟨a', b', c'⟩
      · exact absurd b' c
      · exact h3 q p j a a' b b'
  · rcases hc q _ hq hx with ⟨a, b⟩ | ⟨a, b, c⟩
    · exact hw (b ▸ (h1 i e hi he).1)
    · exact h4 i e q hi he a b
  · rcases (hU q).mp hq with hq | e
    · rw [hB q hq] at a
      rw [hK q hq]
      rcases h5 q hq a with z | ⟨p, hp, hx⟩
      · exact Or.inl z
      · refine Or.inr ⟨p, (hU p).mpr (Or.inl hp), ?_⟩
        rw [hX p hp (fun e => a (hdead q (by rw [← e]; exact hx)))]; exact hx
    · rw [e]; exact Or.inr ⟨o, (hU o).mpr (Or.inl ho), hXo⟩
/-! a version goes -/
theorem SlI_g (hT : TrI N S P) (h : SlI N T S P U K B D X R F) (hU : ∀ j, U' j ↔ U j ∧ ¬ j = q) (hq : U q) (hX : ∀ j, U j → X' j = if X j = q + 1 then X q else X j) : SlI N T S P U' K B D X' R F := by
  obtain ⟨h1, h2, h3, h4, h5⟩ := h
  have u : ∀ j, U' j → U j := fun j hj => ((hU j).mp hj).1
  refine ⟨fun p hp => h1 p (u p hp), fun p d hp hd => h2 p d (u p hp) hd, fun p j hp hj => ?_, fun p r hp hr e => h4 p r (u p hp) (u r hr) e, fun p hp hf => h5 p (u p hp) hf⟩
  rw [hX p (u p hp)] at hj
  by_cases e : X p = q + 1
  · rw [if_pos e] at hj
    obtain ⟨a, b, c, d, f⟩ := h3 p q (u p hp) e
    obtain ⟨a', b', c', d', f'⟩ := h3 q j hq hj
    refine ⟨(hU j).mpr ⟨a', fun z => by rw [z] at d'; omega⟩, by omega, by omega, by omega, ?_⟩
    rcases f with f | f
    · rw [f]; exact f'
    · rcases f' with f' | f'
      · rw [← f']; exact Or.inr f
      · exact Or.inr (hT.2.2 _ _ _ (h1 j a').2.2.1 f' f)
  · rw [if_neg e] at hj
    obtain ⟨a, b, c, d, f⟩ := h3 p j (u p hp) hj
    exact ⟨(hU j).mpr ⟨a, fun z => e (by omega)⟩, b, c, d, f⟩
theorem OrI_g (h : OrI S P U K B D R) (hU : ∀ j, U' j ↔ U j ∧ ¬ j = q) : OrI S P U' K B D R :=
  fun r p hr hp => h r p ((hU r).mp hr).1 ((hU p).mp hp).1
/-- how the entries change where q goes -/
def EnG (X : Nat → Nat) (q k : Nat) (ec : Nat → Nat) (en : Nat → Nat → Nat) (ec' : Nat → Nat) (en' : Nat → Nat → Nat) : Prop :=
  ((∀ e, e < ec k → ¬ en k e = q) ∧ (∀ i, ec' i = ec i) ∧ ∀ i e, i < 6 → e < ec i → en' i e = en i e) ∨
  (∃ e0 j, e0 < ec k ∧ en k e0 = q ∧ X q = j + 1 ∧ (∀ i, ec' i = ec i) ∧ ∀ i e, i < 6 → e < ec i → en' i e = if i = k ∧ e = e0 then j else en i e) ∨
  (∃ e0, e0 < ec k ∧ en k e0 = q ∧ X q = 0 ∧ (∀ i, ec' i = if i = k then ec k - 1 else ec i) ∧ ∀ i e, i < 6 → e < ec' i → en' i e = if i = k ∧ e0 ≤ e then en k (e + 1) else en i e)
theorem EnI_g (hT : TrI N S P) (hs : SlI N T S P U K B D X R F) (h : EnI S U K B X ec en) (hU : ∀ j, U' j ↔ U j ∧ ¬ j = q) (hq : U q) (hX : ∀ j, U j → X' j = if X j = q + 1 then X q else X j) (hE : EnG X q (K q) ec en ec' en') : EnI S U' K B X' ec' en' := by
  obtain ⟨h1, h2, h3, h4, h5⟩ := h
  have u : ∀ j, U' j → U j := fun j hj => ((hU j).mp hj).1
  have nq : ∀ j, U' j → ¬ j = q := fun j hj => ((hU j).mp hj).2
  have hk6 : K q < 6 := (hs.1 q hq).2.1
  -- a next one behind: of the same one, or through q
  have hx : ∀ p j, U' p → X' p = j + 1 → (X p = j + 1 ∧ ¬ j = q) ∨ (X p = q + 1 ∧ X q = j + 1) := by
    intro p j hp hj
    rw [hX p (u p hp)] at hj
    by_cases e : X p = q + 1
    · rw [if_pos e] at hj; exact Or.inr ⟨e, hj⟩
    · rw [if_neg e] at hj; exact Or.inl ⟨hj, fun z => e (by omega)⟩
  -- an entry behind: one that was, not q; or the one behind q
  have hen : ∀ i e, i < 6 → e < ec' i → ∃ e2, e2 < ec i ∧ ((en' i e = en i e2 ∧ ¬ en i e2 = q) ∨ (i = K q ∧ en i e2 = q ∧ X q = en' i e + 1)) := by
    intro i e hi he
    rcases hE with ⟨a, b, c⟩ | ⟨e0, j, a, b, c, d, f⟩ | ⟨e0, a, b, c, d, f⟩
    · rw [b] at he
      refine ⟨e, he, Or.inl ⟨c i e hi he, fun z => ?_⟩⟩
      have : K q = i := by rw [← z]; exact (h1 i e hi he).2
      rw [this] at a; exact a e he z
    · rw [d] at he
      rw [f i e hi he]
      by_cases g : i = K q ∧ e = e0
      · rw [if_pos g]; exact ⟨e, he, Or.inr ⟨g.1, by rw [g.1, g.2]; exact b, c⟩⟩
      · rw [if_neg g]
        refine ⟨e, he, Or.inl ⟨rfl, fun z => g ?_⟩⟩
        have ek : i = K q := by rw [← z]; exact (h1 i e hi he).2.symm
        refine ⟨ek, ?_⟩
        rw [ek] at z he
        exact h2 (K q) e e0 hk6 he a (z.trans b.symm)
    · rw [f i e hi he]
      rw [d] at he
      by_cases g : i = K q
      · rw [if_pos g] at he
        by_cases g2 : e0 ≤ e
        · rw [if_pos ⟨g, g2⟩, g]
          refine ⟨e + 1, by omega, Or.inl ⟨rfl, fun z => ?_⟩⟩
          have := h2 (K q) (e + 1) e0 hk6 (by omega) a (z.trans b.symm)
          omega
        · rw [if_neg (fun z => g2 z.2), g]
          refine ⟨e, by omega, Or.inl ⟨rfl, fun z => ?_⟩⟩
          have := h2 (K q) e e0 hk6 (by omega) a (z.trans b.symm)
          omega
      · rw [if_neg g] at he
        rw [if_neg (fun z => g z.1)]
        exact ⟨e, he, Or.inl ⟨rfl, fun z => g (by rw [← z]; exact (h1 i e hi he).2.symm)⟩⟩
  refine ⟨fun i e hi he => ?_, fun i e e' hi he he' hee => ?_, fun p r j hp hr ep er => ?_, fun i e p hi he hp hxp => ?_, fun p hp a => ?_⟩
  · obtain ⟨e2, he2, ⟨a, b⟩ | ⟨a, b, c⟩⟩ := hen i e hi he
    · rw [a]
      have z := h1 i e2 hi he2
      exact ⟨(hU _).mpr ⟨z.1, b⟩, z.2⟩
    · obtain ⟨z1, _, z3, z4, _⟩ := hs.2.2.1 q _ hq c
      exact ⟨(hU _).mpr ⟨z1, fun z => by rw [z] at z4; omega⟩, by rw [z3, a]⟩
  · -- entries stay apart
    rcases hE with ⟨a, b, c⟩ | ⟨e0, j, a, b, c, d, f⟩ | ⟨e0, a, b, c, d, f⟩
    · rw [b] at he he'
      rw [c i e hi he, c i e' hi he'] at hee
      exact h2 i e e' hi he he' hee
    · rw [d] at he he'
      rw [f i e hi he, f i e' hi he'] at hee
      by_cases g : i = K q ∧ e = e0
      · rw [if_pos g] at hee
        by_cases g' : i = K q ∧ e' = e0
        · omega
        · rw [if_neg g'] at hee
          exact absurd (by rw [c, hee]) (h4 i e' q hi he' hq)
      · rw [if_neg g] at hee
        by_cases g' : i = K q ∧ e' = e0
        · rw [if_pos g'] at hee
          exact absurd (by rw [c, hee]) (h4 i e q hi he hq)
        · rw [if_neg g'] at hee
          exact h2 i e e' hi he he' hee
    · rw [f i e hi he, f i e' hi he'] at hee
      rw [d] at he he'
      by_cases g : i = K q
      · rw [if_pos g] at he he'
        rw [g] at hee
        by_cases g2 : e0 ≤ e
        · rw [if_pos ⟨rfl, g2⟩] at hee
          by_cases g3 : e0 ≤ e'
          · rw [if_pos ⟨rfl, g3⟩] at hee
            have := h2 (K q) (e + 1) (e' + 1) hk6 (by omega) (by omega) hee
            omega
          · rw [if_neg (fun z => g3 z.2)] at hee
            have := h2 (K q) (e + 1) e' hk6 (by omega) (by omega) hee
            omega
        · rw [if_neg (fun z => g2 z.2)] at hee
          by_cases g3 : e0 ≤ e'
          · rw [if_pos ⟨rfl, g3⟩] at hee
            have := h2 (K q) e (e' + 1) hk6 (by omega) (by omega) hee
            omega
          · rw [if_neg (fun z => g3 z.2)] at hee
            exact h2 (K q) e e' hk6 (by omega) (by omega) hee
      · rw [if_neg g] at he he'
        rw [if_neg (fun z => g z.1), if_neg (fun z => g z.1)] at hee
        exact h2 i e e' hi he he' hee
  · rcases hx p j hp ep with ⟨a, b⟩ | ⟨a, b⟩
    · rcases hx r j hr er with ⟨a', b'⟩ | ⟨a', b'⟩
      · exact h3 p r j (u p hp) (u r hr) a a'
      · exact absurd (h3 p q j (u p hp) hq a b') (nq p hp)
    · rcases hx r j hr er with ⟨a', b'⟩ | ⟨a', b'⟩
      · exact absurd (h3 r q j (u r hr) hq a' b) (nq r hr)
      · exact h3 p r q (u p hp) (u r hr) a a'
  · obtain ⟨e2, he2, ⟨a, b⟩ | ⟨a, b, c⟩⟩ := hen i e hi he
    · rw [a] at hxp
      rcases hx p _ hp hxp with ⟨z, _⟩ | ⟨_, z⟩
      · exact h4 i e2 p hi he2 (u p hp) z
      · exact h4 i e2 q hi he2 hq z
    · rcases hx p _ hp hxp with ⟨z, _⟩ | ⟨z, _⟩
      · exact nq p hp (h3 p q _ (u p hp) hq z c)
      · rw [← b] at z; exact h4 i e2 p hi he2 (u p hp) z
  · have up := u p hp
    have np := nq p hp
    rcases h5 p up a with ⟨e, he, hee⟩ | ⟨r, hr, hxr⟩
    · refine Or.inl ?_
      have hkp : K p < 6 := (hs.1 p up).2.1
      rcases hE with ⟨z1, z2, z3⟩ | ⟨e0, j, z1, z2, z3, z4, z5⟩ | ⟨e0, z1, z2, z3, z4, z5⟩
      · exact ⟨e, by rw [z2]; exact he, by rw [z3 _ e hkp he]; exact hee⟩
      · refine ⟨e, by rw [z4]; exact he, ?_⟩
        rw [z5 _ e hkp he, if_neg (fun g => np ?_)]; exact hee
        rw [← hee, ← z2, g.1, g.2]
      · by_cases g : K p = K q
        · rw [g] at he hee ⊢
          by_cases g2 : e < e0
          · have l : e < ec' (K q) := by rw [z4, if_pos rfl]; omega
            exact ⟨e, l, by rw [z5 _ e hk6 l, if_neg (fun z => by omega)]; exact hee⟩
          · have ne : ¬ e = e0 := fun z => np (hee.symm.trans ((congrArg (en (K q)) z).trans z2))
            have l : e - 1 < ec' (K q) := by rw [z4, if_pos rfl]; omega
            exact ⟨e - 1, l, by rw [z5 _ (e - 1) hk6 l, if_pos ⟨rfl, by omega⟩, show e - 1 + 1 = e by omega]; exact hee⟩
        · have l : e < ec' (K p) := by rw [z4, if_neg g]; exact he
          exact ⟨e, l, by rw [z5 _ e hkp l, if_neg (fun z => g z.1)]; exact hee⟩
    · by_cases e : r = q
      · rw [e] at hxr
        obtain ⟨_, _, kp, _, bp⟩ := hs.2.2.1 q p hq hxr
        have aq : ¬ S (B q) = 2 := by
          rcases bp with bp | bp
          · rw [bp]; exact a
          · have := (hT.2.1 _ _ (hs.1 p up).2.2.1 bp).2; omega
        rcases h5 q hq aq with ⟨e1, he1, hee1⟩ | ⟨r1, hr1, hxr1⟩
        · refine Or.inl ?_
          rw [kp]
          rcases hE with ⟨z1, z2, z3⟩ | ⟨e0, j, z1, z2, z3, z4, z5⟩ | ⟨e0, z1, z2, z3, z4, z5⟩
          · exact absurd hee1 (z1 e1 he1)
          · refine ⟨e0, by rw [z4]; exact z1, ?_⟩
            rw [z5 _ e0 hk6 z1, if_pos ⟨rfl, rfl⟩]; omega
          · omega
        · refine Or.inr ⟨r1, (hU r1).mpr ⟨hr1, fun z => ?_⟩, by rw [hX r1 hr1, if_pos hxr1]; exact hxr⟩
          rw [z] at hxr1
          have := (hs.2.2.1 q q hq hxr1).2.2.2.1; omega
      · exact Or.inr ⟨r, (hU r).mpr ⟨hr, e⟩, by rw [hX r hr, if_neg (fun z => np (by omega))]; exact hxr⟩
end CORE

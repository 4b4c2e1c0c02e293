/-! ===== exceptions on both sides ===== -/
theorem cE_a1 : cE [xIS] (some xIS) = 1 := by decide +kernel
theorem cE_b1 : cE [xIO] (some xIO) = 1 := by decide +kernel
theorem cE_c1 : cE [xIA] (some xIA) = 1 := by decide +kernel
theorem cE_d1 : cE [xIO, xIS] (some xIO) = 1 := by decide +kernel
theorem cE_d2 : cE [xIO, xIS] (some xIS) = 2 := by decide +kernel
theorem cE_e1 : cE [xIA, xIS] (some xIA) = 1 := by decide +kernel
theorem cE_e2 : cE [xIA, xIS] (some xIS) = 2 := by decide +kernel
theorem cE_f1 : cE [xIO, xIA, xIS] (some xIO) = 1 := by decide +kernel
theorem cE_f2 : cE [xIO, xIA, xIS] (some xIA) = 2 := by decide +kernel
theorem cE_f3 : cE [xIO, xIA, xIS] (some xIS) = 3 := by decide +kernel
theorem eu_same {α : Type} {E : Option String} {a : α} : eu E a a = a := by
  cases E with
  | none => rfl
  | some X => rfl
/-- one, two or three conditions in a row -/
noncomputable def e2 (A B : Prop) (X Y : String) : Option String := thn (ex A X) (ex B Y)
noncomputable def e3 (A B C : Prop) (X Y Z : String) : Option String := thn (ex A X) (thn (ex B Y) (ex C Z))
theorem e2_t {A B : Prop} {X Y : String} (a : A) (b : B) : e2 A B X Y = none := by unfold e2; rw [ex_t a, ex_t b]; rfl
theorem e2_1 {A B : Prop} {X Y : String} (a : ¬ A) : e2 A B X Y = some X := by unfold e2; rw [ex_f a]; rfl
theorem e2_2 {A B : Prop} {X Y : String} (a : A) (b : ¬ B) : e2 A B X Y = some Y := by unfold e2; rw [ex_t a, ex_f b]; rfl
theorem e3_t {A B C : Prop} {X Y Z : String} (a : A) (b : B) (c : C) : e3 A B C X Y Z = none := by unfold e3; rw [ex_t a, ex_t b, ex_t c]; rfl
theorem e3_1 {A B C : Prop} {X Y Z : String} (a : ¬ A) : e3 A B C X Y Z = some X := by unfold e3; rw [ex_f a]; rfl
theorem e3_2 {A B C : Prop} {X Y Z : String} (a : A) (b : ¬ B) : e3 A B C X Y Z = some Y := by unfold e3; rw [ex_t a, ex_f b]; rfl
theorem e3_3 {A B C : Prop} {X Y Z : String} (a : A) (b : B) (c : ¬ C) : e3 A B C X Y Z = some Z := by unfold e3; rw [ex_t a, ex_t b, ex_f c]; rfl
theorem ex_and {A B : Prop} {X : String} : thn (ex A X) (ex B X) = ex (A ∧ B) X := by
  by_cases a : A
  · rw [ex_t a]
    by_cases b : B
    · rw [ex_t b, ex_t ⟨a, b⟩]; rfl
    · rw [ex_f b, ex_f (fun h => b h.2)]; rfl
  · rw [ex_f a, ex_f (q := A ∧ B) (fun h => a h.1)]; rfl
theorem ex_and3 {A B : Prop} {X : String} {e : Option String} : thn (ex A X) (thn (ex B X) e) = thn (ex (A ∧ B) X) e := by
  by_cases a : A
  · rw [ex_t a]
    by_cases b : B
    · rw [ex_t b, ex_t ⟨a, b⟩]; rfl
    · rw [ex_f b, ex_f (fun h => b h.2)]; rfl
  · rw [ex_f a, ex_f (q := A ∧ B) (fun h => a h.1)]; rfl
theorem mem1 {A : Prop} {X : String} : ∀ Y, ex A X = some Y → Y ∈ [X] := by
  intro Y h
  by_cases a : A
  · rw [ex_t a] at h; cases h
  · rw [ex_f a] at h; cases h; exact List.mem_cons_self
theorem mem2 {A B : Prop} {X1 X2 : String} : ∀ Y, e2 A B X1 X2 = some Y → Y ∈ [X1, X2] := by
  intro Y h
  by_cases a : A
  · by_cases b : B
    · rw [e2_t a b] at h; cases h
    · rw [e2_2 a b] at h; cases h; simp
  · rw [e2_1 a] at h; cases h; simp
theorem mem3 {A B C : Prop} {X1 X2 X3 : String} : ∀ Y, e3 A B C X1 X2 X3 = some Y → Y ∈ [X1, X2, X3] := by
  intro Y h
  by_cases a : A
  · by_cases b : B
    · by_cases c : C
      · rw [e3_t a b c] at h; cases h
      · rw [e3_3 a b c] at h; cases h; simp
    · rw [e3_2 a b] at h; cases h; simp
  · rw [e3_1 a] at h; cases h; simp
theorem none2 {A B : Prop} {X Y : String} (h : e2 A B X Y = none) : A ∧ B := by
  by_cases a : A
  · by_cases b : B
    · exact ⟨a, b⟩
    · rw [e2_2 a b] at h; cases h
  · rw [e2_1 a] at h; cases h
theorem none3 {A B C : Prop} {X Y Z : String} (h : e3 A B C X Y Z = none) : A ∧ B ∧ C := by
  by_cases a : A
  · by_cases b : B
    · by_cases c : C
      · exact ⟨a, b, c⟩
      · rw [e3_3 a b c] at h; cases h
    · rw [e3_2 a b] at h; cases h
  · rw [e3_1 a] at h; cases h
theorem thr1 {A A' : Prop} {X : String} (h : A ↔ A') (hX : cE [X] (some X) = 1) : co1 A' = cE [X] (ex A X) := by
  by_cases a : A
  · rw [ex_t a, co1, cif_t (h.mp a)]; rfl
  · rw [ex_f a, co1, cif_f (fun z => a (h.mpr z)), hX]
theorem thr3 {A A' B B' C C' : Prop} (h : A ↔ A') (hB : B ↔ B') (hC : A → B → (C ↔ C')) : co3 A' B' C' = cE [xIO, xIA, xIS] (e3 A B C xIO xIA xIS) := by
  unfold co3
  by_cases a : A
  · rw [cif_t (h.mp a)]
    by_cases b : B
    · rw [cif_t (hB.mp b)]
      by_cases c : C
      · rw [cif_t ((hC a b).mp c), e3_t a b c]; rfl
      · rw [cif_f (fun z => c ((hC a b).mpr z)), e3_3 a b c, cE_f3]
    · rw [cif_f (fun z => b (hB.mpr z)), e3_2 a b, cE_f2]
  · rw [cif_f (fun z => a (h.mpr z)), e3_1 a, cE_f1]
/-! bounds on both sides -/
theorem le_i {a b : Int32} : a ≤ b ↔ ¬ b < a := by rw [i_le, i_lt]; omega
theorem ky_in {y : Int32} : kyP y ↔ inP y 0 5 := by
  unfold kyP inP
  rw [i_lt, i_lt, i_lt, show (0 : Int32).toInt = 0 from rfl, show (5 : Int32).toInt = 5 from rfl, show (6 : Int32).toInt = 6 from rfl]
  omega
theorem pg_in {y : Int32} : pgP y ↔ inP y 0 3 := by
  unfold pgP inP
  rw [i_lt, i_lt, i_lt, show (0 : Int32).toInt = 0 from rfl, show (3 : Int32).toInt = 3 from rfl, show (4 : Int32).toInt = 4 from rfl]
  omega
theorem sl_in {y : Int32} : slP y ↔ inP y 0 7 := by
  unfold slP inP
  rw [i_lt, i_lt, i_lt, show (0 : Int32).toInt = 0 from rfl, show (7 : Int32).toInt = 7 from rfl, show (8 : Int32).toInt = 8 from rfl]
  omega
theorem st_in {y : Int32} : stP y ↔ inP y 0 63 := by
  unfold stP inP
  rw [i_lt, i_lt, i_lt, show (0 : Int32).toInt = 0 from rfl, show (63 : Int32).toInt = 63 from rfl, show (64 : Int32).toInt = 64 from rfl]
  omega
theorem va_in {y : Int32} : vaP y ↔ inP y 0 9999 := by
  unfold vaP inP
  rw [i_lt, i_lt, i_lt, show (0 : Int32).toInt = 0 from rfl, show (9999 : Int32).toInt = 9999 from rfl, show (10000 : Int32).toInt = 10000 from rfl]
  omega
theorem jm_in {y : Int32} : jmP y ↔ inP y 1 20 := by
  unfold jmP inP
  rw [le_i]
theorem fz_in {y : Int32} : fzR y ↔ inP y 1 27 := by
  unfold fzR inP
  rw [le_i]
theorem rem64 {a : Nat} (h : a < 2 ^ 31) : nI a - nI a / 64 * 64 = nI (a % 64) := pk_rem (d := 64) h (by omega) (by omega)
theorem jm_at {x : Int32} (h : jmP x) : ∃ j : Nat, j ≤ 20 ∧ 1 ≤ j ∧ x = nI j := by
  have h0 : ¬ x < 0 := by
    have := h.1
    rw [i_lt, show (1 : Int32).toInt = 1 from rfl] at this
    rw [i_lt, show (0 : Int32).toInt = 0 from rfl]
    omega
  obtain ⟨j, hj, e⟩ := nI_of h0
  refine ⟨j, ?_, ?_, e⟩
  · have := h.2
    rw [e, i_le, nI_toInt hj, show (20 : Int32).toInt = 20 from rfl] at this
    omega
  · have := h.1
    rw [e, i_lt, nI_toInt hj, show (1 : Int32).toInt = 1 from rfl] at this
    omega
section OPS1
variable {l : Launch} {D9 : va_G} {K9 : Nat → ClassId} {k : Nat} {u : CU} {v : MU}
theorem op_stamp (hfl : l.stackTraces = false) (h : Rl k u v) : OP_stamp l D9 K9 (Rl (k + 1)) u v := by
  intro x
  have h9 := h
  obtain ⟨N, T, n, st, S, P, U, K, B, D, X, R, F, ec, en, H⟩ := h9
  obtain ⟨h60, hc, hm⟩ := rl_N H
  refine ⟨u, _, _, _, _, fun g hg => kX4_stamp hg hfl u x N h60 hc, fun g hg => kX5_stamp hg v x N h60 hm, mem1, thr1 ((rl_wb H).trans (rl_tr H).symm) cE_b1, fun hE => ?_, by rw [eu_same]; exact Rl_up h⟩
  have hw := ex_n hE
  rw [cif_t ((rl_tr H).mpr ((rl_wb H).mp hw))]
  obtain ⟨t, ht, e⟩ := (rl_wb H).mp hw
  rw [e, nat_nI (by omega), H.1.2.2.1.2.2.1 t ht, H.1.2.2.2.2.2.1 t ht]
theorem op_isBefore (hfl : l.stackTraces = false) (h : Rl k u v) : OP_isBefore l D9 K9 (Rl (k + 1)) u v := by
  intro x y
  have hk := fun g hg => kX4_isBefore (L := Lg g) (D := D9) (K := K9) (g := g) hg hfl u x y
  rw [ex_and] at hk
  refine ⟨u, _, _, _, _, hk, fun g hg => kX5_isBefore hg v x y, mem1, thr1 ⟨fun h => ⟨st_in.mp h.1, st_in.mp h.2⟩, fun h => ⟨st_in.mpr h.1, st_in.mpr h.2⟩⟩ cE_c1, fun hE => ?_, by rw [eu_same]; exact Rl_up h⟩
  have hw := ex_n hE
  refine fb_c ?_
  obtain ⟨a, ha, ea⟩ := rng_at (n := 64) (by omega) hw.1
  obtain ⟨b, hb, eb⟩ := rng_at (n := 64) (by omega) hw.2
  have e : ibP x y ↔ ibM x y := by
    unfold ibP ibM
    rw [ea, eb, fm_n b hb a ha, am_n b hb a ha]
  exact e.trans ⟨fun z => ⟨⟨st_in.mp hw.1, st_in.mp hw.2⟩, z⟩, fun z => z.2⟩
theorem op_setFreezing (hfl : l.stackTraces = false) (h : Rl k u v) : OP_setFreezing l D9 K9 (Rl (k + 1)) u v := by
  intro x
  refine ⟨_, _, _, _, _, fun g hg => kX4_setFreezing hg hfl u x, fun g hg => kX5_setFreezing hg v x, mem1, ?_, fun hE => ?_, ?_⟩
  · by_cases a : fzR x
    · rw [cif_t (fz_in.mp a), ex_t a]; rfl
    · rw [cif_f (fun z => a (fz_in.mpr z)), ex_f a, cE_c1]; rfl
  · rw [cif_t (fz_in.mp (ex_n hE))]
    obtain ⟨N, T, n, st, S, P, U, K, B, D, X, R, F, ec, en, H⟩ := h
    exact H.2.2.2.2.1
  · by_cases a : fzR x
    · rw [cif_t (fz_in.mp a), ex_t a]
      obtain ⟨N, T, n, st, S, P, U, K, B, D, X, R, F, ec, en, h1, h2, h3, ⟨h4, h5⟩, h6⟩ := Rl_up (x := 0) h
      exact ⟨N, T, n, st, S, P, U, K, B, D, X, R, F, ec, en, h1, h2, h3, ⟨h4, h5⟩, ⟨rfl, h6.2⟩⟩
    · rw [cif_f (fun z => a (fz_in.mpr z)), ex_f a]; exact Rl_up h
theorem op_isMapped (hfl : l.stackTraces = false) (h : Rl k u v) : OP_isMapped l D9 K9 (Rl (k + 1)) u v := by
  intro x
  have h9 := h
  obtain ⟨N, T, n, st, S, P, U, K, B, D, X, R, F, ec, en, H⟩ := h9
  refine ⟨u, _, _, _, _, fun g hg => kX4_isMapped hg hfl u x (fun a ha => (H.2.2.2.2.2 a ha).2), fun g hg => kX5_isMapped hg v x, mem1, thr1 pg_in cE_c1, fun hE => ?_, by rw [eu_same]; exact Rl_up h⟩
  have hw := ex_n hE
  obtain ⟨a, ha, e⟩ := pg_at hw
  obtain ⟨m1, m2⟩ := H.2.2.2.2.2 a ha
  rw [e] at hw
  rw [e, nat_nI (by omega), m1]
  rw [m1] at m2
  rcases m2 with m2 | m2
  · rw [fb_f (fun z => z.2 m2), m2]
  · rw [fb_t ⟨pg_in.mp hw, by rw [m2]; decide⟩, m2]
theorem op_isWhole (hfl : l.stackTraces = false) (h : Rl k u v) : OP_isWhole l D9 K9 (Rl (k + 1)) u v := by
  intro x
  have h9 := h
  obtain ⟨N, T, n, st, S, P, U, K, B, D, X, R, F, ec, en, H⟩ := h9
  obtain ⟨h60, hc, hm⟩ := rl_N H
  refine ⟨u, _, _, _, _, fun g hg => kX4_isWhole hg hfl u x N h60 hc, fun g hg => kX5_isWhole hg v x N h60 hm (rl_rM H), mem1, thr1 pg_in cE_c1, fun hE => ?_, by rw [eu_same]; exact Rl_up h⟩
  have hw := ex_n hE
  obtain ⟨a, ha, e⟩ := pg_at hw
  refine fb_c ?_
  rw [e, nat_nI (by omega), wh_C H ha, wh_M H ha]
  rw [e] at hw
  exact ⟨fun z => ⟨pg_in.mp hw, z⟩, fun z => z.2⟩
theorem op_entries (hfl : l.stackTraces = false) (h : Rl k u v) : OP_entries l D9 K9 (Rl (k + 1)) u v := by
  intro x
  have h9 := h
  obtain ⟨N, T, n, st, S, P, U, K, B, D, X, R, F, ec, en, H⟩ := h9
  refine ⟨u, _, _, _, _, fun g hg => kX4_entries hg hfl u x, fun g hg => kX5_entries hg v x, mem1, thr1 ky_in cE_c1, fun hE => ?_, by rw [eu_same]; exact Rl_up h⟩
  have hw := ex_n hE
  rw [cif_t (ky_in.mp hw)]
  obtain ⟨a, ha, e⟩ := ky_at hw
  rw [e, nat_nI (by omega), (H.2.2.1.2.2.2 a ha).2.1, (H.2.2.1.2.2.2 a ha).2.2.1]
theorem op_fullness (hfl : l.stackTraces = false) (h : Rl k u v) : OP_fullness l D9 K9 (Rl (k + 1)) u v := by
  intro x
  have h9 := h
  obtain ⟨N, T, n, st, S, P, U, K, B, D, X, R, F, ec, en, H⟩ := h9
  refine ⟨u, _, _, _, _, fun g hg => kX4_fullness hg hfl u x, fun g hg => kX5_fullness hg v x, mem1, thr1 pg_in cE_c1, fun hE => ?_, Nat.lt_succ_of_le (ful_le 8), by rw [eu_same]; exact Rl_up h⟩
  have hw := ex_n hE
  rw [cif_t (pg_in.mp hw)]
  obtain ⟨a, ha, e⟩ := pg_at hw
  rw [e, nat_nI (by omega)]
  have z : ∀ m, m ≤ 8 → ful u a m = fuM v a m := by
    intro m
    induction m with
    | zero => intro _; rfl
    | succ m ih =>
      intro hm
      have e8 : a * 8 + m = 8 * a + m := by omega
      have q32 : 8 * a + m < 32 := by omega
      by_cases hq : U (8 * a + m)
      · rw [ful_y (by rw [e8]; exact (us_C H q32).mpr hq), fuM, cif_f (fun z => (us_M H q32).mp z hq), ih (by omega)]
      · rw [ful_n (by rw [e8]; exact fun z => hq ((us_C H q32).mp z)), fuM, cif_t ((us_M H q32).mpr hq), ih (by omega)]; rfl
  rw [z 8 (Nat.le_refl _)]
theorem op_oldest (h : Rl k u v) : OP_oldest l D9 K9 (Rl (k + 1)) u v := by
  have h9 := h
  obtain ⟨N, T, n, st, S, P, U, K, B, D, X, R, F, ec, en, H⟩ := h9
  obtain ⟨h60, hc, hm⟩ := rl_N H
  obtain ⟨a, ha, e1, e2⟩ := rl_og H
  refine ⟨_, fun g hg => kX4_oldest hg u N h60 hc, ms_thr v 0, fun g hg => ?_, Rl_up h⟩
  have z := kX5_oldest (l := l) (D := D9) (K := K9) (L := Lm g) hg v N h60 hm (rl_rM H)
  have H2 : RlX (k + 1) u (ms_thr v 0) N T n st S P U K B D X R F ec en := by
    obtain ⟨h1, h2, h3, ⟨h4, h5⟩, h6⟩ := H
    exact ⟨h1, h2, h3, ⟨by omega, h5⟩, h6⟩
  obtain ⟨b, hb, f1, f2⟩ := rl_og H2
  rw [f1]
  rw [f2] at z
  exact z
theorem op_slot (hfl : l.stackTraces = false) (h : Rl k u v) : OP_slot l D9 K9 (Rl (k + 1)) u v := by
  intro x y
  have h9 := h
  obtain ⟨N, T, n, st, S, P, U, K, B, D, X, R, F, ec, en, H⟩ := h9
  have hk := fun g hg => kX4_slot (L := Lg g) (D := D9) (K := K9) (g := g) hg hfl u x y
  rw [ex_and] at hk
  refine ⟨u, _, _, _, _, hk, fun g hg => kX5_slot hg v x y (rl_rM H), mem1, thr1 ⟨fun h => ⟨pg_in.mp h.1, sl_in.mp h.2⟩, fun h => ⟨pg_in.mpr h.1, sl_in.mpr h.2⟩⟩ cE_c1, fun hE => ?_, by rw [eu_same]; exact Rl_up h⟩
  have hw := ex_n hE
  rw [cif_t ⟨pg_in.mp hw.1, sl_in.mp hw.2⟩]
  obtain ⟨a, ha, ea⟩ := pg_at hw.1
  obtain ⟨b, hb, eb⟩ := sl_at hw.2
  rw [ea, eb, nat_nI (by omega), nat_nI (by omega), show a * 8 + b = 8 * a + b by omega]
  have q32 : 8 * a + b < 32 := by omega
  generalize 8 * a + b = q at q32
  unfold slv msl
  by_cases hq : U q
  · obtain ⟨a1, a2, a3, a4, a5, a6, a7, a8⟩ := (H.2.2.1.1 q q32).1 hq
    obtain ⟨b1, b2, b3, b4, b5, b6, b7⟩ := (H.2.2.1.2.1 q q32).1 hq
    have hDN := rl_D H hq
    have hX := rl_X H hq
    have h60 := H.1.1.1
    refine Eq.trans (if_pos ((us_C H q32).mpr hq)) ?_
    rw [cif_f b1, b2, b6, b7]
    have e1 : sl1 u q = nI (K q) + cif (m_fr v q = 0) 0 10 := by
      unfold sl1
      by_cases hf : F q
      · rw [cif_f (fun z => b5.mp z hf)]
        refine Eq.trans (if_neg (fun z => a3.mp z hf)) ?_
        rw [a1]
      · rw [cif_t (b5.mpr hf)]
        refine Eq.trans (if_pos (a3.mpr hf)) ?_
        rw [a1]
        exact (Int32.add_zero _).symm
    have e2 : ∀ z, sl2 u q z = z + cif (oi (D q) = -1) 0 20 := by
      intro z
      unfold sl2 hdP
      rw [a4]
      by_cases hd : oi (D q) = -1
      · rw [cif_t hd]
        exact Eq.trans (if_neg (fun z => z hd)) (Int32.add_zero _).symm
      · rw [cif_f hd]
        exact if_pos hd
    have e3 : ∀ z, sl3 u q z = z + cif (oi (X q) = -1) 0 (100 * (nI (nat (oi (X q)) % 8) + 1)) := by
      intro z
      unfold sl3
      rw [a5]
      by_cases hx : X q = 0
      · rw [hx, cif_t (show oi 0 = -1 from rfl)]
        exact Eq.trans (if_neg pl_m1) (Int32.add_zero _).symm
      · obtain ⟨j, hj⟩ : ∃ j, X q = j + 1 := ⟨X q - 1, by omega⟩
        rw [hj, show oi (j + 1) = nI j from rfl, cif_f (nI_m1 j (by omega))]
        refine Eq.trans (if_pos (pl_nI (by omega))) ?_
        rw [Int32.add_comm 1]
    rw [e1, e2, e3]
  · rw [cif_t ((us_M H q32).mpr hq)]
    exact if_neg (fun z => hq ((us_C H q32).mp z))
theorem op_jump (hfl : l.stackTraces = false) (h : Rl k u v) : OP_jump l D9 K9 (Rl (k + 1)) u v := by
  intro x
  have h9 := h
  obtain ⟨N, T, n, st, S, P, U, K, B, D, X, R, F, ec, en, H⟩ := h9
  obtain ⟨h60, hc, hm⟩ := rl_N H
  obtain ⟨a, ha, o1, o2⟩ := rl_og H
  have hk := fun g hg => kX4_jump (L := Lg g) (D := D9) (K := K9) (g := g) hg hfl u x N h60 hc
  have hk2 := fun g hg => kX5_jump (L := Lm g) (D := D9) (K := K9) (l := l) (g := g) hg v x N h60 hm (rl_rM H)
  rw [o1] at hk
  rw [o2] at hk2
  have hns : jmP x → ∃ m, m < 64 ∧ skn u x = nI m ∧ msk v x = nI m := by
    intro hj
    obtain ⟨j, j1, j2, e⟩ := jm_at hj
    have hn := H.1.1.2.1
    refine ⟨(n + j) % 64, Nat.mod_lt _ (by decide), ?_, ?_⟩
    · unfold skn; rw [H.1.2.2.1.2.1, e, nI_add, rem64 (by omega)]
    · unfold msk; rw [H.1.2.2.2.2.1, e, nI_add, rem64 (by omega)]
  refine ⟨_, _, e2 _ _ _ _, _, _, hk, hk2, mem2, ?_, fun hE => ?_, ?_⟩
  · by_cases hj : jmP x
    · rw [cif_t (jm_in.mp hj)]
      by_cases ho : joP (nI a) x
      · rw [cif_f ho, e2_t hj ho]; rfl
      · rw [cif_t (Classical.byContradiction ho), e2_2 hj ho, cE_e2]; rfl
    · rw [cif_f (fun z => hj (jm_in.mpr z)), e2_1 hj, cE_e1]; rfl
  · obtain ⟨hj, ho⟩ := none2 hE
    obtain ⟨m, m64, s1, s2⟩ := hns hj
    rw [cif_t (jm_in.mp hj), cif_f ho, s1, s2]
  · by_cases hj : jmP x
    · rw [cif_t (jm_in.mp hj)]
      by_cases ho : joP (nI a) x
      · rw [cif_f ho, e2_t hj ho]
        obtain ⟨m, m64, s1, s2⟩ := hns hj
        rw [s1, s2]
        obtain ⟨⟨h1, h2, h3, h4⟩, h5, h6, ⟨h7, h8⟩, h9⟩ := H
        exact ⟨N, T, m, st, S, P, U, K, B, D, X, R, F, ec, en, ⟨⟨h1.1, m64, h1.2.2⟩, h2, ⟨h3.1, rfl, h3.2.2⟩, ⟨h4.1, rfl, h4.2.2⟩⟩, h5, h6, ⟨by omega, h8⟩, h9⟩
      · rw [cif_t (Classical.byContradiction ho), e2_2 hj ho]; exact Rl_up h
    · rw [cif_f (fun z => hj (jm_in.mpr z)), e2_1 hj]; exact Rl_up h
end OPS1

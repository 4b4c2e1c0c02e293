/-! ===== clean; what arePages asks of the object ===== -/
theorem ctq_0 {p : Nat → Prop} : ∀ m, ctq p m = 0 → ∀ j, j < m → ¬ p j := by
  intro m
  induction m with
  | zero => intro _ j hj; omega
  | succ m ih =>
    intro h j hj hp
    by_cases e : p m
    · rw [ctq_y e] at h; omega
    · rw [ctq_n e] at h
      by_cases g : j = m
      · rw [g] at hp; exact e hp
      · exact ih h j (by omega) hp
theorem ctq_inj {p : Nat → Prop} {f : Nat → Nat} {n : Nat} : ∀ m (q : Nat → Prop), (∀ i, i < m → p i → f i < n ∧ q (f i)) → (∀ i j, i < m → j < m → p i → p j → f i = f j → i = j) → ctq p m ≤ ctq q n := by
  intro m
  induction m with
  | zero => intro q _ _; exact Nat.zero_le _
  | succ m ih =>
    intro q h1 h2
    by_cases e : p m
    · obtain ⟨a, b⟩ := h1 m (by omega) e
      rw [ctq_y e, ctq_out (p := q) (q := fun j => q j ∧ ¬ j = f m) a b (fun j => Iff.rfl)]
      have := ih (fun j => q j ∧ ¬ j = f m) (fun i hi hp => ⟨(h1 i (by omega) hp).1, (h1 i (by omega) hp).2, fun z => by have := h2 i m (by omega) (by omega) hp e z; omega⟩) (fun i j hi hj => h2 i j (by omega) (by omega))
      omega
    · rw [ctq_n e]
      exact ih q (fun i hi => h1 i (by omega)) (fun i j hi hj => h2 i j (by omega) (by omega))
theorem ctq_below {c : Nat} : ∀ m, ctq (fun j => j < c) m = min c m := by
  intro m
  induction m with
  | zero => exact (Nat.min_zero c).symm
  | succ m ih =>
    by_cases e : m < c
    · rw [ctq_y (p := fun j => j < c) e, ih]; omega
    · rw [ctq_n (p := fun j => j < c) e, ih]; omega
theorem esm_ctq {ec : Nat → Nat} (h : ∀ k, k < 6 → ec k ≤ 32) : ∀ m, m ≤ 6 → ctq (fun x => x % 32 < ec (x / 32)) (32 * m) = esm ec m := by
  intro m
  induction m with
  | zero => intro _; rfl
  | succ m ih =>
    intro hm
    rw [show 32 * (m + 1) = 32 * m + 32 by omega, ctq_add 32, ih (by omega), ctq_ext (p := fun j => (32 * m + j) % 32 < ec ((32 * m + j) / 32)) (q := fun j => j < ec m) 32 (fun j hj => by
      show (32 * m + j) % 32 < ec ((32 * m + j) / 32) ↔ j < ec m
      rw [show (32 * m + j) % 32 = j by omega, show (32 * m + j) / 32 = m by omega]), ctq_below]
    have := h m (by omega)
    show esm ec m + min (ec m) 32 = esm ec m + ec m
    omega
section ZPAGES
variable {k N T n : Nat} {u : CU} {v : MU} {st S : Nat → Nat} {P : Nat → Nat → Prop} {U : Nat → Prop} {K B D X R : Nat → Nat} {F : Nat → Prop} {ec : Nat → Nat} {en : Nat → Nat → Nat} {t q i : Nat}
/-- entries and next versions are no more than versions -/
theorem z_sum (H : RlX k u v N T n st S P U K B D X R F ec en) : esm ec 6 + ctq (fun q => U q ∧ ¬ X q = 0) 32 ≤ ctq U 32 := by
  have hS := H.2.1.1
  obtain ⟨E1, E2, E3, E4, -⟩ := H.2.1.2.2
  have h32 : ∀ k, k < 6 → ec k ≤ 32 := fun k hk => (H.2.2.1.2.2.2 k hk).1
  have h1 : ctq (fun x => x % 32 < ec (x / 32)) 192 = esm ec 6 := esm_ctq h32 6 (Nat.le_refl _)
  let p : Nat → Prop := fun x => (x < 192 ∧ x % 32 < ec (x / 32)) ∨ (192 ≤ x ∧ U (x - 192) ∧ ¬ X (x - 192) = 0)
  let f : Nat → Nat := fun x => if x < 192 then en (x / 32) (x % 32) else X (x - 192) - 1
  have f1 : ∀ x, x < 192 → f x = en (x / 32) (x % 32) := fun x hx => if_pos hx
  have f2 : ∀ x, 192 ≤ x → f x = X (x - 192) - 1 := fun x hx => if_neg (by omega)
  have pd : ∀ x, p x ↔ (x < 192 ∧ x % 32 < ec (x / 32)) ∨ (192 ≤ x ∧ U (x - 192) ∧ ¬ X (x - 192) = 0) := fun x => Iff.rfl
  clear_value p f
  have c1 : ctq p 224 = esm ec 6 + ctq (fun q => U q ∧ ¬ X q = 0) 32 := by
    have a1 : ctq p 192 = ctq (fun x => x % 32 < ec (x / 32)) 192 := ctq_ext 192 (fun j hj => (pd j).trans ⟨fun z => z.elim (fun z => z.2) (fun z => by omega), fun z => Or.inl ⟨hj, z⟩⟩)
    have a2 : ctq (fun j => p (192 + j)) 32 = ctq (fun q => U q ∧ ¬ X q = 0) 32 := by
      refine ctq_ext 32 (fun j hj => (pd (192 + j)).trans ?_)
      rw [show 192 + j - 192 = j by omega]
      exact ⟨fun z => z.elim (fun z => by omega) (fun z => z.2), fun z => Or.inr ⟨by omega, z⟩⟩
    have a3 : ctq p 224 = ctq p 192 + ctq (fun j => p (192 + j)) 32 := ctq_add (p := p) (m := 192) 32
    rw [a3, a1, a2, h1]
  rw [← c1]
  refine ctq_inj (f := f) 224 U (fun x hx hp => ?_) (fun x y hx hy hpx hpy e => ?_)
  · rcases (pd x).mp hp with ⟨a, b⟩ | ⟨a, b, c⟩
    · rw [f1 x a]
      have z := (E1 (x / 32) (x % 32) (by omega) b).1
      exact ⟨(hS.1 _ z).1, z⟩
    · rw [f2 x a]
      have z := (hS.2.2.1 (x - 192) (X (x - 192) - 1) b (by omega)).1
      exact ⟨(hS.1 _ z).1, z⟩
  · rcases (pd x).mp hpx with ⟨a, b⟩ | ⟨a, b, c⟩
    · rcases (pd y).mp hpy with ⟨a', b'⟩ | ⟨a', b', c'⟩
      · rw [f1 x a, f1 y a'] at e
        have k1 := (E1 (x / 32) (x % 32) (by omega) b).2
        have k2 := (E1 (y / 32) (y % 32) (by omega) b').2
        rw [e] at k1
        have ek : x / 32 = y / 32 := k1.symm.trans k2
        rw [ek] at e b
        have := E2 (y / 32) (x % 32) (y % 32) (by omega) b b' e
        omega
      · rw [f1 x a, f2 y a'] at e
        exact absurd (show X (y - 192) = en (x / 32) (x % 32) + 1 by omega) (E4 (x / 32) (x % 32) (y - 192) (by omega) b b')
    · rcases (pd y).mp hpy with ⟨a', b'⟩ | ⟨a', b', c'⟩
      · rw [f2 x a, f1 y a'] at e
        exact absurd (show X (x - 192) = en (y / 32) (y % 32) + 1 by omega) (E4 (y / 32) (y % 32) (x - 192) (by omega) b' b)
      · rw [f2 x a, f2 y a'] at e
        have := E3 (x - 192) (y - 192) (X (x - 192) - 1) b b' (by omega) (by omega)
        omega
theorem z_ful (H : RlX k u v N T n st S P U K B D X R F ec en) {a : Nat} (ha : a < 4) : ∀ m, m ≤ 8 → ful u a m = ctq (fun j => U (a * 8 + j)) m := by
  intro m
  induction m with
  | zero => intro _; rfl
  | succ m ih =>
    intro hm
    have q32 : a * 8 + m < 32 := by omega
    by_cases hq : U (a * 8 + m)
    · rw [ful_y ((us_C H q32).mpr hq), ctq_y (p := fun j => U (a * 8 + j)) hq, ih (by omega)]
    · rw [ful_n (fun z => hq ((us_C H q32).mp z)), ctq_n (p := fun j => U (a * 8 + j)) hq, ih (by omega)]
theorem tn_1 : 1 ≤ tnA U K D X F q ↔ U q := by
  by_cases hq : U q
  · obtain ⟨f, d, x, e, -⟩ := tn_u (K := K) (D := D) (X := X) (F := F) hq
    rw [e]; exact ⟨fun _ => hq, fun _ => by omega⟩
  · rw [tn_n hq]; exact ⟨fun z => by omega, fun z => absurd z hq⟩
theorem tn_101 (hK : U q → K q < 6) : 101 ≤ tnA U K D X F q ↔ U q ∧ ¬ X q = 0 := by
  by_cases hq : U q
  · have k6 := hK hq
    obtain ⟨f, d, x, e, e1, e2, e3⟩ := tn_u (K := K) (D := D) (X := X) (F := F) hq
    rw [e]
    rcases e3 with ⟨z1, z2⟩ | ⟨j, z1, z2⟩
    · refine ⟨fun z => ?_, fun z => absurd z1 z.2⟩
      rcases e1 with e1 | e1 <;> rcases e2 with ⟨-, e2⟩ | ⟨-, e2⟩ <;> omega
    · exact ⟨fun _ => ⟨hq, by omega⟩, fun _ => by omega⟩
  · rw [tn_n hq]; exact ⟨fun z => by omega, fun z => absurd z.1 hq⟩
theorem z_pages (h : ZI k u N T S) : ∃ tn ec, PgH u N tn ec := by
  obtain ⟨v, n, st, P, U, K, B, D, X, R, F, ec, en, H, hA, hM, hV, hF⟩ := h
  have hS := H.2.1.1
  have h1 : ∀ q, 1 ≤ tnA U K D X F q ↔ U q := fun q => tn_1
  have h2 : ∀ q, 101 ≤ tnA U K D X F q ↔ U q ∧ ¬ X q = 0 := fun q => tn_101 (fun z => (hS.1 q z).2.1)
  refine ⟨tnA U K D X F, ec, fun q q32 => ⟨slv_at H q32, ?_, fun m hm => ?_⟩, fun a ha => ⟨(H.2.2.2.2.2 a ha).2, fun hma => (wh_C H ha).mpr (hM a ha hma), fun ⟨j, hj, hd⟩ hw => ?_, fun hz => (wh_C H ha).mpr (fun q hq hqa => ?_), ?_⟩, fun k hk => ⟨(H.2.2.1.2.2.2 k hk).2.1, (H.2.2.1.2.2.2 k hk).1⟩, ?_⟩
  · by_cases hq : U q
    · have k6 := (hS.1 q hq).2.1
      obtain ⟨f, d, x, e, e1, e2, e3⟩ := tn_u (K := K) (D := D) (X := X) (F := F) hq
      rw [e]
      have hx : x ≤ 800 := by
        rcases e3 with ⟨z1, z2⟩ | ⟨j, z1, z2⟩
        · omega
        · omega
      rcases e1 with e1 | e1 <;> rcases e2 with ⟨-, e2⟩ | ⟨-, e2⟩ <;> omega
    · rw [tn_n hq]; omega
  · have hq : U q := (h1 q).mp (by omega)
    have k6 := (hS.1 q hq).2.1
    obtain ⟨f, d, x, e, e1, e2, e3⟩ := tn_u (K := K) (D := D) (X := X) (F := F) hq
    rw [e] at hm
    have hm2 : m = K q + f + d + x := by omega
    have hfd : f + d ≤ 30 ∧ (f + d) % 10 = 0 := by
      rcases e1 with e1 | e1 <;> rcases e2 with ⟨-, e2⟩ | ⟨-, e2⟩ <;> omega
    have hm10 : m % 10 = K q := by
      rcases e3 with ⟨z1, z2⟩ | ⟨j, z1, z2⟩ <;> omega
    refine ⟨by omega, fun h100 => ?_⟩
    rcases e3 with ⟨z1, z2⟩ | ⟨j, z1, z2⟩
    · omega
    · obtain ⟨y1, y2, y3, y4, y5⟩ := hS.2.2.1 q j hq z1
      have hm100 : m / 100 - 1 = j % 8 := by omega
      rw [hm100]
      refine ⟨by omega, fun z => ?_, ?_⟩
      · have : j = q := by omega
        rw [this] at y4; omega
      · rw [show q / 8 * 8 + j % 8 = j by omega]
        have k6' := (hS.1 j y1).2.1
        obtain ⟨f', d', x', e', e1', e2', e3'⟩ := tn_u (K := K) (D := D) (X := X) (F := F) y1
        refine ⟨K j + f' + d' + x', e', ?_⟩
        rw [hm10, ← y3]
        have hfd' : f' + d' ≤ 30 ∧ (f' + d') % 10 = 0 := by
          rcases e1' with e1' | e1' <;> rcases e2' with ⟨-, e2'⟩ | ⟨-, e2'⟩ <;> omega
        rcases e3' with ⟨z1', z2'⟩ | ⟨j', z1', z2'⟩ <;> omega
  · obtain ⟨m, hm, hd⟩ := hd
    have hq : U (a * 8 + j) := (h1 _).mp (by omega)
    have k6 := (hS.1 _ hq).2.1
    have hw1 := ((wh_C H ha).mp hw _ hq (by omega)).1
    obtain ⟨f, d, x, e, e1, e2, e3⟩ := tn_u (K := K) (D := D) (X := X) (F := F) hq
    rw [e] at hm
    rcases e2 with ⟨-, e2⟩ | ⟨e2, -⟩
    · rcases e3 with ⟨z1, z2⟩ | ⟨j', z1, z2⟩ <;> rcases e1 with e1 | e1 <;> omega
    · exact e2 hw1
  · have e : a * 8 + q % 8 = q := by omega
    have := ctq_0 8 hz (q % 8) (by omega)
    exact absurd ((h1 _).mpr (by rw [e]; exact hq)) this
  · rw [z_ful H ha 8 (Nat.le_refl _)]
    exact ctq_ext 8 (fun j _ => (h1 _).symm)
  · rw [ctq_ext 32 (fun j _ => h2 j), ctq_ext 32 (fun j _ => h1 j)]
    exact z_sum H
/-- where none can go, none goes -/
theorem cln_0 {a : Nat} {S9 : Int64} (h : ∀ i, i < 8 → ¬ cgP u (a * 8 + i) S9) : ∀ m, m ≤ 8 → cln u S9 a m = (u, 0) := by
  intro m
  induction m with
  | zero => intro _; rfl
  | succ m ih =>
    intro hm
    exact cln_n (ih (by omega)) (h m (by omega))
theorem cln_tb {S9 : Int64} {a : Nat} : ∀ m, c_tk (cln u S9 a m).1 = c_tk u ∧ c_tv (cln u S9 a m).1 = c_tv u ∧ c_tb (cln u S9 a m).1 = c_tb u ∧ c_td (cln u S9 a m).1 = c_td u ∧ c_sn (cln u S9 a m).1 = c_sn u ∧ c_v (cln u S9 a m).1 = c_v u ∧ c_fz (cln u S9 a m).1 = c_fz u := by
  intro m
  induction m with
  | zero => exact ⟨rfl, rfl, rfl, rfl, rfl, rfl, rfl⟩
  | succ m ih =>
    by_cases g : cgP (cln u S9 a m).1 (a * 8 + m) S9
    · rw [cln_y rfl g]; exact ih
    · rw [cln_n rfl g]; exact ih
theorem z_ok (H : RlX k u v N T n st S P U K B D X R F ec en) {a : Nat} (ha : a < 4) : ∀ i, i < 8 → cgP (cln u (stl u N) a i).1 (a * 8 + i) (stl u N) → okT (cln u (stl u N) a i).1 (a * 8 + i) := by
  intro i hi hg
  obtain ⟨U', X', ec', en', H1, h1, h2, -⟩ := rl_cln (rlx_thr (x := 0) H) ha i (by omega)
  have q32 : a * 8 + i < 32 := by omega
  have gC := cg_C H1 q32
  rw [h1] at gC
  have hq := (gC.mp hg).1
  obtain ⟨-, k6, bN, rT⟩ := H1.2.1.1.1 _ hq
  have e := ((H1.2.2.1.1 _ q32).1 hq).1
  unfold okT
  rw [e, nat_nI (by omega)]
  obtain ⟨c1, c2, c3, c4⟩ := H1.2.2.1.2.2.2 _ k6
  rw [c2, nat_nI (by omega)]
  exact ⟨k6, rfl, c1, rfl⟩
/-- a page is cleaned: the map tells what is so, nothing goes a second time, others read the same -/
theorem z_clean (h : ZI k u N T S) {a : Nat} (ha : a < 4) :
    (∀ i, i < 8 → cgP (cln u (stl u N) a i).1 (a * 8 + i) (stl u N) → okT (cln u (stl u N) a i).1 (a * 8 + i)) ∧ ZI k (ccl u N a) N T S ∧ (∀ t i, rpw (ccl u N a) t i 0 T = rpw u t i 0 T) ∧ ful u a 8 = ful (ccl u N a) a 8 + (cln u (stl u N) a 8).2 ∧ c_mp (ccl u N a) a = fb (whP (ccl u N a) a (stl (ccl u N a) N)) ∧ cln (ccl u N a) (stl (ccl u N a) N) a 8 = (ccl u N a, 0) := by
  obtain ⟨v, n, st, P, U, K, B, D, X, R, F, ec, en, H, hA, hM, hV, hF⟩ := h
  obtain ⟨U', X', F', ec', en', H', g1, g2, g3, g4, g5⟩ := rl_clean H ha
  obtain ⟨t1, t2, t3, t4, t5, t6, t7⟩ := cln_tb (u := u) (S9 := stl u N) (a := a) 8
  have wm : ∀ b, whA N S P U B D F b → whA N S P U' B D F' b := fun b hw x hx hxb => by
    obtain ⟨z1, z2⟩ := hw x (g1 x hx) hxb
    exact ⟨z1, z2.imp (g4 x) id⟩
  have hV' : VlI (c_v (ccl u N a)) U' := fun x hx => by
    show ∃ z, z < 10000 ∧ c_v (cln u (stl u N) a 8).1 x = nI z
    rw [t6]; exact hV x (g1 x hx)
  refine ⟨z_ok H ha, ⟨_, n, st, P, U', K, B, D, X', R, F', ec', en', H', ⟨hA.1, fun x hx hf => hA.2.1 x (g1 x hx) (fun z => hf (g4 x z)), fun x d hx hd => hA.2.2 x d (g1 x hx) hd⟩, fun b hb hm => ?_, hV', ?_⟩, fun t i => rpw_eq T 0 (fun r _ _ => ⟨rw_fr (congrFun t5 t) (congrFun t1 r) (congrFun t3 r) (congrFun t4 r), fun _ => congrFun t2 r⟩), ?_, ?_, cln_0 (fun i hi => ?_) 8 (Nat.le_refl _)⟩
  · rw [g5] at hm
    unfold upd at hm
    by_cases e : b = a
    · rw [if_pos e] at hm
      rw [e]
      exact Classical.byContradiction (fun z => hm (fb_f z))
    · rw [if_neg e] at hm
      exact wm b (hM b hb hm)
  · show FzI (c_fz (cln u (stl u N) a 8).1)
    rw [t7]; exact hF
  · rw [z_ful H ha 8 (Nat.le_refl _), z_ful H' ha 8 (Nat.le_refl _)]
    exact g3
  · rw [g5]
    unfold upd
    rw [if_pos rfl]
    exact fb_c (wh_C H' ha).symm
  · have q32 : a * 8 + i < 32 := by omega
    exact fun z => g2 i hi ((cg_C H' q32).mp z)
end ZPAGES

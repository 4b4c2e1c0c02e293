/-! ===== popcount: its end ===== -/
theorem bc_4g {a b c d e f g h A C E G : Nat} (ha : a ≤ 8) (hb : b ≤ 8) (hc : c ≤ 8) (hd : d ≤ 8) (he : e ≤ 8) (hf : f ≤ 8) (hg : g ≤ 8) (hh : h ≤ 8) (hA : (a + b) + 256 * (b + c) = A) (hC : (c + d) + 256 * (d + e) = C) (hE : (e + f) + 256 * (f + g) = E) (hG : (g + h) + 256 * h = G) : (A + C + (E + G)) % 128 = a + b + c + d + e + f + g + h := by
  have e9 : A + C + (E + G) = (a + b + c + d + e + f + g + h) + 128 * (2 * (b + c) + 2 * (d + e) + 2 * (f + g) + 2 * h) := by omega
  rw [e9, Nat.add_mul_mod_self_left, Nat.mod_eq_of_lt (by omega)]
theorem bc_4h {A C E G : Nat} (bA : A ≤ 4112) (bC : C ≤ 4112) (bE : E ≤ 4112) (bG : G ≤ 4112) : A + 65536 * (C + 65536 * (E + 65536 * G)) < 2 ^ 61 := by omega
theorem bc_4i {a b c : Nat} (ha : a ≤ 8) (hb : b ≤ 8) (hc : c ≤ 8) : (a + b) + 256 * (b + c) ≤ 4112 := by omega
theorem bc_4j {a b : Nat} (ha : a ≤ 8) (hb : b ≤ 8) : (a + b) + 256 * b ≤ 4112 := by omega
theorem bc_4 {a b c d e f g h y4 y5 y6 : Nat} (ha : a ≤ 8) (hb : b ≤ 8) (hc : c ≤ 8) (hd : d ≤ 8) (he : e ≤ 8) (hf : f ≤ 8) (hg : g ≤ 8) (hh : h ≤ 8) (h4 : y4 = nd 256 [a, b, c, d, e, f, g, h] + nd 256 [a, b, c, d, e, f, g, h] / 256) (h5 : y5 = y4 + y4 / 65536) (h6 : y6 = y5 + y5 / 4294967296) : y6 % 128 = a + b + c + d + e + f + g + h ∧ y4 < 2 ^ 61 := by
  have e4 := h4.trans (bc_4d (a := a) (b := b) (c := c) (d := d) (e := e) (f := f) (g := g) (h := h) ha hc he hg)
  have bA := bc_4i ha hb hc
  have bC := bc_4i hc hd he
  have bE := bc_4i he hf hg
  have bG := bc_4j hg hh
  generalize hA : (a + b) + 256 * (b + c) = A at e4 bA
  generalize hC : (c + d) + 256 * (d + e) = C at e4 bC
  generalize hE : (e + f) + 256 * (f + g) = E at e4 bE
  generalize hG : (g + h) + 256 * h = G at e4 bG
  have e6 := bc_4e (x := 0) bA bC bE bG e4 h5 h6
  have e7 := e6.trans (bc_4f (S := A + C) (C := C) (E := E) (G := G))
  refine ⟨?_, ?_⟩
  · rw [e7, Nat.add_mul_mod_self_left]
    exact bc_4g ha hb hc hd he hf hg hh hA hC hE hG
  · rw [e4]; exact bc_4h bA bC bE bG
theorem bc_5 {L : List Nat} (hL : L.length = 8) (hd : ∀ d ∈ L, d ≤ 8) {y4 y5 y6 : Nat} (h4 : y4 = nd 256 L + nd 256 L / 256) (h5 : y5 = y4 + y4 / 65536) (h6 : y6 = y5 + y5 / 4294967296) : y6 % 128 = sm L ∧ y4 < 2 ^ 61 := by
  match L, hL, hd with
  | [a, b, c, d, e, f, g, h], _, hd =>
    have z := bc_4 (hd a (by simp)) (hd b (by simp)) (hd c (by simp)) (hd d (by simp)) (hd e (by simp)) (hd f (by simp)) (hd g (by simp)) (hd h (by simp)) h4 h5 h6
    refine ⟨z.1.trans ?_, z.2⟩
    show _ = a + (b + (c + (d + (e + (f + (g + (h + 0)))))))
    clear z h4 h5 h6
    omega
theorem mk_a : mk9 4 1 32 = 6148914691236517205 := by decide +kernel
theorem mk_b : mk9 16 3 16 = 3689348814741910323 := by decide +kernel
theorem mk_c : mk9 256 15 8 = 1085102592571150095 := by decide +kernel
theorem ml_a : (6148914691236517205 : Int64) = lN (mk9 4 1 32) := by rw [mk_a]; rfl
theorem ml_b : (3689348814741910323 : Int64) = lN (mk9 16 3 16) := by rw [mk_b]; rfl
theorem ml_c : (1085102592571150095 : Int64) = lN (mk9 256 15 8) := by rw [mk_c]; rfl
theorem bcn_cb {n : Nat} (hn : n < 2 ^ 64) : bcn (lN n) = nI (cb n 64) := by
  obtain ⟨p1, p2⟩ := bc_1 32 n (by rw [show (4 : Nat) ^ 32 = 2 ^ 64 by decide +kernel]; exact hn)
  rw [dg4_nd] at p1
  have l4 : (dg4 n 32).length = 2 * 16 := dg4_len 32 n
  obtain ⟨q1, q2, q3, q4⟩ := bc_2 16 (dg4 n 32) l4 (dg4_le 32 n)
  obtain ⟨r1, r2, r3, r4⟩ := bc_3 8 (prs (dg4 n 32)) q2 q3
  have hsm : sm (prs (prs (dg4 n 32))) = cb n 64 := by rw [r4, q4, dg4_sm 32 n]
  generalize hy1 : n - (n / 2 &&& mk9 4 1 32) = y1 at p1
  rw [← p1] at q1
  generalize hy2 : (y1 &&& mk9 16 3 16) + (y1 / 4 &&& mk9 16 3 16) = y2 at q1
  rw [← q1] at r1
  generalize hy3 : (y2 + y2 / 16 &&& mk9 256 15 8) = y3 at r1
  have b1 : y1 < 2 ^ 64 := by omega
  have b2 : y2 < 2 ^ 63 := by
    have i1 : y1 &&& mk9 16 3 16 ≤ mk9 16 3 16 := Nat.and_le_right
    have i2 : y1 / 4 &&& mk9 16 3 16 ≤ mk9 16 3 16 := Nat.and_le_right
    rw [mk_b] at i1 i2 hy2
    omega
  have b3 : y3 < 2 ^ 64 := by
    have i1 : y2 + y2 / 16 &&& mk9 256 15 8 ≤ mk9 256 15 8 := Nat.and_le_right
    rw [mk_c] at i1 hy3
    omega
  generalize hy4 : y3 + y3 / 256 = y4
  generalize hy5 : y4 + y4 / 65536 = y5
  generalize hy6 : y5 + y5 / 4294967296 = y6
  obtain ⟨s1, s2⟩ := bc_5 r2 r3 (y4 := y4) (y5 := y5) (y6 := y6) (by rw [← r1, hy4]) hy5.symm hy6.symm
  have d1 : y4 / 65536 ≤ y4 := Nat.div_le_self _ _
  have d2 : y5 / 4294967296 ≤ y5 := Nat.div_le_self _ _
  have c1 : bc1 (lN n) = lN y1 := by
    unfold bc1
    rw [show (1 : Int32) = nI 1 from rfl, wb_shr hn (by omega), ml_a, wb_and (by omega) (by rw [mk_a]; decide), lN_sub (by rw [show (2 : Nat) ^ 1 = 2 from rfl]; exact p2), show (2 : Nat) ^ 1 = 2 from rfl, hy1]
  have c2 : bc2 (lN y1) = lN y2 := by
    unfold bc2
    rw [show (2 : Int32) = nI 2 from rfl, wb_shr b1 (by omega), ml_b, wb_and (by omega) (by rw [mk_b]; decide), wb_and (by omega) (by rw [mk_b]; decide), lN_add, show (2 : Nat) ^ 2 = 4 from rfl, hy2]
  have c3 : bc3 (lN y2) = lN y3 := by
    unfold bc3
    rw [show (4 : Int32) = nI 4 from rfl, wb_shr (by omega) (by omega), lN_add, ml_c, wb_and (by omega) (by rw [mk_c]; decide), show (2 : Nat) ^ 4 = 16 from rfl, hy3]
  have c4 : bc4 (lN y3) = lN y4 := by
    unfold bc4
    rw [show (8 : Int32) = nI 8 from rfl, wb_shr b3 (by omega), lN_add, show (2 : Nat) ^ 8 = 256 from rfl, hy4]
  have c5 : bc5 (lN y4) = lN y5 := by
    unfold bc5
    rw [show (16 : Int32) = nI 16 from rfl, wb_shr (by omega) (by omega), lN_add, show (2 : Nat) ^ 16 = 65536 from rfl, hy5]
  have c6 : bc6 (lN y5) = lN y6 := by
    unfold bc6
    rw [show (32 : Int32) = nI 32 from rfl, wb_shr (by omega) (by omega), lN_add, show (2 : Nat) ^ 32 = 4294967296 from rfl, hy6]
  unfold bcn
  rw [c1, c2, c3, c4, c5, c6, lN_i, show (127 : Int32) = nI (2 ^ 7 - 1) from rfl, fa_mask, show (2 : Nat) ^ 7 = 128 from rfl, s1, hsm]
theorem cb_top : ∀ k n, cb n (k + 1) = cb n k + n / 2 ^ k % 2 := by
  intro k
  induction k with
  | zero => intro n; rw [cb, cb, cb, Nat.pow_zero, Nat.div_one]; omega
  | succ k ih =>
    intro n
    rw [cb, ih (n / 2), Nat.div_div_eq_div_mul, show 2 * 2 ^ k = 2 ^ (k + 1) by rw [Nat.pow_succ]; omega]
    show _ = (n % 2 + cb (n / 2) k) + _
    omega
theorem lN_bitL {n j : Nat} (hn : n < 2 ^ 64) (hj : j < 64) : bitL (lN n) j ↔ n / 2 ^ j % 2 = 1 := by
  unfold bitL
  rw [lN_bv, BitVec.getLsbD_ofNat, Nat.testBit_eq_decide_div_mod_eq]
  simp [hj]
/-- how many of the first n have q -/
noncomputable def ctq (q : Nat → Prop) : Nat → Nat
  | 0 => 0
  | n + 1 => ctq q n + cif (q n) 1 0
theorem cb_ctq {q : Nat → Prop} {n : Nat} (hn : n < 2 ^ 64) (h : ∀ j, j < 64 → (bitL (lN n) j ↔ q j)) : ∀ m, m ≤ 64 → cb n m = ctq q m := by
  intro m
  induction m with
  | zero => intro _; rfl
  | succ m ih =>
    intro hm
    rw [cb_top, ctq, ih (by omega)]
    have e := (lN_bitL hn (show m < 64 by omega)).symm.trans (h m (by omega))
    by_cases k : q m
    · rw [cif_t k]; rw [e.mpr k]
    · rw [cif_f k]
      have := Nat.mod_lt (n / 2 ^ m) (show 2 > 0 by decide)
      have : ¬ n / 2 ^ m % 2 = 1 := fun h => k (e.mp h)
      omega
theorem ctq_stop {q : Nat → Prop} {N : Nat} (h : ∀ j, N ≤ j → ¬ q j) : ∀ m, N ≤ m → ctq q m = ctq q N := by
  intro m
  induction m with
  | zero => intro hm; rw [show N = 0 by omega]
  | succ m ih =>
    intro hm
    by_cases e : N = m + 1
    · rw [e]
    · rw [ctq, ih (by omega), cif_f (h m (by omega))]; rfl
theorem bcn_ctq {S : Int64} {q : Nat → Prop} {N : Nat} (hN : N ≤ 64) (h : ∀ j, bitL S j ↔ q j) (h2 : ∀ j, N ≤ j → ¬ q j) : bcn S = nI (ctq q N) := by
  obtain ⟨n, hn, rfl⟩ := wb_of S
  rw [bcn_cb hn, cb_ctq hn (fun j _ => h j) 64 (Nat.le_refl _), ctq_stop h2 64 hN]
theorem acM_ctq {v : MU} {q : Nat → Prop} : ∀ n, (∀ j, j < n → (m_sta v j = 0 ↔ q j)) → acM v n = ctq q n := by
  intro n
  induction n with
  | zero => intro _; rfl
  | succ n ih =>
    intro h
    rw [acM, ctq, ih (fun j hj => h j (by omega)), show (m_sta v n = 0) = q n from propext (h n (by omega))]

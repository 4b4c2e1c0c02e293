/-! ===== numbers that both sides share: ages, greatest ages, how many bits ===== -/
theorem fm_n : ∀ a, a < 64 → ∀ b, b < 64 → fm (nI a - nI b) = nI ((a + 64 - b) % 64) := by decide +kernel
theorem am_n : ∀ a, a < 64 → ∀ b, b < 64 → ((nI a - nI b) + 64) - ((nI a - nI b) + 64) / 64 * 64 = nI ((a + 64 - b) % 64) := by decide +kernel
theorem mx_n {a b : Nat} (ha : a < 2 ^ 31) (hb : b < 2 ^ 31) : mx (nI a) (nI b) = nI (max a b) := by
  unfold mx
  by_cases h : nI a < nI b
  · rw [if_pos h]; rw [Int32.lt_iff_toInt_lt, nI_toInt ha, nI_toInt hb] at h; rw [Nat.max_eq_right (by omega)]
  · rw [if_neg h]; rw [Int32.lt_iff_toInt_lt, nI_toInt ha, nI_toInt hb] at h; rw [Nat.max_eq_left (by omega)]
theorem mg_n {a b : Nat} (ha : a < 2 ^ 31) (hb : b < 2 ^ 31) : mg (nI a) (nI b) = nI (max a b) := by
  unfold mg
  by_cases h : nI a ≤ nI b
  · rw [if_pos h]; rw [Int32.le_iff_toInt_le, nI_toInt ha, nI_toInt hb] at h; rw [Nat.max_eq_right (by omega)]
  · rw [if_neg h]; rw [Int32.le_iff_toInt_le, nI_toInt ha, nI_toInt hb] at h; rw [Nat.max_eq_left (by omega)]
/-- the greatest of the first n -/
def amx (f : Nat → Nat) : Nat → Nat
  | 0 => 0
  | n + 1 => max (f n) (amx f n)
theorem amx_lt {f : Nat → Nat} {m : Nat} (hm : 0 < m) (h : ∀ i, f i < m) : ∀ n, amx f n < m := by
  intro n
  induction n with
  | zero => exact hm
  | succ n ih => rw [amx]; have := h n; omega
/-! bits of a long, counted -/
def cb (n : Nat) : Nat → Nat
  | 0 => 0
  | k + 1 => n % 2 + cb (n / 2) k
/-- what a step makes of the digits to the base B: F of each, laid to the base C -/
def dg (B : Nat) (F : Nat → Nat) (n : Nat) : Nat → Nat
  | 0 => 0
  | k + 1 => F (n % B) + B * dg B F (n / B) k
def mk9 (B r : Nat) : Nat → Nat
  | 0 => 0
  | k + 1 => r + B * mk9 B r k
theorem and_dg {w a b x y : Nat} (hx : x < 2 ^ w) (hy : y < 2 ^ w) : (x + 2 ^ w * a) &&& (y + 2 ^ w * b) = (x &&& y) + 2 ^ w * (a &&& b) := by
  apply Nat.eq_of_testBit_eq
  intro i
  have e : ∀ z c, z < 2 ^ w → (z + 2 ^ w * c).testBit i = if i < w then z.testBit i else c.testBit (i - w) := by
    intro z c hz
    rw [Nat.add_comm, Nat.testBit_two_pow_mul_add _ hz]
  rw [Nat.testBit_and, e x a hx, e y b hy, e _ _ (Nat.lt_of_le_of_lt Nat.and_le_left hx)]
  by_cases h : i < w
  · rw [if_pos h, if_pos h, if_pos h, Nat.testBit_and]
  · rw [if_neg h, if_neg h, if_neg h, Nat.testBit_and]
theorem bc_1 : ∀ k n, n < 4 ^ k → n - (n / 2 &&& mk9 4 1 k) = dg 4 (fun d => d % 2 + d / 2) n k ∧ (n / 2 &&& mk9 4 1 k) ≤ n := by
  intro k
  induction k with
  | zero => intro n hn; have : n = 0 := by omega
            subst this; exact ⟨rfl, Nat.le_refl _⟩
  | succ k ih =>
    intro n hn
    obtain ⟨h1, h2⟩ := ih (n / 4) (by rw [Nat.pow_succ] at hn; omega)
    have e : n / 2 = (n / 2 % 4) + 2 ^ 2 * (n / 4 / 2) := by omega
    have ea : (n / 2 % 4) &&& 1 = n % 4 / 2 := by
      rw [Nat.and_one_is_mod]; omega
    have em : mk9 4 1 (k + 1) = 1 + 2 ^ 2 * mk9 4 1 k := rfl
    rw [em, e, and_dg (by omega) (by omega), ea]
    show _ = (n % 4 % 2 + n % 4 / 2) + 4 * dg 4 (fun d => d % 2 + d / 2) (n / 4) k ∧ _
    rw [← h1]
    have h3 : n / 4 / 2 &&& mk9 4 1 k ≤ n / 4 := h2
    omega
/-- a number by its digits, the lowest first -/
def nd (B : Nat) : List Nat → Nat
  | [] => 0
  | d :: L => d + B * nd B L
def sm : List Nat → Nat
  | [] => 0
  | d :: L => d + sm L
def prs : List Nat → List Nat
  | a :: b :: L => (a + b) :: prs L
  | _ => []
/-- the base 4 digits' counts -/
def dg4 (n : Nat) : Nat → List Nat
  | 0 => []
  | k + 1 => (n % 4 % 2 + n % 4 / 2) :: dg4 (n / 4) k
theorem dg4_nd : ∀ k n, dg 4 (fun d => d % 2 + d / 2) n k = nd 4 (dg4 n k)
  | 0, _ => rfl
  | k + 1, n => by rw [dg, dg4, nd, dg4_nd k (n / 4)]
theorem dg4_sm : ∀ k n, sm (dg4 n k) = cb n (2 * k)
  | 0, _ => rfl
  | k + 1, n => by
    rw [dg4, sm, dg4_sm k (n / 4), show 2 * (k + 1) = 2 * k + 1 + 1 by omega, cb, cb, show n / 2 / 2 = n / 4 by omega]
    omega
theorem dg4_len : ∀ k n, (dg4 n k).length = 2 * k - k
  | 0, _ => rfl
  | k + 1, n => by rw [dg4, List.length_cons, dg4_len k]; omega
theorem dg4_le : ∀ k n, ∀ d ∈ dg4 n k, d ≤ 2
  | 0, _ => fun d h => absurd h List.not_mem_nil
  | k + 1, n => fun d h => by
    rw [dg4] at h
    rcases List.mem_cons.mp h with h | h
    · omega
    · exact dg4_le k (n / 4) d h
theorem bc_2 : ∀ (k : Nat) (L : List Nat), L.length = 2 * k → (∀ d ∈ L, d ≤ 2) → (nd 4 L &&& mk9 16 3 k) + (nd 4 L / 4 &&& mk9 16 3 k) = nd 16 (prs L) ∧ (prs L).length = k ∧ (∀ d ∈ prs L, d ≤ 4) ∧ sm (prs L) = sm L := by
  intro k
  induction k with
  | zero =>
    intro L hL _
    have : L = [] := List.length_eq_zero_iff.mp (by omega)
    subst this
    exact ⟨rfl, rfl, fun d h => absurd h List.not_mem_nil, rfl⟩
  | succ k ih =>
    intro L hL hd
    match L, hL, hd with
    | [], hL, _ => simp at hL
    | [_], hL, _ => simp at hL; omega
    | a :: b :: L, hL, hd =>
      have ha := hd a List.mem_cons_self
      have hb := hd b (List.mem_cons_of_mem _ List.mem_cons_self)
      obtain ⟨h1, h2, h3, h4⟩ := ih L (by simp at hL; omega) (fun d h => hd d (List.mem_cons_of_mem _ (List.mem_cons_of_mem _ h)))
      refine ⟨?_, by rw [prs, List.length_cons, h2], fun d h => ?_, by rw [prs, sm, sm, sm, h4]; omega⟩
      · have e1 : nd 4 (a :: b :: L) = (a + 4 * b) + 2 ^ 4 * nd 4 L := by rw [nd, nd]; omega
        have e2 : nd 4 (a :: b :: L) / 4 = (b + 4 * (nd 4 L % 4)) + 2 ^ 4 * (nd 4 L / 4) := by rw [nd, nd]; omega
        have em : mk9 16 3 (k + 1) = 3 + 2 ^ 4 * mk9 16 3 k := rfl
        have a1 : (a + 4 * b) &&& 3 = a := by rw [show (3 : Nat) = 2 ^ 2 - 1 from rfl, Nat.and_two_pow_sub_one_eq_mod]; omega
        have a2 : (b + 4 * (nd 4 L % 4)) &&& 3 = b := by rw [show (3 : Nat) = 2 ^ 2 - 1 from rfl, Nat.and_two_pow_sub_one_eq_mod]; omega
        rw [e2, e1, em, and_dg (by omega) (by omega), and_dg (by omega) (by omega), a1, a2, prs, nd, ← h1]
        omega
      · rw [prs] at h
        rcases List.mem_cons.mp h with h | h
        · omega
        · exact h3 d h
theorem bc_3 : ∀ (k : Nat) (L : List Nat), L.length = 2 * k → (∀ d ∈ L, d ≤ 4) → (nd 16 L + nd 16 L / 16 &&& mk9 256 15 k) = nd 256 (prs L) ∧ (prs L).length = k ∧ (∀ d ∈ prs L, d ≤ 8) ∧ sm (prs L) = sm L := by
  intro k
  induction k with
  | zero =>
    intro L hL _
    have : L = [] := List.length_eq_zero_iff.mp (by omega)
    subst this
    exact ⟨rfl, rfl, fun d h => absurd h List.not_mem_nil, rfl⟩
  | succ k ih =>
    intro L hL hd
    match L, hL, hd with
    | [], hL, _ => simp at hL
    | [_], hL, _ => simp at hL; omega
    | a :: b :: L, hL, hd =>
      have ha := hd a List.mem_cons_self
      have hb := hd b (List.mem_cons_of_mem _ List.mem_cons_self)
      obtain ⟨h1, h2, h3, h4⟩ := ih L (by simp at hL; omega) (fun d h => hd d (List.mem_cons_of_mem _ (List.mem_cons_of_mem _ h)))
      have hX : nd 16 L % 16 ≤ 4 := by
        match L, hd with
        | [], _ => exact Nat.zero_le _
        | c :: L2, hd =>
          have := hd c (List.mem_cons_of_mem _ (List.mem_cons_of_mem _ List.mem_cons_self))
          rw [nd]; omega
      refine ⟨?_, by rw [prs, List.length_cons, h2], fun d h => ?_, by rw [prs, sm, sm, sm, h4]; omega⟩
      · have e1 : nd 16 (a :: b :: L) + nd 16 (a :: b :: L) / 16 = ((a + b) + 16 * (b + nd 16 L % 16)) + 2 ^ 8 * (nd 16 L + nd 16 L / 16) := by rw [nd, nd]; omega
        have em : mk9 256 15 (k + 1) = 15 + 2 ^ 8 * mk9 256 15 k := rfl
        have a1 : ((a + b) + 16 * (b + nd 16 L % 16)) &&& 15 = a + b := by rw [show (15 : Nat) = 2 ^ 4 - 1 from rfl, Nat.and_two_pow_sub_one_eq_mod]; omega
        rw [e1, em, and_dg (by omega) (by omega), a1, h1, prs, nd]
      · rw [prs] at h
        rcases List.mem_cons.mp h with h | h
        · omega
        · exact h3 d h
/-- the lowest digits added up, of a number P below B and Q times B -/
theorem dv {B P Q : Nat} (hB : 0 < B) (h : P < B) : (P + B * Q) / B = Q := by
  rw [Nat.add_mul_div_left _ _ hB, Nat.div_eq_of_lt h, Nat.zero_add]
theorem bc_4a {A C E G : Nat} (hA : A ≤ 4112) (hC : C ≤ 4112) (hE : E ≤ 4112) (hG : G ≤ 4112) : (A + 65536 * (C + 65536 * (E + 65536 * G))) / 65536 = C + 65536 * (E + 65536 * G) := dv (by omega) (by omega)
theorem bc_4b {A C E G : Nat} (hA : A ≤ 4112) (hC : C ≤ 4112) (hE : E ≤ 4112) (hG : G ≤ 4112) : (A + 65536 * (C + 65536 * (E + 65536 * G))) + (C + 65536 * (E + 65536 * G)) = ((A + C) + 65536 * (C + E)) + 4294967296 * ((E + G) + 65536 * G) := by
  simp only [Nat.mul_add, ← Nat.mul_assoc]
  omega
theorem bc_4c {A C E G : Nat} (hA : A ≤ 4112) (hC : C ≤ 4112) (hE : E ≤ 4112) (hG : G ≤ 4112) : (((A + C) + 65536 * (C + E)) + 4294967296 * ((E + G) + 65536 * G)) / 4294967296 = (E + G) + 65536 * G := dv (by omega) (by omega)
theorem st2 {a b X : Nat} : (a + 256 * (b + 256 * X)) + (b + 256 * X) = ((a + b) + 256 * (b + X % 256)) + 65536 * (X + X / 256) := by omega
theorem st1 {c X : Nat} (hc : c ≤ 8) : (c + 256 * X) % 256 = c ∧ (c + 256 * X) / 256 = X := ⟨by omega, dv (by omega) (by omega)⟩
theorem bc_4d {a b c d e f g h : Nat} (ha : a ≤ 8) (hc : c ≤ 8) (he : e ≤ 8) (hg : g ≤ 8) : nd 256 [a, b, c, d, e, f, g, h] + nd 256 [a, b, c, d, e, f, g, h] / 256 = ((a + b) + 256 * (b + c)) + 65536 * (((c + d) + 256 * (d + e)) + 65536 * (((e + f) + 256 * (f + g)) + 65536 * ((g + h) + 256 * h))) := by
  show (a + 256 * (b + 256 * (c + 256 * (d + 256 * (e + 256 * (f + 256 * (g + 256 * (h + 256 * 0)))))))) + (a + 256 * (b + 256 * (c + 256 * (d + 256 * (e + 256 * (f + 256 * (g + 256 * (h + 256 * 0)))))))) / 256 = _
  rw [Nat.mul_zero, Nat.add_zero, (st1 ha).2, st2, (st1 hc).1, (st1 hc).2, st2, (st1 he).1, (st1 he).2, st2, (st1 hg).1, (st1 hg).2]
  rw [show g + 256 * h + h = (g + h) + 256 * h by omega]
theorem bc_4e {A C E G x y4 y5 y6 : Nat} (bA : A ≤ 4112) (bC : C ≤ 4112) (bE : E ≤ 4112) (bG : G ≤ 4112) (h4 : y4 = A + 65536 * (C + 65536 * (E + 65536 * G))) (h5 : y5 = y4 + y4 / 65536) (h6 : y6 = y5 + y5 / 4294967296) : y6 = ((A + C) + 65536 * (C + E)) + 4294967296 * ((E + G) + 65536 * G) + ((E + G) + 65536 * G) := by
  have e5 : y5 = ((A + C) + 65536 * (C + E)) + 4294967296 * ((E + G) + 65536 * G) := by
    rw [h5, h4, bc_4a bA bC bE bG, bc_4b bA bC bE bG]
  rw [h6, e5, bc_4c bA bC bE bG]
theorem bc_4f {S C E G : Nat} : (S + 65536 * (C + E)) + 4294967296 * ((E + G) + 65536 * G) + ((E + G) + 65536 * G) = (S + (E + G)) + 128 * (512 * (C + E) + 33554432 * ((E + G) + 65536 * G) + 512 * G) := by
  generalize E + G = F
  generalize C + E = D9
  generalize hZ : F + 65536 * G = Z
  omega

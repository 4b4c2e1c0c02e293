/-! ===== read, readPlain, begin, end ===== -/
theorem one_bit {m : Nat} (hm : m < 64) (j : Nat) : bitL (1 <<< ((nI m).toInt64 &&& 63)) j ↔ j = m := by
  have e : (1 : Int64) <<< ((nI m).toInt64 &&& 63) = lN (2 ^ m) := by rw [show (1 : Int64) = lN 1 from rfl, wb_shl 1 hm, Nat.one_mul]
  unfold bitL
  rw [e, lN_bv, BitVec.getLsbD_ofNat, Nat.testBit_two_pow]
  rw [Bool.and_eq_true, decide_eq_true_iff, decide_eq_true_iff]
  omega
theorem not_bit {a b : Int64} {j : Nat} : bitL (a &&& (b ^^^ (-1))) j ↔ bitL a j ∧ ¬ bitL b j := by
  unfold bitL
  rw [Int64.toBitVec_and, BitVec.getLsbD_and, Int64.toBitVec_xor, BitVec.getLsbD_xor, show (-1 : Int64).toBitVec = BitVec.allOnes 64 from rfl, BitVec.getLsbD_allOnes]
  by_cases h : j < 64
  · simp [h]
  · have : a.toBitVec.getLsbD j = false := BitVec.getLsbD_of_ge _ _ (by omega)
    simp [this]
theorem bitL_0 {j : Nat} : ¬ bitL 0 j := by
  unfold bitL
  rw [show (0 : Int64).toBitVec = 0#64 from rfl, BitVec.getLsbD_zero]
  decide
theorem cmo_bit {v : MU} (j : Nat) : ∀ m, m ≤ 60 → (bitL (cmo v m) j ↔ j < m ∧ m_sta v j = 1) := by
  intro m
  induction m with
  | zero => intro _; exact ⟨fun h => absurd h bitL_0, fun h => by omega⟩
  | succ m ih =>
    intro hm
    rw [cmo, bitL_or, ih (by omega)]
    by_cases e : m_sta v m = 1
    · rw [cif_t e, one_bit (by omega)]
      constructor
      · rintro (h | h)
        · exact ⟨by omega, h.2⟩
        · rw [h]; exact ⟨by omega, e⟩
      · rintro ⟨h1, h2⟩
        by_cases g : j = m
        · exact Or.inr g
        · exact Or.inl ⟨by omega, h2⟩
    · rw [cif_f e]
      constructor
      · rintro (h | h)
        · exact ⟨by omega, h.2⟩
        · exact absurd h bitL_0
      · rintro ⟨h1, h2⟩
        by_cases g : j = m
        · rw [g] at h2; exact absurd h2 e
        · exact Or.inl ⟨by omega, h2⟩
section OPS2
variable {l : Launch} {D9 : va_G} {K9 : Nat → ClassId} {k : Nat} {u : CU} {v : MU} {N T n : Nat} {st S : Nat → Nat} {P : Nat → Nat → Prop} {U : Nat → Prop} {K B D X R : Nat → Nat} {F : Nat → Prop} {ec : Nat → Nat} {en : Nat → Nat → Nat} {t q i : Nat}
theorem rl_act (H : RlX k u v N T n st S P U K B D X R F ec en) {x : Int32} (h : wbP u x) : hasP (c_ac u) x ↔ m_sta v (nat x) = 0 := by
  obtain ⟨h60, hc, hm⟩ := rl_N H
  obtain ⟨t, ht, e⟩ := (rl_wb H).mp h
  rw [e, nat_nI (by omega), rl_ac H ht]
  exact (rl_sta H ht (c := 0) (by omega)).symm
theorem rl_sv (H : RlX k u v N T n st S P U K B D X R F ec en) (ht : t < N) (hi : i < 6) : sv u (nI t) (nI i) = msn v t i (ec i) ∧ mvs v (nI t) (nI i) = msn v t i (ec i) := by
  obtain ⟨h60, hc, hm⟩ := rl_N H
  obtain ⟨a, b, c, d⟩ := H.2.2.1.2.2.2 i hi
  unfold sv mvs
  rw [nat_nI (n := t) (by omega), nat_nI (n := i) (by omega), b, c, nat_nI (n := ec i) (by omega)]
  exact ⟨spl_msn H ht hi (ec i) (Nat.le_refl _), rfl⟩
theorem rl_rdv (H : RlX k u v N T n st S P U K B D X R F ec en) (ht : t < N) (hi : i < 6) : rdv u (msn v t i (ec i)) = mrd v (msn v t i (ec i)) := by
  rcases msn_out H ht hi (ec i) (Nat.le_refl _) with h | ⟨p, h1, h2, h3, h4⟩
  · rw [h, rdv_n pl_m1]; exact (cif_t rfl).symm
  · have p32 := (H.2.1.1.1 p h1).1
    rw [h4, rdv_y p32]
    unfold mrd
    rw [cif_f (nI_m1 p (by omega)), nat_nI (by omega), ((H.2.2.1.2.1 p p32).1 h1).2.2.1]
theorem rpw_none {t i : Nat} : ∀ m a, (∀ r, a ≤ r → r < a + m → ¬ rwP u t i r) → rpw u t i a m = -1 := by
  intro m
  induction m with
  | zero => exact fun _ _ => rfl
  | succ m ih =>
    intro a h
    rw [rpw_n (h a (by omega) (by omega))]
    exact ih (a + 1) (fun r h1 h2 => h r (by omega) (by omega))
theorem rpw_one {t i r0 : Nat} (h0 : rwP u t i r0) : ∀ m a, a ≤ r0 → r0 < a + m → (∀ r, a ≤ r → r < a + m → rwP u t i r → r = r0) → rpw u t i a m = c_tv u r0 := by
  intro m
  induction m with
  | zero => intro a h1 h2; omega
  | succ m ih =>
    intro a h1 h2 h
    by_cases e : a = r0
    · rw [e, rpw_y h0]
    · rw [rpw_n (fun z => e (h a (by omega) (by omega) z))]
      exact ih (a + 1) (by omega) (by omega) (fun r h3 h4 => h r (by omega) (by omega))
theorem rw_slot (H : RlX k u v N T n st S P U K B D X R F ec en) (ht : t < N) (h0 : S t = 0) (hi : i < 6) (hq : U q) : rwP u t i (R q) ↔ K q = i ∧ seA P B D F t q := by
  obtain ⟨q32, k6, bN, rT⟩ := H.2.1.1.1 q hq
  have h60 := H.1.1.1
  obtain ⟨a1, a2, a3, a4⟩ := H.2.2.2.1.2.2.1 q hq
  unfold rwP
  rw [a1, a3, a4, nI_eq (by omega) (by omega), kn_C H ht (by omega), kn_Co H ht (by have := rl_D H hq; omega), se_vis H ht h0 hq]
  unfold vis
  exact ⟨fun ⟨a, b, c⟩ => ⟨a, b, fun d hd z => c ⟨d, hd, z⟩⟩, fun ⟨a, b, c⟩ => ⟨a, b, fun ⟨d, hd, z⟩ => c d hd z⟩⟩
theorem rw_dead (H : RlX k u v N T n st S P U K B D X R F ec en) (ht : t < N) (h0 : S t = 0) {r : Nat} (hr : r < T) (h : rwP u t i r) : ∃ q, U q ∧ R q = r := by
  have h60 := H.1.1.1
  rcases H.2.2.2.1.2.2.2 r hr with z | ⟨b, d, z1, z2, z3, z4, z5⟩
  · exact z
  · exfalso
    obtain ⟨-, h2, h3⟩ := h
    rw [z1, kn_C H ht (by omega)] at h2
    rw [z2, kn_Co H ht (by omega)] at h3
    rcases z5 with z5 | ⟨e, z6, z7⟩
    · rcases h2 with h2 | h2
      · rw [h2] at z5; omega
      · have := (H.1.2.1.2.1 t b ht h2).2; omega
    · exact h3 ⟨e, z6, Or.inr (past_kn ht h0 z7)⟩
theorem rl_plain (H : RlX k u v N T n st S P U K B D X R F ec en) (ht : t < N) (h0 : S t = 0) (hi : i < 6) : rpw u t i 0 T = mrd v (msn v t i (ec i)) := by
  rcases msn_out H ht hi (ec i) (Nat.le_refl _) with h | ⟨p, h1, h2, h3, h4⟩
  · rw [h]
    refine (rpw_none T 0 (fun r _ hr hrw => ?_)).trans (cif_t rfl).symm
    obtain ⟨q, hq, e⟩ := rw_dead H ht h0 (by omega) hrw
    rw [← e] at hrw
    obtain ⟨a, b⟩ := (rw_slot H ht h0 hi hq).mp hrw
    have := rl_found H ht h0 hi hq a b
    rw [h] at this
    exact nI_m1 q (by have := (H.2.1.1.1 q hq).1; omega) this.symm
  · have hp := H.2.1.1.1 p h1
    rw [rpw_one (r0 := R p) ((rw_slot H ht h0 hi h1).mpr ⟨h2, h3⟩) T 0 (Nat.zero_le _) (by omega) (fun r _ hr hrw => ?_), h4]
    · unfold mrd
      rw [cif_f (nI_m1 p (by omega)), nat_nI (by omega), ((H.2.2.1.2.1 p hp.1).1 h1).2.2.1]
      exact (H.2.2.2.1.2.2.1 p h1).2.1
    · obtain ⟨q, hq, e⟩ := rw_dead H ht h0 (by omega) hrw
      rw [← e] at hrw
      obtain ⟨a, b⟩ := (rw_slot H ht h0 hi hq).mp hrw
      rw [← e, vis_one H.1.2.1 H.2.1.1 H.2.1.2.1 ht h0 hq h1 (by rw [a, h2]) ((se_vis H ht h0 hq).mp b) ((se_vis H ht h0 h1).mp h3)]
/-! begin -/
theorem SlC_st {kk b f d nn r bs ds : AI} {st' : Nat → Nat} (hs : SlI N T S P U K B D X R F) (h : SlC kk b f d nn r bs ds st U K B D X R F) (e : ∀ t, t < N → st' t = st t) : SlC kk b f d nn r bs ds st' U K B D X R F := by
  intro q q32
  refine ⟨fun hq => ?_, (h q q32).2⟩
  obtain ⟨a1, a2, a3, a4, a5, a6, a7, a8⟩ := (h q q32).1 hq
  exact ⟨a1, a2, a3, a4, a5, a6, by rw [e _ (hs.1 q hq).2.2.1]; exact a7, fun x hx => by rw [e x (hs.2.1 q x hq hx).1]; exact a8 x hx⟩
theorem rl_begin (H : RlX k u v N T n st S P U K B D X R F ec en) (hN : N < 60) : ∃ (st' S' : Nat → Nat) (P' : Nat → Nat → Prop), RlX k (cst u N) (mbg v N) (N + 1) T ((n + 1) % 64) st' S' P' U K B D X R F ec en ∧ (∀ t, t < N → S' t = S t) ∧ S' N = 0 ∧ (∀ t j, t < N → (P' t j ↔ P t j)) ∧ (∀ j, P' N j ↔ j < N ∧ S j = 1) ∧ (∀ t, t < N → st' t = st t) ∧ st' N = n := by
  obtain ⟨⟨hB, hT, hC, hM⟩, ⟨hS, hO, hE⟩, ⟨sC, sM, rg, eR⟩, ⟨hTk, tR⟩, mp⟩ := H
  let S' : Nat → Nat := fun t => if t = N then 0 else S t
  let P' : Nat → Nat → Prop := fun t j => if t = N then (j < N ∧ S j = 1) else P t j
  let st' : Nat → Nat := fun t => if t = N then n else st t
  have e1 : ∀ t, t < N → S' t = S t := fun t ht => if_neg (by omega)
  have e2 : S' N = 0 := if_pos rfl
  have e3 : ∀ t j, t < N → (P' t j ↔ P t j) := fun t j ht => by
    show (if t = N then (j < N ∧ S j = 1) else P t j) ↔ P t j
    rw [if_neg (by omega)]
  have e4 : ∀ j, P' N j ↔ j < N ∧ S j = 1 := fun j => by
    show (if N = N then (j < N ∧ S j = 1) else P N j) ↔ _
    rw [if_pos rfl]
  have e5 : ∀ t, t < N → st' t = st t := fun t ht => if_neg (by omega)
  have e6 : st' N = n := if_pos rfl
  clear_value S' P' st'
  have hn := hB.2.1
  have hC' : TrC (nI (N + 1)) (skn u 1) (upd (c_sp u) N (c_ns u)) (vp_updL (c_sn u) N (c_cm u)) (c_ac u ||| (1 <<< ((nI N).toInt64 &&& 63))) (c_cm u) (N + 1) ((n + 1) % 64) st' S' P' := by
    refine ⟨rfl, ?_, fun t ht => ?_, fun t ht j => ?_, fun j => ?_, fun j => ?_⟩
    · unfold skn; rw [hC.2.1, show (1 : Int32) = nI 1 from rfl, nI_add, rem64 (by omega)]
    · unfold upd
      by_cases e : t = N
      · rw [if_pos e, e, e6]; exact hC.2.1
      · rw [if_neg e, e5 t (by omega)]; exact hC.2.2.1 t (by omega)
    · unfold vp_updL
      by_cases e : t = N
      · rw [if_pos e, e, e4]; exact hC.2.2.2.2.2 j
      · rw [if_neg e, e3 t j (by omega)]; exact hC.2.2.2.1 t (by omega) j
    · rw [bitL_or, one_bit (by omega), hC.2.2.2.2.1 j]
      constructor
      · rintro (⟨h1, h2⟩ | h)
        · exact ⟨by omega, by rw [e1 j h1]; exact h2⟩
        · rw [h]; exact ⟨by omega, e2⟩
      · rintro ⟨h1, h2⟩
        by_cases e : j = N
        · exact Or.inr e
        · rw [e1 j (by omega)] at h2; exact Or.inl ⟨by omega, h2⟩
    · rw [hC.2.2.2.2.2 j]
      constructor
      · rintro ⟨h1, h2⟩
        exact ⟨by omega, by rw [e1 j h1]; exact h2⟩
      · rintro ⟨h1, h2⟩
        have : ¬ j = N := fun z => by rw [z, e2] at h2; omega
        rw [e1 j (by omega)] at h2
        exact ⟨by omega, h2⟩
  have hM' : TrM (nI (N + 1)) ((m_ns v + 1) - (m_ns v + 1) / 64 * 64) (upd (m_st v) N (m_ns v)) (upd (m_sta v) N 0) (vp_updL (m_sn v) N (cmo (ms_thr v 0) N)) (N + 1) ((n + 1) % 64) st' S' P' := by
    refine ⟨rfl, ?_, fun t ht => ?_, fun t ht => ?_, fun t ht j => ?_⟩
    · rw [hM.2.1, show (1 : Int32) = nI 1 from rfl, nI_add, rem64 (by omega)]
    · unfold upd
      by_cases e : t = N
      · rw [if_pos e, e, e6]; exact hM.2.1
      · rw [if_neg e, e5 t (by omega)]; exact hM.2.2.1 t (by omega)
    · unfold upd
      by_cases e : t = N
      · rw [if_pos e, e, e2]; rfl
      · rw [if_neg e, e1 t (by omega)]; exact hM.2.2.2.1 t (by omega)
    · unfold vp_updL
      by_cases e : t = N
      · rw [if_pos e, e, e4, cmo_bit j N (by omega)]
        refine ⟨fun ⟨h1, h2⟩ => ⟨h1, ?_⟩, fun ⟨h1, h2⟩ => ⟨h1, ?_⟩⟩
        · have h3 : m_sta v j = 1 := h2
          rw [hM.2.2.2.1 j h1] at h3
          have := hT.1 j h1
          exact (nI_eq (by omega) (by omega)).mp (h3.trans (show (1 : Int32) = nI 1 from rfl))
        · show m_sta v j = 1
          rw [hM.2.2.2.1 j h1, h2]; rfl
      · rw [if_neg e, e3 t j (by omega)]; exact hM.2.2.2.2 t (by omega) j
  have tR' : TbR (c_tk u) (c_tv u) (c_tb u) (c_td u) (c_tc u) (c_v u) (N + 1) T S' P' U K B D R := by
    refine ⟨tR.1, tR.2.1, fun i hi => ?_⟩
    rcases tR.2.2 i hi with z | ⟨b, d, z1, z2, z3, z4, z5⟩
    · exact Or.inl z
    · refine Or.inr ⟨b, d, z1, z2, by omega, by omega, ?_⟩
      rcases z5 with z5 | ⟨e, z6, z7⟩
      · exact Or.inl (by rw [e1 b z3]; exact z5)
      · exact Or.inr ⟨e, z6, past_b e1 e3 e4 (by omega) z7⟩
  exact ⟨st', S', P', ⟨⟨⟨by omega, Nat.mod_lt _ (by decide), fun t ht => by
      by_cases e : t = N
      · rw [e, e6]; exact hn
      · rw [e5 t (by omega)]; exact hB.2.2 t (by omega)⟩, TrI_b hT e1 e2 e3 e4, hC', hM'⟩, ⟨SlI_b hS e1 e3 e4, OrI_b hS hO e1 e3, EnI_b hS hE e1⟩, ⟨SlC_st hS sC e5, sM, rg, eR⟩, ⟨hTk, tR'⟩, mp⟩, e1, e2, e3, e4, e5, e6⟩
/-! end -/
theorem tkM_q {us f : AI} {q : Prop} {x : Int32} {n : Nat} (h : q) : tkM us f q x n = f := by
  funext j; unfold tkM; exact cif_f (fun z => z.2.1 h)
theorem rl_end1 (H : RlX k u v N T n st S P U K B D X R F ec en) (ht : t < N) (h0 : S t = 0) {q : Prop} (hq : q) : ∃ S' : Nat → Nat, RlX k (cen u t T q) (men v t q) N T n st S' P U K B D X R F ec en ∧ S' t = 1 ∧ ∀ j, ¬ j = t → S' j = S j := by
  obtain ⟨⟨hB, hT, hC, hM⟩, ⟨hS, hO, hE⟩, ⟨sC, sM, rg, eR⟩, ⟨hTk, tR⟩, mp⟩ := H
  have h60 := hB.1
  let S' : Nat → Nat := fun j => if j = t then 1 else S j
  have e1 : S' t = 1 := if_pos rfl
  have e2 : ∀ j, ¬ j = t → S' j = S j := fun j hj => if_neg hj
  clear_value S'
  rw [cen_t hq, cfi_t hq]
  have hC' : TrC (c_cn u) (c_ns u) (c_sp u) (c_sn u) (c_ac u &&& ((1 <<< ((nI t).toInt64 &&& 63)) ^^^ (-1))) (c_cm u ||| (1 <<< ((nI t).toInt64 &&& 63))) N n st S' P := by
    refine ⟨hC.1, hC.2.1, hC.2.2.1, hC.2.2.2.1, fun j => ?_, fun j => ?_⟩
    · rw [not_bit, one_bit (by omega), hC.2.2.2.2.1 j]
      by_cases e : j = t
      · rw [e, e1]; omega
      · rw [e2 j e]; exact ⟨fun z => z.1, fun z => ⟨z, e⟩⟩
    · rw [bitL_or, one_bit (by omega), hC.2.2.2.2.2 j]
      by_cases e : j = t
      · rw [e, e1]; exact ⟨fun _ => ⟨ht, rfl⟩, fun _ => Or.inr rfl⟩
      · rw [e2 j e]; exact ⟨fun z => z.elim id (fun z => absurd z e), Or.inl⟩
  have hM' : TrM (m_cn v) (m_ns v) (m_st v) (upd (m_sta v) t (cif q 1 2)) (m_sn v) N n st S' P := by
    refine ⟨hM.1, hM.2.1, hM.2.2.1, fun j hj => ?_, hM.2.2.2.2⟩
    unfold upd
    by_cases e : j = t
    · rw [if_pos e, cif_t hq, e, e1]; rfl
    · rw [if_neg e, e2 j e]; exact hM.2.2.2.1 j hj
  have sM' : SlM (m_us v) (m_k v) (m_v v) (m_b v) (m_fr v) (tkM (m_us v) (m_d v) q (nI t) 32) (m_n v) (c_v u) U K B D X F := by rw [tkM_q hq]; exact sM
  have rg' : RgM (m_b v) (tkM (m_us v) (m_d v) q (nI t) 32) (m_n v) (m_k v) := by rw [tkM_q hq]; exact rg
  have tR' : TbR (c_tk u) (c_tv u) (c_tb u) (c_td u) (c_tc u) (c_v u) N T S' P U K B D R := by
    refine ⟨tR.1, tR.2.1, fun i hi => ?_⟩
    rcases tR.2.2 i hi with z | ⟨b, d, z1, z2, z3, z4, z5⟩
    · exact Or.inl z
    · refine Or.inr ⟨b, d, z1, z2, z3, z4, ?_⟩
      rcases z5 with z5 | ⟨e, z6, z7⟩
      · exact Or.inl (by rw [e2 b (fun y => by rw [y] at z5; omega)]; exact z5)
      · exact Or.inr ⟨e, z6, past_e h0 (Nat.le_refl 1) e1 e2 z7⟩
  exact ⟨S', ⟨⟨hB, TrI_e hT h0 (by omega) e1 e2, hC', hM'⟩, ⟨SlI_e1 hS h0 e1 e2, OrI_e1 hO h0 e2, EnI_e hE h0 e2⟩, ⟨sC, sM', rg', eR⟩, ⟨hTk, tR'⟩, mp⟩, e1, e2⟩
theorem rl_end2 (H : RlX k u v N T n st S P U K B D X R F ec en) (ht : t < N) (h0 : S t = 0) {q : Prop} (hq : ¬ q) : ∃ S' D' : Nat → Nat, RlX k (cen u t T q) (men v t q) N T n st S' P U K B D' X R F ec en ∧ S' t = 2 ∧ (∀ j, ¬ j = t → S' j = S j) ∧ ∀ j, D' j = if D j = t + 1 then 0 else D j := by
  have H9 := H
  obtain ⟨⟨hB, hT, hC, hM⟩, ⟨hS, hO, hE⟩, ⟨sC, sM, rg, eR⟩, ⟨hTk, tR⟩, mp⟩ := H
  have h60 := hB.1
  let S' : Nat → Nat := fun j => if j = t then 2 else S j
  have e1 : S' t = 2 := if_pos rfl
  have e2 : ∀ j, ¬ j = t → S' j = S j := fun j hj => if_neg hj
  let D' : Nat → Nat := fun j => if D j = t + 1 then 0 else D j
  have e3 : ∀ j, D' j = if D j = t + 1 then 0 else D j := fun j => rfl
  clear_value S' D'
  rw [cen_f hq, cfi_f hq]
  have dz : ∀ j, U j → (if oi (D j) = nI t then -1 else oi (D j)) = oi (D' j) := by
    intro j hj
    have hDN := rl_D H9 hj
    rw [e3]
    by_cases e : D j = t + 1
    · rw [if_pos e, if_pos ((oi_nI (by omega) (by omega)).mpr e)]; rfl
    · rw [if_neg e, if_neg (fun z => e ((oi_nI (by omega) (by omega)).mp z))]
  have hC' : TrC (c_cn u) (c_ns u) (c_sp u) (c_sn u) (c_ac u &&& ((1 <<< ((nI t).toInt64 &&& 63)) ^^^ (-1))) (c_cm u) N n st S' P := by
    refine ⟨hC.1, hC.2.1, hC.2.2.1, hC.2.2.2.1, fun j => ?_, fun j => ?_⟩
    · rw [not_bit, one_bit (by omega), hC.2.2.2.2.1 j]
      by_cases e : j = t
      · rw [e, e1]; omega
      · rw [e2 j e]; exact ⟨fun z => z.1, fun z => ⟨z, e⟩⟩
    · rw [hC.2.2.2.2.2 j]
      by_cases e : j = t
      · rw [e, e1]; omega
      · rw [e2 j e]
  have hM' : TrM (m_cn v) (m_ns v) (m_st v) (upd (m_sta v) t (cif q 1 2)) (m_sn v) N n st S' P := by
    refine ⟨hM.1, hM.2.1, hM.2.2.1, fun j hj => ?_, hM.2.2.2.2⟩
    unfold upd
    by_cases e : j = t
    · rw [if_pos e, cif_f hq, e, e1]; rfl
    · rw [if_neg e, e2 j e]; exact hM.2.2.2.1 j hj
  have sC' : SlC (c_k u) (c_b u) (c_f u) (rpl (c_d u) (nI t) (-1) 32) (c_n u) (c_r u) (c_bs u) (c_ds u) st U K B D' X R F := by
    intro j j32
    refine ⟨fun hj => ?_, fun hj => ?_⟩
    · obtain ⟨a1, a2, a3, a4, a5, a6, a7, a8⟩ := (sC j j32).1 hj
      refine ⟨a1, a2, a3, ?_, a5, a6, a7, fun e he => a8 e ?_⟩
      · unfold rpl
        rw [a4, ← dz j hj]
        by_cases e : oi (D j) = nI t
        · rw [if_pos ⟨j32, e⟩, if_pos e]
        · rw [if_neg (fun z => e z.2), if_neg e]
      · rw [e3] at he
        by_cases g : D j = t + 1
        · rw [if_pos g] at he; omega
        · rw [if_neg g] at he; exact he
    · obtain ⟨a1, a2, a3, a4, a5⟩ := (sC j j32).2 hj
      refine ⟨a1, a2, a3, ?_, a5⟩
      unfold rpl
      rw [a4, if_neg (fun z => nI_m1 t (by omega) z.2.symm)]
  have sM' : SlM (m_us v) (m_k v) (m_v v) (m_b v) (m_fr v) (tkM (m_us v) (m_d v) q (nI t) 32) (m_n v) (c_v u) U K B D' X F := by
    intro j j32
    refine ⟨fun hj => ?_, (sM j j32).2⟩
    obtain ⟨a1, a2, a3, a4, a5, a6, a7⟩ := (sM j j32).1 hj
    refine ⟨a1, a2, a3, a4, a5, ?_, a7⟩
    unfold tkM
    rw [a6, ← dz j hj]
    by_cases e : oi (D j) = nI t
    · rw [cif_t ⟨j32, hq, a1, e⟩, if_pos e]
    · rw [cif_f (fun z => e z.2.2.2), if_neg e]
  have rg' : RgM (m_b v) (tkM (m_us v) (m_d v) q (nI t) 32) (m_n v) (m_k v) := by
    intro j j32
    obtain ⟨a1, a2, a3, a4⟩ := rg j j32
    refine ⟨a1, ?_, a3, a4⟩
    unfold tkM
    by_cases e : j < 32 ∧ ¬ q ∧ ¬ m_us v j = 0 ∧ m_d v j = nI t
    · rw [cif_t e]; exact Or.inl rfl
    · rw [cif_f e]; exact a2
  have tR' : TbR (c_tk u) (c_tv u) (c_tb u) (rpl (c_td u) (nI t) (-1) T) (c_tc u) (c_v u) N T S' P U K B D' R := by
    refine ⟨tR.1, fun j hj => ?_, fun i hi => ?_⟩
    · obtain ⟨a1, a2, a3, a4⟩ := tR.2.1 j hj
      refine ⟨a1, a2, a3, ?_⟩
      unfold rpl
      rw [a4, ← dz j hj]
      by_cases e : oi (D j) = nI t
      · rw [if_pos ⟨(hS.1 j hj).2.2.2, e⟩, if_pos e]
      · rw [if_neg (fun z => e z.2), if_neg e]
    · rcases tR.2.2 i hi with z | ⟨b, d, z1, z2, z3, z4, z5⟩
      · exact Or.inl z
      · right
        by_cases g : d = t + 1
        · refine ⟨b, 0, z1, ?_, z3, by omega, ?_⟩
          · unfold rpl
            rw [z2, if_pos ⟨hi, (oi_nI (by omega) (by omega)).mpr g⟩]; rfl
          · rcases z5 with z5 | ⟨e, z6, z7⟩
            · left
              by_cases y : b = t
              · rw [y]; exact e1
              · rw [e2 b y]; exact z5
            · have := z7.1
              rw [show e = t by omega] at this; omega
        · refine ⟨b, d, z1, ?_, z3, z4, ?_⟩
          · unfold rpl
            rw [z2, if_neg (fun z => g ((oi_nI (by omega) (by omega)).mp z.2))]
          · rcases z5 with z5 | ⟨e, z6, z7⟩
            · left
              by_cases y : b = t
              · rw [y]; exact e1
              · rw [e2 b y]; exact z5
            · exact Or.inr ⟨e, z6, past_e h0 (by omega) e1 e2 z7⟩
  exact ⟨S', D', ⟨⟨hB, TrI_e hT h0 (Nat.le_refl 2) e1 e2, hC', hM'⟩, ⟨SlI_e2 hS h0 e1 e2 (fun j _ => e3 j), OrI_e2 hS hT hO h0 e1 e2 (fun j _ => e3 j), EnI_e hE h0 e2⟩, ⟨sC', sM', rg', eR⟩, ⟨hTk, tR'⟩, mp⟩, e1, e2, e3⟩
theorem cfi_ac {t : Nat} {q : Prop} : c_ac (cfi u t q) = c_ac u &&& ((1 <<< ((nI t).toInt64 &&& 63)) ^^^ (-1)) := by
  by_cases h : q
  · rw [cfi_t h]; rfl
  · rw [cfi_f h]; rfl
theorem rl_many (H : RlX k u v N T n st S P U K B D X R F ec en) (ht : t < N) {q : Prop} : bcn (c_ac (cfi u t q)) = nI (acM (men v t q) N) := by
  obtain ⟨⟨hB, hT, hC, hM⟩, -⟩ := H
  have h60 := hB.1
  rw [cfi_ac, bcn_ctq (q := fun j => (j < N ∧ S j = 0) ∧ ¬ j = t) (N := N) (by omega) (fun j => by rw [not_bit, one_bit (by omega), hC.2.2.2.2.1 j]) (fun j hj z => by omega)]
  rw [acM_ctq (q := fun j => (j < N ∧ S j = 0) ∧ ¬ j = t) N (fun j hj => ?_)]
  show upd (m_sta v) t (cif q 1 2) j = 0 ↔ _
  unfold upd
  by_cases e : j = t
  · rw [if_pos e]
    refine ⟨fun z => ?_, fun z => absurd e z.2⟩
    by_cases g : q
    · rw [cif_t g] at z; exact absurd z (by decide)
    · rw [cif_f g] at z; exact absurd z (by decide)
  · rw [if_neg e, hM.2.2.2.1 j hj]
    have := hT.1 j hj
    exact (nI_eq (b := 0) (by omega) (by omega)).trans ⟨fun z => ⟨⟨hj, z⟩, e⟩, fun z => z.1.2⟩
end OPS2

/-! ===== RowPagesModel: leaves ===== -/
def rplU (us f : AI) (x y : Int32) (n : Nat) : AI := fun j => if j < n ∧ ¬ us j = 0 ∧ f j = x then y else f j
theorem rplU_0 {us f : AI} {x y : Int32} : rplU us f x y 0 = f := by
  funext j; unfold rplU; rw [if_neg (fun k => absurd k.1 (Nat.not_lt_zero _))]
theorem rplU_at {us f : AI} {x y : Int32} {i : Nat} : rplU us f x y i i = f i := by
  unfold rplU; rw [if_neg (fun k => absurd k.1 (Nat.lt_irrefl _))]
theorem rplU_q {us f : AI} {x y : Int32} {i q : Nat} (h : ¬ f q = x) : rplU us f x y i q = f q := by
  unfold rplU; rw [if_neg (fun k => h k.2.2)]
theorem rplU_y {us f : AI} {x y : Int32} {i : Nat} (hu : ¬ us i = 0) (h : f i = x) : upd (rplU us f x y i) i y = rplU us f x y (i + 1) := by
  funext j
  unfold upd rplU
  by_cases hj : j = i
  · rw [if_pos hj, hj, if_pos ⟨by omega, hu, h⟩]
  · rw [if_neg hj]
    by_cases h2 : j < i ∧ ¬ us j = 0 ∧ f j = x
    · rw [if_pos h2, if_pos ⟨by omega, h2.2⟩]
    · rw [if_neg h2, if_neg (fun k => h2 ⟨by omega, k.2⟩)]
theorem rplU_n {us f : AI} {x y : Int32} {i : Nat} (h : ¬ (¬ us i = 0 ∧ f i = x)) : upd (rplU us f x y i) i (rplU us f x y i i) = rplU us f x y (i + 1) := by
  funext j
  rw [rplU_at]
  unfold upd rplU
  by_cases hj : j = i
  · rw [if_pos hj, hj, if_neg (fun k => h k.2)]
  · rw [if_neg hj]
    by_cases h2 : j < i ∧ ¬ us j = 0 ∧ f j = x
    · rw [if_pos h2, if_pos ⟨by omega, h2.2⟩]
    · rw [if_neg h2, if_neg (fun k => h2 ⟨by omega, k.2⟩)]
/-- from a on, ahead of b, each the one behind it -/
def shp (f : AI) (a b : Nat) : AI := fun j => if a ≤ j ∧ j < b then f (j + 1) else f j
theorem shp_0 {f : AI} {a : Nat} : shp f a a = f := by funext j; unfold shp; rw [if_neg (fun k => by omega)]
theorem shp_s {f : AI} {a b : Nat} (h : a ≤ b) : upd (shp f a b) b (shp f a b (b + 1)) = shp f a (b + 1) := by
  funext j
  have e : shp f a b (b + 1) = f (b + 1) := by unfold shp; rw [if_neg (fun k => by omega)]
  rw [e]
  unfold upd shp
  by_cases hj : j = b
  · rw [if_pos hj, hj, if_pos ⟨h, by omega⟩]
  · rw [if_neg hj]
    by_cases h2 : a ≤ j ∧ j < b
    · rw [if_pos h2, if_pos ⟨h2.1, by omega⟩]
    · rw [if_neg h2, if_neg (fun k => h2 ⟨k.1, by omega⟩)]
def lv1 (nx : Int32) (q a : Nat) (f : AI) : AI := if f a = nI q then upd f a nx else f
def lvs (nx : Int32) (q k : Nat) (s : AI × Nat) (e : Nat) : AI × Nat := if lv1 nx q (64 * k + e) s.1 (64 * k + e) = -1 then (shp (lv1 nx q (64 * k + e) s.1) (64 * k + e) (64 * k + (s.2 - 1)), s.2 - 1) else (lv1 nx q (64 * k + e) s.1, s.2)
/-- the entries below i, the last of them first: those that point to q turned or left out -/
def lve (nx : Int32) (q k : Nat) : Nat → AI × Nat → AI × Nat
  | 0, s => s
  | i + 1, s => lve nx q k i (lvs nx q k s i)
theorem lve_s {nx : Int32} {q k i d : Nat} {f f1 : AI} (e : f1 = lv1 nx q (64 * k + i) f) (h : ¬ f1 (64 * k + i) = -1) : lve nx q k (i + 1) (f, d) = lve nx q k i (f1, d) := by
  rw [lve, lvs]; dsimp only; rw [← e, if_neg h]
theorem lve_r {nx : Int32} {q k i d : Nat} {f f1 : AI} (e : f1 = lv1 nx q (64 * k + i) f) (h : f1 (64 * k + i) = -1) : lve nx q k (i + 1) (f, d) = lve nx q k i (shp f1 (64 * k + i) (64 * k + (d - 1)), d - 1) := by
  rw [lve, lvs]; dsimp only; rw [← e, if_pos h]
theorem upd_id {f : AI} {k : Nat} {x : Int32} (h : f k = x) : f = upd f k x := by
  funext j; unfold upd
  by_cases e : j = k
  · rw [if_pos e, e, h]
  · rw [if_neg e]
theorem e_sw {u : MU} {f a b c : AI} : ms_en (ms_ec (ms_en (ms_n u f) a) b) c = ms_ec (ms_en (ms_n u f) c) b := rfl
theorem c_sw {u : MU} {f a b c : AI} : ms_ec (ms_ec (ms_en (ms_n u f) a) b) c = ms_ec (ms_en (ms_n u f) a) c := rfl
def mlv (u : MU) (q k n : Nat) : MU :=
  let F := rplU (m_us u) (m_n u) (nI q) (m_n u q) 32
  let r := lve (m_n u q) q k n (m_en u, n)
  ms_us (ms_ec (ms_en (ms_n u F) r.1) (upd (m_ec u) k (nI r.2))) (upd (m_us u) q 0)
def rmX5_leaves : Room := { frames := 0, cells := 0, slots := 0, locals := 0 }
theorem hdX5_leaves : yX5_leaves.cls = RX5 ∧ yX5_leaves.cls ≠ "java/lang/invoke/MethodHandle" ∧ yX5_leaves.cls ≠ "java/lang/invoke/VarHandle" ∧ (parseMethodDescriptor yX5_leaves.desc).map (fun d => d.parameters.length) = some 1 := by decide +kernel
set_option maxHeartbeats 4000000 in
set_option maxRecDepth 100000 in
theorem kX5_leaves {l : Launch} {D : va_G} {K : Nat → ClassId} {L : Nat → Prop} {g : Nat → Nat} (hg : gd L g 14) (u : MU) (q k n : Nat) (hq : q < 32) (hk : k < 6) (hn : n ≤ 32) (hkq : m_k u q = nI k) (hec0 : m_ec u k = nI n) (hnx : ¬ m_n u q = nI q) : CV l yX5_leaves wsX5_leaves rmX5_leaves D K L [.ref (g 0), .int (nI q)] (wM K g u) (wM K g (mlv u q k n)) := by
  refine CV.of (cc := cX5_leaves) (maxL := 5) (ret := none) (by decide +kernel) rfl (Nat.le_of_ble_eq_true rfl) ?_
  intro p e s m below meth c ls hen hP
  obtain ⟨hx, hb, hr, hts, hown, hlk, hml, hnm, hE, hl⟩ := hen
  have S : CallFix p m c cX5_leaves 5 s _ wsX5_leaves RX5 := ⟨hx, hb, hml, hown, hts⟩
  have hS : va_S (fr L s.heap.size) s.heap s.heap [] := va_S.rf
  have hl : lv_has ls 5 [(0, .ref (g 0)), (1, .int (nI q))] := hl
  have i5 : ∀ w ∈ wsX50, w ∈ wsX5_leaves := fun _ h => List.mem_cons_of_mem _ (List.mem_append_right _ h)
  refine lv_iconst (v := 0) hx hb dX5_leaves_0 (by decide) ?_
  refine lv_istore_n (lv' := [(2, .int 0), (0, .ref (g 0)), (1, .int (nI q))]) hx hb dX5_leaves_1 rfl hl (by decide) rfl (fun ls hl => ?_)
  have loop2 : ∀ (n2 : Nat) (i : Nat) (f : AI), (hi : i ≤ 32) → (hf : f = rplU (m_us u) (m_n u) (nI q) (m_n u q) i) → 32 - i < n2 → ∀ (H : Heap) (locs : List Loc), va_P D vwCl (wM K g (ms_n u f)) H → va_S (fr L s.heap.size) s.heap H locs → ∀ (ls : Array Slot), lv_has ls 5 [(2, .int (nI i)), (0, .ref (g 0)), (1, .int (nI q))] → W p l e rmX5_leaves s m ([.ref (g 0), .int (nI q)] : List Value).toArray below meth c H locs 0 0 (MQ below (va_Qv (fun (_ : Unit) => True) (fun _ t => va_P D vwCl (wM K g (mlv u q k n)) t.heap) (fr L s.heap.size)) ([.ref (g 0), .int (nI q)] : List Value).toArray s rmX5_leaves.cells rmX5_leaves.slots (fr L s.heap.size)) (F0 m 2 ls []) := by
    intro n2
    induction n2 with
    | zero =>
      intro i f hi hf hn2
      exact absurd hn2 (Nat.not_lt_zero _)
    | succ n2 ih2 =>
      intro i f hi hf hn2 H locs hP hS ls hl
      refine lv_iload_n hx hb dX5_leaves_2 rfl (lv_at hl 0 rfl) ?_
      refine lv_bipush (v := 32) hx hb dX5_leaves_3 (by decide) ?_
      refine lv_icmp_ge (tgt := 54) hx hb dX5_leaves_5 (by decide) (fun c1 => ?_) (fun c1 => ?_)
      · skip
        have e9 : i = 32 := by have := nge_i (a := i) (b := 32) (by omega) (by omega) c1; omega
        subst e9
        have hfq : f q = m_n u q := by rw [hf]; exact rplU_q hnx
        refine lv_aload_n hx hb dX5_leaves_54 rfl (lv_at hl 1 rfl) ?_
        refine gw5_key S i5 hE hP (hts _ (List.mem_of_getElem? (i := 3) rfl)) dX5_leaves_55 ?_
        refine lv_iload_n hx hb dX5_leaves_58 rfl (lv_at hl 2 rfl) ?_
        refine lM_k S hE hP (f := m_k u) rfl (j := q) (by omega) rfl dX5_leaves_59 ?_
        refine tpi (y := nI k) hkq ?_
        refine lv_istore_n (lv' := [(2, .int (nI k)), (0, .ref (g 0)), (1, .int (nI q))]) hx hb dX5_leaves_60 rfl hl (by decide) rfl (fun ls hl => ?_)
        refine lv_aload_n hx hb dX5_leaves_61 rfl (lv_at hl 1 rfl) ?_
        refine gw5_entries S i5 hE hP (hts _ (List.mem_of_getElem? (i := 4) rfl)) dX5_leaves_62 ?_
        refine lv_iload_n hx hb dX5_leaves_65 rfl (lv_at hl 0 rfl) ?_
        refine lM_ec S hE hP (f := m_ec u) rfl (j := k) (by omega) rfl dX5_leaves_66 ?_
        refine tpi (y := nI n) hec0 ?_
        refine lv_iconst (v := 1) hx hb dX5_leaves_67 (by decide) ?_
        refine lv_isub hx hb dX5_leaves_68 ?_
        refine lv_istore_n (lv' := [(3, .int ((nI n) - 1)), (2, .int (nI k)), (0, .ref (g 0)), (1, .int (nI q))]) hx hb dX5_leaves_69 rfl hl (by decide) rfl (fun ls hl => ?_)
        have loop70 : ∀ (n70 : Nat) (i : Nat) (en : AI) (d : Nat) (ec : AI), (hi : i ≤ d) → (hd : d ≤ 32) → (hec : ec = upd (m_ec u) k (nI d)) → (hl0 : lve (m_n u q) q k n (m_en u, n) = lve (m_n u q) q k i (en, d)) → i < n70 → ∀ (H : Heap) (locs : List Loc), va_P D vwCl (wM K g (ms_ec (ms_en (ms_n u f) en) ec)) H → va_S (fr L s.heap.size) s.heap H locs → ∀ (ls : Array Slot), lv_has ls 5 [(3, .int (nI i - 1)), (2, .int (nI k)), (0, .ref (g 0)), (1, .int (nI q))] → W p l e rmX5_leaves s m ([.ref (g 0), .int (nI q)] : List Value).toArray below meth c H locs 0 0 (MQ below (va_Qv (fun (_ : Unit) => True) (fun _ t => va_P D vwCl (wM K g (mlv u q k n)) t.heap) (fr L s.heap.size)) ([.ref (g 0), .int (nI q)] : List Value).toArray s rmX5_leaves.cells rmX5_leaves.slots (fr L s.heap.size)) (F0 m 70 ls []) := by
          intro n70
          induction n70 with
          | zero =>
            intro i en d ec hi hd hec hl0 hn70
            exact absurd hn70 (Nat.not_lt_zero _)
          | succ n70 ih70 =>
            intro i en d ec hi hd hec hl0 hn70 H locs hP hS ls hl
            refine lv_iload_n hx hb dX5_leaves_70 rfl (lv_at hl 0 rfl) ?_
            refine lv_if_lt (tgt := 185) hx hb dX5_leaves_71 (by decide) (fun c2 => ?_) (fun c2 => ?_)
            · skip
              have e8 : i = 0 := by
                rcases Nat.eq_zero_or_pos i with h0 | h0
                · exact h0
                · obtain ⟨j, rfl⟩ : ∃ j, i = j + 1 := ⟨i - 1, by omega⟩
                  rw [nI_pred] at c2
                  exact absurd c2 (nI_pos (by omega))
              refine lv_aload_n hx hb dX5_leaves_185 rfl (lv_at hl 2 rfl) ?_
              refine gw5_isUsed S i5 hE hP (hts _ (List.mem_of_getElem? (i := 2) rfl)) dX5_leaves_186 ?_
              refine lv_iload_n hx hb dX5_leaves_189 rfl (lv_at hl 3 rfl) ?_
              refine lv_iconst (v := 0) hx hb dX5_leaves_190 (by decide) ?_
              refine sM_us S hE hP rfl hg hS (j := q) (by omega) rfl dX5_leaves_191 (fun H locs hP hS => ?_)
              have hP : va_P D vwCl (wM K g (ms_us (ms_ec (ms_en (ms_n u f) en) ec) (upd (m_us u) q 0))) H := hP
              exact e0 hx hb hr hlk hS hP (by subst e8; simp only [mlv, hl0, lve, hf, hec]) (Nat.le_of_ble_eq_true rfl) (Nat.le_of_ble_eq_true rfl) dX5_leaves_192
            · skip
              obtain ⟨j, rfl⟩ : ∃ j, i = j + 1 := by
                rcases Nat.eq_zero_or_pos i with h0 | h0
                · subst h0; exact absurd (by decide) c2
                · exact ⟨i - 1, by omega⟩
              rw [nI_pred] at hl
              refine lv_aload_n hx hb dX5_leaves_74 rfl (lv_at hl 2 rfl) ?_
              refine gw5_entry S i5 hE hP (hts _ (List.mem_of_getElem? (i := 5) rfl)) dX5_leaves_75 ?_
              refine lv_bipush (v := 64) hx hb dX5_leaves_78 (by decide) ?_
              refine lv_iload_n hx hb dX5_leaves_80 rfl (lv_at hl 1 rfl) ?_
              refine lv_imul hx hb dX5_leaves_81 ?_
              refine tpi (y := nI (64 * k)) (pk_mul 64 k) ?_
              refine lv_iload_n hx hb dX5_leaves_82 rfl (lv_at hl 0 rfl) ?_
              refine lv_iadd hx hb dX5_leaves_83 ?_
              refine tpi (y := nI (64 * k + j)) (nI_add (64 * k) j) ?_
              refine lM_en S hE hP (f := en) rfl (j := (64 * k + j)) (by omega) rfl dX5_leaves_84 ?_
              refine lv_iload_n hx hb dX5_leaves_85 rfl (lv_at hl 3 rfl) ?_
              refine lv_icmp_ne (tgt := 106) hx hb dX5_leaves_86 (by decide) (fun c3 => ?_) (fun c3 => ?_)
              · skip
                obtain ⟨en1, hen1⟩ : ∃ z, z = en := ⟨_, rfl⟩
                have hv1 : en1 = lv1 (m_n u q) q (64 * k + j) en := by rw [hen1]; exact (if_neg c3).symm
                refine lv_aload_n hx hb dX5_leaves_106 rfl (lv_at hl 2 rfl) ?_
                refine gw5_entry S i5 hE hP (hts _ (List.mem_of_getElem? (i := 5) rfl)) dX5_leaves_107 ?_
                refine lv_bipush (v := 64) hx hb dX5_leaves_110 (by decide) ?_
                refine lv_iload_n hx hb dX5_leaves_112 rfl (lv_at hl 1 rfl) ?_
                refine lv_imul hx hb dX5_leaves_113 ?_
                refine tpi (y := nI (64 * k)) (pk_mul 64 k) ?_
                refine lv_iload_n hx hb dX5_leaves_114 rfl (lv_at hl 0 rfl) ?_
                refine lv_iadd hx hb dX5_leaves_115 ?_
                refine tpi (y := nI (64 * k + j)) (nI_add (64 * k) j) ?_
                refine lM_en S hE hP (f := en) rfl (j := (64 * k + j)) (by omega) rfl dX5_leaves_116 ?_
                refine lv_iconst (v := (-1)) hx hb dX5_leaves_117 (by decide) ?_
                refine lv_icmp_ne (tgt := 179) hx hb dX5_leaves_118 (by decide) (fun c4 => ?_) (fun c4 => ?_)
                · skip
                  have hz : ¬ en1 (64 * k + j) = -1 := by rw [hen1]; exact c4
                  rw [← hen1] at hP
                  refine lv_iinc (v := nI j - 1) (lv' := [(3, .int (nI j - 1)), (2, .int (nI k)), (0, .ref (g 0)), (1, .int (nI q))]) hx hb dX5_leaves_179 hl (k := 0) rfl (nI_dec j) (by decide) rfl (fun ls hl => ?_)
                  refine lv_goto (tgt := 70) hx hb dX5_leaves_182 (by decide) ?_
                  exact ih70 j en1 d ec (by omega) (by omega) hec (by rw [hl0]; exact lve_s hv1 hz) (by omega) _ _ hP hS ls (lv_sub hl [0, 1, 2, 3] rfl)
                · skip
                  have hz : en1 (64 * k + j) = -1 := by rw [hen1]; exact c4
                  rw [← hen1] at hP
                  refine lv_iload_n hx hb dX5_leaves_121 rfl (lv_at hl 0 rfl) ?_
                  refine lv_istore (lv' := [(4, .int (nI j)), (3, .int (nI j)), (2, .int (nI k)), (0, .ref (g 0)), (1, .int (nI q))]) hx hb dX5_leaves_122 hl (by decide) rfl (fun ls hl => ?_)
                  have loop124 : ∀ (n124 : Nat) (b : Nat) (g9 : AI), (hb1 : j ≤ b) → (hb2 : b + 1 ≤ d) → (hg9 : g9 = shp en1 (64 * k + j) (64 * k + b)) → d - b < n124 → ∀ (H : Heap) (locs : List Loc), va_P D vwCl (wM K g (ms_ec (ms_en (ms_n u f) g9) ec)) H → va_S (fr L s.heap.size) s.heap H locs → ∀ (ls : Array Slot), lv_has ls 5 [(4, .int (nI b)), (3, .int (nI j)), (2, .int (nI k)), (0, .ref (g 0)), (1, .int (nI q))] → W p l e rmX5_leaves s m ([.ref (g 0), .int (nI q)] : List Value).toArray below meth c H locs 0 0 (MQ below (va_Qv (fun (_ : Unit) => True) (fun _ t => va_P D vwCl (wM K g (mlv u q k n)) t.heap) (fr L s.heap.size)) ([.ref (g 0), .int (nI q)] : List Value).toArray s rmX5_leaves.cells rmX5_leaves.slots (fr L s.heap.size)) (F0 m 124 ls []) := by
                    intro n124
                    induction n124 with
                    | zero =>
                      intro b g9 hb1 hb2 hg9 hn124
                      exact absurd hn124 (Nat.not_lt_zero _)
                    | succ n124 ih124 =>
                      intro b g9 hb1 hb2 hg9 hn124 H locs hP hS ls hl
                      refine lv_iload hx hb dX5_leaves_124 (lv_at hl 0 rfl) ?_
                      refine lv_iconst (v := 1) hx hb dX5_leaves_126 (by decide) ?_
                      refine lv_iadd hx hb dX5_leaves_127 ?_
                      refine tpi (y := nI (b + 1)) (nI_1 b) ?_
                      refine lv_aload_n hx hb dX5_leaves_128 rfl (lv_at hl 3 rfl) ?_
                      refine gw5_entries S i5 hE hP (hts _ (List.mem_of_getElem? (i := 4) rfl)) dX5_leaves_129 ?_
                      refine lv_iload_n hx hb dX5_leaves_132 rfl (lv_at hl 2 rfl) ?_
                      refine lM_ec S hE hP (f := ec) rfl (j := k) (by omega) rfl dX5_leaves_133 ?_
                      refine tpi (y := nI d) (by rw [hec]; exact pk_us) ?_
                      refine lv_icmp_ge (tgt := 169) hx hb dX5_leaves_134 (by decide) (fun c5 => ?_) (fun c5 => ?_)
                      · skip
                        have hbd : b + 1 = d := by have := nge_i (a := b + 1) (b := d) (by omega) (by omega) c5; omega
                        refine lv_aload_n hx hb dX5_leaves_169 rfl (lv_at hl 3 rfl) ?_
                        refine gw5_entries S i5 hE hP (hts _ (List.mem_of_getElem? (i := 4) rfl)) dX5_leaves_170 ?_
                        refine lv_iload_n hx hb dX5_leaves_173 rfl (lv_at hl 2 rfl) ?_
                        refine lv_dup2_11 hx hb dX5_leaves_174 rfl rfl ?_
                        refine lM_ec S hE hP (f := ec) rfl (j := k) (by omega) rfl dX5_leaves_175 ?_
                        refine tpi (y := nI d) (by rw [hec]; exact pk_us) ?_
                        refine lv_iconst (v := 1) hx hb dX5_leaves_176 (by decide) ?_
                        refine lv_isub hx hb dX5_leaves_177 ?_
                        refine tpi (y := nI (d - 1)) (pk_sub (a := d) (b := 1) (by omega)) ?_
                        refine sM_ec S hE hP hg hS (j := k) (by omega) rfl dX5_leaves_178 (fun H locs hP hS => ?_)
                        have hP : va_P D vwCl (wM K g (ms_ec (ms_ec (ms_en (ms_n u f) g9) ec) (upd ec k (nI (d - 1))))) H := hP
                        rw [c_sw] at hP
                        refine lv_iinc (v := nI j - 1) (lv' := [(3, .int (nI j - 1)), (4, .int (nI b)), (2, .int (nI k)), (0, .ref (g 0)), (1, .int (nI q))]) hx hb dX5_leaves_179 hl (k := 1) rfl (nI_dec j) (by decide) rfl (fun ls hl => ?_)
                        refine lv_goto (tgt := 70) hx hb dX5_leaves_182 (by decide) ?_
                        exact ih70 j g9 (d - 1) (upd ec k (nI (d - 1))) (by omega) (by omega) (by rw [hec]; exact fa_upd_twice _ _ _ _) (by rw [hl0, lve_r hv1 hz, hg9, show 64 * k + b = 64 * k + (d - 1) by omega]) (by omega) _ _ hP hS ls (lv_sub hl [0, 2, 3, 4] rfl)
                      · skip
                        have hbl : b + 1 < d := nlt_i (a := b + 1) (b := d) (by omega) (by omega) c5
                        refine lv_aload_n hx hb dX5_leaves_137 rfl (lv_at hl 3 rfl) ?_
                        refine gw5_entry S i5 hE hP (hts _ (List.mem_of_getElem? (i := 5) rfl)) dX5_leaves_138 ?_
                        refine lv_bipush (v := 64) hx hb dX5_leaves_141 (by decide) ?_
                        refine lv_iload_n hx hb dX5_leaves_143 rfl (lv_at hl 2 rfl) ?_
                        refine lv_imul hx hb dX5_leaves_144 ?_
                        refine tpi (y := nI (64 * k)) (pk_mul 64 k) ?_
                        refine lv_iload hx hb dX5_leaves_145 (lv_at hl 0 rfl) ?_
                        refine lv_iadd hx hb dX5_leaves_147 ?_
                        refine tpi (y := nI (64 * k + b)) (nI_add (64 * k) b) ?_
                        refine lv_aload_n hx hb dX5_leaves_148 rfl (lv_at hl 3 rfl) ?_
                        refine gw5_entry S i5 hE hP (hts _ (List.mem_of_getElem? (i := 5) rfl)) dX5_leaves_149 ?_
                        refine lv_bipush (v := 64) hx hb dX5_leaves_152 (by decide) ?_
                        refine lv_iload_n hx hb dX5_leaves_154 rfl (lv_at hl 2 rfl) ?_
                        refine lv_imul hx hb dX5_leaves_155 ?_
                        refine tpi (y := nI (64 * k)) (pk_mul 64 k) ?_
                        refine lv_iload hx hb dX5_leaves_156 (lv_at hl 0 rfl) ?_
                        refine lv_iadd hx hb dX5_leaves_158 ?_
                        refine tpi (y := nI (64 * k + b)) (nI_add (64 * k) b) ?_
                        refine lv_iconst (v := 1) hx hb dX5_leaves_159 (by decide) ?_
                        refine lv_iadd hx hb dX5_leaves_160 ?_
                        refine tpi (y := nI (64 * k + b + 1)) (nI_1 (64 * k + b)) ?_
                        refine lM_en S hE hP (f := g9) rfl (j := (64 * k + b + 1)) (by omega) rfl dX5_leaves_161 ?_
                        refine sM_en S hE hP hg hS (j := (64 * k + b)) (by omega) rfl dX5_leaves_162 (fun H locs hP hS => ?_)
                        have hP : va_P D vwCl (wM K g (ms_en (ms_ec (ms_en (ms_n u f) g9) ec) (upd g9 (64 * k + b) (g9 (64 * k + b + 1))))) H := hP
                        rw [e_sw] at hP
                        refine lv_iinc (v := nI (b + 1)) (lv' := [(4, .int (nI (b + 1))), (3, .int (nI j)), (2, .int (nI k)), (0, .ref (g 0)), (1, .int (nI q))]) hx hb dX5_leaves_163 hl (k := 0) rfl (nI_1 b) (by decide) rfl (fun ls hl => ?_)
                        refine lv_goto (tgt := 124) hx hb dX5_leaves_166 (by decide) ?_
                        exact ih124 (b + 1) (upd g9 (64 * k + b) (g9 (64 * k + b + 1))) (by omega) (by omega) (by rw [hg9]; exact shp_s (by omega)) (by omega) _ _ hP hS ls (lv_sub hl [0, 1, 2, 3, 4] rfl)
                  exact loop124 _ j en1 (by omega) (by omega) shp_0.symm (Nat.lt_succ_self _) _ _ hP hS ls (lv_sub hl [0, 1, 2, 3, 4] rfl)
              · skip
                obtain ⟨en1, hen1⟩ : ∃ z, z = upd en (64 * k + j) (m_n u q) := ⟨_, rfl⟩
                have hv1 : en1 = lv1 (m_n u q) q (64 * k + j) en := by rw [hen1]; exact (if_pos c3).symm
                refine lv_aload_n hx hb dX5_leaves_89 rfl (lv_at hl 2 rfl) ?_
                refine gw5_entry S i5 hE hP (hts _ (List.mem_of_getElem? (i := 5) rfl)) dX5_leaves_90 ?_
                refine lv_bipush (v := 64) hx hb dX5_leaves_93 (by decide) ?_
                refine lv_iload_n hx hb dX5_leaves_95 rfl (lv_at hl 1 rfl) ?_
                refine lv_imul hx hb dX5_leaves_96 ?_
                refine tpi (y := nI (64 * k)) (pk_mul 64 k) ?_
                refine lv_iload_n hx hb dX5_leaves_97 rfl (lv_at hl 0 rfl) ?_
                refine lv_iadd hx hb dX5_leaves_98 ?_
                refine tpi (y := nI (64 * k + j)) (nI_add (64 * k) j) ?_
                refine lv_aload_n hx hb dX5_leaves_99 rfl (lv_at hl 2 rfl) ?_
                refine gw5_next S i5 hE hP (hts _ (List.mem_of_getElem? (i := 1) rfl)) dX5_leaves_100 ?_
                refine lv_iload_n hx hb dX5_leaves_103 rfl (lv_at hl 3 rfl) ?_
                refine lM_n S hE hP (f := f) rfl (j := q) (by omega) rfl dX5_leaves_104 ?_
                refine tpi (y := m_n u q) hfq ?_
                refine sM_en S hE hP hg hS (j := (64 * k + j)) (by omega) rfl dX5_leaves_105 (fun H locs hP hS => ?_)
                have hP : va_P D vwCl (wM K g (ms_en (ms_ec (ms_en (ms_n u f) en) ec) (upd en (64 * k + j) (m_n u q)))) H := hP
                rw [e_sw] at hP
                refine lv_aload_n hx hb dX5_leaves_106 rfl (lv_at hl 2 rfl) ?_
                refine gw5_entry S i5 hE hP (hts _ (List.mem_of_getElem? (i := 5) rfl)) dX5_leaves_107 ?_
                refine lv_bipush (v := 64) hx hb dX5_leaves_110 (by decide) ?_
                refine lv_iload_n hx hb dX5_leaves_112 rfl (lv_at hl 1 rfl) ?_
                refine lv_imul hx hb dX5_leaves_113 ?_
                refine tpi (y := nI (64 * k)) (pk_mul 64 k) ?_
                refine lv_iload_n hx hb dX5_leaves_114 rfl (lv_at hl 0 rfl) ?_
                refine lv_iadd hx hb dX5_leaves_115 ?_
                refine tpi (y := nI (64 * k + j)) (nI_add (64 * k) j) ?_
                refine lM_en S hE hP (f := upd en (64 * k + j) (m_n u q)) rfl (j := (64 * k + j)) (by omega) rfl dX5_leaves_116 ?_
                refine tpi (y := m_n u q) pk_us ?_
                refine lv_iconst (v := (-1)) hx hb dX5_leaves_117 (by decide) ?_
                refine lv_icmp_ne (tgt := 179) hx hb dX5_leaves_118 (by decide) (fun c6 => ?_) (fun c6 => ?_)
                · skip
                  have hz : ¬ en1 (64 * k + j) = -1 := by rw [hen1]; rw [pk_us]; exact c6
                  rw [← hen1] at hP
                  refine lv_iinc (v := nI j - 1) (lv' := [(3, .int (nI j - 1)), (2, .int (nI k)), (0, .ref (g 0)), (1, .int (nI q))]) hx hb dX5_leaves_179 hl (k := 0) rfl (nI_dec j) (by decide) rfl (fun ls hl => ?_)
                  refine lv_goto (tgt := 70) hx hb dX5_leaves_182 (by decide) ?_
                  exact ih70 j en1 d ec (by omega) (by omega) hec (by rw [hl0]; exact lve_s hv1 hz) (by omega) _ _ hP hS ls (lv_sub hl [0, 1, 2, 3] rfl)
                · skip
                  have hz : en1 (64 * k + j) = -1 := by rw [hen1]; rw [pk_us]; exact c6
                  rw [← hen1] at hP
                  refine lv_iload_n hx hb dX5_leaves_121 rfl (lv_at hl 0 rfl) ?_
                  refine lv_istore (lv' := [(4, .int (nI j)), (3, .int (nI j)), (2, .int (nI k)), (0, .ref (g 0)), (1, .int (nI q))]) hx hb dX5_leaves_122 hl (by decide) rfl (fun ls hl => ?_)
                  have loop124 : ∀ (n124 : Nat) (b : Nat) (g9 : AI), (hb1 : j ≤ b) → (hb2 : b + 1 ≤ d) → (hg9 : g9 = shp en1 (64 * k + j) (64 * k + b)) → d - b < n124 → ∀ (H : Heap) (locs : List Loc), va_P D vwCl (wM K g (ms_ec (ms_en (ms_n u f) g9) ec)) H → va_S (fr L s.heap.size) s.heap H locs → ∀ (ls : Array Slot), lv_has ls 5 [(4, .int (nI b)), (3, .int (nI j)), (2, .int (nI k)), (0, .ref (g 0)), (1, .int (nI q))] → W p l e rmX5_leaves s m ([.ref (g 0), .int (nI q)] : List Value).toArray below meth c H locs 0 0 (MQ below (va_Qv (fun (_ : Unit) => True) (fun _ t => va_P D vwCl (wM K g (mlv u q k n)) t.heap) (fr L s.heap.size)) ([.ref (g 0), .int (nI q)] : List Value).toArray s rmX5_leaves.cells rmX5_leaves.slots (fr L s.heap.size)) (F0 m 124 ls []) := by
                    intro n124
                    induction n124 with
                    | zero =>
                      intro b g9 hb1 hb2 hg9 hn124
                      exact absurd hn124 (Nat.not_lt_zero _)
                    | succ n124 ih124 =>
                      intro b g9 hb1 hb2 hg9 hn124 H locs hP hS ls hl
                      refine lv_iload hx hb dX5_leaves_124 (lv_at hl 0 rfl) ?_
                      refine lv_iconst (v := 1) hx hb dX5_leaves_126 (by decide) ?_
                      refine lv_iadd hx hb dX5_leaves_127 ?_
                      refine tpi (y := nI (b + 1)) (nI_1 b) ?_
                      refine lv_aload_n hx hb dX5_leaves_128 rfl (lv_at hl 3 rfl) ?_
                      refine gw5_entries S i5 hE hP (hts _ (List.mem_of_getElem? (i := 4) rfl)) dX5_leaves_129 ?_
                      refine lv_iload_n hx hb dX5_leaves_132 rfl (lv_at hl 2 rfl) ?_
                      refine lM_ec S hE hP (f := ec) rfl (j := k) (by omega) rfl dX5_leaves_133 ?_
                      refine tpi (y := nI d) (by rw [hec]; exact pk_us) ?_
                      refine lv_icmp_ge (tgt := 169) hx hb dX5_leaves_134 (by decide) (fun c7 => ?_) (fun c7 => ?_)
                      · skip
                        have hbd : b + 1 = d := by have := nge_i (a := b + 1) (b := d) (by omega) (by omega) c7; omega
                        refine lv_aload_n hx hb dX5_leaves_169 rfl (lv_at hl 3 rfl) ?_
                        refine gw5_entries S i5 hE hP (hts _ (List.mem_of_getElem? (i := 4) rfl)) dX5_leaves_170 ?_
                        refine lv_iload_n hx hb dX5_leaves_173 rfl (lv_at hl 2 rfl) ?_
                        refine lv_dup2_11 hx hb dX5_leaves_174 rfl rfl ?_
                        refine lM_ec S hE hP (f := ec) rfl (j := k) (by omega) rfl dX5_leaves_175 ?_
                        refine tpi (y := nI d) (by rw [hec]; exact pk_us) ?_
                        refine lv_iconst (v := 1) hx hb dX5_leaves_176 (by decide) ?_
                        refine lv_isub hx hb dX5_leaves_177 ?_
                        refine tpi (y := nI (d - 1)) (pk_sub (a := d) (b := 1) (by omega)) ?_
                        refine sM_ec S hE hP hg hS (j := k) (by omega) rfl dX5_leaves_178 (fun H locs hP hS => ?_)
                        have hP : va_P D vwCl (wM K g (ms_ec (ms_ec (ms_en (ms_n u f) g9) ec) (upd ec k (nI (d - 1))))) H := hP
                        rw [c_sw] at hP
                        refine lv_iinc (v := nI j - 1) (lv' := [(3, .int (nI j - 1)), (4, .int (nI b)), (2, .int (nI k)), (0, .ref (g 0)), (1, .int (nI q))]) hx hb dX5_leaves_179 hl (k := 1) rfl (nI_dec j) (by decide) rfl (fun ls hl => ?_)
                        refine lv_goto (tgt := 70) hx hb dX5_leaves_182 (by decide) ?_
                        exact ih70 j g9 (d - 1) (upd ec k (nI (d - 1))) (by omega) (by omega) (by rw [hec]; exact fa_upd_twice _ _ _ _) (by rw [hl0, lve_r hv1 hz, hg9, show 64 * k + b = 64 * k + (d - 1) by omega]) (by omega) _ _ hP hS ls (lv_sub hl [0, 2, 3, 4] rfl)
                      · skip
                        have hbl : b + 1 < d := nlt_i (a := b + 1) (b := d) (by omega) (by omega) c7
                        refine lv_aload_n hx hb dX5_leaves_137 rfl (lv_at hl 3 rfl) ?_
                        refine gw5_entry S i5 hE hP (hts _ (List.mem_of_getElem? (i := 5) rfl)) dX5_leaves_138 ?_
                        refine lv_bipush (v := 64) hx hb dX5_leaves_141 (by decide) ?_
                        refine lv_iload_n hx hb dX5_leaves_143 rfl (lv_at hl 2 rfl) ?_
                        refine lv_imul hx hb dX5_leaves_144 ?_
                        refine tpi (y := nI (64 * k)) (pk_mul 64 k) ?_
                        refine lv_iload hx hb dX5_leaves_145 (lv_at hl 0 rfl) ?_
                        refine lv_iadd hx hb dX5_leaves_147 ?_
                        refine tpi (y := nI (64 * k + b)) (nI_add (64 * k) b) ?_
                        refine lv_aload_n hx hb dX5_leaves_148 rfl (lv_at hl 3 rfl) ?_
                        refine gw5_entry S i5 hE hP (hts _ (List.mem_of_getElem? (i := 5) rfl)) dX5_leaves_149 ?_
                        refine lv_bipush (v := 64) hx hb dX5_leaves_152 (by decide) ?_
                        refine lv_iload_n hx hb dX5_leaves_154 rfl (lv_at hl 2 rfl) ?_
                        refine lv_imul hx hb dX5_leaves_155 ?_
                        refine tpi (y := nI (64 * k)) (pk_mul 64 k) ?_
                        refine lv_iload hx hb dX5_leaves_156 (lv_at hl 0 rfl) ?_
                        refine lv_iadd hx hb dX5_leaves_158 ?_
                        refine tpi (y := nI (64 * k + b)) (nI_add (64 * k) b) ?_
                        refine lv_iconst (v := 1) hx hb dX5_leaves_159 (by decide) ?_
                        refine lv_iadd hx hb dX5_leaves_160 ?_
                        refine tpi (y := nI (64 * k + b + 1)) (nI_1 (64 * k + b)) ?_
                        refine lM_en S hE hP (f := g9) rfl (j := (64 * k + b + 1)) (by omega) rfl dX5_leaves_161 ?_
                        refine sM_en S hE hP hg hS (j := (64 * k + b)) (by omega) rfl dX5_leaves_162 (fun H locs hP hS => ?_)
                        have hP : va_P D vwCl (wM K g (ms_en (ms_ec (ms_en (ms_n u f) g9) ec) (upd g9 (64 * k + b) (g9 (64 * k + b + 1))))) H := hP
                        rw [e_sw] at hP
                        refine lv_iinc (v := nI (b + 1)) (lv' := [(4, .int (nI (b + 1))), (3, .int (nI j)), (2, .int (nI k)), (0, .ref (g 0)), (1, .int (nI q))]) hx hb dX5_leaves_163 hl (k := 0) rfl (nI_1 b) (by decide) rfl (fun ls hl => ?_)
                        refine lv_goto (tgt := 124) hx hb dX5_leaves_166 (by decide) ?_
                        exact ih124 (b + 1) (upd g9 (64 * k + b) (g9 (64 * k + b + 1))) (by omega) (by omega) (by rw [hg9]; exact shp_s (by omega)) (by omega) _ _ hP hS ls (lv_sub hl [0, 1, 2, 3, 4] rfl)
                  exact loop124 _ j en1 (by omega) (by omega) shp_0.symm (Nat.lt_succ_self _) _ _ hP hS ls (lv_sub hl [0, 1, 2, 3, 4] rfl)
        exact loop70 _ n (m_en u) n (m_ec u) (by omega) (by omega) (upd_id hec0) rfl (Nat.lt_succ_self _) _ _ hP hS ls (lv_sub hl [0, 1, 2, 3] rfl)
      · skip
        have hlt : i < 32 := nlt_i (a := i) (b := 32) (by omega) (by omega) c1
        have hfq : f q = m_n u q := by rw [hf]; exact rplU_q hnx
        have hfi : f i = m_n u i := by rw [hf]; exact rplU_at
        refine lv_aload_n hx hb dX5_leaves_8 rfl (lv_at hl 1 rfl) ?_
        refine gw5_next S i5 hE hP (hts _ (List.mem_of_getElem? (i := 1) rfl)) dX5_leaves_9 ?_
        refine lv_iload_n hx hb dX5_leaves_12 rfl (lv_at hl 0 rfl) ?_
        refine lv_aload_n hx hb dX5_leaves_13 rfl (lv_at hl 1 rfl) ?_
        refine gw5_isUsed S i5 hE hP (hts _ (List.mem_of_getElem? (i := 2) rfl)) dX5_leaves_14 ?_
        refine lv_iload_n hx hb dX5_leaves_17 rfl (lv_at hl 0 rfl) ?_
        refine lM_us S hE hP (f := m_us u) rfl (j := i) (by omega) rfl dX5_leaves_18 ?_
        refine lv_if_eq (tgt := 41) hx hb dX5_leaves_19 (by decide) (fun c8 => ?_) (fun c8 => ?_)
        · skip
          have no : ¬ (¬ m_us u i = 0 ∧ m_n u i = nI q) := fun z => z.1 c8
          refine lv_aload_n hx hb dX5_leaves_41 rfl (lv_at hl 1 rfl) ?_
          refine gw5_next S i5 hE hP (hts _ (List.mem_of_getElem? (i := 1) rfl)) dX5_leaves_42 ?_
          refine lv_iload_n hx hb dX5_leaves_45 rfl (lv_at hl 0 rfl) ?_
          refine lM_n S hE hP (f := f) rfl (j := i) (by omega) rfl dX5_leaves_46 ?_
          refine sM_n S hE hP hg hS (j := i) (by omega) rfl dX5_leaves_47 (fun H locs hP hS => ?_)
          have hP : va_P D vwCl (wM K g (ms_n (ms_n u f) (upd f i (f i)))) H := hP
          refine lv_iinc (v := nI (i + 1)) (lv' := [(2, .int (nI (i + 1))), (0, .ref (g 0)), (1, .int (nI q))]) hx hb dX5_leaves_48 hl (k := 0) rfl (nI_1 i) (by decide) rfl (fun ls hl => ?_)
          refine lv_goto (tgt := 2) hx hb dX5_leaves_51 (by decide) ?_
          exact ih2 (i + 1) (upd f i (f i)) (by omega) (by first | (rw [hfq, hf]; exact rplU_y yu ye) | (rw [hf]; exact rplU_n no)) (by omega) _ _ hP hS ls (lv_sub hl [0, 1, 2] rfl)
        · skip
          have yu : ¬ m_us u i = 0 := c8
          refine lv_aload_n hx hb dX5_leaves_22 rfl (lv_at hl 1 rfl) ?_
          refine gw5_next S i5 hE hP (hts _ (List.mem_of_getElem? (i := 1) rfl)) dX5_leaves_23 ?_
          refine lv_iload_n hx hb dX5_leaves_26 rfl (lv_at hl 0 rfl) ?_
          refine lM_n S hE hP (f := f) rfl (j := i) (by omega) rfl dX5_leaves_27 ?_
          refine lv_iload_n hx hb dX5_leaves_28 rfl (lv_at hl 2 rfl) ?_
          refine lv_icmp_ne (tgt := 41) hx hb dX5_leaves_29 (by decide) (fun c9 => ?_) (fun c9 => ?_)
          · skip
            have no : ¬ (¬ m_us u i = 0 ∧ m_n u i = nI q) := fun z => c9 (hfi.trans z.2)
            refine lv_aload_n hx hb dX5_leaves_41 rfl (lv_at hl 1 rfl) ?_
            refine gw5_next S i5 hE hP (hts _ (List.mem_of_getElem? (i := 1) rfl)) dX5_leaves_42 ?_
            refine lv_iload_n hx hb dX5_leaves_45 rfl (lv_at hl 0 rfl) ?_
            refine lM_n S hE hP (f := f) rfl (j := i) (by omega) rfl dX5_leaves_46 ?_
            refine sM_n S hE hP hg hS (j := i) (by omega) rfl dX5_leaves_47 (fun H locs hP hS => ?_)
            have hP : va_P D vwCl (wM K g (ms_n (ms_n u f) (upd f i (f i)))) H := hP
            refine lv_iinc (v := nI (i + 1)) (lv' := [(2, .int (nI (i + 1))), (0, .ref (g 0)), (1, .int (nI q))]) hx hb dX5_leaves_48 hl (k := 0) rfl (nI_1 i) (by decide) rfl (fun ls hl => ?_)
            refine lv_goto (tgt := 2) hx hb dX5_leaves_51 (by decide) ?_
            exact ih2 (i + 1) (upd f i (f i)) (by omega) (by first | (rw [hfq, hf]; exact rplU_y yu ye) | (rw [hf]; exact rplU_n no)) (by omega) _ _ hP hS ls (lv_sub hl [0, 1, 2] rfl)
          · skip
            have ye : m_n u i = nI q := hfi.symm.trans c9
            refine lv_aload_n hx hb dX5_leaves_32 rfl (lv_at hl 1 rfl) ?_
            refine gw5_next S i5 hE hP (hts _ (List.mem_of_getElem? (i := 1) rfl)) dX5_leaves_33 ?_
            refine lv_iload_n hx hb dX5_leaves_36 rfl (lv_at hl 2 rfl) ?_
            refine lM_n S hE hP (f := f) rfl (j := q) (by omega) rfl dX5_leaves_37 ?_
            refine lv_goto (tgt := 47) hx hb dX5_leaves_38 (by decide) ?_
            refine sM_n S hE hP hg hS (j := i) (by omega) rfl dX5_leaves_47 (fun H locs hP hS => ?_)
            have hP : va_P D vwCl (wM K g (ms_n (ms_n u f) (upd f i (f q)))) H := hP
            refine lv_iinc (v := nI (i + 1)) (lv' := [(2, .int (nI (i + 1))), (0, .ref (g 0)), (1, .int (nI q))]) hx hb dX5_leaves_48 hl (k := 0) rfl (nI_1 i) (by decide) rfl (fun ls hl => ?_)
            refine lv_goto (tgt := 2) hx hb dX5_leaves_51 (by decide) ?_
            exact ih2 (i + 1) (upd f i (f q)) (by omega) (by first | (rw [hfq, hf]; exact rplU_y yu ye) | (rw [hf]; exact rplU_n no)) (by omega) _ _ hP hS ls (lv_sub hl [0, 1, 2] rfl)
  exact loop2 _ 0 (m_n u) (by omega) rplU_0.symm (Nat.lt_succ_self _) _ _ hP hS ls (lv_sub hl [0, 1, 2] rfl)

/-! ===== arePages and isRead ===== -/
theorem pgI {a : Nat} (h : a < 4) : pgP (nI a) := ⟨nI_pos (by omega), (nI_ltI (a := a) (b := 4) (by omega) (by omega)).mpr h⟩
theorem slI {a : Nat} (h : a < 8) : slP (nI a) := ⟨nI_pos (by omega), (nI_ltI (a := a) (b := 8) (by omega) (by omega)).mpr h⟩
theorem kyI {a : Nat} (h : a < 6) : kyP (nI a) := ⟨nI_pos (by omega), (nI_ltI (a := a) (b := 6) (by omega) (by omega)).mpr h⟩
theorem nm1 {m : Nat} (h : m < 2 ^ 31) : ¬ nI m < -1 := by
  rw [i_lt, nI_toInt h, show (-1 : Int32).toInt = -1 from by decide]; omega
theorem fcmp_all : ∀ n, n < 9 → Op.cmpValue (FP.fcmp (fdv n) (fdv n)) .l = 0 := by decide +kernel
theorem ctq_y {p : Nat → Prop} {m : Nat} (h : p m) : ctq p (m + 1) = ctq p m + 1 := by rw [ctq, cif_t h]
theorem ctq_n {p : Nat → Prop} {m : Nat} (h : ¬ p m) : ctq p (m + 1) = ctq p m := by rw [ctq, cif_f h]; rfl
theorem ctq_add {p : Nat → Prop} {m : Nat} : ∀ n, ctq p (m + n) = ctq p m + ctq (fun j => p (m + j)) n := by
  intro n
  induction n with
  | zero => rfl
  | succ n ih =>
    by_cases h : p (m + n)
    · rw [show m + (n + 1) = m + n + 1 from rfl, ctq_y h, ctq_y (p := fun j => p (m + j)) h, ih]; omega
    · rw [show m + (n + 1) = m + n + 1 from rfl, ctq_n h, ctq_n (p := fun j => p (m + j)) h, ih]
theorem ms_s {i n M : Nat} (h : i < M) (hn : M - i < n + 1) : M - (i + 1) < n := by omega
def deadP (n : Nat) : Prop := ∃ m, n = m + 1 ∧ 2 ≤ m / 10 % 10
theorem dds {dd : Prop} {p : Nat → Prop} {i : Nat} (h : dd ↔ ∃ j, j < i ∧ p j) : (dd ∨ p i) ↔ ∃ j, j < i + 1 ∧ p j := by
  constructor
  · rintro (z | z)
    · obtain ⟨j, a, b⟩ := h.mp z
      exact ⟨j, by omega, b⟩
    · exact ⟨i, by omega, z⟩
  · rintro ⟨j, a, b⟩
    by_cases e : j = i
    · rw [e] at b; exact Or.inr b
    · exact Or.inl (h.mpr ⟨j, by omega, b⟩)
def esm (ec : Nat → Nat) : Nat → Nat
  | 0 => 0
  | n + 1 => esm ec n + ec n
theorem oi_lt {n : Nat} (hn : n < 2 ^ 31) (h : oi n < 0) : n = 0 := by
  cases n with
  | zero => rfl
  | succ n => exact absurd h (nI_pos (by omega))
theorem oi_ge {n : Nat} (h : ¬ oi n < 0) : ∃ m, n = m + 1 := by
  cases n with
  | zero => exact absurd (show (-1 : Int32) < 0 by decide) h
  | succ n => exact ⟨n, rfl⟩
/-- what arePages asks of the object, in plain numbers: tn one more than what slot answers (0 for -1) -/
def PgH (u : CU) (N : Nat) (tn ec : Nat → Nat) : Prop :=
  (∀ q, q < 32 → slv u q = oi (tn q) ∧ tn q ≤ 900 ∧ ∀ m, tn q = m + 1 → m % 10 < 6 ∧ (100 ≤ m → m / 100 - 1 < 8 ∧ ¬ m / 100 - 1 = q % 8 ∧ ∃ m', tn (q / 8 * 8 + (m / 100 - 1)) = m' + 1 ∧ m' % 10 = m % 10)) ∧
  (∀ a, a < 4 → (c_mp u a = 0 ∨ c_mp u a = 1) ∧ (¬ c_mp u a = 0 → whP u a (stl u N)) ∧ ((∃ j, j < 8 ∧ deadP (tn (a * 8 + j))) → ¬ whP u a (stl u N)) ∧ (ctq (fun j => 1 ≤ tn (a * 8 + j)) 8 = 0 → whP u a (stl u N)) ∧ ful u a 8 = ctq (fun j => 1 ≤ tn (a * 8 + j)) 8) ∧
  (∀ k, k < 6 → c_ct u k = nI (ec k) ∧ ec k ≤ 32) ∧
  esm ec 6 + ctq (fun q => 101 ≤ tn q) 32 ≤ ctq (fun q => 1 ≤ tn q) 32
theorem esm_le {ec : Nat → Nat} (h : ∀ k, k < 6 → ec k ≤ 32) : ∀ m, m ≤ 6 → esm ec m ≤ 32 * m := by
  intro m
  induction m with
  | zero => intro _; exact Nat.le_refl _
  | succ m ih =>
    intro hm
    have := h m (by omega)
    have := ih (by omega)
    show esm ec m + ec m ≤ _
    omega
def rmL_arePages : Room := { frames := 5, cells := 0, slots := 0, locals := 108 }
theorem hdL_arePages : yL_arePages.cls = RL ∧ yL_arePages.cls ≠ "java/lang/invoke/MethodHandle" ∧ yL_arePages.cls ≠ "java/lang/invoke/VarHandle" ∧ (parseMethodDescriptor yL_arePages.desc).map (fun d => d.parameters.length) = some 1 := by decide +kernel
set_option maxHeartbeats 4000000 in
set_option maxRecDepth 100000 in
theorem kL_arePages {l : Launch} {D : va_G} {K : Nat → ClassId} {L : Nat → Prop} {g : Nat → Nat} (hg : gd L g 29) (u : CU) (N : Nat) (hN : N ≤ 60) (hcn : c_cn u = nI N) (o : Nat) (ho : o < 64) (hol : olg u N 32 = nI o) (tn ec : Nat → Nat) (hPg : PgH u N tn ec) : CI l yL_arePages wsL_arePages rmL_arePages D K L [.ref (g 0)] (wC K g u) (wC K g u) 1 := by
  refine CI.of (cc := cL_arePages) (maxL := 10) (ret := (some .boolean)) (by decide +kernel) rfl (Nat.le_of_ble_eq_true rfl) ?_
  intro p e s m below meth c ls hen hP
  obtain ⟨hx, hb, hr, hts, hown, hlk, hml, hnm, hE, hl⟩ := hen
  have S : CallFix p m c cL_arePages 10 s _ wsL_arePages RL := ⟨hx, hb, hml, hown, hts⟩
  have hS : va_S (fr L s.heap.size) s.heap s.heap [] := va_S.rf
  have hl : lv_has ls 10 [(0, .ref (g 0))] := hl
  have i4 : ∀ w ∈ wsX40, w ∈ wsL_arePages := fun _ h => List.mem_cons_of_mem _ (List.mem_append_left _ (List.mem_append_left _ (List.mem_append_left _ (List.mem_append_left _ (List.mem_append_right _ h)))))
  have i1 : ∀ w ∈ wsX10, w ∈ wsL_arePages := fun _ h => List.mem_cons_of_mem _ (List.mem_append_left _ (List.mem_append_left _ (List.mem_append_left _ (List.mem_append_right _ h))))
  have i3 : ∀ w ∈ wsX30, w ∈ wsL_arePages := fun _ h => List.mem_cons_of_mem _ (List.mem_append_left _ (List.mem_append_left _ (List.mem_append_right _ h)))
  have i0 : ∀ w ∈ wsX00, w ∈ wsL_arePages := fun _ h => List.mem_cons_of_mem _ (List.mem_append_left _ (List.mem_append_right _ h))
  obtain ⟨hT, hA, hct, hsum⟩ := hPg
  refine lv_iconst (v := 0) hx hb dL_arePages_0 (by decide) ?_
  refine lv_istore_n (lv' := [(1, .int 0), (0, .ref (g 0))]) hx hb dL_arePages_1 rfl hl (by decide) rfl (fun ls hl => ?_)
  refine lv_iconst (v := 0) hx hb dL_arePages_2 (by decide) ?_
  refine lv_istore_n (lv' := [(2, .int 0), (1, .int 0), (0, .ref (g 0))]) hx hb dL_arePages_3 rfl hl (by decide) rfl (fun ls hl => ?_)
  refine lv_aload_n hx hb dL_arePages_4 rfl (lv_at hl 2 rfl) ?_
  refine kiV (As := []) (rest := []) S (kX4_oldest hg u N hN hcn) (cwV 0 hts gL_arePages_X4_oldest rfl rfl rfl hdX4_oldest ⟨Nat.le_of_ble_eq_true rfl, Nat.le_of_ble_eq_true rfl⟩) rfl rfl 0 rfl rfl hE hP hS (frs hS) rfl hl.1 rfl (Nat.le_of_ble_eq_true rfl) dL_arePages_5 ⟨Nat.le_of_ble_eq_true rfl, Nat.le_of_ble_eq_true rfl⟩ (fun H locs hP _ _ hS => ?_)
  refine tpi (y := nI o) hol ?_
  refine lv_if_lt (tgt := 24) hx hb dL_arePages_8 (by decide) (fun c1 => ?_) (fun c1 => ?_)
  · skip
    exact absurd c1 (nI_pos (by omega))
  · skip
    refine lv_aload_n hx hb dL_arePages_11 rfl (lv_at hl 2 rfl) ?_
    refine kiV (As := []) (rest := []) S (kX4_oldest hg u N hN hcn) (cwV 0 hts gL_arePages_X4_oldest rfl rfl rfl hdX4_oldest ⟨Nat.le_of_ble_eq_true rfl, Nat.le_of_ble_eq_true rfl⟩) rfl rfl 0 rfl rfl hE hP hS (frs hS) rfl hl.1 rfl (Nat.le_of_ble_eq_true rfl) dL_arePages_12 ⟨Nat.le_of_ble_eq_true rfl, Nat.le_of_ble_eq_true rfl⟩ (fun H locs hP _ _ hS => ?_)
    refine tpi (y := nI o) hol ?_
    refine lv_bipush (v := 64) hx hb dL_arePages_15 (by decide) ?_
    refine lv_icmp_ge (tgt := 24) hx hb dL_arePages_17 (by decide) (fun c2 => ?_) (fun c2 => ?_)
    · skip
      exact absurd (nge_i (a := o) (b := 64) (by omega) (by omega) c2) (by omega)
    · skip
      refine lv_iconst (v := 1) hx hb dL_arePages_20 (by decide) ?_
      refine lv_goto (tgt := 25) hx hb dL_arePages_21 (by decide) ?_
      refine lv_istore_n (lv' := [(3, .int 1), (2, .int 0), (1, .int 0), (0, .ref (g 0))]) hx hb dL_arePages_25 rfl hl (by decide) rfl (fun ls hl => ?_)
      refine lv_iconst (v := 0) hx hb dL_arePages_26 (by decide) ?_
      refine lv_istore (lv' := [(4, .int 0), (3, .int 1), (2, .int 0), (1, .int 0), (0, .ref (g 0))]) hx hb dL_arePages_27 hl (by decide) rfl (fun ls hl => ?_)
      have loop29 : ∀ (n29 : Nat) (a : Nat) (w : Nat) (y : Nat), (ha4 : a ≤ 4) → (hw : w = ctq (fun q => 1 ≤ tn q) (a * 8)) → (hy : y = ctq (fun q => 101 ≤ tn q) (a * 8)) → 4 - a < n29 → ∀ (H : Heap) (locs : List Loc), va_P D vwCl (wC K g u) H → va_S (fr L s.heap.size) s.heap H locs → ∀ (ls : Array Slot), lv_has ls 10 [(4, .int (nI a)), (3, .int 1), (2, .int (nI y)), (1, .int (nI w)), (0, .ref (g 0))] → W p l e rmL_arePages s m ([.ref (g 0)] : List Value).toArray below meth c H locs 0 0 (MQ below (va_Qi (fun (r9 : Int32) (_ : Unit) => r9 = 1) (fun _ t9 => va_P D vwCl (wC K g u) t9.heap) (fr L s.heap.size)) ([.ref (g 0)] : List Value).toArray s rmL_arePages.cells rmL_arePages.slots (fr L s.heap.size)) (F0 m 29 ls []) := by
        intro n29
        induction n29 with
        | zero =>
          intro a w y ha4 hw hy hn29
          exact absurd hn29 (Nat.not_lt_zero _)
        | succ n29 ih29 =>
          intro a w y ha4 hw hy hn29 H locs hP hS ls hl
          have hw32 : w ≤ a * 8 := hw ▸ ctq_b _
          have hy32 : y ≤ a * 8 := hy ▸ ctq_b _
          refine lv_iload hx hb dL_arePages_29 (lv_at hl 0 rfl) ?_
          refine lv_iconst (v := 4) hx hb dL_arePages_31 (by decide) ?_
          refine lv_icmp_ge (tgt := 294) hx hb dL_arePages_32 (by decide) (fun c3 => ?_) (fun c3 => ?_)
          · skip
            have e9 : a = 4 := by have := nge_i (a := a) (b := 4) (by omega) (by omega) c3; omega
            subst e9
            refine lv_iconst (v := 0) hx hb dL_arePages_294 (by decide) ?_
            refine lv_istore (lv' := [(4, .int 0), (3, .int 1), (2, .int (nI y)), (1, .int (nI w)), (0, .ref (g 0))]) hx hb dL_arePages_295 hl (by decide) rfl (fun ls hl => ?_)
            refine lv_iconst (v := 0) hx hb dL_arePages_297 (by decide) ?_
            refine lv_istore (lv' := [(5, .int 0), (4, .int 0), (3, .int 1), (2, .int (nI y)), (1, .int (nI w)), (0, .ref (g 0))]) hx hb dL_arePages_298 hl (by decide) rfl (fun ls hl => ?_)
            have loop300 : ∀ (n300 : Nat) (j : Nat) (sm : Nat), (hj : j ≤ 6) → (hs9 : sm = esm ec j) → 6 - j < n300 → ∀ (H : Heap) (locs : List Loc), va_P D vwCl (wC K g u) H → va_S (fr L s.heap.size) s.heap H locs → ∀ (ls : Array Slot), lv_has ls 10 [(5, .int (nI j)), (4, .int (nI sm)), (3, .int 1), (2, .int (nI y)), (1, .int (nI w)), (0, .ref (g 0))] → W p l e rmL_arePages s m ([.ref (g 0)] : List Value).toArray below meth c H locs 0 0 (MQ below (va_Qi (fun (r9 : Int32) (_ : Unit) => r9 = 1) (fun _ t9 => va_P D vwCl (wC K g u) t9.heap) (fr L s.heap.size)) ([.ref (g 0)] : List Value).toArray s rmL_arePages.cells rmL_arePages.slots (fr L s.heap.size)) (F0 m 300 ls []) := by
              intro n300
              induction n300 with
              | zero =>
                intro j sm hj hs9 hn300
                exact absurd hn300 (Nat.not_lt_zero _)
              | succ n300 ih300 =>
                intro j sm hj hs9 hn300 H locs hP hS ls hl
                have hs192 : sm ≤ 192 := by have := esm_le (fun k hk => (hct k hk).2) j hj; omega
                refine lv_iload hx hb dL_arePages_300 (lv_at hl 0 rfl) ?_
                refine lv_bipush (v := 6) hx hb dL_arePages_302 (by decide) ?_
                refine lv_icmp_ge (tgt := 324) hx hb dL_arePages_304 (by decide) (fun c4 => ?_) (fun c4 => ?_)
                · skip
                  have e6 : j = 6 := by have := nge_i (a := j) (b := 6) (by omega) (by omega) c4; omega
                  subst e6
                  refine lv_iload_n hx hb dL_arePages_324 rfl (lv_at hl 2 rfl) ?_
                  refine lv_if_eq (tgt := 340) hx hb dL_arePages_325 (by decide) (fun c5 => ?_) (fun c5 => ?_)
                  · skip
                    exact (by first | exact absurd c5 (by decide) | exact absurd (by decide) c5)
                  · skip
                    refine lv_iload hx hb dL_arePages_328 (lv_at hl 1 rfl) ?_
                    refine lv_iload_n hx hb dL_arePages_330 rfl (lv_at hl 3 rfl) ?_
                    refine lv_iadd hx hb dL_arePages_331 ?_
                    refine tpi (y := nI (sm + y)) (nI_add sm y) ?_
                    refine lv_iload_n hx hb dL_arePages_332 rfl (lv_at hl 4 rfl) ?_
                    refine lv_icmp_gt (tgt := 340) hx hb dL_arePages_333 (by decide) (fun c6 => ?_) (fun c6 => ?_)
                    · skip
                      exact absurd ((nI_ltI (by omega) (by omega)).mp c6) (by have h1 : esm ec 6 + y ≤ w := (by rw [hy, hw]; exact hsum); omega)
                    · skip
                      refine lv_iconst (v := 1) hx hb dL_arePages_336 (by decide) ?_
                      refine lv_goto (tgt := 341) hx hb dL_arePages_337 (by decide) ?_
                      exact ez hx hb hr hlk hS hP rfl (by rfl) rfl (Nat.le_of_ble_eq_true rfl) (Nat.le_of_ble_eq_true rfl) dL_arePages_341
                · skip
                  have hj6 : j < 6 := nlt_i (a := j) (b := 6) (by omega) (by omega) c4
                  refine lv_iload hx hb dL_arePages_307 (lv_at hl 1 rfl) ?_
                  refine lv_aload_n hx hb dL_arePages_309 rfl (lv_at hl 5 rfl) ?_
                  refine lv_iload hx hb dL_arePages_310 (lv_at hl 0 rfl) ?_
                  refine kiV (As := [.int (nI j)]) (rest := [.int (nI sm)]) S (kX4_entries0 hg u j hj6 (kyI hj6)) (cwV 1 hts gL_arePages_X4_entries rfl rfl rfl hdX4_entries ⟨Nat.le_of_ble_eq_true rfl, Nat.le_of_ble_eq_true rfl⟩) rfl rfl 0 rfl rfl hE hP hS (frs hS) rfl hl.1 rfl (Nat.le_of_ble_eq_true rfl) dL_arePages_312 ⟨Nat.le_of_ble_eq_true rfl, Nat.le_of_ble_eq_true rfl⟩ (fun H locs hP _ _ hS => ?_)
                  refine tpi (y := nI (ec j)) ((hct j hj6).1) ?_
                  refine lv_iadd hx hb dL_arePages_315 ?_
                  refine tpi (y := nI (sm + ec j)) (nI_add sm (ec j)) ?_
                  refine lv_istore (lv' := [(4, .int (nI (sm + ec j))), (5, .int (nI j)), (3, .int 1), (2, .int (nI y)), (1, .int (nI w)), (0, .ref (g 0))]) hx hb dL_arePages_316 hl (by decide) rfl (fun ls hl => ?_)
                  refine lv_iinc (v := nI (j + 1)) (lv' := [(5, .int (nI (j + 1))), (4, .int (nI (sm + ec j))), (3, .int 1), (2, .int (nI y)), (1, .int (nI w)), (0, .ref (g 0))]) hx hb dL_arePages_318 hl (k := 1) rfl (nI_1 j) (by decide) rfl (fun ls hl => ?_)
                  refine lv_goto (tgt := 300) hx hb dL_arePages_321 (by decide) ?_
                  exact ih300 (j + 1) (sm + ec j) hj6 (by rw [hs9]; rfl) (ms_s hj6 hn300) _ _ hP hS ls (lv_sub hl [0, 1, 2, 3, 4, 5] rfl)
            exact loop300 _ 0 0 (by omega) rfl (Nat.lt_succ_self _) _ _ hP hS ls (lv_sub hl [0, 1, 2, 3, 4, 5] rfl)
          · skip
            have ha : a < 4 := nlt_i (a := a) (b := 4) (by omega) (by omega) c3
            refine lv_iload_n hx hb dL_arePages_35 rfl (lv_at hl 1 rfl) ?_
            refine lv_if_eq (tgt := 294) hx hb dL_arePages_36 (by decide) (fun c7 => ?_) (fun c7 => ?_)
            · skip
              exact (by first | exact absurd c7 (by decide) | exact absurd (by decide) c7)
            · skip
              refine lv_iconst (v := 0) hx hb dL_arePages_39 (by decide) ?_
              refine lv_istore (lv' := [(5, .int 0), (4, .int (nI a)), (3, .int 1), (2, .int (nI y)), (1, .int (nI w)), (0, .ref (g 0))]) hx hb dL_arePages_40 hl (by decide) rfl (fun ls hl => ?_)
              refine lv_iconst (v := 0) hx hb dL_arePages_42 (by decide) ?_
              refine tpi (y := fb False) (f_fb (fun z => z)) ?_
              refine lv_istore (lv' := [(6, .int (fb False)), (5, .int 0), (4, .int (nI a)), (3, .int 1), (2, .int (nI y)), (1, .int (nI w)), (0, .ref (g 0))]) hx hb dL_arePages_43 hl (by decide) rfl (fun ls hl => ?_)
              refine lv_iconst (v := 0) hx hb dL_arePages_45 (by decide) ?_
              refine lv_istore (lv' := [(7, .int 0), (6, .int (fb False)), (5, .int 0), (4, .int (nI a)), (3, .int 1), (2, .int (nI y)), (1, .int (nI w)), (0, .ref (g 0))]) hx hb dL_arePages_46 hl (by decide) rfl (fun ls hl => ?_)
              have loop48 : ∀ (n48 : Nat) (i : Nat) (h : Nat) (z : Nat) (dd : Prop), (hi : i ≤ 8) → (hh : h = ctq (fun j => 1 ≤ tn (a * 8 + j)) i) → (hz : z = ctq (fun q => 101 ≤ tn q) (a * 8 + i)) → (hdd : dd ↔ ∃ j, j < i ∧ deadP (tn (a * 8 + j))) → 8 - i < n48 → ∀ (H : Heap) (locs : List Loc), va_P D vwCl (wC K g u) H → va_S (fr L s.heap.size) s.heap H locs → ∀ (ls : Array Slot), lv_has ls 10 [(7, .int (nI i)), (6, .int (fb dd)), (5, .int (nI h)), (4, .int (nI a)), (3, .int 1), (2, .int (nI z)), (1, .int (nI w)), (0, .ref (g 0))] → W p l e rmL_arePages s m ([.ref (g 0)] : List Value).toArray below meth c H locs 0 0 (MQ below (va_Qi (fun (r9 : Int32) (_ : Unit) => r9 = 1) (fun _ t9 => va_P D vwCl (wC K g u) t9.heap) (fr L s.heap.size)) ([.ref (g 0)] : List Value).toArray s rmL_arePages.cells rmL_arePages.slots (fr L s.heap.size)) (F0 m 48 ls []) := by
                intro n48
                induction n48 with
                | zero =>
                  intro i h z dd hi hh hz hdd hn48
                  exact absurd hn48 (Nat.not_lt_zero _)
                | succ n48 ih48 =>
                  intro i h z dd hi hh hz hdd hn48 H locs hP hS ls hl
                  have hh8 : h ≤ i := hh ▸ ctq_b _
                  have hz40 : z ≤ a * 8 + i := hz ▸ ctq_b _
                  refine lv_iload hx hb dL_arePages_48 (lv_at hl 0 rfl) ?_
                  refine lv_bipush (v := 8) hx hb dL_arePages_50 (by decide) ?_
                  refine lv_icmp_ge (tgt := 211) hx hb dL_arePages_52 (by decide) (fun c8 => ?_) (fun c8 => ?_)
                  · skip
                    have e8 : i = 8 := by have := nge_i (a := i) (b := 8) (by omega) (by omega) c8; omega
                    subst e8
                    obtain ⟨hA1, hA2, hA3, hA4, hA5⟩ := hA a ha
                    have efl : ful u a 8 = h := by rw [hA5, hh]
                    refine lv_iload_n hx hb dL_arePages_211 rfl (lv_at hl 6 rfl) ?_
                    refine lv_iload hx hb dL_arePages_212 (lv_at hl 2 rfl) ?_
                    refine lv_iadd hx hb dL_arePages_214 ?_
                    refine tpi (y := nI (w + h)) (nI_add w h) ?_
                    refine lv_istore_n (lv' := [(1, .int (nI (w + h))), (7, .int (nI 8)), (6, .int (fb dd)), (5, .int (nI h)), (4, .int (nI a)), (3, .int 1), (2, .int (nI z)), (0, .ref (g 0))]) hx hb dL_arePages_215 rfl hl (by decide) rfl (fun ls hl => ?_)
                    refine lv_iload_n hx hb dL_arePages_216 rfl (lv_at hl 5 rfl) ?_
                    refine lv_if_eq (tgt := 286) hx hb dL_arePages_217 (by decide) (fun c9 => ?_) (fun c9 => ?_)
                    · skip
                      exact (by first | exact absurd c9 (by decide) | exact absurd (by decide) c9)
                    · skip
                      refine lv_aload_n hx hb dL_arePages_220 rfl (lv_at hl 7 rfl) ?_
                      refine lv_iload hx hb dL_arePages_221 (lv_at hl 4 rfl) ?_
                      refine kfV (As := [.int (nI a)]) (rest := []) S (kX4_fullness0 hg u a ha (pgI ha)) (cwV 1 hts gL_arePages_X4_fullness rfl rfl rfl hdX4_fullness ⟨Nat.le_of_ble_eq_true rfl, Nat.le_of_ble_eq_true rfl⟩) rfl rfl 0 rfl rfl hE hP hS (frs hS) rfl hl.1 rfl (Nat.le_of_ble_eq_true rfl) dL_arePages_223 ⟨Nat.le_of_ble_eq_true rfl, Nat.le_of_ble_eq_true rfl⟩ (fun H locs hP _ _ hS => ?_)
                      rw [efl]
                      refine lv_iload hx hb dL_arePages_226 (lv_at hl 3 rfl) ?_
                      refine lv_i2f hx hb dL_arePages_228 ?_
                      refine lv_ldcf (v := 1090519040) hx hb hown (hts _ (List.mem_of_getElem? (i := 1) rfl)) dL_arePages_229 ?_
                      refine lv_fdiv hx hb dL_arePages_231 (fdv_all h (by omega)) ?_
                      refine lv_fcmp hx hb dL_arePages_232 ?_
                      refine tpi (y := 0) (fcmp_all h (by omega)) ?_
                      refine lv_if_ne (tgt := 286) hx hb dL_arePages_233 (by decide) (fun c10 => ?_) (fun c10 => ?_)
                      · skip
                        exact (by first | exact absurd c10 (by decide) | exact absurd (by decide) c10)
                      · skip
                        refine lv_aload_n hx hb dL_arePages_236 rfl (lv_at hl 7 rfl) ?_
                        refine lv_iload hx hb dL_arePages_237 (lv_at hl 4 rfl) ?_
                        refine kiV (As := [.int (nI a)]) (rest := []) S (kX4_isMapped0 hg u a ha (pgI ha) (hA a ha).1) (cwV 1 hts gL_arePages_X4_isMapped rfl rfl rfl hdX4_isMapped ⟨Nat.le_of_ble_eq_true rfl, Nat.le_of_ble_eq_true rfl⟩) rfl rfl 0 rfl rfl hE hP hS (frs hS) rfl hl.1 rfl (Nat.le_of_ble_eq_true rfl) dL_arePages_239 ⟨Nat.le_of_ble_eq_true rfl, Nat.le_of_ble_eq_true rfl⟩ (fun H locs hP _ _ hS => ?_)
                        refine lv_if_eq (tgt := 254) hx hb dL_arePages_242 (by decide) (fun c11 => ?_) (fun c11 => ?_)
                        · skip
                          have hmp0 := c11
                          refine lv_iload hx hb dL_arePages_254 (lv_at hl 2 rfl) ?_
                          refine bzeq (tgt := 268) hx hb dL_arePages_256 (by decide) (fun c12 => ?_) (fun c12 => ?_)
                          · skip
                            have ndw := c12
                            refine lv_iload hx hb dL_arePages_268 (lv_at hl 3 rfl) ?_
                            refine lv_if_gt (tgt := 282) hx hb dL_arePages_270 (by decide) (fun c13 => ?_) (fun c13 => ?_)
                            · skip
                              refine lv_iconst (v := 1) hx hb dL_arePages_282 (by decide) ?_
                              refine lv_goto (tgt := 287) hx hb dL_arePages_283 (by decide) ?_
                              refine lv_istore_n (lv' := [(3, .int 1), (1, .int (nI (w + h))), (7, .int (nI 8)), (6, .int (fb dd)), (5, .int (nI h)), (4, .int (nI a)), (2, .int (nI z)), (0, .ref (g 0))]) hx hb dL_arePages_287 rfl hl (by decide) rfl (fun ls hl => ?_)
                              refine lv_iinc (v := nI (a + 1)) (lv' := [(4, .int (nI (a + 1))), (3, .int 1), (1, .int (nI (w + h))), (7, .int (nI 8)), (6, .int (fb dd)), (5, .int (nI h)), (2, .int (nI z)), (0, .ref (g 0))]) hx hb dL_arePages_288 hl (k := 5) rfl (nI_1 a) (by decide) rfl (fun ls hl => ?_)
                              refine lv_goto (tgt := 29) hx hb dL_arePages_291 (by decide) ?_
                              exact ih29 (a + 1) (w + h) z ha (by rw [show (a + 1) * 8 = a * 8 + 8 by omega, ctq_add 8, hw, hh]) (by rw [hz, show (a + 1) * 8 = a * 8 + 8 by omega]) (ms_s ha hn29) _ _ hP hS ls (lv_sub hl [0, 1, 6, 2, 7] rfl)
                            · skip
                              have hw0 : whP u a (stl u N) := hA4 (by rw [← hh]; exact Nat.eq_zero_of_not_pos (fun z => c13 ((nI_ltI (a := 0) (b := h) (by omega) (by omega)).mpr z)))
                              refine lv_aload_n hx hb dL_arePages_273 rfl (lv_at hl 7 rfl) ?_
                              refine lv_iload hx hb dL_arePages_274 (lv_at hl 4 rfl) ?_
                              refine kiV (As := [.int (nI a)]) (rest := []) S (kX4_isWhole0 hg u a ha (pgI ha) N hN hcn) (cwV 1 hts gL_arePages_X4_isWhole rfl rfl rfl hdX4_isWhole ⟨Nat.le_of_ble_eq_true rfl, Nat.le_of_ble_eq_true rfl⟩) rfl rfl 0 rfl rfl hE hP hS (frs hS) rfl hl.1 rfl (Nat.le_of_ble_eq_true rfl) dL_arePages_276 ⟨Nat.le_of_ble_eq_true rfl, Nat.le_of_ble_eq_true rfl⟩ (fun H locs hP _ _ hS => ?_)
                              refine bzeq (tgt := 286) hx hb dL_arePages_279 (by decide) (fun c14 => ?_) (fun c14 => ?_)
                              · skip
                                exact absurd hw0 c14
                              · skip
                                refine lv_iconst (v := 1) hx hb dL_arePages_282 (by decide) ?_
                                refine lv_goto (tgt := 287) hx hb dL_arePages_283 (by decide) ?_
                                refine lv_istore_n (lv' := [(3, .int 1), (1, .int (nI (w + h))), (7, .int (nI 8)), (6, .int (fb dd)), (5, .int (nI h)), (4, .int (nI a)), (2, .int (nI z)), (0, .ref (g 0))]) hx hb dL_arePages_287 rfl hl (by decide) rfl (fun ls hl => ?_)
                                refine lv_iinc (v := nI (a + 1)) (lv' := [(4, .int (nI (a + 1))), (3, .int 1), (1, .int (nI (w + h))), (7, .int (nI 8)), (6, .int (fb dd)), (5, .int (nI h)), (2, .int (nI z)), (0, .ref (g 0))]) hx hb dL_arePages_288 hl (k := 5) rfl (nI_1 a) (by decide) rfl (fun ls hl => ?_)
                                refine lv_goto (tgt := 29) hx hb dL_arePages_291 (by decide) ?_
                                exact ih29 (a + 1) (w + h) z ha (by rw [show (a + 1) * 8 = a * 8 + 8 by omega, ctq_add 8, hw, hh]) (by rw [hz, show (a + 1) * 8 = a * 8 + 8 by omega]) (ms_s ha hn29) _ _ hP hS ls (lv_sub hl [0, 1, 6, 2, 7] rfl)
                          · skip
                            have ndw : ¬ whP u a (stl u N) := hA3 (hdd.mp c12)
                            refine lv_aload_n hx hb dL_arePages_259 rfl (lv_at hl 7 rfl) ?_
                            refine lv_iload hx hb dL_arePages_260 (lv_at hl 4 rfl) ?_
                            refine kiV (As := [.int (nI a)]) (rest := []) S (kX4_isWhole0 hg u a ha (pgI ha) N hN hcn) (cwV 1 hts gL_arePages_X4_isWhole rfl rfl rfl hdX4_isWhole ⟨Nat.le_of_ble_eq_true rfl, Nat.le_of_ble_eq_true rfl⟩) rfl rfl 0 rfl rfl hE hP hS (frs hS) rfl hl.1 rfl (Nat.le_of_ble_eq_true rfl) dL_arePages_262 ⟨Nat.le_of_ble_eq_true rfl, Nat.le_of_ble_eq_true rfl⟩ (fun H locs hP _ _ hS => ?_)
                            refine bzne (tgt := 286) hx hb dL_arePages_265 (by decide) (fun c15 => ?_) (fun c15 => ?_)
                            · skip
                              exact absurd c15 ndw
                            · skip
                              refine lv_iload hx hb dL_arePages_268 (lv_at hl 3 rfl) ?_
                              refine lv_if_gt (tgt := 282) hx hb dL_arePages_270 (by decide) (fun c16 => ?_) (fun c16 => ?_)
                              · skip
                                refine lv_iconst (v := 1) hx hb dL_arePages_282 (by decide) ?_
                                refine lv_goto (tgt := 287) hx hb dL_arePages_283 (by decide) ?_
                                refine lv_istore_n (lv' := [(3, .int 1), (1, .int (nI (w + h))), (7, .int (nI 8)), (6, .int (fb dd)), (5, .int (nI h)), (4, .int (nI a)), (2, .int (nI z)), (0, .ref (g 0))]) hx hb dL_arePages_287 rfl hl (by decide) rfl (fun ls hl => ?_)
                                refine lv_iinc (v := nI (a + 1)) (lv' := [(4, .int (nI (a + 1))), (3, .int 1), (1, .int (nI (w + h))), (7, .int (nI 8)), (6, .int (fb dd)), (5, .int (nI h)), (2, .int (nI z)), (0, .ref (g 0))]) hx hb dL_arePages_288 hl (k := 5) rfl (nI_1 a) (by decide) rfl (fun ls hl => ?_)
                                refine lv_goto (tgt := 29) hx hb dL_arePages_291 (by decide) ?_
                                exact ih29 (a + 1) (w + h) z ha (by rw [show (a + 1) * 8 = a * 8 + 8 by omega, ctq_add 8, hw, hh]) (by rw [hz, show (a + 1) * 8 = a * 8 + 8 by omega]) (ms_s ha hn29) _ _ hP hS ls (lv_sub hl [0, 1, 6, 2, 7] rfl)
                              · skip
                                have hw0 : whP u a (stl u N) := hA4 (by rw [← hh]; exact Nat.eq_zero_of_not_pos (fun z => c16 ((nI_ltI (a := 0) (b := h) (by omega) (by omega)).mpr z)))
                                refine lv_aload_n hx hb dL_arePages_273 rfl (lv_at hl 7 rfl) ?_
                                refine lv_iload hx hb dL_arePages_274 (lv_at hl 4 rfl) ?_
                                refine kiV (As := [.int (nI a)]) (rest := []) S (kX4_isWhole0 hg u a ha (pgI ha) N hN hcn) (cwV 1 hts gL_arePages_X4_isWhole rfl rfl rfl hdX4_isWhole ⟨Nat.le_of_ble_eq_true rfl, Nat.le_of_ble_eq_true rfl⟩) rfl rfl 0 rfl rfl hE hP hS (frs hS) rfl hl.1 rfl (Nat.le_of_ble_eq_true rfl) dL_arePages_276 ⟨Nat.le_of_ble_eq_true rfl, Nat.le_of_ble_eq_true rfl⟩ (fun H locs hP _ _ hS => ?_)
                                refine bzeq (tgt := 286) hx hb dL_arePages_279 (by decide) (fun c17 => ?_) (fun c17 => ?_)
                                · skip
                                  exact absurd hw0 c17
                                · skip
                                  exact absurd c17 c15
                        · skip
                          have hwh : whP u a (stl u N) := hA2 c11
                          refine lv_aload_n hx hb dL_arePages_245 rfl (lv_at hl 7 rfl) ?_
                          refine lv_iload hx hb dL_arePages_246 (lv_at hl 4 rfl) ?_
                          refine kiV (As := [.int (nI a)]) (rest := []) S (kX4_isWhole0 hg u a ha (pgI ha) N hN hcn) (cwV 1 hts gL_arePages_X4_isWhole rfl rfl rfl hdX4_isWhole ⟨Nat.le_of_ble_eq_true rfl, Nat.le_of_ble_eq_true rfl⟩) rfl rfl 0 rfl rfl hE hP hS (frs hS) rfl hl.1 rfl (Nat.le_of_ble_eq_true rfl) dL_arePages_248 ⟨Nat.le_of_ble_eq_true rfl, Nat.le_of_ble_eq_true rfl⟩ (fun H locs hP _ _ hS => ?_)
                          refine bzeq (tgt := 286) hx hb dL_arePages_251 (by decide) (fun c18 => ?_) (fun c18 => ?_)
                          · skip
                            exact absurd hwh c18
                          · skip
                            refine lv_iload hx hb dL_arePages_254 (lv_at hl 2 rfl) ?_
                            refine bzeq (tgt := 268) hx hb dL_arePages_256 (by decide) (fun c19 => ?_) (fun c19 => ?_)
                            · skip
                              have ndw := c19
                              refine lv_iload hx hb dL_arePages_268 (lv_at hl 3 rfl) ?_
                              refine lv_if_gt (tgt := 282) hx hb dL_arePages_270 (by decide) (fun c20 => ?_) (fun c20 => ?_)
                              · skip
                                refine lv_iconst (v := 1) hx hb dL_arePages_282 (by decide) ?_
                                refine lv_goto (tgt := 287) hx hb dL_arePages_283 (by decide) ?_
                                refine lv_istore_n (lv' := [(3, .int 1), (1, .int (nI (w + h))), (7, .int (nI 8)), (6, .int (fb dd)), (5, .int (nI h)), (4, .int (nI a)), (2, .int (nI z)), (0, .ref (g 0))]) hx hb dL_arePages_287 rfl hl (by decide) rfl (fun ls hl => ?_)
                                refine lv_iinc (v := nI (a + 1)) (lv' := [(4, .int (nI (a + 1))), (3, .int 1), (1, .int (nI (w + h))), (7, .int (nI 8)), (6, .int (fb dd)), (5, .int (nI h)), (2, .int (nI z)), (0, .ref (g 0))]) hx hb dL_arePages_288 hl (k := 5) rfl (nI_1 a) (by decide) rfl (fun ls hl => ?_)
                                refine lv_goto (tgt := 29) hx hb dL_arePages_291 (by decide) ?_
                                exact ih29 (a + 1) (w + h) z ha (by rw [show (a + 1) * 8 = a * 8 + 8 by omega, ctq_add 8, hw, hh]) (by rw [hz, show (a + 1) * 8 = a * 8 + 8 by omega]) (ms_s ha hn29) _ _ hP hS ls (lv_sub hl [0, 1, 6, 2, 7] rfl)
                              · skip
                                have hw0 : whP u a (stl u N) := hA4 (by rw [← hh]; exact Nat.eq_zero_of_not_pos (fun z => c20 ((nI_ltI (a := 0) (b := h) (by omega) (by omega)).mpr z)))
                                refine lv_aload_n hx hb dL_arePages_273 rfl (lv_at hl 7 rfl) ?_
                                refine lv_iload hx hb dL_arePages_274 (lv_at hl 4 rfl) ?_
                                refine kiV (As := [.int (nI a)]) (rest := []) S (kX4_isWhole0 hg u a ha (pgI ha) N hN hcn) (cwV 1 hts gL_arePages_X4_isWhole rfl rfl rfl hdX4_isWhole ⟨Nat.le_of_ble_eq_true rfl, Nat.le_of_ble_eq_true rfl⟩) rfl rfl 0 rfl rfl hE hP hS (frs hS) rfl hl.1 rfl (Nat.le_of_ble_eq_true rfl) dL_arePages_276 ⟨Nat.le_of_ble_eq_true rfl, Nat.le_of_ble_eq_true rfl⟩ (fun H locs hP _ _ hS => ?_)
                                refine bzeq (tgt := 286) hx hb dL_arePages_279 (by decide) (fun c21 => ?_) (fun c21 => ?_)
                                · skip
                                  exact absurd c18 c21
                                · skip
                                  refine lv_iconst (v := 1) hx hb dL_arePages_282 (by decide) ?_
                                  refine lv_goto (tgt := 287) hx hb dL_arePages_283 (by decide) ?_
                                  refine lv_istore_n (lv' := [(3, .int 1), (1, .int (nI (w + h))), (7, .int (nI 8)), (6, .int (fb dd)), (5, .int (nI h)), (4, .int (nI a)), (2, .int (nI z)), (0, .ref (g 0))]) hx hb dL_arePages_287 rfl hl (by decide) rfl (fun ls hl => ?_)
                                  refine lv_iinc (v := nI (a + 1)) (lv' := [(4, .int (nI (a + 1))), (3, .int 1), (1, .int (nI (w + h))), (7, .int (nI 8)), (6, .int (fb dd)), (5, .int (nI h)), (2, .int (nI z)), (0, .ref (g 0))]) hx hb dL_arePages_288 hl (k := 5) rfl (nI_1 a) (by decide) rfl (fun ls hl => ?_)
                                  refine lv_goto (tgt := 29) hx hb dL_arePages_291 (by decide) ?_
                                  exact ih29 (a + 1) (w + h) z ha (by rw [show (a + 1) * 8 = a * 8 + 8 by omega, ctq_add 8, hw, hh]) (by rw [hz, show (a + 1) * 8 = a * 8 + 8 by omega]) (ms_s ha hn29) _ _ hP hS ls (lv_sub hl [0, 1, 6, 2, 7] rfl)
                            · skip
                              have ndw : ¬ whP u a (stl u N) := hA3 (hdd.mp c19)
                              refine lv_aload_n hx hb dL_arePages_259 rfl (lv_at hl 7 rfl) ?_
                              refine lv_iload hx hb dL_arePages_260 (lv_at hl 4 rfl) ?_
                              refine kiV (As := [.int (nI a)]) (rest := []) S (kX4_isWhole0 hg u a ha (pgI ha) N hN hcn) (cwV 1 hts gL_arePages_X4_isWhole rfl rfl rfl hdX4_isWhole ⟨Nat.le_of_ble_eq_true rfl, Nat.le_of_ble_eq_true rfl⟩) rfl rfl 0 rfl rfl hE hP hS (frs hS) rfl hl.1 rfl (Nat.le_of_ble_eq_true rfl) dL_arePages_262 ⟨Nat.le_of_ble_eq_true rfl, Nat.le_of_ble_eq_true rfl⟩ (fun H locs hP _ _ hS => ?_)
                              refine bzne (tgt := 286) hx hb dL_arePages_265 (by decide) (fun c22 => ?_) (fun c22 => ?_)
                              · skip
                                exact absurd c22 ndw
                              · skip
                                exact absurd c18 c22
                  · skip
                    have hlt : i < 8 := nlt_i (a := i) (b := 8) (by omega) (by omega) c8
                    refine lv_iload_n hx hb dL_arePages_55 rfl (lv_at hl 4 rfl) ?_
                    refine lv_if_eq (tgt := 211) hx hb dL_arePages_56 (by decide) (fun c23 => ?_) (fun c23 => ?_)
                    · skip
                      exact (by first | exact absurd c23 (by decide) | exact absurd (by decide) c23)
                    · skip
                      refine lv_aload_n hx hb dL_arePages_59 rfl (lv_at hl 7 rfl) ?_
                      refine lv_iload hx hb dL_arePages_60 (lv_at hl 3 rfl) ?_
                      refine lv_iload hx hb dL_arePages_62 (lv_at hl 0 rfl) ?_
                      have hi8 : i < 8 := hlt
                      obtain ⟨hT1, hT2, hT3⟩ := hT (a * 8 + i) (by omega)
                      refine kiV (As := [.int (nI a), .int (nI i)]) (rest := []) S (kX4_slot0 hg u a ha (pgI ha) i hi8 (slI hi8)) (cwV 2 hts gL_arePages_X4_slot rfl rfl rfl hdX4_slot ⟨Nat.le_of_ble_eq_true rfl, Nat.le_of_ble_eq_true rfl⟩) rfl rfl 0 rfl rfl hE hP hS (frs hS) rfl hl.1 rfl (Nat.le_of_ble_eq_true rfl) dL_arePages_64 ⟨Nat.le_of_ble_eq_true rfl, Nat.le_of_ble_eq_true rfl⟩ (fun H locs hP _ _ hS => ?_)
                      refine tpi (y := oi (tn (a * 8 + i))) hT1 ?_
                      refine lv_istore (lv' := [(8, .int (oi (tn (a * 8 + i)))), (7, .int (nI i)), (6, .int (fb dd)), (5, .int (nI h)), (4, .int (nI a)), (3, .int 1), (2, .int (nI z)), (1, .int (nI w)), (0, .ref (g 0))]) hx hb dL_arePages_67 hl (by decide) rfl (fun ls hl => ?_)
                      refine lv_iload hx hb dL_arePages_69 (lv_at hl 3 rfl) ?_
                      refine lv_iload hx hb dL_arePages_71 (lv_at hl 0 rfl) ?_
                      refine lv_if_lt (tgt := 80) hx hb dL_arePages_73 (by decide) (fun c24 => ?_) (fun c24 => ?_)
                      · skip
                        have e0 : tn (a * 8 + i) = 0 := oi_lt (by omega) c24
                        have hu9 : ¬ 1 ≤ tn (a * 8 + i) := by omega
                        have hd8 : ¬ deadP (tn (a * 8 + i)) := fun z => by obtain ⟨m7, z1, z2⟩ := z; omega
                        have hp9 : ¬ 101 ≤ tn (a * 8 + i) := by omega
                        rw [e0, show oi 0 = -1 from rfl] at hl
                        refine lv_iconst (v := 0) hx hb dL_arePages_80 (by decide) ?_
                        refine lv_iadd hx hb dL_arePages_81 ?_
                        refine tpi (y := nI h) (Int32.add_zero (nI h)) ?_
                        refine lv_istore (lv' := [(5, .int (nI h)), (8, .int (-1)), (7, .int (nI i)), (6, .int (fb dd)), (4, .int (nI a)), (3, .int 1), (2, .int (nI z)), (1, .int (nI w)), (0, .ref (g 0))]) hx hb dL_arePages_82 hl (by decide) rfl (fun ls hl => ?_)
                        refine lv_iload hx hb dL_arePages_84 (lv_at hl 3 rfl) ?_
                        refine bzne (tgt := 106) hx hb dL_arePages_86 (by decide) (fun c25 => ?_) (fun c25 => ?_)
                        · skip
                          have hd9 : dd ∨ deadP (tn (a * 8 + i)) := Or.inl c25
                          refine lv_iconst (v := 1) hx hb dL_arePages_106 (by decide) ?_
                          refine lv_goto (tgt := 111) hx hb dL_arePages_107 (by decide) ?_
                          refine tpi (y := fb (dd ∨ deadP (tn (a * 8 + i)))) (by first | exact t_fb hd9 | exact f_fb hd9) ?_
                          refine lv_istore (lv' := [(6, .int (fb (dd ∨ deadP (tn (a * 8 + i))))), (5, .int (nI h)), (8, .int (-1)), (7, .int (nI i)), (4, .int (nI a)), (3, .int 1), (2, .int (nI z)), (1, .int (nI w)), (0, .ref (g 0))]) hx hb dL_arePages_111 hl (by decide) rfl (fun ls hl => ?_)
                          refine lv_iload hx hb dL_arePages_113 (lv_at hl 2 rfl) ?_
                          refine lv_bipush (v := 100) hx hb dL_arePages_115 (by decide) ?_
                          refine lv_icmp_lt (tgt := 174) hx hb dL_arePages_117 (by decide) (fun c26 => ?_) (fun c26 => ?_)
                          · skip
                            refine lv_iload_n hx hb dL_arePages_174 rfl (lv_at hl 5 rfl) ?_
                            refine lv_if_eq (tgt := 203) hx hb dL_arePages_175 (by decide) (fun c27 => ?_) (fun c27 => ?_)
                            · skip
                              exact absurd c27 c23
                            · skip
                              refine lv_iload hx hb dL_arePages_178 (lv_at hl 2 rfl) ?_
                              refine lv_iconst (v := (-1)) hx hb dL_arePages_180 (by decide) ?_
                              refine lv_icmp_lt (tgt := 203) hx hb dL_arePages_181 (by decide) (fun c28 => ?_) (fun c28 => ?_)
                              · skip
                                exact absurd c28 (by decide)
                              · skip
                                refine lv_iload hx hb dL_arePages_184 (lv_at hl 2 rfl) ?_
                                refine lv_if_lt (tgt := 199) hx hb dL_arePages_186 (by decide) (fun c29 => ?_) (fun c29 => ?_)
                                · skip
                                  refine lv_iconst (v := 1) hx hb dL_arePages_199 (by decide) ?_
                                  refine lv_goto (tgt := 204) hx hb dL_arePages_200 (by decide) ?_
                                  refine lv_istore_n (lv' := [(3, .int 1), (6, .int (fb (dd ∨ deadP (tn (a * 8 + i))))), (5, .int (nI h)), (8, .int (-1)), (7, .int (nI i)), (4, .int (nI a)), (2, .int (nI z)), (1, .int (nI w)), (0, .ref (g 0))]) hx hb dL_arePages_204 rfl hl (by decide) rfl (fun ls hl => ?_)
                                  refine lv_iinc (v := nI (i + 1)) (lv' := [(7, .int (nI (i + 1))), (3, .int 1), (6, .int (fb (dd ∨ deadP (tn (a * 8 + i))))), (5, .int (nI h)), (8, .int (-1)), (4, .int (nI a)), (2, .int (nI z)), (1, .int (nI w)), (0, .ref (g 0))]) hx hb dL_arePages_205 hl (k := 4) rfl (nI_1 i) (by decide) rfl (fun ls hl => ?_)
                                  refine lv_goto (tgt := 48) hx hb dL_arePages_208 (by decide) ?_
                                  exact ih48 (i + 1) h z (dd ∨ deadP (tn (a * 8 + i))) hi8 (by first | rw [ctq_y (p := fun j => 1 ≤ tn (a * 8 + j)) hu9, hh] | rw [ctq_n (p := fun j => 1 ≤ tn (a * 8 + j)) hu9, hh]) (by first | exact (congrArg (· + 1) hz).trans (ctq_y (p := fun q => 101 ≤ tn q) hp9).symm | exact hz.trans (ctq_n (p := fun q => 101 ≤ tn q) hp9).symm) (dds (p := fun j => deadP (tn (a * 8 + j))) hdd) (ms_s hi8 hn48) _ _ hP hS ls (lv_sub hl [0, 2, 3, 5, 1, 6, 7, 8] rfl)
                                · skip
                                  exact (by first | exact absurd c29 (by decide) | exact absurd (by decide) c29)
                          · skip
                            exact absurd (by decide) c26
                        · skip
                          have ndd : ¬ dd := c25
                          refine lv_iload hx hb dL_arePages_89 (lv_at hl 1 rfl) ?_
                          refine lv_if_lt (tgt := 110) hx hb dL_arePages_91 (by decide) (fun c30 => ?_) (fun c30 => ?_)
                          · skip
                            have hd9 : ¬ (dd ∨ deadP (tn (a * 8 + i))) := fun z => z.elim ndd hd8
                            refine lv_iconst (v := 0) hx hb dL_arePages_110 (by decide) ?_
                            refine tpi (y := fb (dd ∨ deadP (tn (a * 8 + i)))) (by first | exact t_fb hd9 | exact f_fb hd9) ?_
                            refine lv_istore (lv' := [(6, .int (fb (dd ∨ deadP (tn (a * 8 + i))))), (5, .int (nI h)), (8, .int (-1)), (7, .int (nI i)), (4, .int (nI a)), (3, .int 1), (2, .int (nI z)), (1, .int (nI w)), (0, .ref (g 0))]) hx hb dL_arePages_111 hl (by decide) rfl (fun ls hl => ?_)
                            refine lv_iload hx hb dL_arePages_113 (lv_at hl 2 rfl) ?_
                            refine lv_bipush (v := 100) hx hb dL_arePages_115 (by decide) ?_
                            refine lv_icmp_lt (tgt := 174) hx hb dL_arePages_117 (by decide) (fun c31 => ?_) (fun c31 => ?_)
                            · skip
                              refine lv_iload_n hx hb dL_arePages_174 rfl (lv_at hl 5 rfl) ?_
                              refine lv_if_eq (tgt := 203) hx hb dL_arePages_175 (by decide) (fun c32 => ?_) (fun c32 => ?_)
                              · skip
                                exact absurd c32 c23
                              · skip
                                refine lv_iload hx hb dL_arePages_178 (lv_at hl 2 rfl) ?_
                                refine lv_iconst (v := (-1)) hx hb dL_arePages_180 (by decide) ?_
                                refine lv_icmp_lt (tgt := 203) hx hb dL_arePages_181 (by decide) (fun c33 => ?_) (fun c33 => ?_)
                                · skip
                                  exact absurd c33 (by decide)
                                · skip
                                  refine lv_iload hx hb dL_arePages_184 (lv_at hl 2 rfl) ?_
                                  refine lv_if_lt (tgt := 199) hx hb dL_arePages_186 (by decide) (fun c34 => ?_) (fun c34 => ?_)
                                  · skip
                                    refine lv_iconst (v := 1) hx hb dL_arePages_199 (by decide) ?_
                                    refine lv_goto (tgt := 204) hx hb dL_arePages_200 (by decide) ?_
                                    refine lv_istore_n (lv' := [(3, .int 1), (6, .int (fb (dd ∨ deadP (tn (a * 8 + i))))), (5, .int (nI h)), (8, .int (-1)), (7, .int (nI i)), (4, .int (nI a)), (2, .int (nI z)), (1, .int (nI w)), (0, .ref (g 0))]) hx hb dL_arePages_204 rfl hl (by decide) rfl (fun ls hl => ?_)
                                    refine lv_iinc (v := nI (i + 1)) (lv' := [(7, .int (nI (i + 1))), (3, .int 1), (6, .int (fb (dd ∨ deadP (tn (a * 8 + i))))), (5, .int (nI h)), (8, .int (-1)), (4, .int (nI a)), (2, .int (nI z)), (1, .int (nI w)), (0, .ref (g 0))]) hx hb dL_arePages_205 hl (k := 4) rfl (nI_1 i) (by decide) rfl (fun ls hl => ?_)
                                    refine lv_goto (tgt := 48) hx hb dL_arePages_208 (by decide) ?_
                                    exact ih48 (i + 1) h z (dd ∨ deadP (tn (a * 8 + i))) hi8 (by first | rw [ctq_y (p := fun j => 1 ≤ tn (a * 8 + j)) hu9, hh] | rw [ctq_n (p := fun j => 1 ≤ tn (a * 8 + j)) hu9, hh]) (by first | exact (congrArg (· + 1) hz).trans (ctq_y (p := fun q => 101 ≤ tn q) hp9).symm | exact hz.trans (ctq_n (p := fun q => 101 ≤ tn q) hp9).symm) (dds (p := fun j => deadP (tn (a * 8 + j))) hdd) (ms_s hi8 hn48) _ _ hP hS ls (lv_sub hl [0, 2, 3, 5, 1, 6, 7, 8] rfl)
                                  · skip
                                    exact (by first | exact absurd c34 (by decide) | exact absurd (by decide) c34)
                            · skip
                              exact absurd (by decide) c31
                          · skip
                            exact (by first | exact absurd c30 (by decide) | exact absurd (by decide) c30)
                      · skip
                        obtain ⟨mm, em⟩ := oi_ge c24
                        have hu9 : 1 ≤ tn (a * 8 + i) := by omega
                        have hm9 : mm ≤ 899 := by omega
                        obtain ⟨h10, hnx⟩ := hT3 mm em
                        rw [em, show oi (mm + 1) = nI mm from rfl] at hl
                        refine lv_iconst (v := 1) hx hb dL_arePages_76 (by decide) ?_
                        refine lv_goto (tgt := 81) hx hb dL_arePages_77 (by decide) ?_
                        refine lv_iadd hx hb dL_arePages_81 ?_
                        refine tpi (y := nI (h + 1)) (nI_1 h) ?_
                        refine lv_istore (lv' := [(5, .int (nI (h + 1))), (8, .int (nI mm)), (7, .int (nI i)), (6, .int (fb dd)), (4, .int (nI a)), (3, .int 1), (2, .int (nI z)), (1, .int (nI w)), (0, .ref (g 0))]) hx hb dL_arePages_82 hl (by decide) rfl (fun ls hl => ?_)
                        refine lv_iload hx hb dL_arePages_84 (lv_at hl 3 rfl) ?_
                        refine bzne (tgt := 106) hx hb dL_arePages_86 (by decide) (fun c35 => ?_) (fun c35 => ?_)
                        · skip
                          have hd9 : dd ∨ deadP (tn (a * 8 + i)) := Or.inl c35
                          refine lv_iconst (v := 1) hx hb dL_arePages_106 (by decide) ?_
                          refine lv_goto (tgt := 111) hx hb dL_arePages_107 (by decide) ?_
                          refine tpi (y := fb (dd ∨ deadP (tn (a * 8 + i)))) (by first | exact t_fb hd9 | exact f_fb hd9) ?_
                          refine lv_istore (lv' := [(6, .int (fb (dd ∨ deadP (tn (a * 8 + i))))), (5, .int (nI (h + 1))), (8, .int (nI mm)), (7, .int (nI i)), (4, .int (nI a)), (3, .int 1), (2, .int (nI z)), (1, .int (nI w)), (0, .ref (g 0))]) hx hb dL_arePages_111 hl (by decide) rfl (fun ls hl => ?_)
                          refine lv_iload hx hb dL_arePages_113 (lv_at hl 2 rfl) ?_
                          refine lv_bipush (v := 100) hx hb dL_arePages_115 (by decide) ?_
                          refine lv_icmp_lt (tgt := 174) hx hb dL_arePages_117 (by decide) (fun c36 => ?_) (fun c36 => ?_)
                          · skip
                            have hm1 : mm < 100 := nltI (a := mm) (b := 100) (by omega) (by omega) c36
                            have hp9 : ¬ 101 ≤ tn (a * 8 + i) := by omega
                            refine lv_iload_n hx hb dL_arePages_174 rfl (lv_at hl 5 rfl) ?_
                            refine lv_if_eq (tgt := 203) hx hb dL_arePages_175 (by decide) (fun c37 => ?_) (fun c37 => ?_)
                            · skip
                              exact absurd c37 c23
                            · skip
                              refine lv_iload hx hb dL_arePages_178 (lv_at hl 2 rfl) ?_
                              refine lv_iconst (v := (-1)) hx hb dL_arePages_180 (by decide) ?_
                              refine lv_icmp_lt (tgt := 203) hx hb dL_arePages_181 (by decide) (fun c38 => ?_) (fun c38 => ?_)
                              · skip
                                exact absurd c38 (nm1 (by omega))
                              · skip
                                refine lv_iload hx hb dL_arePages_184 (lv_at hl 2 rfl) ?_
                                refine lv_if_lt (tgt := 199) hx hb dL_arePages_186 (by decide) (fun c39 => ?_) (fun c39 => ?_)
                                · skip
                                  exact absurd c39 (nI_pos (by omega))
                                · skip
                                  refine lv_iload hx hb dL_arePages_189 (lv_at hl 2 rfl) ?_
                                  refine lv_bipush (v := 10) hx hb dL_arePages_191 (by decide) ?_
                                  refine lv_irem hx hb dL_arePages_193 (by decide) ?_
                                  refine tpi (y := nI (mm % 10)) (pk_rem (d := 10) (by omega) (by omega) (by omega)) ?_
                                  refine lv_bipush (v := 6) hx hb dL_arePages_194 (by decide) ?_
                                  refine lv_icmp_ge (tgt := 203) hx hb dL_arePages_196 (by decide) (fun c40 => ?_) (fun c40 => ?_)
                                  · skip
                                    exact absurd (nge_i (a := mm % 10) (b := 6) (by omega) (by omega) c40) (by omega)
                                  · skip
                                    refine lv_iconst (v := 1) hx hb dL_arePages_199 (by decide) ?_
                                    refine lv_goto (tgt := 204) hx hb dL_arePages_200 (by decide) ?_
                                    refine lv_istore_n (lv' := [(3, .int 1), (6, .int (fb (dd ∨ deadP (tn (a * 8 + i))))), (5, .int (nI (h + 1))), (8, .int (nI mm)), (7, .int (nI i)), (4, .int (nI a)), (2, .int (nI z)), (1, .int (nI w)), (0, .ref (g 0))]) hx hb dL_arePages_204 rfl hl (by decide) rfl (fun ls hl => ?_)
                                    refine lv_iinc (v := nI (i + 1)) (lv' := [(7, .int (nI (i + 1))), (3, .int 1), (6, .int (fb (dd ∨ deadP (tn (a * 8 + i))))), (5, .int (nI (h + 1))), (8, .int (nI mm)), (4, .int (nI a)), (2, .int (nI z)), (1, .int (nI w)), (0, .ref (g 0))]) hx hb dL_arePages_205 hl (k := 4) rfl (nI_1 i) (by decide) rfl (fun ls hl => ?_)
                                    refine lv_goto (tgt := 48) hx hb dL_arePages_208 (by decide) ?_
                                    exact ih48 (i + 1) (h + 1) z (dd ∨ deadP (tn (a * 8 + i))) hi8 (by first | rw [ctq_y (p := fun j => 1 ≤ tn (a * 8 + j)) hu9, hh] | rw [ctq_n (p := fun j => 1 ≤ tn (a * 8 + j)) hu9, hh]) (by first | exact (congrArg (· + 1) hz).trans (ctq_y (p := fun q => 101 ≤ tn q) hp9).symm | exact hz.trans (ctq_n (p := fun q => 101 ≤ tn q) hp9).symm) (dds (p := fun j => deadP (tn (a * 8 + j))) hdd) (ms_s hi8 hn48) _ _ hP hS ls (lv_sub hl [0, 2, 3, 5, 1, 6, 7, 8] rfl)
                          · skip
                            have hm1 : 100 ≤ mm := Nat.not_lt.mp (fun z => c36 ((nI_ltI (a := mm) (b := 100) (by omega) (by omega)).mpr z))
                            have hp9 : 101 ≤ tn (a * 8 + i) := by omega
                            obtain ⟨hx8, hne, m2, e2, e3⟩ := hnx hm1
                            obtain ⟨x9, hx9⟩ : ∃ x, mm / 100 = x + 1 := ⟨mm / 100 - 1, by omega⟩
                            rw [show mm / 100 - 1 = x9 by omega] at hx8 hne e2
                            rw [show (a * 8 + i) / 8 * 8 = a * 8 by omega] at e2
                            rw [show (a * 8 + i) % 8 = i by omega] at hne
                            have hm2 : m2 ≤ 899 := by have := (hT (a * 8 + x9) (by omega)).2.1; omega
                            have es2 : slv u (a * 8 + x9) = nI m2 := by rw [(hT (a * 8 + x9) (by omega)).1, e2]; rfl
                            refine lv_aload_n hx hb dL_arePages_120 rfl (lv_at hl 8 rfl) ?_
                            refine lv_iload hx hb dL_arePages_121 (lv_at hl 4 rfl) ?_
                            refine lv_iload hx hb dL_arePages_123 (lv_at hl 2 rfl) ?_
                            refine lv_bipush (v := 100) hx hb dL_arePages_125 (by decide) ?_
                            refine lv_idiv hx hb dL_arePages_127 (by decide) ?_
                            refine tpi (y := nI (mm / 100)) (pk_div (d := 100) (by omega) (by omega) (by omega)) ?_
                            refine lv_iconst (v := 1) hx hb dL_arePages_128 (by decide) ?_
                            refine lv_isub hx hb dL_arePages_129 ?_
                            refine tpi (y := nI x9) (by rw [hx9, nI_pred]) ?_
                            refine kiV (As := [.int (nI a), .int (nI x9)]) (rest := []) S (kX4_slot0 hg u a ha (pgI ha) x9 hx8 (slI hx8)) (cwV 2 hts gL_arePages_X4_slot rfl rfl rfl hdX4_slot ⟨Nat.le_of_ble_eq_true rfl, Nat.le_of_ble_eq_true rfl⟩) rfl rfl 0 rfl rfl hE hP hS (frs hS) rfl hl.1 rfl (Nat.le_of_ble_eq_true rfl) dL_arePages_130 ⟨Nat.le_of_ble_eq_true rfl, Nat.le_of_ble_eq_true rfl⟩ (fun H locs hP _ _ hS => ?_)
                            refine tpi (y := nI m2) es2 ?_
                            refine lv_istore (lv' := [(9, .int (nI m2)), (6, .int (fb (dd ∨ deadP (tn (a * 8 + i))))), (5, .int (nI (h + 1))), (8, .int (nI mm)), (7, .int (nI i)), (4, .int (nI a)), (3, .int 1), (2, .int (nI z)), (1, .int (nI w)), (0, .ref (g 0))]) hx hb dL_arePages_133 hl (by decide) rfl (fun ls hl => ?_)
                            refine lv_iinc (v := nI (z + 1)) (lv' := [(2, .int (nI (z + 1))), (9, .int (nI m2)), (6, .int (fb (dd ∨ deadP (tn (a * 8 + i))))), (5, .int (nI (h + 1))), (8, .int (nI mm)), (7, .int (nI i)), (4, .int (nI a)), (3, .int 1), (1, .int (nI w)), (0, .ref (g 0))]) hx hb dL_arePages_135 hl (k := 7) rfl (nI_1 z) (by decide) rfl (fun ls hl => ?_)
                            refine lv_iload hx hb dL_arePages_138 (lv_at hl 1 rfl) ?_
                            refine lv_if_lt (tgt := 172) hx hb dL_arePages_140 (by decide) (fun c41 => ?_) (fun c41 => ?_)
                            · skip
                              exact absurd c41 (nI_pos (by omega))
                            · skip
                              refine lv_iload hx hb dL_arePages_143 (lv_at hl 1 rfl) ?_
                              refine lv_bipush (v := 10) hx hb dL_arePages_145 (by decide) ?_
                              refine lv_irem hx hb dL_arePages_147 (by decide) ?_
                              refine tpi (y := nI (m2 % 10)) (pk_rem (d := 10) (by omega) (by omega) (by omega)) ?_
                              refine lv_iload hx hb dL_arePages_148 (lv_at hl 4 rfl) ?_
                              refine lv_bipush (v := 10) hx hb dL_arePages_150 (by decide) ?_
                              refine lv_irem hx hb dL_arePages_152 (by decide) ?_
                              refine tpi (y := nI (mm % 10)) (pk_rem (d := 10) (by omega) (by omega) (by omega)) ?_
                              refine lv_icmp_ne (tgt := 172) hx hb dL_arePages_153 (by decide) (fun c42 => ?_) (fun c42 => ?_)
                              · skip
                                exact absurd (congrArg nI e3) c42
                              · skip
                                refine lv_iload hx hb dL_arePages_156 (lv_at hl 4 rfl) ?_
                                refine lv_bipush (v := 100) hx hb dL_arePages_158 (by decide) ?_
                                refine lv_idiv hx hb dL_arePages_160 (by decide) ?_
                                refine tpi (y := nI (mm / 100)) (pk_div (d := 100) (by omega) (by omega) (by omega)) ?_
                                refine lv_iconst (v := 1) hx hb dL_arePages_161 (by decide) ?_
                                refine lv_isub hx hb dL_arePages_162 ?_
                                refine tpi (y := nI x9) (by rw [hx9, nI_pred]) ?_
                                refine lv_iload hx hb dL_arePages_163 (lv_at hl 5 rfl) ?_
                                refine lv_icmp_eq (tgt := 172) hx hb dL_arePages_165 (by decide) (fun c43 => ?_) (fun c43 => ?_)
                                · skip
                                  exact absurd ((nI_eq (by omega) (by omega)).mp c43) hne
                                · skip
                                  refine lv_iconst (v := 1) hx hb dL_arePages_168 (by decide) ?_
                                  refine lv_goto (tgt := 173) hx hb dL_arePages_169 (by decide) ?_
                                  refine lv_istore_n (lv' := [(3, .int 1), (2, .int (nI (z + 1))), (9, .int (nI m2)), (6, .int (fb (dd ∨ deadP (tn (a * 8 + i))))), (5, .int (nI (h + 1))), (8, .int (nI mm)), (7, .int (nI i)), (4, .int (nI a)), (1, .int (nI w)), (0, .ref (g 0))]) hx hb dL_arePages_173 rfl hl (by decide) rfl (fun ls hl => ?_)
                                  refine lv_iload_n hx hb dL_arePages_174 rfl (lv_at hl 0 rfl) ?_
                                  refine lv_if_eq (tgt := 203) hx hb dL_arePages_175 (by decide) (fun c44 => ?_) (fun c44 => ?_)
                                  · skip
                                    exact absurd c44 c23
                                  · skip
                                    refine lv_iload hx hb dL_arePages_178 (lv_at hl 5 rfl) ?_
                                    refine lv_iconst (v := (-1)) hx hb dL_arePages_180 (by decide) ?_
                                    refine lv_icmp_lt (tgt := 203) hx hb dL_arePages_181 (by decide) (fun c45 => ?_) (fun c45 => ?_)
                                    · skip
                                      exact absurd c45 (nm1 (by omega))
                                    · skip
                                      refine lv_iload hx hb dL_arePages_184 (lv_at hl 5 rfl) ?_
                                      refine lv_if_lt (tgt := 199) hx hb dL_arePages_186 (by decide) (fun c46 => ?_) (fun c46 => ?_)
                                      · skip
                                        exact absurd c46 (nI_pos (by omega))
                                      · skip
                                        refine lv_iload hx hb dL_arePages_189 (lv_at hl 5 rfl) ?_
                                        refine lv_bipush (v := 10) hx hb dL_arePages_191 (by decide) ?_
                                        refine lv_irem hx hb dL_arePages_193 (by decide) ?_
                                        refine tpi (y := nI (mm % 10)) (pk_rem (d := 10) (by omega) (by omega) (by omega)) ?_
                                        refine lv_bipush (v := 6) hx hb dL_arePages_194 (by decide) ?_
                                        refine lv_icmp_ge (tgt := 203) hx hb dL_arePages_196 (by decide) (fun c47 => ?_) (fun c47 => ?_)
                                        · skip
                                          exact absurd (nge_i (a := mm % 10) (b := 6) (by omega) (by omega) c47) (by omega)
                                        · skip
                                          refine lv_iconst (v := 1) hx hb dL_arePages_199 (by decide) ?_
                                          refine lv_goto (tgt := 204) hx hb dL_arePages_200 (by decide) ?_
                                          refine lv_istore_n (lv' := [(3, .int 1), (2, .int (nI (z + 1))), (9, .int (nI m2)), (6, .int (fb (dd ∨ deadP (tn (a * 8 + i))))), (5, .int (nI (h + 1))), (8, .int (nI mm)), (7, .int (nI i)), (4, .int (nI a)), (1, .int (nI w)), (0, .ref (g 0))]) hx hb dL_arePages_204 rfl hl (by decide) rfl (fun ls hl => ?_)
                                          refine lv_iinc (v := nI (i + 1)) (lv' := [(7, .int (nI (i + 1))), (3, .int 1), (2, .int (nI (z + 1))), (9, .int (nI m2)), (6, .int (fb (dd ∨ deadP (tn (a * 8 + i))))), (5, .int (nI (h + 1))), (8, .int (nI mm)), (4, .int (nI a)), (1, .int (nI w)), (0, .ref (g 0))]) hx hb dL_arePages_205 hl (k := 6) rfl (nI_1 i) (by decide) rfl (fun ls hl => ?_)
                                          refine lv_goto (tgt := 48) hx hb dL_arePages_208 (by decide) ?_
                                          exact ih48 (i + 1) (h + 1) (z + 1) (dd ∨ deadP (tn (a * 8 + i))) hi8 (by first | rw [ctq_y (p := fun j => 1 ≤ tn (a * 8 + j)) hu9, hh] | rw [ctq_n (p := fun j => 1 ≤ tn (a * 8 + j)) hu9, hh]) (by first | exact (congrArg (· + 1) hz).trans (ctq_y (p := fun q => 101 ≤ tn q) hp9).symm | exact hz.trans (ctq_n (p := fun q => 101 ≤ tn q) hp9).symm) (dds (p := fun j => deadP (tn (a * 8 + j))) hdd) (ms_s hi8 hn48) _ _ hP hS ls (lv_sub hl [0, 4, 5, 7, 1, 2, 8, 9] rfl)
                        · skip
                          have ndd : ¬ dd := c35
                          refine lv_iload hx hb dL_arePages_89 (lv_at hl 1 rfl) ?_
                          refine lv_if_lt (tgt := 110) hx hb dL_arePages_91 (by decide) (fun c48 => ?_) (fun c48 => ?_)
                          · skip
                            exact absurd c48 (nI_pos (by omega))
                          · skip
                            refine lv_iload hx hb dL_arePages_94 (lv_at hl 1 rfl) ?_
                            refine lv_bipush (v := 10) hx hb dL_arePages_96 (by decide) ?_
                            refine lv_idiv hx hb dL_arePages_98 (by decide) ?_
                            refine tpi (y := nI (mm / 10)) (pk_div (d := 10) (by omega) (by omega) (by omega)) ?_
                            refine lv_bipush (v := 10) hx hb dL_arePages_99 (by decide) ?_
                            refine lv_irem hx hb dL_arePages_101 (by decide) ?_
                            refine tpi (y := nI (mm / 10 % 10)) (pk_rem (d := 10) (by omega) (by omega) (by omega)) ?_
                            refine lv_iconst (v := 2) hx hb dL_arePages_102 (by decide) ?_
                            refine lv_icmp_lt (tgt := 110) hx hb dL_arePages_103 (by decide) (fun c49 => ?_) (fun c49 => ?_)
                            · skip
                              have hd9 : ¬ (dd ∨ deadP (tn (a * 8 + i))) := fun z => z.elim ndd (fun ⟨m1, y1, y2⟩ => by have := nltI (a := mm / 10 % 10) (b := 2) (by omega) (by omega) c49; have e7 : m1 = mm := (by omega); subst e7; omega)
                              refine lv_iconst (v := 0) hx hb dL_arePages_110 (by decide) ?_
                              refine tpi (y := fb (dd ∨ deadP (tn (a * 8 + i)))) (by first | exact t_fb hd9 | exact f_fb hd9) ?_
                              refine lv_istore (lv' := [(6, .int (fb (dd ∨ deadP (tn (a * 8 + i))))), (5, .int (nI (h + 1))), (8, .int (nI mm)), (7, .int (nI i)), (4, .int (nI a)), (3, .int 1), (2, .int (nI z)), (1, .int (nI w)), (0, .ref (g 0))]) hx hb dL_arePages_111 hl (by decide) rfl (fun ls hl => ?_)
                              refine lv_iload hx hb dL_arePages_113 (lv_at hl 2 rfl) ?_
                              refine lv_bipush (v := 100) hx hb dL_arePages_115 (by decide) ?_
                              refine lv_icmp_lt (tgt := 174) hx hb dL_arePages_117 (by decide) (fun c50 => ?_) (fun c50 => ?_)
                              · skip
                                have hm1 : mm < 100 := nltI (a := mm) (b := 100) (by omega) (by omega) c50
                                have hp9 : ¬ 101 ≤ tn (a * 8 + i) := by omega
                                refine lv_iload_n hx hb dL_arePages_174 rfl (lv_at hl 5 rfl) ?_
                                refine lv_if_eq (tgt := 203) hx hb dL_arePages_175 (by decide) (fun c51 => ?_) (fun c51 => ?_)
                                · skip
                                  exact absurd c51 c23
                                · skip
                                  refine lv_iload hx hb dL_arePages_178 (lv_at hl 2 rfl) ?_
                                  refine lv_iconst (v := (-1)) hx hb dL_arePages_180 (by decide) ?_
                                  refine lv_icmp_lt (tgt := 203) hx hb dL_arePages_181 (by decide) (fun c52 => ?_) (fun c52 => ?_)
                                  · skip
                                    exact absurd c52 (nm1 (by omega))
                                  · skip
                                    refine lv_iload hx hb dL_arePages_184 (lv_at hl 2 rfl) ?_
                                    refine lv_if_lt (tgt := 199) hx hb dL_arePages_186 (by decide) (fun c53 => ?_) (fun c53 => ?_)
                                    · skip
                                      exact absurd c53 (nI_pos (by omega))
                                    · skip
                                      refine lv_iload hx hb dL_arePages_189 (lv_at hl 2 rfl) ?_
                                      refine lv_bipush (v := 10) hx hb dL_arePages_191 (by decide) ?_
                                      refine lv_irem hx hb dL_arePages_193 (by decide) ?_
                                      refine tpi (y := nI (mm % 10)) (pk_rem (d := 10) (by omega) (by omega) (by omega)) ?_
                                      refine lv_bipush (v := 6) hx hb dL_arePages_194 (by decide) ?_
                                      refine lv_icmp_ge (tgt := 203) hx hb dL_arePages_196 (by decide) (fun c54 => ?_) (fun c54 => ?_)
                                      · skip
                                        exact absurd (nge_i (a := mm % 10) (b := 6) (by omega) (by omega) c54) (by omega)
                                      · skip
                                        refine lv_iconst (v := 1) hx hb dL_arePages_199 (by decide) ?_
                                        refine lv_goto (tgt := 204) hx hb dL_arePages_200 (by decide) ?_
                                        refine lv_istore_n (lv' := [(3, .int 1), (6, .int (fb (dd ∨ deadP (tn (a * 8 + i))))), (5, .int (nI (h + 1))), (8, .int (nI mm)), (7, .int (nI i)), (4, .int (nI a)), (2, .int (nI z)), (1, .int (nI w)), (0, .ref (g 0))]) hx hb dL_arePages_204 rfl hl (by decide) rfl (fun ls hl => ?_)
                                        refine lv_iinc (v := nI (i + 1)) (lv' := [(7, .int (nI (i + 1))), (3, .int 1), (6, .int (fb (dd ∨ deadP (tn (a * 8 + i))))), (5, .int (nI (h + 1))), (8, .int (nI mm)), (4, .int (nI a)), (2, .int (nI z)), (1, .int (nI w)), (0, .ref (g 0))]) hx hb dL_arePages_205 hl (k := 4) rfl (nI_1 i) (by decide) rfl (fun ls hl => ?_)
                                        refine lv_goto (tgt := 48) hx hb dL_arePages_208 (by decide) ?_
                                        exact ih48 (i + 1) (h + 1) z (dd ∨ deadP (tn (a * 8 + i))) hi8 (by first | rw [ctq_y (p := fun j => 1 ≤ tn (a * 8 + j)) hu9, hh] | rw [ctq_n (p := fun j => 1 ≤ tn (a * 8 + j)) hu9, hh]) (by first | exact (congrArg (· + 1) hz).trans (ctq_y (p := fun q => 101 ≤ tn q) hp9).symm | exact hz.trans (ctq_n (p := fun q => 101 ≤ tn q) hp9).symm) (dds (p := fun j => deadP (tn (a * 8 + j))) hdd) (ms_s hi8 hn48) _ _ hP hS ls (lv_sub hl [0, 2, 3, 5, 1, 6, 7, 8] rfl)
                              · skip
                                have hm1 : 100 ≤ mm := Nat.not_lt.mp (fun z => c50 ((nI_ltI (a := mm) (b := 100) (by omega) (by omega)).mpr z))
                                have hp9 : 101 ≤ tn (a * 8 + i) := by omega
                                obtain ⟨hx8, hne, m2, e2, e3⟩ := hnx hm1
                                obtain ⟨x9, hx9⟩ : ∃ x, mm / 100 = x + 1 := ⟨mm / 100 - 1, by omega⟩
                                rw [show mm / 100 - 1 = x9 by omega] at hx8 hne e2
                                rw [show (a * 8 + i) / 8 * 8 = a * 8 by omega] at e2
                                rw [show (a * 8 + i) % 8 = i by omega] at hne
                                have hm2 : m2 ≤ 899 := by have := (hT (a * 8 + x9) (by omega)).2.1; omega
                                have es2 : slv u (a * 8 + x9) = nI m2 := by rw [(hT (a * 8 + x9) (by omega)).1, e2]; rfl
                                refine lv_aload_n hx hb dL_arePages_120 rfl (lv_at hl 8 rfl) ?_
                                refine lv_iload hx hb dL_arePages_121 (lv_at hl 4 rfl) ?_
                                refine lv_iload hx hb dL_arePages_123 (lv_at hl 2 rfl) ?_
                                refine lv_bipush (v := 100) hx hb dL_arePages_125 (by decide) ?_
                                refine lv_idiv hx hb dL_arePages_127 (by decide) ?_
                                refine tpi (y := nI (mm / 100)) (pk_div (d := 100) (by omega) (by omega) (by omega)) ?_
                                refine lv_iconst (v := 1) hx hb dL_arePages_128 (by decide) ?_
                                refine lv_isub hx hb dL_arePages_129 ?_
                                refine tpi (y := nI x9) (by rw [hx9, nI_pred]) ?_
                                refine kiV (As := [.int (nI a), .int (nI x9)]) (rest := []) S (kX4_slot0 hg u a ha (pgI ha) x9 hx8 (slI hx8)) (cwV 2 hts gL_arePages_X4_slot rfl rfl rfl hdX4_slot ⟨Nat.le_of_ble_eq_true rfl, Nat.le_of_ble_eq_true rfl⟩) rfl rfl 0 rfl rfl hE hP hS (frs hS) rfl hl.1 rfl (Nat.le_of_ble_eq_true rfl) dL_arePages_130 ⟨Nat.le_of_ble_eq_true rfl, Nat.le_of_ble_eq_true rfl⟩ (fun H locs hP _ _ hS => ?_)
                                refine tpi (y := nI m2) es2 ?_
                                refine lv_istore (lv' := [(9, .int (nI m2)), (6, .int (fb (dd ∨ deadP (tn (a * 8 + i))))), (5, .int (nI (h + 1))), (8, .int (nI mm)), (7, .int (nI i)), (4, .int (nI a)), (3, .int 1), (2, .int (nI z)), (1, .int (nI w)), (0, .ref (g 0))]) hx hb dL_arePages_133 hl (by decide) rfl (fun ls hl => ?_)
                                refine lv_iinc (v := nI (z + 1)) (lv' := [(2, .int (nI (z + 1))), (9, .int (nI m2)), (6, .int (fb (dd ∨ deadP (tn (a * 8 + i))))), (5, .int (nI (h + 1))), (8, .int (nI mm)), (7, .int (nI i)), (4, .int (nI a)), (3, .int 1), (1, .int (nI w)), (0, .ref (g 0))]) hx hb dL_arePages_135 hl (k := 7) rfl (nI_1 z) (by decide) rfl (fun ls hl => ?_)
                                refine lv_iload hx hb dL_arePages_138 (lv_at hl 1 rfl) ?_
                                refine lv_if_lt (tgt := 172) hx hb dL_arePages_140 (by decide) (fun c55 => ?_) (fun c55 => ?_)
                                · skip
                                  exact absurd c55 (nI_pos (by omega))
                                · skip
                                  refine lv_iload hx hb dL_arePages_143 (lv_at hl 1 rfl) ?_
                                  refine lv_bipush (v := 10) hx hb dL_arePages_145 (by decide) ?_
                                  refine lv_irem hx hb dL_arePages_147 (by decide) ?_
                                  refine tpi (y := nI (m2 % 10)) (pk_rem (d := 10) (by omega) (by omega) (by omega)) ?_
                                  refine lv_iload hx hb dL_arePages_148 (lv_at hl 4 rfl) ?_
                                  refine lv_bipush (v := 10) hx hb dL_arePages_150 (by decide) ?_
                                  refine lv_irem hx hb dL_arePages_152 (by decide) ?_
                                  refine tpi (y := nI (mm % 10)) (pk_rem (d := 10) (by omega) (by omega) (by omega)) ?_
                                  refine lv_icmp_ne (tgt := 172) hx hb dL_arePages_153 (by decide) (fun c56 => ?_) (fun c56 => ?_)
                                  · skip
                                    exact absurd (congrArg nI e3) c56
                                  · skip
                                    refine lv_iload hx hb dL_arePages_156 (lv_at hl 4 rfl) ?_
                                    refine lv_bipush (v := 100) hx hb dL_arePages_158 (by decide) ?_
                                    refine lv_idiv hx hb dL_arePages_160 (by decide) ?_
                                    refine tpi (y := nI (mm / 100)) (pk_div (d := 100) (by omega) (by omega) (by omega)) ?_
                                    refine lv_iconst (v := 1) hx hb dL_arePages_161 (by decide) ?_
                                    refine lv_isub hx hb dL_arePages_162 ?_
                                    refine tpi (y := nI x9) (by rw [hx9, nI_pred]) ?_
                                    refine lv_iload hx hb dL_arePages_163 (lv_at hl 5 rfl) ?_
                                    refine lv_icmp_eq (tgt := 172) hx hb dL_arePages_165 (by decide) (fun c57 => ?_) (fun c57 => ?_)
                                    · skip
                                      exact absurd ((nI_eq (by omega) (by omega)).mp c57) hne
                                    · skip
                                      refine lv_iconst (v := 1) hx hb dL_arePages_168 (by decide) ?_
                                      refine lv_goto (tgt := 173) hx hb dL_arePages_169 (by decide) ?_
                                      refine lv_istore_n (lv' := [(3, .int 1), (2, .int (nI (z + 1))), (9, .int (nI m2)), (6, .int (fb (dd ∨ deadP (tn (a * 8 + i))))), (5, .int (nI (h + 1))), (8, .int (nI mm)), (7, .int (nI i)), (4, .int (nI a)), (1, .int (nI w)), (0, .ref (g 0))]) hx hb dL_arePages_173 rfl hl (by decide) rfl (fun ls hl => ?_)
                                      refine lv_iload_n hx hb dL_arePages_174 rfl (lv_at hl 0 rfl) ?_
                                      refine lv_if_eq (tgt := 203) hx hb dL_arePages_175 (by decide) (fun c58 => ?_) (fun c58 => ?_)
                                      · skip
                                        exact absurd c58 c23
                                      · skip
                                        refine lv_iload hx hb dL_arePages_178 (lv_at hl 5 rfl) ?_
                                        refine lv_iconst (v := (-1)) hx hb dL_arePages_180 (by decide) ?_
                                        refine lv_icmp_lt (tgt := 203) hx hb dL_arePages_181 (by decide) (fun c59 => ?_) (fun c59 => ?_)
                                        · skip
                                          exact absurd c59 (nm1 (by omega))
                                        · skip
                                          refine lv_iload hx hb dL_arePages_184 (lv_at hl 5 rfl) ?_
                                          refine lv_if_lt (tgt := 199) hx hb dL_arePages_186 (by decide) (fun c60 => ?_) (fun c60 => ?_)
                                          · skip
                                            exact absurd c60 (nI_pos (by omega))
                                          · skip
                                            refine lv_iload hx hb dL_arePages_189 (lv_at hl 5 rfl) ?_
                                            refine lv_bipush (v := 10) hx hb dL_arePages_191 (by decide) ?_
                                            refine lv_irem hx hb dL_arePages_193 (by decide) ?_
                                            refine tpi (y := nI (mm % 10)) (pk_rem (d := 10) (by omega) (by omega) (by omega)) ?_
                                            refine lv_bipush (v := 6) hx hb dL_arePages_194 (by decide) ?_
                                            refine lv_icmp_ge (tgt := 203) hx hb dL_arePages_196 (by decide) (fun c61 => ?_) (fun c61 => ?_)
                                            · skip
                                              exact absurd (nge_i (a := mm % 10) (b := 6) (by omega) (by omega) c61) (by omega)
                                            · skip
                                              refine lv_iconst (v := 1) hx hb dL_arePages_199 (by decide) ?_
                                              refine lv_goto (tgt := 204) hx hb dL_arePages_200 (by decide) ?_
                                              refine lv_istore_n (lv' := [(3, .int 1), (2, .int (nI (z + 1))), (9, .int (nI m2)), (6, .int (fb (dd ∨ deadP (tn (a * 8 + i))))), (5, .int (nI (h + 1))), (8, .int (nI mm)), (7, .int (nI i)), (4, .int (nI a)), (1, .int (nI w)), (0, .ref (g 0))]) hx hb dL_arePages_204 rfl hl (by decide) rfl (fun ls hl => ?_)
                                              refine lv_iinc (v := nI (i + 1)) (lv' := [(7, .int (nI (i + 1))), (3, .int 1), (2, .int (nI (z + 1))), (9, .int (nI m2)), (6, .int (fb (dd ∨ deadP (tn (a * 8 + i))))), (5, .int (nI (h + 1))), (8, .int (nI mm)), (4, .int (nI a)), (1, .int (nI w)), (0, .ref (g 0))]) hx hb dL_arePages_205 hl (k := 6) rfl (nI_1 i) (by decide) rfl (fun ls hl => ?_)
                                              refine lv_goto (tgt := 48) hx hb dL_arePages_208 (by decide) ?_
                                              exact ih48 (i + 1) (h + 1) (z + 1) (dd ∨ deadP (tn (a * 8 + i))) hi8 (by first | rw [ctq_y (p := fun j => 1 ≤ tn (a * 8 + j)) hu9, hh] | rw [ctq_n (p := fun j => 1 ≤ tn (a * 8 + j)) hu9, hh]) (by first | exact (congrArg (· + 1) hz).trans (ctq_y (p := fun q => 101 ≤ tn q) hp9).symm | exact hz.trans (ctq_n (p := fun q => 101 ≤ tn q) hp9).symm) (dds (p := fun j => deadP (tn (a * 8 + j))) hdd) (ms_s hi8 hn48) _ _ hP hS ls (lv_sub hl [0, 4, 5, 7, 1, 2, 8, 9] rfl)
                            · skip
                              have hd9 : dd ∨ deadP (tn (a * 8 + i)) := Or.inr ⟨mm, em, Nat.not_lt.mp (fun z => c49 ((nI_ltI (a := mm / 10 % 10) (b := 2) (by omega) (by omega)).mpr z))⟩
                              refine lv_iconst (v := 1) hx hb dL_arePages_106 (by decide) ?_
                              refine lv_goto (tgt := 111) hx hb dL_arePages_107 (by decide) ?_
                              refine tpi (y := fb (dd ∨ deadP (tn (a * 8 + i)))) (by first | exact t_fb hd9 | exact f_fb hd9) ?_
                              refine lv_istore (lv' := [(6, .int (fb (dd ∨ deadP (tn (a * 8 + i))))), (5, .int (nI (h + 1))), (8, .int (nI mm)), (7, .int (nI i)), (4, .int (nI a)), (3, .int 1), (2, .int (nI z)), (1, .int (nI w)), (0, .ref (g 0))]) hx hb dL_arePages_111 hl (by decide) rfl (fun ls hl => ?_)
                              refine lv_iload hx hb dL_arePages_113 (lv_at hl 2 rfl) ?_
                              refine lv_bipush (v := 100) hx hb dL_arePages_115 (by decide) ?_
                              refine lv_icmp_lt (tgt := 174) hx hb dL_arePages_117 (by decide) (fun c62 => ?_) (fun c62 => ?_)
                              · skip
                                have hm1 : mm < 100 := nltI (a := mm) (b := 100) (by omega) (by omega) c62
                                have hp9 : ¬ 101 ≤ tn (a * 8 + i) := by omega
                                refine lv_iload_n hx hb dL_arePages_174 rfl (lv_at hl 5 rfl) ?_
                                refine lv_if_eq (tgt := 203) hx hb dL_arePages_175 (by decide) (fun c63 => ?_) (fun c63 => ?_)
                                · skip
                                  exact absurd c63 c23
                                · skip
                                  refine lv_iload hx hb dL_arePages_178 (lv_at hl 2 rfl) ?_
                                  refine lv_iconst (v := (-1)) hx hb dL_arePages_180 (by decide) ?_
                                  refine lv_icmp_lt (tgt := 203) hx hb dL_arePages_181 (by decide) (fun c64 => ?_) (fun c64 => ?_)
                                  · skip
                                    exact absurd c64 (nm1 (by omega))
                                  · skip
                                    refine lv_iload hx hb dL_arePages_184 (lv_at hl 2 rfl) ?_
                                    refine lv_if_lt (tgt := 199) hx hb dL_arePages_186 (by decide) (fun c65 => ?_) (fun c65 => ?_)
                                    · skip
                                      exact absurd c65 (nI_pos (by omega))
                                    · skip
                                      refine lv_iload hx hb dL_arePages_189 (lv_at hl 2 rfl) ?_
                                      refine lv_bipush (v := 10) hx hb dL_arePages_191 (by decide) ?_
                                      refine lv_irem hx hb dL_arePages_193 (by decide) ?_
                                      refine tpi (y := nI (mm % 10)) (pk_rem (d := 10) (by omega) (by omega) (by omega)) ?_
                                      refine lv_bipush (v := 6) hx hb dL_arePages_194 (by decide) ?_
                                      refine lv_icmp_ge (tgt := 203) hx hb dL_arePages_196 (by decide) (fun c66 => ?_) (fun c66 => ?_)
                                      · skip
                                        exact absurd (nge_i (a := mm % 10) (b := 6) (by omega) (by omega) c66) (by omega)
                                      · skip
                                        refine lv_iconst (v := 1) hx hb dL_arePages_199 (by decide) ?_
                                        refine lv_goto (tgt := 204) hx hb dL_arePages_200 (by decide) ?_
                                        refine lv_istore_n (lv' := [(3, .int 1), (6, .int (fb (dd ∨ deadP (tn (a * 8 + i))))), (5, .int (nI (h + 1))), (8, .int (nI mm)), (7, .int (nI i)), (4, .int (nI a)), (2, .int (nI z)), (1, .int (nI w)), (0, .ref (g 0))]) hx hb dL_arePages_204 rfl hl (by decide) rfl (fun ls hl => ?_)
                                        refine lv_iinc (v := nI (i + 1)) (lv' := [(7, .int (nI (i + 1))), (3, .int 1), (6, .int (fb (dd ∨ deadP (tn (a * 8 + i))))), (5, .int (nI (h + 1))), (8, .int (nI mm)), (4, .int (nI a)), (2, .int (nI z)), (1, .int (nI w)), (0, .ref (g 0))]) hx hb dL_arePages_205 hl (k := 4) rfl (nI_1 i) (by decide) rfl (fun ls hl => ?_)
                                        refine lv_goto (tgt := 48) hx hb dL_arePages_208 (by decide) ?_
                                        exact ih48 (i + 1) (h + 1) z (dd ∨ deadP (tn (a * 8 + i))) hi8 (by first | rw [ctq_y (p := fun j => 1 ≤ tn (a * 8 + j)) hu9, hh] | rw [ctq_n (p := fun j => 1 ≤ tn (a * 8 + j)) hu9, hh]) (by first | exact (congrArg (· + 1) hz).trans (ctq_y (p := fun q => 101 ≤ tn q) hp9).symm | exact hz.trans (ctq_n (p := fun q => 101 ≤ tn q) hp9).symm) (dds (p := fun j => deadP (tn (a * 8 + j))) hdd) (ms_s hi8 hn48) _ _ hP hS ls (lv_sub hl [0, 2, 3, 5, 1, 6, 7, 8] rfl)
                              · skip
                                have hm1 : 100 ≤ mm := Nat.not_lt.mp (fun z => c62 ((nI_ltI (a := mm) (b := 100) (by omega) (by omega)).mpr z))
                                have hp9 : 101 ≤ tn (a * 8 + i) := by omega
                                obtain ⟨hx8, hne, m2, e2, e3⟩ := hnx hm1
                                obtain ⟨x9, hx9⟩ : ∃ x, mm / 100 = x + 1 := ⟨mm / 100 - 1, by omega⟩
                                rw [show mm / 100 - 1 = x9 by omega] at hx8 hne e2
                                rw [show (a * 8 + i) / 8 * 8 = a * 8 by omega] at e2
                                rw [show (a * 8 + i) % 8 = i by omega] at hne
                                have hm2 : m2 ≤ 899 := by have := (hT (a * 8 + x9) (by omega)).2.1; omega
                                have es2 : slv u (a * 8 + x9) = nI m2 := by rw [(hT (a * 8 + x9) (by omega)).1, e2]; rfl
                                refine lv_aload_n hx hb dL_arePages_120 rfl (lv_at hl 8 rfl) ?_
                                refine lv_iload hx hb dL_arePages_121 (lv_at hl 4 rfl) ?_
                                refine lv_iload hx hb dL_arePages_123 (lv_at hl 2 rfl) ?_
                                refine lv_bipush (v := 100) hx hb dL_arePages_125 (by decide) ?_
                                refine lv_idiv hx hb dL_arePages_127 (by decide) ?_
                                refine tpi (y := nI (mm / 100)) (pk_div (d := 100) (by omega) (by omega) (by omega)) ?_
                                refine lv_iconst (v := 1) hx hb dL_arePages_128 (by decide) ?_
                                refine lv_isub hx hb dL_arePages_129 ?_
                                refine tpi (y := nI x9) (by rw [hx9, nI_pred]) ?_
                                refine kiV (As := [.int (nI a), .int (nI x9)]) (rest := []) S (kX4_slot0 hg u a ha (pgI ha) x9 hx8 (slI hx8)) (cwV 2 hts gL_arePages_X4_slot rfl rfl rfl hdX4_slot ⟨Nat.le_of_ble_eq_true rfl, Nat.le_of_ble_eq_true rfl⟩) rfl rfl 0 rfl rfl hE hP hS (frs hS) rfl hl.1 rfl (Nat.le_of_ble_eq_true rfl) dL_arePages_130 ⟨Nat.le_of_ble_eq_true rfl, Nat.le_of_ble_eq_true rfl⟩ (fun H locs hP _ _ hS => ?_)
                                refine tpi (y := nI m2) es2 ?_
                                refine lv_istore (lv' := [(9, .int (nI m2)), (6, .int (fb (dd ∨ deadP (tn (a * 8 + i))))), (5, .int (nI (h + 1))), (8, .int (nI mm)), (7, .int (nI i)), (4, .int (nI a)), (3, .int 1), (2, .int (nI z)), (1, .int (nI w)), (0, .ref (g 0))]) hx hb dL_arePages_133 hl (by decide) rfl (fun ls hl => ?_)
                                refine lv_iinc (v := nI (z + 1)) (lv' := [(2, .int (nI (z + 1))), (9, .int (nI m2)), (6, .int (fb (dd ∨ deadP (tn (a * 8 + i))))), (5, .int (nI (h + 1))), (8, .int (nI mm)), (7, .int (nI i)), (4, .int (nI a)), (3, .int 1), (1, .int (nI w)), (0, .ref (g 0))]) hx hb dL_arePages_135 hl (k := 7) rfl (nI_1 z) (by decide) rfl (fun ls hl => ?_)
                                refine lv_iload hx hb dL_arePages_138 (lv_at hl 1 rfl) ?_
                                refine lv_if_lt (tgt := 172) hx hb dL_arePages_140 (by decide) (fun c67 => ?_) (fun c67 => ?_)
                                · skip
                                  exact absurd c67 (nI_pos (by omega))
                                · skip
                                  refine lv_iload hx hb dL_arePages_143 (lv_at hl 1 rfl) ?_
                                  refine lv_bipush (v := 10) hx hb dL_arePages_145 (by decide) ?_
                                  refine lv_irem hx hb dL_arePages_147 (by decide) ?_
                                  refine tpi (y := nI (m2 % 10)) (pk_rem (d := 10) (by omega) (by omega) (by omega)) ?_
                                  refine lv_iload hx hb dL_arePages_148 (lv_at hl 4 rfl) ?_
                                  refine lv_bipush (v := 10) hx hb dL_arePages_150 (by decide) ?_
                                  refine lv_irem hx hb dL_arePages_152 (by decide) ?_
                                  refine tpi (y := nI (mm % 10)) (pk_rem (d := 10) (by omega) (by omega) (by omega)) ?_
                                  refine lv_icmp_ne (tgt := 172) hx hb dL_arePages_153 (by decide) (fun c68 => ?_) (fun c68 => ?_)
                                  · skip
                                    exact absurd (congrArg nI e3) c68
                                  · skip
                                    refine lv_iload hx hb dL_arePages_156 (lv_at hl 4 rfl) ?_
                                    refine lv_bipush (v := 100) hx hb dL_arePages_158 (by decide) ?_
                                    refine lv_idiv hx hb dL_arePages_160 (by decide) ?_
                                    refine tpi (y := nI (mm / 100)) (pk_div (d := 100) (by omega) (by omega) (by omega)) ?_
                                    refine lv_iconst (v := 1) hx hb dL_arePages_161 (by decide) ?_
                                    refine lv_isub hx hb dL_arePages_162 ?_
                                    refine tpi (y := nI x9) (by rw [hx9, nI_pred]) ?_
                                    refine lv_iload hx hb dL_arePages_163 (lv_at hl 5 rfl) ?_
                                    refine lv_icmp_eq (tgt := 172) hx hb dL_arePages_165 (by decide) (fun c69 => ?_) (fun c69 => ?_)
                                    · skip
                                      exact absurd ((nI_eq (by omega) (by omega)).mp c69) hne
                                    · skip
                                      refine lv_iconst (v := 1) hx hb dL_arePages_168 (by decide) ?_
                                      refine lv_goto (tgt := 173) hx hb dL_arePages_169 (by decide) ?_
                                      refine lv_istore_n (lv' := [(3, .int 1), (2, .int (nI (z + 1))), (9, .int (nI m2)), (6, .int (fb (dd ∨ deadP (tn (a * 8 + i))))), (5, .int (nI (h + 1))), (8, .int (nI mm)), (7, .int (nI i)), (4, .int (nI a)), (1, .int (nI w)), (0, .ref (g 0))]) hx hb dL_arePages_173 rfl hl (by decide) rfl (fun ls hl => ?_)
                                      refine lv_iload_n hx hb dL_arePages_174 rfl (lv_at hl 0 rfl) ?_
                                      refine lv_if_eq (tgt := 203) hx hb dL_arePages_175 (by decide) (fun c70 => ?_) (fun c70 => ?_)
                                      · skip
                                        exact absurd c70 c23
                                      · skip
                                        refine lv_iload hx hb dL_arePages_178 (lv_at hl 5 rfl) ?_
                                        refine lv_iconst (v := (-1)) hx hb dL_arePages_180 (by decide) ?_
                                        refine lv_icmp_lt (tgt := 203) hx hb dL_arePages_181 (by decide) (fun c71 => ?_) (fun c71 => ?_)
                                        · skip
                                          exact absurd c71 (nm1 (by omega))
                                        · skip
                                          refine lv_iload hx hb dL_arePages_184 (lv_at hl 5 rfl) ?_
                                          refine lv_if_lt (tgt := 199) hx hb dL_arePages_186 (by decide) (fun c72 => ?_) (fun c72 => ?_)
                                          · skip
                                            exact absurd c72 (nI_pos (by omega))
                                          · skip
                                            refine lv_iload hx hb dL_arePages_189 (lv_at hl 5 rfl) ?_
                                            refine lv_bipush (v := 10) hx hb dL_arePages_191 (by decide) ?_
                                            refine lv_irem hx hb dL_arePages_193 (by decide) ?_
                                            refine tpi (y := nI (mm % 10)) (pk_rem (d := 10) (by omega) (by omega) (by omega)) ?_
                                            refine lv_bipush (v := 6) hx hb dL_arePages_194 (by decide) ?_
                                            refine lv_icmp_ge (tgt := 203) hx hb dL_arePages_196 (by decide) (fun c73 => ?_) (fun c73 => ?_)
                                            · skip
                                              exact absurd (nge_i (a := mm % 10) (b := 6) (by omega) (by omega) c73) (by omega)
                                            · skip
                                              refine lv_iconst (v := 1) hx hb dL_arePages_199 (by decide) ?_
                                              refine lv_goto (tgt := 204) hx hb dL_arePages_200 (by decide) ?_
                                              refine lv_istore_n (lv' := [(3, .int 1), (2, .int (nI (z + 1))), (9, .int (nI m2)), (6, .int (fb (dd ∨ deadP (tn (a * 8 + i))))), (5, .int (nI (h + 1))), (8, .int (nI mm)), (7, .int (nI i)), (4, .int (nI a)), (1, .int (nI w)), (0, .ref (g 0))]) hx hb dL_arePages_204 rfl hl (by decide) rfl (fun ls hl => ?_)
                                              refine lv_iinc (v := nI (i + 1)) (lv' := [(7, .int (nI (i + 1))), (3, .int 1), (2, .int (nI (z + 1))), (9, .int (nI m2)), (6, .int (fb (dd ∨ deadP (tn (a * 8 + i))))), (5, .int (nI (h + 1))), (8, .int (nI mm)), (4, .int (nI a)), (1, .int (nI w)), (0, .ref (g 0))]) hx hb dL_arePages_205 hl (k := 6) rfl (nI_1 i) (by decide) rfl (fun ls hl => ?_)
                                              refine lv_goto (tgt := 48) hx hb dL_arePages_208 (by decide) ?_
                                              exact ih48 (i + 1) (h + 1) (z + 1) (dd ∨ deadP (tn (a * 8 + i))) hi8 (by first | rw [ctq_y (p := fun j => 1 ≤ tn (a * 8 + j)) hu9, hh] | rw [ctq_n (p := fun j => 1 ≤ tn (a * 8 + j)) hu9, hh]) (by first | exact (congrArg (· + 1) hz).trans (ctq_y (p := fun q => 101 ≤ tn q) hp9).symm | exact hz.trans (ctq_n (p := fun q => 101 ≤ tn q) hp9).symm) (dds (p := fun j => deadP (tn (a * 8 + j))) hdd) (ms_s hi8 hn48) _ _ hP hS ls (lv_sub hl [0, 4, 5, 7, 1, 2, 8, 9] rfl)
              exact loop48 _ 0 0 y False (by omega) rfl hy (⟨fun z => z.elim, fun ⟨j, z, _⟩ => absurd z (Nat.not_lt_zero _)⟩) (Nat.lt_succ_self _) _ _ hP hS ls (lv_sub hl [0, 1, 2, 3, 4, 5, 6, 7] rfl)
      exact loop29 _ 0 0 0 (by omega) rfl rfl (Nat.lt_succ_self _) _ _ hP hS ls (lv_sub hl [0, 1, 2, 3, 4] rfl)
def rmL_isRead : Room := { frames := 6, cells := 0, slots := 0, locals := 138 }
theorem hdL_isRead : yL_isRead.cls = RL ∧ yL_isRead.cls ≠ "java/lang/invoke/MethodHandle" ∧ yL_isRead.cls ≠ "java/lang/invoke/VarHandle" ∧ (parseMethodDescriptor yL_isRead.desc).map (fun d => d.parameters.length) = some 2 := by decide +kernel
set_option maxHeartbeats 4000000 in
set_option maxRecDepth 100000 in
theorem kL_isRead {l : Launch} {D : va_G} {K : Nat → ClassId} {L : Nat → Prop} {g : Nat → Nat} (hg : gd L g 29) (u : CU) (N : Nat) (hN : N ≤ 60) (hcn : c_cn u = nI N) (t : Nat) (ht : t < N) (hwb : wbP u (nI t)) (hac : hasP (c_ac u) (nI t)) (hct : ctP u) (T : Nat) (hT : T ≤ 512) (htc : c_tc u = nI T) (hrd : ∀ k, k < 6 → rdv u (spl u t k (nat (c_ct u k))) = rpw u t k 0 T) : CI l yL_isRead wsL_isRead rmL_isRead D K L [.ref (g 0), .int (nI t)] (wC K g u) (wC K g u) 1 := by
  refine CI.of (cc := cL_isRead) (maxL := 4) (ret := (some .boolean)) (by decide +kernel) rfl (Nat.le_of_ble_eq_true rfl) ?_
  intro p e s m below meth c ls hen hP
  obtain ⟨hx, hb, hr, hts, hown, hlk, hml, hnm, hE, hl⟩ := hen
  have S : CallFix p m c cL_isRead 4 s _ wsL_isRead RL := ⟨hx, hb, hml, hown, hts⟩
  have hS : va_S (fr L s.heap.size) s.heap s.heap [] := va_S.rf
  have hl : lv_has ls 4 [(0, .ref (g 0)), (1, .int (nI t))] := hl
  have i4 : ∀ w ∈ wsX40, w ∈ wsL_isRead := fun _ h => List.mem_cons_of_mem _ (List.mem_append_left _ (List.mem_append_left _ (List.mem_append_left _ (List.mem_append_left _ (List.mem_append_left _ (List.mem_append_left _ (List.mem_append_left _ (List.mem_append_right _ h))))))))
  have i1 : ∀ w ∈ wsX10, w ∈ wsL_isRead := fun _ h => List.mem_cons_of_mem _ (List.mem_append_left _ (List.mem_append_left _ (List.mem_append_left _ (List.mem_append_left _ (List.mem_append_left _ (List.mem_append_left _ (List.mem_append_right _ h)))))))
  have i3 : ∀ w ∈ wsX30, w ∈ wsL_isRead := fun _ h => List.mem_cons_of_mem _ (List.mem_append_left _ (List.mem_append_left _ (List.mem_append_left _ (List.mem_append_left _ (List.mem_append_left _ (List.mem_append_right _ h))))))
  have i0 : ∀ w ∈ wsX00, w ∈ wsL_isRead := fun _ h => List.mem_cons_of_mem _ (List.mem_append_left _ (List.mem_append_left _ (List.mem_append_left _ (List.mem_append_left _ (List.mem_append_right _ h)))))
  have i2 : ∀ w ∈ wsX20, w ∈ wsL_isRead := fun _ h => List.mem_cons_of_mem _ (List.mem_append_left _ (List.mem_append_left _ (List.mem_append_left _ (List.mem_append_right _ h))))
  refine lv_iconst (v := 1) hx hb dL_isRead_0 (by decide) ?_
  refine lv_istore_n (lv' := [(2, .int 1), (0, .ref (g 0)), (1, .int (nI t))]) hx hb dL_isRead_1 rfl hl (by decide) rfl (fun ls hl => ?_)
  refine lv_iconst (v := 0) hx hb dL_isRead_2 (by decide) ?_
  refine lv_istore_n (lv' := [(3, .int 0), (2, .int 1), (0, .ref (g 0)), (1, .int (nI t))]) hx hb dL_isRead_3 rfl hl (by decide) rfl (fun ls hl => ?_)
  have loop4 : ∀ (n4 : Nat) (j : Nat), (hj : j ≤ 6) → 6 - j < n4 → ∀ (H : Heap) (locs : List Loc), va_P D vwCl (wC K g u) H → va_S (fr L s.heap.size) s.heap H locs → ∀ (ls : Array Slot), lv_has ls 4 [(3, .int (nI j)), (2, .int 1), (0, .ref (g 0)), (1, .int (nI t))] → W p l e rmL_isRead s m ([.ref (g 0), .int (nI t)] : List Value).toArray below meth c H locs 0 0 (MQ below (va_Qi (fun (r9 : Int32) (_ : Unit) => r9 = 1) (fun _ t9 => va_P D vwCl (wC K g u) t9.heap) (fr L s.heap.size)) ([.ref (g 0), .int (nI t)] : List Value).toArray s rmL_isRead.cells rmL_isRead.slots (fr L s.heap.size)) (F0 m 4 ls []) := by
    intro n4
    induction n4 with
    | zero =>
      intro j hj hn4
      exact absurd hn4 (Nat.not_lt_zero _)
    | succ n4 ih4 =>
      intro j hj hn4 H locs hP hS ls hl
      refine lv_iload_n hx hb dL_isRead_4 rfl (lv_at hl 0 rfl) ?_
      refine lv_bipush (v := 6) hx hb dL_isRead_5 (by decide) ?_
      refine lv_icmp_ge (tgt := 41) hx hb dL_isRead_7 (by decide) (fun c1 => ?_) (fun c1 => ?_)
      · skip
        refine lv_iload_n hx hb dL_isRead_41 rfl (lv_at hl 1 rfl) ?_
        exact ez hx hb hr hlk hS hP rfl (by rfl) rfl (Nat.le_of_ble_eq_true rfl) (Nat.le_of_ble_eq_true rfl) dL_isRead_42
      · skip
        have hj6 : j < 6 := nlt_i (a := j) (b := 6) (by omega) (by omega) c1
        refine lv_iload_n hx hb dL_isRead_10 rfl (lv_at hl 1 rfl) ?_
        refine lv_if_eq (tgt := 41) hx hb dL_isRead_11 (by decide) (fun c2 => ?_) (fun c2 => ?_)
        · skip
          exact (by first | exact absurd c2 (by decide) | exact absurd (by decide) c2)
        · skip
          refine lv_aload_n hx hb dL_isRead_14 rfl (lv_at hl 2 rfl) ?_
          refine lv_iload_n hx hb dL_isRead_15 rfl (lv_at hl 3 rfl) ?_
          refine lv_iload_n hx hb dL_isRead_16 rfl (lv_at hl 0 rfl) ?_
          refine kiV (As := [.int (nI t), .int (nI j)]) (rest := []) S (kX4_read0 hg u N hN hcn t j ht hj6 hwb (kyI hj6) hac hct) (cwV 2 hts gL_isRead_X4_read rfl rfl rfl hdX4_read ⟨Nat.le_of_ble_eq_true rfl, Nat.le_of_ble_eq_true rfl⟩) rfl rfl 0 rfl rfl hE hP hS (frs hS) rfl hl.1 rfl (Nat.le_of_ble_eq_true rfl) dL_isRead_17 ⟨Nat.le_of_ble_eq_true rfl, Nat.le_of_ble_eq_true rfl⟩ (fun H locs hP _ _ hS => ?_)
          refine lv_aload_n hx hb dL_isRead_20 rfl (lv_at hl 2 rfl) ?_
          refine lv_iload_n hx hb dL_isRead_21 rfl (lv_at hl 3 rfl) ?_
          refine lv_iload_n hx hb dL_isRead_22 rfl (lv_at hl 0 rfl) ?_
          refine kiV (As := [.int (nI t), .int (nI j)]) (rest := [.int (rdv u (spl u t j (nat (c_ct u j))))]) S (kX4_readPlain0 hg u N hN hcn t j ht hj6 hwb (kyI hj6) hac T hT htc) (cwV 2 hts gL_isRead_X4_readPlain rfl rfl rfl hdX4_readPlain ⟨Nat.le_of_ble_eq_true rfl, Nat.le_of_ble_eq_true rfl⟩) rfl rfl 0 rfl rfl hE hP hS (frs hS) rfl hl.1 rfl (Nat.le_of_ble_eq_true rfl) dL_isRead_23 ⟨Nat.le_of_ble_eq_true rfl, Nat.le_of_ble_eq_true rfl⟩ (fun H locs hP _ _ hS => ?_)
          refine lv_icmp_ne (tgt := 33) hx hb dL_isRead_26 (by decide) (fun c3 => ?_) (fun c3 => ?_)
          · skip
            exact absurd (hrd j hj6) c3
          · skip
            refine lv_iconst (v := 1) hx hb dL_isRead_29 (by decide) ?_
            refine lv_goto (tgt := 34) hx hb dL_isRead_30 (by decide) ?_
            refine lv_istore_n (lv' := [(2, .int 1), (3, .int (nI j)), (0, .ref (g 0)), (1, .int (nI t))]) hx hb dL_isRead_34 rfl hl (by decide) rfl (fun ls hl => ?_)
            refine lv_iinc (v := nI (j + 1)) (lv' := [(3, .int (nI (j + 1))), (2, .int 1), (0, .ref (g 0)), (1, .int (nI t))]) hx hb dL_isRead_35 hl (k := 1) rfl (nI_1 j) (by decide) rfl (fun ls hl => ?_)
            refine lv_goto (tgt := 4) hx hb dL_isRead_38 (by decide) ?_
            exact ih4 (j + 1) (by omega) (by omega) _ _ hP hS ls (lv_sub hl [0, 1, 2, 3] rfl)
  exact loop4 _ 0 (by omega) (Nat.lt_succ_self _) _ _ hP hS ls (lv_sub hl [0, 1, 2, 3] rfl)
